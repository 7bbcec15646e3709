theorem dX7_init_0 : decode cX7_init 0 = .ok (.aload_n 0, 1) := by decide +kernel
theorem dX7_init_1 : decode cX7_init 1 = .ok (.invokespecial 1, 3) := by decide +kernel
theorem dX7_init_4 : decode cX7_init 4 = .ok (.aload_n 0, 1) := by decide +kernel
theorem dX7_init_5 : decode cX7_init 5 = .ok (.sipush 141, 3) := by decide +kernel
theorem dX7_init_8 : decode cX7_init 8 = .ok (.newarray .int, 2) := by decide +kernel
theorem dX7_init_10 : decode cX7_init 10 = .ok (.putfield 7, 3) := by decide +kernel
theorem dX7_init_13 : decode cX7_init 13 = .ok (.aload_n 0, 1) := by decide +kernel
theorem dX7_init_14 : decode cX7_init 14 = .ok (.iconst 2, 1) := by decide +kernel
theorem dX7_init_15 : decode cX7_init 15 = .ok (.newarray .boolean, 2) := by decide +kernel
theorem dX7_init_17 : decode cX7_init 17 = .ok (.putfield 13, 3) := by decide +kernel
theorem dX7_init_20 : decode cX7_init 20 = .ok (.aload_n 0, 1) := by decide +kernel
theorem dX7_init_21 : decode cX7_init 21 = .ok (.sipush 250, 3) := by decide +kernel
theorem dX7_init_24 : decode cX7_init 24 = .ok (.newarray .int, 2) := by decide +kernel
theorem dX7_init_26 : decode cX7_init 26 = .ok (.putfield 17, 3) := by decide +kernel
theorem dX7_init_29 : decode cX7_init 29 = .ok (.aload_n 0, 1) := by decide +kernel
theorem dX7_init_30 : decode cX7_init 30 = .ok (.iconst (-1), 1) := by decide +kernel
theorem dX7_init_31 : decode cX7_init 31 = .ok (.putfield 20, 3) := by decide +kernel
theorem dX7_init_34 : decode cX7_init 34 = .ok (.aload_n 0, 1) := by decide +kernel
theorem dX7_init_35 : decode cX7_init 35 = .ok (.iconst 5, 1) := by decide +kernel
theorem dX7_init_36 : decode cX7_init 36 = .ok (.newarray .int, 2) := by decide +kernel
theorem dX7_init_38 : decode cX7_init 38 = .ok (.putfield 24, 3) := by decide +kernel
theorem dX7_init_41 : decode cX7_init 41 = .ok (.aload_n 0, 1) := by decide +kernel
theorem dX7_init_42 : decode cX7_init 42 = .ok (.iconst 5, 1) := by decide +kernel
theorem dX7_init_43 : decode cX7_init 43 = .ok (.newarray .int, 2) := by decide +kernel
theorem dX7_init_45 : decode cX7_init 45 = .ok (.putfield 27, 3) := by decide +kernel
theorem dX7_init_48 : decode cX7_init 48 = .ok (.aload_n 0, 1) := by decide +kernel
theorem dX7_init_49 : decode cX7_init 49 = .ok (.bipush 6, 2) := by decide +kernel
theorem dX7_init_51 : decode cX7_init 51 = .ok (.newarray .int, 2) := by decide +kernel
theorem dX7_init_53 : decode cX7_init 53 = .ok (.putfield 30, 3) := by decide +kernel
theorem dX7_init_56 : decode cX7_init 56 = .ok (.aload_n 0, 1) := by decide +kernel
theorem dX7_init_57 : decode cX7_init 57 = .ok (.bipush 24, 2) := by decide +kernel
theorem dX7_init_59 : decode cX7_init 59 = .ok (.newarray .int, 2) := by decide +kernel
theorem dX7_init_61 : decode cX7_init 61 = .ok (.putfield 33, 3) := by decide +kernel
theorem dX7_init_64 : decode cX7_init 64 = .ok (.aload_n 0, 1) := by decide +kernel
theorem dX7_init_65 : decode cX7_init 65 = .ok (.bipush 12, 2) := by decide +kernel
theorem dX7_init_67 : decode cX7_init 67 = .ok (.newarray .int, 2) := by decide +kernel
theorem dX7_init_69 : decode cX7_init 69 = .ok (.putfield 36, 3) := by decide +kernel
theorem dX7_init_72 : decode cX7_init 72 = .ok (.aload_n 0, 1) := by decide +kernel
theorem dX7_init_73 : decode cX7_init 73 = .ok (.bipush 45, 2) := by decide +kernel
theorem dX7_init_75 : decode cX7_init 75 = .ok (.newarray .int, 2) := by decide +kernel
theorem dX7_init_77 : decode cX7_init 77 = .ok (.putfield 39, 3) := by decide +kernel
theorem dX7_init_80 : decode cX7_init 80 = .ok (.aload_n 0, 1) := by decide +kernel
theorem dX7_init_81 : decode cX7_init 81 = .ok (.bipush 15, 2) := by decide +kernel
theorem dX7_init_83 : decode cX7_init 83 = .ok (.newarray .int, 2) := by decide +kernel
theorem dX7_init_85 : decode cX7_init 85 = .ok (.putfield 42, 3) := by decide +kernel
theorem dX7_init_88 : decode cX7_init 88 = .ok (.aload_n 0, 1) := by decide +kernel
theorem dX7_init_89 : decode cX7_init 89 = .ok (.bipush 6, 2) := by decide +kernel
theorem dX7_init_91 : decode cX7_init 91 = .ok (.newarray .int, 2) := by decide +kernel
theorem dX7_init_93 : decode cX7_init 93 = .ok (.putfield 45, 3) := by decide +kernel
theorem dX7_init_96 : decode cX7_init 96 = .ok (.aload_n 0, 1) := by decide +kernel
theorem dX7_init_97 : decode cX7_init 97 = .ok (.bipush 24, 2) := by decide +kernel
theorem dX7_init_99 : decode cX7_init 99 = .ok (.newarray .int, 2) := by decide +kernel
theorem dX7_init_101 : decode cX7_init 101 = .ok (.putfield 48, 3) := by decide +kernel
theorem dX7_init_104 : decode cX7_init 104 = .ok (.aload_n 0, 1) := by decide +kernel
theorem dX7_init_105 : decode cX7_init 105 = .ok (.bipush 12, 2) := by decide +kernel
theorem dX7_init_107 : decode cX7_init 107 = .ok (.newarray .int, 2) := by decide +kernel
theorem dX7_init_109 : decode cX7_init 109 = .ok (.putfield 51, 3) := by decide +kernel
theorem dX7_init_112 : decode cX7_init 112 = .ok (.aload_n 0, 1) := by decide +kernel
theorem dX7_init_113 : decode cX7_init 113 = .ok (.bipush 30, 2) := by decide +kernel
theorem dX7_init_115 : decode cX7_init 115 = .ok (.newarray .int, 2) := by decide +kernel
theorem dX7_init_117 : decode cX7_init 117 = .ok (.putfield 54, 3) := by decide +kernel
theorem dX7_init_120 : decode cX7_init 120 = .ok (.aload_n 0, 1) := by decide +kernel
theorem dX7_init_121 : decode cX7_init 121 = .ok (.iconst 4, 1) := by decide +kernel
theorem dX7_init_122 : decode cX7_init 122 = .ok (.newarray .int, 2) := by decide +kernel
theorem dX7_init_124 : decode cX7_init 124 = .ok (.putfield 57, 3) := by decide +kernel
theorem dX7_init_127 : decode cX7_init 127 = .ok (.aload_n 0, 1) := by decide +kernel
theorem dX7_init_128 : decode cX7_init 128 = .ok (.bipush 6, 2) := by decide +kernel
theorem dX7_init_130 : decode cX7_init 130 = .ok (.newarray .int, 2) := by decide +kernel
theorem dX7_init_132 : decode cX7_init 132 = .ok (.putfield 60, 3) := by decide +kernel
theorem dX7_init_135 : decode cX7_init 135 = .ok (.aload_n 0, 1) := by decide +kernel
theorem dX7_init_136 : decode cX7_init 136 = .ok (.iconst 5, 1) := by decide +kernel
theorem dX7_init_137 : decode cX7_init 137 = .ok (.newarray .int, 2) := by decide +kernel
theorem dX7_init_139 : decode cX7_init 139 = .ok (.putfield 63, 3) := by decide +kernel
theorem dX7_init_142 : decode cX7_init 142 = .ok (.return_, 1) := by decide +kernel
theorem dX7_in_0 : decode cX7_in 0 = .ok (.lload_n 0, 1) := by decide +kernel
theorem dX7_in_1 : decode cX7_in 1 = .ok (.lload_n 2, 1) := by decide +kernel
theorem dX7_in_2 : decode cX7_in 2 = .ok (.lcmp, 1) := by decide +kernel
theorem dX7_in_3 : decode cX7_in 3 = .ok (.ifCond .lt 14, 3) := by decide +kernel
theorem dX7_in_6 : decode cX7_in 6 = .ok (.lload_n 0, 1) := by decide +kernel
theorem dX7_in_7 : decode cX7_in 7 = .ok (.lload 4, 2) := by decide +kernel
theorem dX7_in_9 : decode cX7_in 9 = .ok (.lcmp, 1) := by decide +kernel
theorem dX7_in_10 : decode cX7_in 10 = .ok (.ifCond .gt 7, 3) := by decide +kernel
theorem dX7_in_13 : decode cX7_in 13 = .ok (.iconst 1, 1) := by decide +kernel
theorem dX7_in_14 : decode cX7_in 14 = .ok (.goto 4, 3) := by decide +kernel
theorem dX7_in_17 : decode cX7_in 17 = .ok (.iconst 0, 1) := by decide +kernel
theorem dX7_in_18 : decode cX7_in 18 = .ok (.ireturn, 1) := by decide +kernel
theorem dX7_has_0 : decode cX7_has 0 = .ok (.iload_n 0, 1) := by decide +kernel
theorem dX7_has_1 : decode cX7_has 1 = .ok (.iload_n 1, 1) := by decide +kernel
theorem dX7_has_2 : decode cX7_has 2 = .ok (.ishr, 1) := by decide +kernel
theorem dX7_has_3 : decode cX7_has 3 = .ok (.iconst 1, 1) := by decide +kernel
theorem dX7_has_4 : decode cX7_has 4 = .ok (.iand, 1) := by decide +kernel
theorem dX7_has_5 : decode cX7_has 5 = .ok (.iconst 1, 1) := by decide +kernel
theorem dX7_has_6 : decode cX7_has 6 = .ok (.if_icmp .ne 7, 3) := by decide +kernel
theorem dX7_has_9 : decode cX7_has 9 = .ok (.iconst 1, 1) := by decide +kernel
theorem dX7_has_10 : decode cX7_has 10 = .ok (.goto 4, 3) := by decide +kernel
theorem dX7_has_13 : decode cX7_has 13 = .ok (.iconst 0, 1) := by decide +kernel
theorem dX7_has_14 : decode cX7_has 14 = .ok (.ireturn, 1) := by decide +kernel
theorem dX7_feed_0 : decode cX7_feed 0 = .ok (.iload_n 1, 1) := by decide +kernel
theorem dX7_feed_1 : decode cX7_feed 1 = .ok (.i2l, 1) := by decide +kernel
theorem dX7_feed_2 : decode cX7_feed 2 = .ok (.lconst 0, 1) := by decide +kernel
theorem dX7_feed_3 : decode cX7_feed 3 = .ok (.ldc2_w 66, 3) := by decide +kernel
theorem dX7_feed_6 : decode cX7_feed 6 = .ok (.invokestatic 68, 3) := by decide +kernel
theorem dX7_feed_9 : decode cX7_feed 9 = .ok (.ifCond .ne 6, 3) := by decide +kernel
theorem dX7_feed_12 : decode cX7_feed 12 = .ok (.ldc 72, 2) := by decide +kernel
theorem dX7_feed_14 : decode cX7_feed 14 = .ok (.ireturn, 1) := by decide +kernel
theorem dX7_feed_15 : decode cX7_feed 15 = .ok (.aload_n 0, 1) := by decide +kernel
theorem dX7_feed_16 : decode cX7_feed 16 = .ok (.getfield 73, 3) := by decide +kernel
theorem dX7_feed_19 : decode cX7_feed 19 = .ok (.sipush 250, 3) := by decide +kernel
theorem dX7_feed_22 : decode cX7_feed 22 = .ok (.if_icmp .ne 6, 3) := by decide +kernel
theorem dX7_feed_25 : decode cX7_feed 25 = .ok (.ldc 76, 2) := by decide +kernel
theorem dX7_feed_27 : decode cX7_feed 27 = .ok (.ireturn, 1) := by decide +kernel
theorem dX7_feed_28 : decode cX7_feed 28 = .ok (.aload_n 0, 1) := by decide +kernel
theorem dX7_feed_29 : decode cX7_feed 29 = .ok (.getfield 17, 3) := by decide +kernel
theorem dX7_feed_32 : decode cX7_feed 32 = .ok (.aload_n 0, 1) := by decide +kernel
theorem dX7_feed_33 : decode cX7_feed 33 = .ok (.getfield 73, 3) := by decide +kernel
theorem dX7_feed_36 : decode cX7_feed 36 = .ok (.iload_n 1, 1) := by decide +kernel
theorem dX7_feed_37 : decode cX7_feed 37 = .ok (.iastore, 1) := by decide +kernel
theorem dX7_feed_38 : decode cX7_feed 38 = .ok (.aload_n 0, 1) := by decide +kernel
theorem dX7_feed_39 : decode cX7_feed 39 = .ok (.dup, 1) := by decide +kernel
theorem dX7_feed_40 : decode cX7_feed 40 = .ok (.getfield 73, 3) := by decide +kernel
theorem dX7_feed_43 : decode cX7_feed 43 = .ok (.iconst 1, 1) := by decide +kernel
theorem dX7_feed_44 : decode cX7_feed 44 = .ok (.iadd, 1) := by decide +kernel
theorem dX7_feed_45 : decode cX7_feed 45 = .ok (.putfield 73, 3) := by decide +kernel
theorem dX7_feed_48 : decode cX7_feed 48 = .ok (.aload_n 0, 1) := by decide +kernel
theorem dX7_feed_49 : decode cX7_feed 49 = .ok (.getfield 73, 3) := by decide +kernel
theorem dX7_feed_52 : decode cX7_feed 52 = .ok (.ireturn, 1) := by decide +kernel
theorem dX7_isFigure_0 : decode cX7_isFigure 0 = .ok (.iload_n 0, 1) := by decide +kernel
theorem dX7_isFigure_1 : decode cX7_isFigure 1 = .ok (.i2l, 1) := by decide +kernel
theorem dX7_isFigure_2 : decode cX7_isFigure 2 = .ok (.ldc2_w 77, 3) := by decide +kernel
theorem dX7_isFigure_5 : decode cX7_isFigure 5 = .ok (.ldc2_w 79, 3) := by decide +kernel
theorem dX7_isFigure_8 : decode cX7_isFigure 8 = .ok (.invokestatic 68, 3) := by decide +kernel
theorem dX7_isFigure_11 : decode cX7_isFigure 11 = .ok (.ireturn, 1) := by decide +kernel
theorem dX7_skip_0 : decode cX7_skip 0 = .ok (.aload_n 0, 1) := by decide +kernel
theorem dX7_skip_1 : decode cX7_skip 1 = .ok (.getfield 81, 3) := by decide +kernel
theorem dX7_skip_4 : decode cX7_skip 4 = .ok (.aload_n 0, 1) := by decide +kernel
theorem dX7_skip_5 : decode cX7_skip 5 = .ok (.getfield 73, 3) := by decide +kernel
theorem dX7_skip_8 : decode cX7_skip 8 = .ok (.if_icmp .ge 30, 3) := by decide +kernel
theorem dX7_skip_11 : decode cX7_skip 11 = .ok (.aload_n 0, 1) := by decide +kernel
theorem dX7_skip_12 : decode cX7_skip 12 = .ok (.getfield 17, 3) := by decide +kernel
theorem dX7_skip_15 : decode cX7_skip 15 = .ok (.aload_n 0, 1) := by decide +kernel
theorem dX7_skip_16 : decode cX7_skip 16 = .ok (.getfield 81, 3) := by decide +kernel
theorem dX7_skip_19 : decode cX7_skip 19 = .ok (.iaload, 1) := by decide +kernel
theorem dX7_skip_20 : decode cX7_skip 20 = .ok (.bipush 32, 2) := by decide +kernel
theorem dX7_skip_22 : decode cX7_skip 22 = .ok (.if_icmp .ne 16, 3) := by decide +kernel
theorem dX7_skip_25 : decode cX7_skip 25 = .ok (.aload_n 0, 1) := by decide +kernel
theorem dX7_skip_26 : decode cX7_skip 26 = .ok (.dup, 1) := by decide +kernel
theorem dX7_skip_27 : decode cX7_skip 27 = .ok (.getfield 81, 3) := by decide +kernel
theorem dX7_skip_30 : decode cX7_skip 30 = .ok (.iconst 1, 1) := by decide +kernel
theorem dX7_skip_31 : decode cX7_skip 31 = .ok (.iadd, 1) := by decide +kernel
theorem dX7_skip_32 : decode cX7_skip 32 = .ok (.putfield 81, 3) := by decide +kernel
theorem dX7_skip_35 : decode cX7_skip 35 = .ok (.goto (-35), 3) := by decide +kernel
theorem dX7_skip_38 : decode cX7_skip 38 = .ok (.aload_n 0, 1) := by decide +kernel
theorem dX7_skip_39 : decode cX7_skip 39 = .ok (.aload_n 0, 1) := by decide +kernel
theorem dX7_skip_40 : decode cX7_skip 40 = .ok (.getfield 81, 3) := by decide +kernel
theorem dX7_skip_43 : decode cX7_skip 43 = .ok (.putfield 84, 3) := by decide +kernel
theorem dX7_skip_46 : decode cX7_skip 46 = .ok (.return_, 1) := by decide +kernel
theorem dX7_number_0 : decode cX7_number 0 = .ok (.aload_n 0, 1) := by decide +kernel
theorem dX7_number_1 : decode cX7_number 1 = .ok (.invokevirtual 87, 3) := by decide +kernel
theorem dX7_number_4 : decode cX7_number 4 = .ok (.aload_n 0, 1) := by decide +kernel
theorem dX7_number_5 : decode cX7_number 5 = .ok (.getfield 81, 3) := by decide +kernel
theorem dX7_number_8 : decode cX7_number 8 = .ok (.aload_n 0, 1) := by decide +kernel
theorem dX7_number_9 : decode cX7_number 9 = .ok (.getfield 73, 3) := by decide +kernel
theorem dX7_number_12 : decode cX7_number 12 = .ok (.if_icmp .eq 18, 3) := by decide +kernel
theorem dX7_number_15 : decode cX7_number 15 = .ok (.aload_n 0, 1) := by decide +kernel
theorem dX7_number_16 : decode cX7_number 16 = .ok (.getfield 17, 3) := by decide +kernel
theorem dX7_number_19 : decode cX7_number 19 = .ok (.aload_n 0, 1) := by decide +kernel
theorem dX7_number_20 : decode cX7_number 20 = .ok (.getfield 81, 3) := by decide +kernel
theorem dX7_number_23 : decode cX7_number 23 = .ok (.iaload, 1) := by decide +kernel
theorem dX7_number_24 : decode cX7_number 24 = .ok (.invokestatic 90, 3) := by decide +kernel
theorem dX7_number_27 : decode cX7_number 27 = .ok (.ifCond .ne 5, 3) := by decide +kernel
theorem dX7_number_30 : decode cX7_number 30 = .ok (.iconst 1, 1) := by decide +kernel
theorem dX7_number_31 : decode cX7_number 31 = .ok (.ireturn, 1) := by decide +kernel
theorem dX7_number_32 : decode cX7_number 32 = .ok (.iconst 0, 1) := by decide +kernel
theorem dX7_number_33 : decode cX7_number 33 = .ok (.istore 4, 2) := by decide +kernel
theorem dX7_number_35 : decode cX7_number 35 = .ok (.aload_n 0, 1) := by decide +kernel
theorem dX7_number_36 : decode cX7_number 36 = .ok (.getfield 81, 3) := by decide +kernel
theorem dX7_number_39 : decode cX7_number 39 = .ok (.aload_n 0, 1) := by decide +kernel
theorem dX7_number_40 : decode cX7_number 40 = .ok (.getfield 73, 3) := by decide +kernel
theorem dX7_number_43 : decode cX7_number 43 = .ok (.if_icmp .ge 69, 3) := by decide +kernel
theorem dX7_number_46 : decode cX7_number 46 = .ok (.aload_n 0, 1) := by decide +kernel
theorem dX7_number_47 : decode cX7_number 47 = .ok (.getfield 17, 3) := by decide +kernel
theorem dX7_number_50 : decode cX7_number 50 = .ok (.aload_n 0, 1) := by decide +kernel
theorem dX7_number_51 : decode cX7_number 51 = .ok (.getfield 81, 3) := by decide +kernel
theorem dX7_number_54 : decode cX7_number 54 = .ok (.iaload, 1) := by decide +kernel
theorem dX7_number_55 : decode cX7_number 55 = .ok (.invokestatic 90, 3) := by decide +kernel
theorem dX7_number_58 : decode cX7_number 58 = .ok (.ifCond .eq 54, 3) := by decide +kernel
theorem dX7_number_61 : decode cX7_number 61 = .ok (.aload_n 0, 1) := by decide +kernel
theorem dX7_number_62 : decode cX7_number 62 = .ok (.getfield 81, 3) := by decide +kernel
theorem dX7_number_65 : decode cX7_number 65 = .ok (.aload_n 0, 1) := by decide +kernel
theorem dX7_number_66 : decode cX7_number 66 = .ok (.getfield 84, 3) := by decide +kernel
theorem dX7_number_69 : decode cX7_number 69 = .ok (.isub, 1) := by decide +kernel
theorem dX7_number_70 : decode cX7_number 70 = .ok (.iconst 3, 1) := by decide +kernel
theorem dX7_number_71 : decode cX7_number 71 = .ok (.if_icmp .ge 24, 3) := by decide +kernel
theorem dX7_number_74 : decode cX7_number 74 = .ok (.bipush 10, 2) := by decide +kernel
theorem dX7_number_76 : decode cX7_number 76 = .ok (.iload 4, 2) := by decide +kernel
theorem dX7_number_78 : decode cX7_number 78 = .ok (.imul, 1) := by decide +kernel
theorem dX7_number_79 : decode cX7_number 79 = .ok (.aload_n 0, 1) := by decide +kernel
theorem dX7_number_80 : decode cX7_number 80 = .ok (.getfield 17, 3) := by decide +kernel
theorem dX7_number_83 : decode cX7_number 83 = .ok (.aload_n 0, 1) := by decide +kernel
theorem dX7_number_84 : decode cX7_number 84 = .ok (.getfield 81, 3) := by decide +kernel
theorem dX7_number_87 : decode cX7_number 87 = .ok (.iaload, 1) := by decide +kernel
theorem dX7_number_88 : decode cX7_number 88 = .ok (.iadd, 1) := by decide +kernel
theorem dX7_number_89 : decode cX7_number 89 = .ok (.bipush 48, 2) := by decide +kernel
theorem dX7_number_91 : decode cX7_number 91 = .ok (.isub, 1) := by decide +kernel
theorem dX7_number_92 : decode cX7_number 92 = .ok (.goto 5, 3) := by decide +kernel
theorem dX7_number_95 : decode cX7_number 95 = .ok (.iload 4, 2) := by decide +kernel
theorem dX7_number_97 : decode cX7_number 97 = .ok (.istore 4, 2) := by decide +kernel
theorem dX7_number_99 : decode cX7_number 99 = .ok (.aload_n 0, 1) := by decide +kernel
theorem dX7_number_100 : decode cX7_number 100 = .ok (.dup, 1) := by decide +kernel
theorem dX7_number_101 : decode cX7_number 101 = .ok (.getfield 81, 3) := by decide +kernel
theorem dX7_number_104 : decode cX7_number 104 = .ok (.iconst 1, 1) := by decide +kernel
theorem dX7_number_105 : decode cX7_number 105 = .ok (.iadd, 1) := by decide +kernel
theorem dX7_number_106 : decode cX7_number 106 = .ok (.putfield 81, 3) := by decide +kernel
theorem dX7_number_109 : decode cX7_number 109 = .ok (.goto (-74), 3) := by decide +kernel
theorem dX7_number_112 : decode cX7_number 112 = .ok (.aload_n 0, 1) := by decide +kernel
theorem dX7_number_113 : decode cX7_number 113 = .ok (.getfield 57, 3) := by decide +kernel
theorem dX7_number_116 : decode cX7_number 116 = .ok (.iload_n 1, 1) := by decide +kernel
theorem dX7_number_117 : decode cX7_number 117 = .ok (.iload 4, 2) := by decide +kernel
theorem dX7_number_119 : decode cX7_number 119 = .ok (.iastore, 1) := by decide +kernel
theorem dX7_number_120 : decode cX7_number 120 = .ok (.aload_n 0, 1) := by decide +kernel
theorem dX7_number_121 : decode cX7_number 121 = .ok (.getfield 81, 3) := by decide +kernel
theorem dX7_number_124 : decode cX7_number 124 = .ok (.aload_n 0, 1) := by decide +kernel
theorem dX7_number_125 : decode cX7_number 125 = .ok (.getfield 84, 3) := by decide +kernel
theorem dX7_number_128 : decode cX7_number 128 = .ok (.isub, 1) := by decide +kernel
theorem dX7_number_129 : decode cX7_number 129 = .ok (.iconst 3, 1) := by decide +kernel
theorem dX7_number_130 : decode cX7_number 130 = .ok (.if_icmp .gt 16, 3) := by decide +kernel
theorem dX7_number_133 : decode cX7_number 133 = .ok (.iload 4, 2) := by decide +kernel
theorem dX7_number_135 : decode cX7_number 135 = .ok (.i2l, 1) := by decide +kernel
theorem dX7_number_136 : decode cX7_number 136 = .ok (.iload_n 2, 1) := by decide +kernel
theorem dX7_number_137 : decode cX7_number 137 = .ok (.i2l, 1) := by decide +kernel
theorem dX7_number_138 : decode cX7_number 138 = .ok (.iload_n 3, 1) := by decide +kernel
theorem dX7_number_139 : decode cX7_number 139 = .ok (.i2l, 1) := by decide +kernel
theorem dX7_number_140 : decode cX7_number 140 = .ok (.invokestatic 68, 3) := by decide +kernel
theorem dX7_number_143 : decode cX7_number 143 = .ok (.ifCond .ne 7, 3) := by decide +kernel
theorem dX7_number_146 : decode cX7_number 146 = .ok (.iconst 2, 1) := by decide +kernel
theorem dX7_number_147 : decode cX7_number 147 = .ok (.goto 4, 3) := by decide +kernel
theorem dX7_number_150 : decode cX7_number 150 = .ok (.iconst 0, 1) := by decide +kernel
theorem dX7_number_151 : decode cX7_number 151 = .ok (.ireturn, 1) := by decide +kernel
theorem dX7_numberOr_0 : decode cX7_numberOr 0 = .ok (.iload_n 1, 1) := by decide +kernel
theorem dX7_numberOr_1 : decode cX7_numberOr 1 = .ok (.ifCond .eq 7, 3) := by decide +kernel
theorem dX7_numberOr_4 : decode cX7_numberOr 4 = .ok (.iload_n 1, 1) := by decide +kernel
theorem dX7_numberOr_5 : decode cX7_numberOr 5 = .ok (.goto 11, 3) := by decide +kernel
theorem dX7_numberOr_8 : decode cX7_numberOr 8 = .ok (.aload_n 0, 1) := by decide +kernel
theorem dX7_numberOr_9 : decode cX7_numberOr 9 = .ok (.iload_n 2, 1) := by decide +kernel
theorem dX7_numberOr_10 : decode cX7_numberOr 10 = .ok (.iload_n 3, 1) := by decide +kernel
theorem dX7_numberOr_11 : decode cX7_numberOr 11 = .ok (.iload 4, 2) := by decide +kernel
theorem dX7_numberOr_13 : decode cX7_numberOr 13 = .ok (.invokevirtual 94, 3) := by decide +kernel
theorem dX7_numberOr_16 : decode cX7_numberOr 16 = .ok (.ireturn, 1) := by decide +kernel
theorem dX7_semicolon_0 : decode cX7_semicolon 0 = .ok (.iload_n 1, 1) := by decide +kernel
theorem dX7_semicolon_1 : decode cX7_semicolon 1 = .ok (.ifCond .eq 5, 3) := by decide +kernel
theorem dX7_semicolon_4 : decode cX7_semicolon 4 = .ok (.iload_n 1, 1) := by decide +kernel
theorem dX7_semicolon_5 : decode cX7_semicolon 5 = .ok (.ireturn, 1) := by decide +kernel
theorem dX7_semicolon_6 : decode cX7_semicolon 6 = .ok (.aload_n 0, 1) := by decide +kernel
theorem dX7_semicolon_7 : decode cX7_semicolon 7 = .ok (.invokevirtual 87, 3) := by decide +kernel
theorem dX7_semicolon_10 : decode cX7_semicolon 10 = .ok (.aload_n 0, 1) := by decide +kernel
theorem dX7_semicolon_11 : decode cX7_semicolon 11 = .ok (.getfield 81, 3) := by decide +kernel
theorem dX7_semicolon_14 : decode cX7_semicolon 14 = .ok (.aload_n 0, 1) := by decide +kernel
theorem dX7_semicolon_15 : decode cX7_semicolon 15 = .ok (.getfield 73, 3) := by decide +kernel
theorem dX7_semicolon_18 : decode cX7_semicolon 18 = .ok (.if_icmp .eq 17, 3) := by decide +kernel
theorem dX7_semicolon_21 : decode cX7_semicolon 21 = .ok (.aload_n 0, 1) := by decide +kernel
theorem dX7_semicolon_22 : decode cX7_semicolon 22 = .ok (.getfield 17, 3) := by decide +kernel
theorem dX7_semicolon_25 : decode cX7_semicolon 25 = .ok (.aload_n 0, 1) := by decide +kernel
theorem dX7_semicolon_26 : decode cX7_semicolon 26 = .ok (.getfield 81, 3) := by decide +kernel
theorem dX7_semicolon_29 : decode cX7_semicolon 29 = .ok (.iaload, 1) := by decide +kernel
theorem dX7_semicolon_30 : decode cX7_semicolon 30 = .ok (.bipush 59, 2) := by decide +kernel
theorem dX7_semicolon_32 : decode cX7_semicolon 32 = .ok (.if_icmp .eq 5, 3) := by decide +kernel
theorem dX7_semicolon_35 : decode cX7_semicolon 35 = .ok (.iconst 1, 1) := by decide +kernel
theorem dX7_semicolon_36 : decode cX7_semicolon 36 = .ok (.ireturn, 1) := by decide +kernel
theorem dX7_semicolon_37 : decode cX7_semicolon 37 = .ok (.aload_n 0, 1) := by decide +kernel
theorem dX7_semicolon_38 : decode cX7_semicolon 38 = .ok (.dup, 1) := by decide +kernel
theorem dX7_semicolon_39 : decode cX7_semicolon 39 = .ok (.getfield 81, 3) := by decide +kernel
theorem dX7_semicolon_42 : decode cX7_semicolon 42 = .ok (.iconst 1, 1) := by decide +kernel
theorem dX7_semicolon_43 : decode cX7_semicolon 43 = .ok (.iadd, 1) := by decide +kernel
theorem dX7_semicolon_44 : decode cX7_semicolon 44 = .ok (.putfield 81, 3) := by decide +kernel
theorem dX7_semicolon_47 : decode cX7_semicolon 47 = .ok (.iconst 0, 1) := by decide +kernel
theorem dX7_semicolon_48 : decode cX7_semicolon 48 = .ok (.ireturn, 1) := by decide +kernel
theorem dX7_readsPeople_0 : decode cX7_readsPeople 0 = .ok (.aload_n 0, 1) := by decide +kernel
theorem dX7_readsPeople_1 : decode cX7_readsPeople 1 = .ok (.aload_n 0, 1) := by decide +kernel
theorem dX7_readsPeople_2 : decode cX7_readsPeople 2 = .ok (.iconst 0, 1) := by decide +kernel
theorem dX7_readsPeople_3 : decode cX7_readsPeople 3 = .ok (.iconst 1, 1) := by decide +kernel
theorem dX7_readsPeople_4 : decode cX7_readsPeople 4 = .ok (.bipush 6, 2) := by decide +kernel
theorem dX7_readsPeople_6 : decode cX7_readsPeople 6 = .ok (.invokevirtual 94, 3) := by decide +kernel
theorem dX7_readsPeople_9 : decode cX7_readsPeople 9 = .ok (.invokevirtual 98, 3) := by decide +kernel
theorem dX7_readsPeople_12 : decode cX7_readsPeople 12 = .ok (.istore_n 1, 1) := by decide +kernel
theorem dX7_readsPeople_13 : decode cX7_readsPeople 13 = .ok (.aload_n 0, 1) := by decide +kernel
theorem dX7_readsPeople_14 : decode cX7_readsPeople 14 = .ok (.iload_n 1, 1) := by decide +kernel
theorem dX7_readsPeople_15 : decode cX7_readsPeople 15 = .ok (.ifCond .ne 12, 3) := by decide +kernel
theorem dX7_readsPeople_18 : decode cX7_readsPeople 18 = .ok (.aload_n 0, 1) := by decide +kernel
theorem dX7_readsPeople_19 : decode cX7_readsPeople 19 = .ok (.getfield 57, 3) := by decide +kernel
theorem dX7_readsPeople_22 : decode cX7_readsPeople 22 = .ok (.iconst 0, 1) := by decide +kernel
theorem dX7_readsPeople_23 : decode cX7_readsPeople 23 = .ok (.iaload, 1) := by decide +kernel
theorem dX7_readsPeople_24 : decode cX7_readsPeople 24 = .ok (.goto 4, 3) := by decide +kernel
theorem dX7_readsPeople_27 : decode cX7_readsPeople 27 = .ok (.iconst 0, 1) := by decide +kernel
theorem dX7_readsPeople_28 : decode cX7_readsPeople 28 = .ok (.putfield 102, 3) := by decide +kernel
theorem dX7_readsPeople_31 : decode cX7_readsPeople 31 = .ok (.iload_n 1, 1) := by decide +kernel
theorem dX7_readsPeople_32 : decode cX7_readsPeople 32 = .ok (.ireturn, 1) := by decide +kernel
theorem dX7_readsFighter_0 : decode cX7_readsFighter 0 = .ok (.aload_n 0, 1) := by decide +kernel
theorem dX7_readsFighter_1 : decode cX7_readsFighter 1 = .ok (.aload_n 0, 1) := by decide +kernel
theorem dX7_readsFighter_2 : decode cX7_readsFighter 2 = .ok (.aload_n 0, 1) := by decide +kernel
theorem dX7_readsFighter_3 : decode cX7_readsFighter 3 = .ok (.aload_n 0, 1) := by decide +kernel
theorem dX7_readsFighter_4 : decode cX7_readsFighter 4 = .ok (.iconst 0, 1) := by decide +kernel
theorem dX7_readsFighter_5 : decode cX7_readsFighter 5 = .ok (.iconst 0, 1) := by decide +kernel
theorem dX7_readsFighter_6 : decode cX7_readsFighter 6 = .ok (.iconst 4, 1) := by decide +kernel
theorem dX7_readsFighter_7 : decode cX7_readsFighter 7 = .ok (.invokevirtual 94, 3) := by decide +kernel
theorem dX7_readsFighter_10 : decode cX7_readsFighter 10 = .ok (.iconst 1, 1) := by decide +kernel
theorem dX7_readsFighter_11 : decode cX7_readsFighter 11 = .ok (.iconst 0, 1) := by decide +kernel
theorem dX7_readsFighter_12 : decode cX7_readsFighter 12 = .ok (.bipush 99, 2) := by decide +kernel
theorem dX7_readsFighter_14 : decode cX7_readsFighter 14 = .ok (.invokevirtual 105, 3) := by decide +kernel
theorem dX7_readsFighter_17 : decode cX7_readsFighter 17 = .ok (.iconst 2, 1) := by decide +kernel
theorem dX7_readsFighter_18 : decode cX7_readsFighter 18 = .ok (.iconst 0, 1) := by decide +kernel
theorem dX7_readsFighter_19 : decode cX7_readsFighter 19 = .ok (.bipush 99, 2) := by decide +kernel
theorem dX7_readsFighter_21 : decode cX7_readsFighter 21 = .ok (.invokevirtual 105, 3) := by decide +kernel
theorem dX7_readsFighter_24 : decode cX7_readsFighter 24 = .ok (.invokevirtual 98, 3) := by decide +kernel
theorem dX7_readsFighter_27 : decode cX7_readsFighter 27 = .ok (.istore_n 1, 1) := by decide +kernel
theorem dX7_readsFighter_28 : decode cX7_readsFighter 28 = .ok (.iconst 0, 1) := by decide +kernel
theorem dX7_readsFighter_29 : decode cX7_readsFighter 29 = .ok (.istore_n 2, 1) := by decide +kernel
theorem dX7_readsFighter_30 : decode cX7_readsFighter 30 = .ok (.iload_n 2, 1) := by decide +kernel
theorem dX7_readsFighter_31 : decode cX7_readsFighter 31 = .ok (.iconst 3, 1) := by decide +kernel
theorem dX7_readsFighter_32 : decode cX7_readsFighter 32 = .ok (.if_icmp .ge 32, 3) := by decide +kernel
theorem dX7_readsFighter_35 : decode cX7_readsFighter 35 = .ok (.iload_n 1, 1) := by decide +kernel
theorem dX7_readsFighter_36 : decode cX7_readsFighter 36 = .ok (.ifCond .ne 28, 3) := by decide +kernel
theorem dX7_readsFighter_39 : decode cX7_readsFighter 39 = .ok (.aload_n 0, 1) := by decide +kernel
theorem dX7_readsFighter_40 : decode cX7_readsFighter 40 = .ok (.getfield 42, 3) := by decide +kernel
theorem dX7_readsFighter_43 : decode cX7_readsFighter 43 = .ok (.iconst 3, 1) := by decide +kernel
theorem dX7_readsFighter_44 : decode cX7_readsFighter 44 = .ok (.aload_n 0, 1) := by decide +kernel
theorem dX7_readsFighter_45 : decode cX7_readsFighter 45 = .ok (.getfield 109, 3) := by decide +kernel
theorem dX7_readsFighter_48 : decode cX7_readsFighter 48 = .ok (.imul, 1) := by decide +kernel
theorem dX7_readsFighter_49 : decode cX7_readsFighter 49 = .ok (.iload_n 2, 1) := by decide +kernel
theorem dX7_readsFighter_50 : decode cX7_readsFighter 50 = .ok (.iadd, 1) := by decide +kernel
theorem dX7_readsFighter_51 : decode cX7_readsFighter 51 = .ok (.aload_n 0, 1) := by decide +kernel
theorem dX7_readsFighter_52 : decode cX7_readsFighter 52 = .ok (.getfield 57, 3) := by decide +kernel
theorem dX7_readsFighter_55 : decode cX7_readsFighter 55 = .ok (.iload_n 2, 1) := by decide +kernel
theorem dX7_readsFighter_56 : decode cX7_readsFighter 56 = .ok (.iaload, 1) := by decide +kernel
theorem dX7_readsFighter_57 : decode cX7_readsFighter 57 = .ok (.iastore, 1) := by decide +kernel
theorem dX7_readsFighter_58 : decode cX7_readsFighter 58 = .ok (.iinc 2 1, 3) := by decide +kernel
theorem dX7_readsFighter_61 : decode cX7_readsFighter 61 = .ok (.goto (-31), 3) := by decide +kernel
theorem dX7_readsFighter_64 : decode cX7_readsFighter 64 = .ok (.aload_n 0, 1) := by decide +kernel
theorem dX7_readsFighter_65 : decode cX7_readsFighter 65 = .ok (.dup, 1) := by decide +kernel
theorem dX7_readsFighter_66 : decode cX7_readsFighter 66 = .ok (.getfield 109, 3) := by decide +kernel
theorem dX7_readsFighter_69 : decode cX7_readsFighter 69 = .ok (.iload_n 1, 1) := by decide +kernel
theorem dX7_readsFighter_70 : decode cX7_readsFighter 70 = .ok (.ifCond .ne 7, 3) := by decide +kernel
theorem dX7_readsFighter_73 : decode cX7_readsFighter 73 = .ok (.iconst 1, 1) := by decide +kernel
theorem dX7_readsFighter_74 : decode cX7_readsFighter 74 = .ok (.goto 4, 3) := by decide +kernel
theorem dX7_readsFighter_77 : decode cX7_readsFighter 77 = .ok (.iconst 0, 1) := by decide +kernel
theorem dX7_readsFighter_78 : decode cX7_readsFighter 78 = .ok (.iadd, 1) := by decide +kernel
theorem dX7_readsFighter_79 : decode cX7_readsFighter 79 = .ok (.putfield 109, 3) := by decide +kernel
theorem dX7_readsFighter_82 : decode cX7_readsFighter 82 = .ok (.iload_n 1, 1) := by decide +kernel
theorem dX7_readsFighter_83 : decode cX7_readsFighter 83 = .ok (.ireturn, 1) := by decide +kernel
theorem dX7_readsChat_0 : decode cX7_readsChat 0 = .ok (.aload_n 0, 1) := by decide +kernel
theorem dX7_readsChat_1 : decode cX7_readsChat 1 = .ok (.aload_n 0, 1) := by decide +kernel
theorem dX7_readsChat_2 : decode cX7_readsChat 2 = .ok (.iconst 0, 1) := by decide +kernel
theorem dX7_readsChat_3 : decode cX7_readsChat 3 = .ok (.iconst 0, 1) := by decide +kernel
theorem dX7_readsChat_4 : decode cX7_readsChat 4 = .ok (.aload_n 0, 1) := by decide +kernel
theorem dX7_readsChat_5 : decode cX7_readsChat 5 = .ok (.getfield 102, 3) := by decide +kernel
theorem dX7_readsChat_8 : decode cX7_readsChat 8 = .ok (.iconst 1, 1) := by decide +kernel
theorem dX7_readsChat_9 : decode cX7_readsChat 9 = .ok (.isub, 1) := by decide +kernel
theorem dX7_readsChat_10 : decode cX7_readsChat 10 = .ok (.invokevirtual 94, 3) := by decide +kernel
theorem dX7_readsChat_13 : decode cX7_readsChat 13 = .ok (.iconst 1, 1) := by decide +kernel
theorem dX7_readsChat_14 : decode cX7_readsChat 14 = .ok (.iconst 0, 1) := by decide +kernel
theorem dX7_readsChat_15 : decode cX7_readsChat 15 = .ok (.aload_n 0, 1) := by decide +kernel
theorem dX7_readsChat_16 : decode cX7_readsChat 16 = .ok (.getfield 102, 3) := by decide +kernel
theorem dX7_readsChat_19 : decode cX7_readsChat 19 = .ok (.iconst 1, 1) := by decide +kernel
theorem dX7_readsChat_20 : decode cX7_readsChat 20 = .ok (.isub, 1) := by decide +kernel
theorem dX7_readsChat_21 : decode cX7_readsChat 21 = .ok (.invokevirtual 105, 3) := by decide +kernel
theorem dX7_readsChat_24 : decode cX7_readsChat 24 = .ok (.istore_n 1, 1) := by decide +kernel
theorem dX7_readsChat_25 : decode cX7_readsChat 25 = .ok (.iload_n 1, 1) := by decide +kernel
theorem dX7_readsChat_26 : decode cX7_readsChat 26 = .ok (.ifCond .ne 43, 3) := by decide +kernel
theorem dX7_readsChat_29 : decode cX7_readsChat 29 = .ok (.aload_n 0, 1) := by decide +kernel
theorem dX7_readsChat_30 : decode cX7_readsChat 30 = .ok (.getfield 57, 3) := by decide +kernel
theorem dX7_readsChat_33 : decode cX7_readsChat 33 = .ok (.iconst 0, 1) := by decide +kernel
theorem dX7_readsChat_34 : decode cX7_readsChat 34 = .ok (.iaload, 1) := by decide +kernel
theorem dX7_readsChat_35 : decode cX7_readsChat 35 = .ok (.aload_n 0, 1) := by decide +kernel
theorem dX7_readsChat_36 : decode cX7_readsChat 36 = .ok (.getfield 57, 3) := by decide +kernel
theorem dX7_readsChat_39 : decode cX7_readsChat 39 = .ok (.iconst 1, 1) := by decide +kernel
theorem dX7_readsChat_40 : decode cX7_readsChat 40 = .ok (.iaload, 1) := by decide +kernel
theorem dX7_readsChat_41 : decode cX7_readsChat 41 = .ok (.if_icmp .eq 26, 3) := by decide +kernel
theorem dX7_readsChat_44 : decode cX7_readsChat 44 = .ok (.aload_n 0, 1) := by decide +kernel
theorem dX7_readsChat_45 : decode cX7_readsChat 45 = .ok (.getfield 45, 3) := by decide +kernel
theorem dX7_readsChat_48 : decode cX7_readsChat 48 = .ok (.aload_n 0, 1) := by decide +kernel
theorem dX7_readsChat_49 : decode cX7_readsChat 49 = .ok (.getfield 57, 3) := by decide +kernel
theorem dX7_readsChat_52 : decode cX7_readsChat 52 = .ok (.iconst 0, 1) := by decide +kernel
theorem dX7_readsChat_53 : decode cX7_readsChat 53 = .ok (.iaload, 1) := by decide +kernel
theorem dX7_readsChat_54 : decode cX7_readsChat 54 = .ok (.iaload, 1) := by decide +kernel
theorem dX7_readsChat_55 : decode cX7_readsChat 55 = .ok (.aload_n 0, 1) := by decide +kernel
theorem dX7_readsChat_56 : decode cX7_readsChat 56 = .ok (.getfield 57, 3) := by decide +kernel
theorem dX7_readsChat_59 : decode cX7_readsChat 59 = .ok (.iconst 1, 1) := by decide +kernel
theorem dX7_readsChat_60 : decode cX7_readsChat 60 = .ok (.iaload, 1) := by decide +kernel
theorem dX7_readsChat_61 : decode cX7_readsChat 61 = .ok (.invokestatic 112, 3) := by decide +kernel
theorem dX7_readsChat_64 : decode cX7_readsChat 64 = .ok (.ifCond .eq 5, 3) := by decide +kernel
theorem dX7_readsChat_67 : decode cX7_readsChat 67 = .ok (.iconst 4, 1) := by decide +kernel
theorem dX7_readsChat_68 : decode cX7_readsChat 68 = .ok (.istore_n 1, 1) := by decide +kernel
theorem dX7_readsChat_69 : decode cX7_readsChat 69 = .ok (.aload_n 0, 1) := by decide +kernel
theorem dX7_readsChat_70 : decode cX7_readsChat 70 = .ok (.iload_n 1, 1) := by decide +kernel
theorem dX7_readsChat_71 : decode cX7_readsChat 71 = .ok (.invokevirtual 98, 3) := by decide +kernel
theorem dX7_readsChat_74 : decode cX7_readsChat 74 = .ok (.istore_n 1, 1) := by decide +kernel
theorem dX7_readsChat_75 : decode cX7_readsChat 75 = .ok (.iload_n 1, 1) := by decide +kernel
theorem dX7_readsChat_76 : decode cX7_readsChat 76 = .ok (.ifCond .ne 57, 3) := by decide +kernel
theorem dX7_readsChat_79 : decode cX7_readsChat 79 = .ok (.aload_n 0, 1) := by decide +kernel
theorem dX7_readsChat_80 : decode cX7_readsChat 80 = .ok (.getfield 45, 3) := by decide +kernel
theorem dX7_readsChat_83 : decode cX7_readsChat 83 = .ok (.aload_n 0, 1) := by decide +kernel
theorem dX7_readsChat_84 : decode cX7_readsChat 84 = .ok (.getfield 57, 3) := by decide +kernel
theorem dX7_readsChat_87 : decode cX7_readsChat 87 = .ok (.iconst 0, 1) := by decide +kernel
theorem dX7_readsChat_88 : decode cX7_readsChat 88 = .ok (.iaload, 1) := by decide +kernel
theorem dX7_readsChat_89 : decode cX7_readsChat 89 = .ok (.dup2, 1) := by decide +kernel
theorem dX7_readsChat_90 : decode cX7_readsChat 90 = .ok (.iaload, 1) := by decide +kernel
theorem dX7_readsChat_91 : decode cX7_readsChat 91 = .ok (.iconst 1, 1) := by decide +kernel
theorem dX7_readsChat_92 : decode cX7_readsChat 92 = .ok (.aload_n 0, 1) := by decide +kernel
theorem dX7_readsChat_93 : decode cX7_readsChat 93 = .ok (.getfield 57, 3) := by decide +kernel
theorem dX7_readsChat_96 : decode cX7_readsChat 96 = .ok (.iconst 1, 1) := by decide +kernel
theorem dX7_readsChat_97 : decode cX7_readsChat 97 = .ok (.iaload, 1) := by decide +kernel
theorem dX7_readsChat_98 : decode cX7_readsChat 98 = .ok (.ishl, 1) := by decide +kernel
theorem dX7_readsChat_99 : decode cX7_readsChat 99 = .ok (.ior, 1) := by decide +kernel
theorem dX7_readsChat_100 : decode cX7_readsChat 100 = .ok (.iastore, 1) := by decide +kernel
theorem dX7_readsChat_101 : decode cX7_readsChat 101 = .ok (.aload_n 0, 1) := by decide +kernel
theorem dX7_readsChat_102 : decode cX7_readsChat 102 = .ok (.getfield 45, 3) := by decide +kernel
theorem dX7_readsChat_105 : decode cX7_readsChat 105 = .ok (.aload_n 0, 1) := by decide +kernel
theorem dX7_readsChat_106 : decode cX7_readsChat 106 = .ok (.getfield 57, 3) := by decide +kernel
theorem dX7_readsChat_109 : decode cX7_readsChat 109 = .ok (.iconst 1, 1) := by decide +kernel
theorem dX7_readsChat_110 : decode cX7_readsChat 110 = .ok (.iaload, 1) := by decide +kernel
theorem dX7_readsChat_111 : decode cX7_readsChat 111 = .ok (.dup2, 1) := by decide +kernel
theorem dX7_readsChat_112 : decode cX7_readsChat 112 = .ok (.iaload, 1) := by decide +kernel
theorem dX7_readsChat_113 : decode cX7_readsChat 113 = .ok (.iconst 1, 1) := by decide +kernel
theorem dX7_readsChat_114 : decode cX7_readsChat 114 = .ok (.aload_n 0, 1) := by decide +kernel
theorem dX7_readsChat_115 : decode cX7_readsChat 115 = .ok (.getfield 57, 3) := by decide +kernel
theorem dX7_readsChat_118 : decode cX7_readsChat 118 = .ok (.iconst 0, 1) := by decide +kernel
theorem dX7_readsChat_119 : decode cX7_readsChat 119 = .ok (.iaload, 1) := by decide +kernel
theorem dX7_readsChat_120 : decode cX7_readsChat 120 = .ok (.ishl, 1) := by decide +kernel
theorem dX7_readsChat_121 : decode cX7_readsChat 121 = .ok (.ior, 1) := by decide +kernel
theorem dX7_readsChat_122 : decode cX7_readsChat 122 = .ok (.iastore, 1) := by decide +kernel
theorem dX7_readsChat_123 : decode cX7_readsChat 123 = .ok (.aload_n 0, 1) := by decide +kernel
theorem dX7_readsChat_124 : decode cX7_readsChat 124 = .ok (.dup, 1) := by decide +kernel
theorem dX7_readsChat_125 : decode cX7_readsChat 125 = .ok (.getfield 116, 3) := by decide +kernel
theorem dX7_readsChat_128 : decode cX7_readsChat 128 = .ok (.iconst 1, 1) := by decide +kernel
theorem dX7_readsChat_129 : decode cX7_readsChat 129 = .ok (.iadd, 1) := by decide +kernel
theorem dX7_readsChat_130 : decode cX7_readsChat 130 = .ok (.putfield 116, 3) := by decide +kernel
theorem dX7_readsChat_133 : decode cX7_readsChat 133 = .ok (.iload_n 1, 1) := by decide +kernel
theorem dX7_readsChat_134 : decode cX7_readsChat 134 = .ok (.ireturn, 1) := by decide +kernel
theorem dX7_readsTask_0 : decode cX7_readsTask 0 = .ok (.aload_n 0, 1) := by decide +kernel
theorem dX7_readsTask_1 : decode cX7_readsTask 1 = .ok (.aload_n 0, 1) := by decide +kernel
theorem dX7_readsTask_2 : decode cX7_readsTask 2 = .ok (.aload_n 0, 1) := by decide +kernel
theorem dX7_readsTask_3 : decode cX7_readsTask 3 = .ok (.iconst 0, 1) := by decide +kernel
theorem dX7_readsTask_4 : decode cX7_readsTask 4 = .ok (.iconst 0, 1) := by decide +kernel
theorem dX7_readsTask_5 : decode cX7_readsTask 5 = .ok (.aload_n 0, 1) := by decide +kernel
theorem dX7_readsTask_6 : decode cX7_readsTask 6 = .ok (.getfield 102, 3) := by decide +kernel
theorem dX7_readsTask_9 : decode cX7_readsTask 9 = .ok (.iconst 1, 1) := by decide +kernel
theorem dX7_readsTask_10 : decode cX7_readsTask 10 = .ok (.isub, 1) := by decide +kernel
theorem dX7_readsTask_11 : decode cX7_readsTask 11 = .ok (.invokevirtual 94, 3) := by decide +kernel
theorem dX7_readsTask_14 : decode cX7_readsTask 14 = .ok (.iconst 1, 1) := by decide +kernel
theorem dX7_readsTask_15 : decode cX7_readsTask 15 = .ok (.iconst 0, 1) := by decide +kernel
theorem dX7_readsTask_16 : decode cX7_readsTask 16 = .ok (.bipush 99, 2) := by decide +kernel
theorem dX7_readsTask_18 : decode cX7_readsTask 18 = .ok (.invokevirtual 105, 3) := by decide +kernel
theorem dX7_readsTask_21 : decode cX7_readsTask 21 = .ok (.iconst 2, 1) := by decide +kernel
theorem dX7_readsTask_22 : decode cX7_readsTask 22 = .ok (.iconst 0, 1) := by decide +kernel
theorem dX7_readsTask_23 : decode cX7_readsTask 23 = .ok (.bipush 99, 2) := by decide +kernel
theorem dX7_readsTask_25 : decode cX7_readsTask 25 = .ok (.invokevirtual 105, 3) := by decide +kernel
theorem dX7_readsTask_28 : decode cX7_readsTask 28 = .ok (.istore_n 1, 1) := by decide +kernel
theorem dX7_readsTask_29 : decode cX7_readsTask 29 = .ok (.aload_n 0, 1) := by decide +kernel
theorem dX7_readsTask_30 : decode cX7_readsTask 30 = .ok (.aload_n 0, 1) := by decide +kernel
theorem dX7_readsTask_31 : decode cX7_readsTask 31 = .ok (.iload_n 1, 1) := by decide +kernel
theorem dX7_readsTask_32 : decode cX7_readsTask 32 = .ok (.iconst 3, 1) := by decide +kernel
theorem dX7_readsTask_33 : decode cX7_readsTask 33 = .ok (.iconst 0, 1) := by decide +kernel
theorem dX7_readsTask_34 : decode cX7_readsTask 34 = .ok (.bipush 20, 2) := by decide +kernel
theorem dX7_readsTask_36 : decode cX7_readsTask 36 = .ok (.invokevirtual 105, 3) := by decide +kernel
theorem dX7_readsTask_39 : decode cX7_readsTask 39 = .ok (.invokevirtual 98, 3) := by decide +kernel
theorem dX7_readsTask_42 : decode cX7_readsTask 42 = .ok (.istore_n 1, 1) := by decide +kernel
theorem dX7_readsTask_43 : decode cX7_readsTask 43 = .ok (.iconst 0, 1) := by decide +kernel
theorem dX7_readsTask_44 : decode cX7_readsTask 44 = .ok (.istore_n 2, 1) := by decide +kernel
theorem dX7_readsTask_45 : decode cX7_readsTask 45 = .ok (.iload_n 2, 1) := by decide +kernel
theorem dX7_readsTask_46 : decode cX7_readsTask 46 = .ok (.iconst 4, 1) := by decide +kernel
theorem dX7_readsTask_47 : decode cX7_readsTask 47 = .ok (.if_icmp .ge 32, 3) := by decide +kernel
theorem dX7_readsTask_50 : decode cX7_readsTask 50 = .ok (.iload_n 1, 1) := by decide +kernel
theorem dX7_readsTask_51 : decode cX7_readsTask 51 = .ok (.ifCond .ne 28, 3) := by decide +kernel
theorem dX7_readsTask_54 : decode cX7_readsTask 54 = .ok (.aload_n 0, 1) := by decide +kernel
theorem dX7_readsTask_55 : decode cX7_readsTask 55 = .ok (.getfield 48, 3) := by decide +kernel
theorem dX7_readsTask_58 : decode cX7_readsTask 58 = .ok (.iconst 4, 1) := by decide +kernel
theorem dX7_readsTask_59 : decode cX7_readsTask 59 = .ok (.aload_n 0, 1) := by decide +kernel
theorem dX7_readsTask_60 : decode cX7_readsTask 60 = .ok (.getfield 119, 3) := by decide +kernel
theorem dX7_readsTask_63 : decode cX7_readsTask 63 = .ok (.imul, 1) := by decide +kernel
theorem dX7_readsTask_64 : decode cX7_readsTask 64 = .ok (.iload_n 2, 1) := by decide +kernel
theorem dX7_readsTask_65 : decode cX7_readsTask 65 = .ok (.iadd, 1) := by decide +kernel
theorem dX7_readsTask_66 : decode cX7_readsTask 66 = .ok (.aload_n 0, 1) := by decide +kernel
theorem dX7_readsTask_67 : decode cX7_readsTask 67 = .ok (.getfield 57, 3) := by decide +kernel
theorem dX7_readsTask_70 : decode cX7_readsTask 70 = .ok (.iload_n 2, 1) := by decide +kernel
theorem dX7_readsTask_71 : decode cX7_readsTask 71 = .ok (.iaload, 1) := by decide +kernel
theorem dX7_readsTask_72 : decode cX7_readsTask 72 = .ok (.iastore, 1) := by decide +kernel
theorem dX7_readsTask_73 : decode cX7_readsTask 73 = .ok (.iinc 2 1, 3) := by decide +kernel
theorem dX7_readsTask_76 : decode cX7_readsTask 76 = .ok (.goto (-31), 3) := by decide +kernel
theorem dX7_readsTask_79 : decode cX7_readsTask 79 = .ok (.aload_n 0, 1) := by decide +kernel
theorem dX7_readsTask_80 : decode cX7_readsTask 80 = .ok (.dup, 1) := by decide +kernel
theorem dX7_readsTask_81 : decode cX7_readsTask 81 = .ok (.getfield 119, 3) := by decide +kernel
theorem dX7_readsTask_84 : decode cX7_readsTask 84 = .ok (.iload_n 1, 1) := by decide +kernel
theorem dX7_readsTask_85 : decode cX7_readsTask 85 = .ok (.ifCond .ne 7, 3) := by decide +kernel
theorem dX7_readsTask_88 : decode cX7_readsTask 88 = .ok (.iconst 1, 1) := by decide +kernel
theorem dX7_readsTask_89 : decode cX7_readsTask 89 = .ok (.goto 4, 3) := by decide +kernel
theorem dX7_readsTask_92 : decode cX7_readsTask 92 = .ok (.iconst 0, 1) := by decide +kernel
theorem dX7_readsTask_93 : decode cX7_readsTask 93 = .ok (.iadd, 1) := by decide +kernel
theorem dX7_readsTask_94 : decode cX7_readsTask 94 = .ok (.putfield 119, 3) := by decide +kernel
theorem dX7_readsTask_97 : decode cX7_readsTask 97 = .ok (.iload_n 1, 1) := by decide +kernel
theorem dX7_readsTask_98 : decode cX7_readsTask 98 = .ok (.ireturn, 1) := by decide +kernel
theorem dX7_readsTrick_0 : decode cX7_readsTrick 0 = .ok (.aload_n 0, 1) := by decide +kernel
theorem dX7_readsTrick_1 : decode cX7_readsTrick 1 = .ok (.aload_n 0, 1) := by decide +kernel
theorem dX7_readsTrick_2 : decode cX7_readsTrick 2 = .ok (.aload_n 0, 1) := by decide +kernel
theorem dX7_readsTrick_3 : decode cX7_readsTrick 3 = .ok (.aload_n 0, 1) := by decide +kernel
theorem dX7_readsTrick_4 : decode cX7_readsTrick 4 = .ok (.iconst 0, 1) := by decide +kernel
theorem dX7_readsTrick_5 : decode cX7_readsTrick 5 = .ok (.iconst 0, 1) := by decide +kernel
theorem dX7_readsTrick_6 : decode cX7_readsTrick 6 = .ok (.aload_n 0, 1) := by decide +kernel
theorem dX7_readsTrick_7 : decode cX7_readsTrick 7 = .ok (.getfield 119, 3) := by decide +kernel
theorem dX7_readsTrick_10 : decode cX7_readsTrick 10 = .ok (.iconst 1, 1) := by decide +kernel
theorem dX7_readsTrick_11 : decode cX7_readsTrick 11 = .ok (.isub, 1) := by decide +kernel
theorem dX7_readsTrick_12 : decode cX7_readsTrick 12 = .ok (.invokevirtual 94, 3) := by decide +kernel
theorem dX7_readsTrick_15 : decode cX7_readsTrick 15 = .ok (.iconst 1, 1) := by decide +kernel
theorem dX7_readsTrick_16 : decode cX7_readsTrick 16 = .ok (.iconst 1, 1) := by decide +kernel
theorem dX7_readsTrick_17 : decode cX7_readsTrick 17 = .ok (.bipush 99, 2) := by decide +kernel
theorem dX7_readsTrick_19 : decode cX7_readsTrick 19 = .ok (.invokevirtual 105, 3) := by decide +kernel
theorem dX7_readsTrick_22 : decode cX7_readsTrick 22 = .ok (.iconst 2, 1) := by decide +kernel
theorem dX7_readsTrick_23 : decode cX7_readsTrick 23 = .ok (.iconst 0, 1) := by decide +kernel
theorem dX7_readsTrick_24 : decode cX7_readsTrick 24 = .ok (.bipush 99, 2) := by decide +kernel
theorem dX7_readsTrick_26 : decode cX7_readsTrick 26 = .ok (.invokevirtual 105, 3) := by decide +kernel
theorem dX7_readsTrick_29 : decode cX7_readsTrick 29 = .ok (.invokevirtual 98, 3) := by decide +kernel
theorem dX7_readsTrick_32 : decode cX7_readsTrick 32 = .ok (.istore_n 1, 1) := by decide +kernel
theorem dX7_readsTrick_33 : decode cX7_readsTrick 33 = .ok (.iconst 0, 1) := by decide +kernel
theorem dX7_readsTrick_34 : decode cX7_readsTrick 34 = .ok (.istore_n 2, 1) := by decide +kernel
theorem dX7_readsTrick_35 : decode cX7_readsTrick 35 = .ok (.iload_n 2, 1) := by decide +kernel
theorem dX7_readsTrick_36 : decode cX7_readsTrick 36 = .ok (.iconst 3, 1) := by decide +kernel
theorem dX7_readsTrick_37 : decode cX7_readsTrick 37 = .ok (.if_icmp .ge 32, 3) := by decide +kernel
theorem dX7_readsTrick_40 : decode cX7_readsTrick 40 = .ok (.iload_n 1, 1) := by decide +kernel
theorem dX7_readsTrick_41 : decode cX7_readsTrick 41 = .ok (.ifCond .ne 28, 3) := by decide +kernel
theorem dX7_readsTrick_44 : decode cX7_readsTrick 44 = .ok (.aload_n 0, 1) := by decide +kernel
theorem dX7_readsTrick_45 : decode cX7_readsTrick 45 = .ok (.getfield 51, 3) := by decide +kernel
theorem dX7_readsTrick_48 : decode cX7_readsTrick 48 = .ok (.iconst 3, 1) := by decide +kernel
theorem dX7_readsTrick_49 : decode cX7_readsTrick 49 = .ok (.aload_n 0, 1) := by decide +kernel
theorem dX7_readsTrick_50 : decode cX7_readsTrick 50 = .ok (.getfield 122, 3) := by decide +kernel
theorem dX7_readsTrick_53 : decode cX7_readsTrick 53 = .ok (.imul, 1) := by decide +kernel
theorem dX7_readsTrick_54 : decode cX7_readsTrick 54 = .ok (.iload_n 2, 1) := by decide +kernel
theorem dX7_readsTrick_55 : decode cX7_readsTrick 55 = .ok (.iadd, 1) := by decide +kernel
theorem dX7_readsTrick_56 : decode cX7_readsTrick 56 = .ok (.aload_n 0, 1) := by decide +kernel
theorem dX7_readsTrick_57 : decode cX7_readsTrick 57 = .ok (.getfield 57, 3) := by decide +kernel
theorem dX7_readsTrick_60 : decode cX7_readsTrick 60 = .ok (.iload_n 2, 1) := by decide +kernel
theorem dX7_readsTrick_61 : decode cX7_readsTrick 61 = .ok (.iaload, 1) := by decide +kernel
theorem dX7_readsTrick_62 : decode cX7_readsTrick 62 = .ok (.iastore, 1) := by decide +kernel
theorem dX7_readsTrick_63 : decode cX7_readsTrick 63 = .ok (.iinc 2 1, 3) := by decide +kernel
theorem dX7_readsTrick_66 : decode cX7_readsTrick 66 = .ok (.goto (-31), 3) := by decide +kernel
theorem dX7_readsTrick_69 : decode cX7_readsTrick 69 = .ok (.aload_n 0, 1) := by decide +kernel
theorem dX7_readsTrick_70 : decode cX7_readsTrick 70 = .ok (.dup, 1) := by decide +kernel
theorem dX7_readsTrick_71 : decode cX7_readsTrick 71 = .ok (.getfield 122, 3) := by decide +kernel
theorem dX7_readsTrick_74 : decode cX7_readsTrick 74 = .ok (.iload_n 1, 1) := by decide +kernel
theorem dX7_readsTrick_75 : decode cX7_readsTrick 75 = .ok (.ifCond .ne 7, 3) := by decide +kernel
theorem dX7_readsTrick_78 : decode cX7_readsTrick 78 = .ok (.iconst 1, 1) := by decide +kernel
theorem dX7_readsTrick_79 : decode cX7_readsTrick 79 = .ok (.goto 4, 3) := by decide +kernel
theorem dX7_readsTrick_82 : decode cX7_readsTrick 82 = .ok (.iconst 0, 1) := by decide +kernel
theorem dX7_readsTrick_83 : decode cX7_readsTrick 83 = .ok (.iadd, 1) := by decide +kernel
theorem dX7_readsTrick_84 : decode cX7_readsTrick 84 = .ok (.putfield 122, 3) := by decide +kernel
theorem dX7_readsTrick_87 : decode cX7_readsTrick 87 = .ok (.iload_n 1, 1) := by decide +kernel
theorem dX7_readsTrick_88 : decode cX7_readsTrick 88 = .ok (.ireturn, 1) := by decide +kernel
theorem dX7_readsThought_0 : decode cX7_readsThought 0 = .ok (.aload_n 0, 1) := by decide +kernel
theorem dX7_readsThought_1 : decode cX7_readsThought 1 = .ok (.aload_n 0, 1) := by decide +kernel
theorem dX7_readsThought_2 : decode cX7_readsThought 2 = .ok (.iconst 0, 1) := by decide +kernel
theorem dX7_readsThought_3 : decode cX7_readsThought 3 = .ok (.iconst 0, 1) := by decide +kernel
theorem dX7_readsThought_4 : decode cX7_readsThought 4 = .ok (.aload_n 0, 1) := by decide +kernel
theorem dX7_readsThought_5 : decode cX7_readsThought 5 = .ok (.getfield 102, 3) := by decide +kernel
theorem dX7_readsThought_8 : decode cX7_readsThought 8 = .ok (.iconst 1, 1) := by decide +kernel
theorem dX7_readsThought_9 : decode cX7_readsThought 9 = .ok (.isub, 1) := by decide +kernel
theorem dX7_readsThought_10 : decode cX7_readsThought 10 = .ok (.invokevirtual 94, 3) := by decide +kernel
theorem dX7_readsThought_13 : decode cX7_readsThought 13 = .ok (.iconst 1, 1) := by decide +kernel
theorem dX7_readsThought_14 : decode cX7_readsThought 14 = .ok (.iconst 0, 1) := by decide +kernel
theorem dX7_readsThought_15 : decode cX7_readsThought 15 = .ok (.aload_n 0, 1) := by decide +kernel
theorem dX7_readsThought_16 : decode cX7_readsThought 16 = .ok (.getfield 109, 3) := by decide +kernel
theorem dX7_readsThought_19 : decode cX7_readsThought 19 = .ok (.iconst 1, 1) := by decide +kernel
theorem dX7_readsThought_20 : decode cX7_readsThought 20 = .ok (.isub, 1) := by decide +kernel
theorem dX7_readsThought_21 : decode cX7_readsThought 21 = .ok (.invokevirtual 105, 3) := by decide +kernel
theorem dX7_readsThought_24 : decode cX7_readsThought 24 = .ok (.istore_n 1, 1) := by decide +kernel
theorem dX7_readsThought_25 : decode cX7_readsThought 25 = .ok (.iload_n 1, 1) := by decide +kernel
theorem dX7_readsThought_26 : decode cX7_readsThought 26 = .ok (.ifCond .ne 29, 3) := by decide +kernel
theorem dX7_readsThought_29 : decode cX7_readsThought 29 = .ok (.aload_n 0, 1) := by decide +kernel
theorem dX7_readsThought_30 : decode cX7_readsThought 30 = .ok (.getfield 54, 3) := by decide +kernel
theorem dX7_readsThought_33 : decode cX7_readsThought 33 = .ok (.iconst 5, 1) := by decide +kernel
theorem dX7_readsThought_34 : decode cX7_readsThought 34 = .ok (.aload_n 0, 1) := by decide +kernel
theorem dX7_readsThought_35 : decode cX7_readsThought 35 = .ok (.getfield 57, 3) := by decide +kernel
theorem dX7_readsThought_38 : decode cX7_readsThought 38 = .ok (.iconst 0, 1) := by decide +kernel
theorem dX7_readsThought_39 : decode cX7_readsThought 39 = .ok (.iaload, 1) := by decide +kernel
theorem dX7_readsThought_40 : decode cX7_readsThought 40 = .ok (.imul, 1) := by decide +kernel
theorem dX7_readsThought_41 : decode cX7_readsThought 41 = .ok (.aload_n 0, 1) := by decide +kernel
theorem dX7_readsThought_42 : decode cX7_readsThought 42 = .ok (.getfield 57, 3) := by decide +kernel
theorem dX7_readsThought_45 : decode cX7_readsThought 45 = .ok (.iconst 1, 1) := by decide +kernel
theorem dX7_readsThought_46 : decode cX7_readsThought 46 = .ok (.iaload, 1) := by decide +kernel
theorem dX7_readsThought_47 : decode cX7_readsThought 47 = .ok (.iadd, 1) := by decide +kernel
theorem dX7_readsThought_48 : decode cX7_readsThought 48 = .ok (.iaload, 1) := by decide +kernel
theorem dX7_readsThought_49 : decode cX7_readsThought 49 = .ok (.iconst (-1), 1) := by decide +kernel
theorem dX7_readsThought_50 : decode cX7_readsThought 50 = .ok (.if_icmp .eq 5, 3) := by decide +kernel
theorem dX7_readsThought_53 : decode cX7_readsThought 53 = .ok (.iconst 4, 1) := by decide +kernel
theorem dX7_readsThought_54 : decode cX7_readsThought 54 = .ok (.ireturn, 1) := by decide +kernel
theorem dX7_readsThought_55 : decode cX7_readsThought 55 = .ok (.aload_n 0, 1) := by decide +kernel
theorem dX7_readsThought_56 : decode cX7_readsThought 56 = .ok (.aload_n 0, 1) := by decide +kernel
theorem dX7_readsThought_57 : decode cX7_readsThought 57 = .ok (.iload_n 1, 1) := by decide +kernel
theorem dX7_readsThought_58 : decode cX7_readsThought 58 = .ok (.iconst 2, 1) := by decide +kernel
theorem dX7_readsThought_59 : decode cX7_readsThought 59 = .ok (.iconst 0, 1) := by decide +kernel
theorem dX7_readsThought_60 : decode cX7_readsThought 60 = .ok (.bipush 99, 2) := by decide +kernel
theorem dX7_readsThought_62 : decode cX7_readsThought 62 = .ok (.invokevirtual 105, 3) := by decide +kernel
theorem dX7_readsThought_65 : decode cX7_readsThought 65 = .ok (.invokevirtual 98, 3) := by decide +kernel
theorem dX7_readsThought_68 : decode cX7_readsThought 68 = .ok (.istore_n 1, 1) := by decide +kernel
theorem dX7_readsThought_69 : decode cX7_readsThought 69 = .ok (.iload_n 1, 1) := by decide +kernel
theorem dX7_readsThought_70 : decode cX7_readsThought 70 = .ok (.ifCond .ne 29, 3) := by decide +kernel
theorem dX7_readsThought_73 : decode cX7_readsThought 73 = .ok (.aload_n 0, 1) := by decide +kernel
theorem dX7_readsThought_74 : decode cX7_readsThought 74 = .ok (.getfield 54, 3) := by decide +kernel
theorem dX7_readsThought_77 : decode cX7_readsThought 77 = .ok (.iconst 5, 1) := by decide +kernel
theorem dX7_readsThought_78 : decode cX7_readsThought 78 = .ok (.aload_n 0, 1) := by decide +kernel
theorem dX7_readsThought_79 : decode cX7_readsThought 79 = .ok (.getfield 57, 3) := by decide +kernel
theorem dX7_readsThought_82 : decode cX7_readsThought 82 = .ok (.iconst 0, 1) := by decide +kernel
theorem dX7_readsThought_83 : decode cX7_readsThought 83 = .ok (.iaload, 1) := by decide +kernel
theorem dX7_readsThought_84 : decode cX7_readsThought 84 = .ok (.imul, 1) := by decide +kernel
theorem dX7_readsThought_85 : decode cX7_readsThought 85 = .ok (.aload_n 0, 1) := by decide +kernel
theorem dX7_readsThought_86 : decode cX7_readsThought 86 = .ok (.getfield 57, 3) := by decide +kernel
theorem dX7_readsThought_89 : decode cX7_readsThought 89 = .ok (.iconst 1, 1) := by decide +kernel
theorem dX7_readsThought_90 : decode cX7_readsThought 90 = .ok (.iaload, 1) := by decide +kernel
theorem dX7_readsThought_91 : decode cX7_readsThought 91 = .ok (.iadd, 1) := by decide +kernel
theorem dX7_readsThought_92 : decode cX7_readsThought 92 = .ok (.aload_n 0, 1) := by decide +kernel
theorem dX7_readsThought_93 : decode cX7_readsThought 93 = .ok (.getfield 57, 3) := by decide +kernel
theorem dX7_readsThought_96 : decode cX7_readsThought 96 = .ok (.iconst 2, 1) := by decide +kernel
theorem dX7_readsThought_97 : decode cX7_readsThought 97 = .ok (.iaload, 1) := by decide +kernel
theorem dX7_readsThought_98 : decode cX7_readsThought 98 = .ok (.iastore, 1) := by decide +kernel
theorem dX7_readsThought_99 : decode cX7_readsThought 99 = .ok (.iload_n 1, 1) := by decide +kernel
theorem dX7_readsThought_100 : decode cX7_readsThought 100 = .ok (.ireturn, 1) := by decide +kernel
theorem dX7_clause_0 : decode cX7_clause 0 = .ok (.aload_n 0, 1) := by decide +kernel
theorem dX7_clause_1 : decode cX7_clause 1 = .ok (.getfield 17, 3) := by decide +kernel
theorem dX7_clause_4 : decode cX7_clause 4 = .ok (.aload_n 0, 1) := by decide +kernel
theorem dX7_clause_5 : decode cX7_clause 5 = .ok (.getfield 81, 3) := by decide +kernel
theorem dX7_clause_8 : decode cX7_clause 8 = .ok (.iaload, 1) := by decide +kernel
theorem dX7_clause_9 : decode cX7_clause 9 = .ok (.istore_n 1, 1) := by decide +kernel
theorem dX7_clause_10 : decode cX7_clause 10 = .ok (.aload_n 0, 1) := by decide +kernel
theorem dX7_clause_11 : decode cX7_clause 11 = .ok (.aload_n 0, 1) := by decide +kernel
theorem dX7_clause_12 : decode cX7_clause 12 = .ok (.getfield 81, 3) := by decide +kernel
theorem dX7_clause_15 : decode cX7_clause 15 = .ok (.putfield 84, 3) := by decide +kernel
theorem dX7_clause_18 : decode cX7_clause 18 = .ok (.aload_n 0, 1) := by decide +kernel
theorem dX7_clause_19 : decode cX7_clause 19 = .ok (.getfield 102, 3) := by decide +kernel
theorem dX7_clause_22 : decode cX7_clause 22 = .ok (.ifCond .ne 7, 3) := by decide +kernel
theorem dX7_clause_25 : decode cX7_clause 25 = .ok (.iconst 1, 1) := by decide +kernel
theorem dX7_clause_26 : decode cX7_clause 26 = .ok (.goto 4, 3) := by decide +kernel
theorem dX7_clause_29 : decode cX7_clause 29 = .ok (.iconst 0, 1) := by decide +kernel
theorem dX7_clause_30 : decode cX7_clause 30 = .ok (.istore_n 2, 1) := by decide +kernel
theorem dX7_clause_31 : decode cX7_clause 31 = .ok (.iload_n 1, 1) := by decide +kernel
theorem dX7_clause_32 : decode cX7_clause 32 = .ok (.bipush 112, 2) := by decide +kernel
theorem dX7_clause_34 : decode cX7_clause 34 = .ok (.if_icmp .eq 33, 3) := by decide +kernel
theorem dX7_clause_37 : decode cX7_clause 37 = .ok (.iload_n 1, 1) := by decide +kernel
theorem dX7_clause_38 : decode cX7_clause 38 = .ok (.bipush 102, 2) := by decide +kernel
theorem dX7_clause_40 : decode cX7_clause 40 = .ok (.if_icmp .eq 27, 3) := by decide +kernel
theorem dX7_clause_43 : decode cX7_clause 43 = .ok (.iload_n 1, 1) := by decide +kernel
theorem dX7_clause_44 : decode cX7_clause 44 = .ok (.bipush 99, 2) := by decide +kernel
theorem dX7_clause_46 : decode cX7_clause 46 = .ok (.if_icmp .eq 21, 3) := by decide +kernel
theorem dX7_clause_49 : decode cX7_clause 49 = .ok (.iload_n 1, 1) := by decide +kernel
theorem dX7_clause_50 : decode cX7_clause 50 = .ok (.bipush 116, 2) := by decide +kernel
theorem dX7_clause_52 : decode cX7_clause 52 = .ok (.if_icmp .eq 15, 3) := by decide +kernel
theorem dX7_clause_55 : decode cX7_clause 55 = .ok (.iload_n 1, 1) := by decide +kernel
theorem dX7_clause_56 : decode cX7_clause 56 = .ok (.bipush 114, 2) := by decide +kernel
theorem dX7_clause_58 : decode cX7_clause 58 = .ok (.if_icmp .eq 9, 3) := by decide +kernel
theorem dX7_clause_61 : decode cX7_clause 61 = .ok (.iload_n 1, 1) := by decide +kernel
theorem dX7_clause_62 : decode cX7_clause 62 = .ok (.bipush 101, 2) := by decide +kernel
theorem dX7_clause_64 : decode cX7_clause 64 = .ok (.if_icmp .ne 7, 3) := by decide +kernel
theorem dX7_clause_67 : decode cX7_clause 67 = .ok (.iconst 1, 1) := by decide +kernel
theorem dX7_clause_68 : decode cX7_clause 68 = .ok (.goto 4, 3) := by decide +kernel
theorem dX7_clause_71 : decode cX7_clause 71 = .ok (.iconst 0, 1) := by decide +kernel
theorem dX7_clause_72 : decode cX7_clause 72 = .ok (.istore_n 3, 1) := by decide +kernel
theorem dX7_clause_73 : decode cX7_clause 73 = .ok (.iload_n 3, 1) := by decide +kernel
theorem dX7_clause_74 : decode cX7_clause 74 = .ok (.ifCond .eq 18, 3) := by decide +kernel
theorem dX7_clause_77 : decode cX7_clause 77 = .ok (.iload_n 2, 1) := by decide +kernel
theorem dX7_clause_78 : decode cX7_clause 78 = .ok (.iload_n 1, 1) := by decide +kernel
theorem dX7_clause_79 : decode cX7_clause 79 = .ok (.bipush 112, 2) := by decide +kernel
theorem dX7_clause_81 : decode cX7_clause 81 = .ok (.if_icmp .ne 7, 3) := by decide +kernel
theorem dX7_clause_84 : decode cX7_clause 84 = .ok (.iconst 1, 1) := by decide +kernel
theorem dX7_clause_85 : decode cX7_clause 85 = .ok (.goto 4, 3) := by decide +kernel
theorem dX7_clause_88 : decode cX7_clause 88 = .ok (.iconst 0, 1) := by decide +kernel
theorem dX7_clause_89 : decode cX7_clause 89 = .ok (.if_icmp .eq 17, 3) := by decide +kernel
theorem dX7_clause_92 : decode cX7_clause 92 = .ok (.iload_n 3, 1) := by decide +kernel
theorem dX7_clause_93 : decode cX7_clause 93 = .ok (.ifCond .eq 11, 3) := by decide +kernel
theorem dX7_clause_96 : decode cX7_clause 96 = .ok (.iload_n 2, 1) := by decide +kernel
theorem dX7_clause_97 : decode cX7_clause 97 = .ok (.ifCond .ne 7, 3) := by decide +kernel
theorem dX7_clause_100 : decode cX7_clause 100 = .ok (.iconst 3, 1) := by decide +kernel
theorem dX7_clause_101 : decode cX7_clause 101 = .ok (.goto 4, 3) := by decide +kernel
theorem dX7_clause_104 : decode cX7_clause 104 = .ok (.iconst 1, 1) := by decide +kernel
theorem dX7_clause_105 : decode cX7_clause 105 = .ok (.ireturn, 1) := by decide +kernel
theorem dX7_clause_106 : decode cX7_clause 106 = .ok (.iload_n 1, 1) := by decide +kernel
theorem dX7_clause_107 : decode cX7_clause 107 = .ok (.bipush 102, 2) := by decide +kernel
theorem dX7_clause_109 : decode cX7_clause 109 = .ok (.if_icmp .ne 11, 3) := by decide +kernel
theorem dX7_clause_112 : decode cX7_clause 112 = .ok (.aload_n 0, 1) := by decide +kernel
theorem dX7_clause_113 : decode cX7_clause 113 = .ok (.getfield 109, 3) := by decide +kernel
theorem dX7_clause_116 : decode cX7_clause 116 = .ok (.iconst 5, 1) := by decide +kernel
theorem dX7_clause_117 : decode cX7_clause 117 = .ok (.if_icmp .eq 47, 3) := by decide +kernel
theorem dX7_clause_120 : decode cX7_clause 120 = .ok (.iload_n 1, 1) := by decide +kernel
theorem dX7_clause_121 : decode cX7_clause 121 = .ok (.bipush 99, 2) := by decide +kernel
theorem dX7_clause_123 : decode cX7_clause 123 = .ok (.if_icmp .ne 12, 3) := by decide +kernel
theorem dX7_clause_126 : decode cX7_clause 126 = .ok (.aload_n 0, 1) := by decide +kernel
theorem dX7_clause_127 : decode cX7_clause 127 = .ok (.getfield 116, 3) := by decide +kernel
theorem dX7_clause_130 : decode cX7_clause 130 = .ok (.bipush 10, 2) := by decide +kernel
theorem dX7_clause_132 : decode cX7_clause 132 = .ok (.if_icmp .eq 32, 3) := by decide +kernel
theorem dX7_clause_135 : decode cX7_clause 135 = .ok (.iload_n 1, 1) := by decide +kernel
theorem dX7_clause_136 : decode cX7_clause 136 = .ok (.bipush 116, 2) := by decide +kernel
theorem dX7_clause_138 : decode cX7_clause 138 = .ok (.if_icmp .ne 12, 3) := by decide +kernel
theorem dX7_clause_141 : decode cX7_clause 141 = .ok (.aload_n 0, 1) := by decide +kernel
theorem dX7_clause_142 : decode cX7_clause 142 = .ok (.getfield 119, 3) := by decide +kernel
theorem dX7_clause_145 : decode cX7_clause 145 = .ok (.bipush 6, 2) := by decide +kernel
theorem dX7_clause_147 : decode cX7_clause 147 = .ok (.if_icmp .eq 17, 3) := by decide +kernel
theorem dX7_clause_150 : decode cX7_clause 150 = .ok (.iload_n 1, 1) := by decide +kernel
theorem dX7_clause_151 : decode cX7_clause 151 = .ok (.bipush 114, 2) := by decide +kernel
theorem dX7_clause_153 : decode cX7_clause 153 = .ok (.if_icmp .ne 13, 3) := by decide +kernel
theorem dX7_clause_156 : decode cX7_clause 156 = .ok (.aload_n 0, 1) := by decide +kernel
theorem dX7_clause_157 : decode cX7_clause 157 = .ok (.getfield 122, 3) := by decide +kernel
theorem dX7_clause_160 : decode cX7_clause 160 = .ok (.iconst 4, 1) := by decide +kernel
theorem dX7_clause_161 : decode cX7_clause 161 = .ok (.if_icmp .ne 5, 3) := by decide +kernel
theorem dX7_clause_164 : decode cX7_clause 164 = .ok (.iconst 3, 1) := by decide +kernel
theorem dX7_clause_165 : decode cX7_clause 165 = .ok (.ireturn, 1) := by decide +kernel
theorem dX7_clause_166 : decode cX7_clause 166 = .ok (.aload_n 0, 1) := by decide +kernel
theorem dX7_clause_167 : decode cX7_clause 167 = .ok (.dup, 1) := by decide +kernel
theorem dX7_clause_168 : decode cX7_clause 168 = .ok (.getfield 81, 3) := by decide +kernel
theorem dX7_clause_171 : decode cX7_clause 171 = .ok (.iconst 1, 1) := by decide +kernel
theorem dX7_clause_172 : decode cX7_clause 172 = .ok (.iadd, 1) := by decide +kernel
theorem dX7_clause_173 : decode cX7_clause 173 = .ok (.putfield 81, 3) := by decide +kernel
theorem dX7_clause_176 : decode cX7_clause 176 = .ok (.iload_n 1, 1) := by decide +kernel
theorem dX7_clause_177 : decode cX7_clause 177 = .ok (.lookupswitch 76 #[(99, 61), (102, 56), (112, 51), (114, 71), (116, 66)], 51) := by decide +kernel
theorem dX7_clause_228 : decode cX7_clause 228 = .ok (.aload_n 0, 1) := by decide +kernel
theorem dX7_clause_229 : decode cX7_clause 229 = .ok (.invokevirtual 125, 3) := by decide +kernel
theorem dX7_clause_232 : decode cX7_clause 232 = .ok (.ireturn, 1) := by decide +kernel
theorem dX7_clause_233 : decode cX7_clause 233 = .ok (.aload_n 0, 1) := by decide +kernel
theorem dX7_clause_234 : decode cX7_clause 234 = .ok (.invokevirtual 129, 3) := by decide +kernel
theorem dX7_clause_237 : decode cX7_clause 237 = .ok (.ireturn, 1) := by decide +kernel
theorem dX7_clause_238 : decode cX7_clause 238 = .ok (.aload_n 0, 1) := by decide +kernel
theorem dX7_clause_239 : decode cX7_clause 239 = .ok (.invokevirtual 132, 3) := by decide +kernel
theorem dX7_clause_242 : decode cX7_clause 242 = .ok (.ireturn, 1) := by decide +kernel
theorem dX7_clause_243 : decode cX7_clause 243 = .ok (.aload_n 0, 1) := by decide +kernel
theorem dX7_clause_244 : decode cX7_clause 244 = .ok (.invokevirtual 135, 3) := by decide +kernel
theorem dX7_clause_247 : decode cX7_clause 247 = .ok (.ireturn, 1) := by decide +kernel
theorem dX7_clause_248 : decode cX7_clause 248 = .ok (.aload_n 0, 1) := by decide +kernel
theorem dX7_clause_249 : decode cX7_clause 249 = .ok (.invokevirtual 138, 3) := by decide +kernel
theorem dX7_clause_252 : decode cX7_clause 252 = .ok (.ireturn, 1) := by decide +kernel
theorem dX7_clause_253 : decode cX7_clause 253 = .ok (.aload_n 0, 1) := by decide +kernel
theorem dX7_clause_254 : decode cX7_clause 254 = .ok (.invokevirtual 141, 3) := by decide +kernel
theorem dX7_clause_257 : decode cX7_clause 257 = .ok (.ireturn, 1) := by decide +kernel
theorem dX7_faultOf_0 : decode cX7_faultOf 0 = .ok (.aload_n 0, 1) := by decide +kernel
theorem dX7_faultOf_1 : decode cX7_faultOf 1 = .ok (.iconst 0, 1) := by decide +kernel
theorem dX7_faultOf_2 : decode cX7_faultOf 2 = .ok (.putfield 81, 3) := by decide +kernel
theorem dX7_faultOf_5 : decode cX7_faultOf 5 = .ok (.aload_n 0, 1) := by decide +kernel
theorem dX7_faultOf_6 : decode cX7_faultOf 6 = .ok (.iconst 0, 1) := by decide +kernel
theorem dX7_faultOf_7 : decode cX7_faultOf 7 = .ok (.putfield 102, 3) := by decide +kernel
theorem dX7_faultOf_10 : decode cX7_faultOf 10 = .ok (.aload_n 0, 1) := by decide +kernel
theorem dX7_faultOf_11 : decode cX7_faultOf 11 = .ok (.iconst 0, 1) := by decide +kernel
theorem dX7_faultOf_12 : decode cX7_faultOf 12 = .ok (.putfield 109, 3) := by decide +kernel
theorem dX7_faultOf_15 : decode cX7_faultOf 15 = .ok (.aload_n 0, 1) := by decide +kernel
theorem dX7_faultOf_16 : decode cX7_faultOf 16 = .ok (.iconst 0, 1) := by decide +kernel
theorem dX7_faultOf_17 : decode cX7_faultOf 17 = .ok (.putfield 116, 3) := by decide +kernel
theorem dX7_faultOf_20 : decode cX7_faultOf 20 = .ok (.aload_n 0, 1) := by decide +kernel
theorem dX7_faultOf_21 : decode cX7_faultOf 21 = .ok (.iconst 0, 1) := by decide +kernel
theorem dX7_faultOf_22 : decode cX7_faultOf 22 = .ok (.putfield 119, 3) := by decide +kernel
theorem dX7_faultOf_25 : decode cX7_faultOf 25 = .ok (.aload_n 0, 1) := by decide +kernel
theorem dX7_faultOf_26 : decode cX7_faultOf 26 = .ok (.iconst 0, 1) := by decide +kernel
theorem dX7_faultOf_27 : decode cX7_faultOf 27 = .ok (.putfield 122, 3) := by decide +kernel
theorem dX7_faultOf_30 : decode cX7_faultOf 30 = .ok (.iconst 0, 1) := by decide +kernel
theorem dX7_faultOf_31 : decode cX7_faultOf 31 = .ok (.istore_n 1, 1) := by decide +kernel
theorem dX7_faultOf_32 : decode cX7_faultOf 32 = .ok (.iload_n 1, 1) := by decide +kernel
theorem dX7_faultOf_33 : decode cX7_faultOf 33 = .ok (.bipush 6, 2) := by decide +kernel
theorem dX7_faultOf_35 : decode cX7_faultOf 35 = .ok (.if_icmp .ge 16, 3) := by decide +kernel
theorem dX7_faultOf_38 : decode cX7_faultOf 38 = .ok (.aload_n 0, 1) := by decide +kernel
theorem dX7_faultOf_39 : decode cX7_faultOf 39 = .ok (.getfield 45, 3) := by decide +kernel
theorem dX7_faultOf_42 : decode cX7_faultOf 42 = .ok (.iload_n 1, 1) := by decide +kernel
theorem dX7_faultOf_43 : decode cX7_faultOf 43 = .ok (.iconst 0, 1) := by decide +kernel
theorem dX7_faultOf_44 : decode cX7_faultOf 44 = .ok (.iastore, 1) := by decide +kernel
theorem dX7_faultOf_45 : decode cX7_faultOf 45 = .ok (.iinc 1 1, 3) := by decide +kernel
theorem dX7_faultOf_48 : decode cX7_faultOf 48 = .ok (.goto (-16), 3) := by decide +kernel
theorem dX7_faultOf_51 : decode cX7_faultOf 51 = .ok (.iconst 0, 1) := by decide +kernel
theorem dX7_faultOf_52 : decode cX7_faultOf 52 = .ok (.istore_n 1, 1) := by decide +kernel
theorem dX7_faultOf_53 : decode cX7_faultOf 53 = .ok (.iload_n 1, 1) := by decide +kernel
theorem dX7_faultOf_54 : decode cX7_faultOf 54 = .ok (.bipush 30, 2) := by decide +kernel
theorem dX7_faultOf_56 : decode cX7_faultOf 56 = .ok (.if_icmp .ge 16, 3) := by decide +kernel
theorem dX7_faultOf_59 : decode cX7_faultOf 59 = .ok (.aload_n 0, 1) := by decide +kernel
theorem dX7_faultOf_60 : decode cX7_faultOf 60 = .ok (.getfield 54, 3) := by decide +kernel
theorem dX7_faultOf_63 : decode cX7_faultOf 63 = .ok (.iload_n 1, 1) := by decide +kernel
theorem dX7_faultOf_64 : decode cX7_faultOf 64 = .ok (.iconst (-1), 1) := by decide +kernel
theorem dX7_faultOf_65 : decode cX7_faultOf 65 = .ok (.iastore, 1) := by decide +kernel
theorem dX7_faultOf_66 : decode cX7_faultOf 66 = .ok (.iinc 1 1, 3) := by decide +kernel
theorem dX7_faultOf_69 : decode cX7_faultOf 69 = .ok (.goto (-16), 3) := by decide +kernel
theorem dX7_faultOf_72 : decode cX7_faultOf 72 = .ok (.aload_n 0, 1) := by decide +kernel
theorem dX7_faultOf_73 : decode cX7_faultOf 73 = .ok (.invokevirtual 87, 3) := by decide +kernel
theorem dX7_faultOf_76 : decode cX7_faultOf 76 = .ok (.iconst 0, 1) := by decide +kernel
theorem dX7_faultOf_77 : decode cX7_faultOf 77 = .ok (.istore_n 1, 1) := by decide +kernel
theorem dX7_faultOf_78 : decode cX7_faultOf 78 = .ok (.iload_n 1, 1) := by decide +kernel
theorem dX7_faultOf_79 : decode cX7_faultOf 79 = .ok (.ifCond .ne 30, 3) := by decide +kernel
theorem dX7_faultOf_82 : decode cX7_faultOf 82 = .ok (.aload_n 0, 1) := by decide +kernel
theorem dX7_faultOf_83 : decode cX7_faultOf 83 = .ok (.getfield 81, 3) := by decide +kernel
theorem dX7_faultOf_86 : decode cX7_faultOf 86 = .ok (.aload_n 0, 1) := by decide +kernel
theorem dX7_faultOf_87 : decode cX7_faultOf 87 = .ok (.getfield 73, 3) := by decide +kernel
theorem dX7_faultOf_90 : decode cX7_faultOf 90 = .ok (.if_icmp .ge 19, 3) := by decide +kernel
theorem dX7_faultOf_93 : decode cX7_faultOf 93 = .ok (.aload_n 0, 1) := by decide +kernel
theorem dX7_faultOf_94 : decode cX7_faultOf 94 = .ok (.invokevirtual 144, 3) := by decide +kernel
theorem dX7_faultOf_97 : decode cX7_faultOf 97 = .ok (.istore_n 1, 1) := by decide +kernel
theorem dX7_faultOf_98 : decode cX7_faultOf 98 = .ok (.iload_n 1, 1) := by decide +kernel
theorem dX7_faultOf_99 : decode cX7_faultOf 99 = .ok (.ifCond .ne (-21), 3) := by decide +kernel
theorem dX7_faultOf_102 : decode cX7_faultOf 102 = .ok (.aload_n 0, 1) := by decide +kernel
theorem dX7_faultOf_103 : decode cX7_faultOf 103 = .ok (.invokevirtual 87, 3) := by decide +kernel
theorem dX7_faultOf_106 : decode cX7_faultOf 106 = .ok (.goto (-28), 3) := by decide +kernel
theorem dX7_faultOf_109 : decode cX7_faultOf 109 = .ok (.iload_n 1, 1) := by decide +kernel
theorem dX7_faultOf_110 : decode cX7_faultOf 110 = .ok (.ireturn, 1) := by decide +kernel
theorem dX7_land_0 : decode cX7_land 0 = .ok (.aload_n 0, 1) := by decide +kernel
theorem dX7_land_1 : decode cX7_land 1 = .ok (.invokevirtual 147, 3) := by decide +kernel
theorem dX7_land_4 : decode cX7_land 4 = .ok (.istore_n 1, 1) := by decide +kernel
theorem dX7_land_5 : decode cX7_land 5 = .ok (.aload_n 0, 1) := by decide +kernel
theorem dX7_land_6 : decode cX7_land 6 = .ok (.iconst 0, 1) := by decide +kernel
theorem dX7_land_7 : decode cX7_land 7 = .ok (.putfield 73, 3) := by decide +kernel
theorem dX7_land_10 : decode cX7_land 10 = .ok (.aload_n 0, 1) := by decide +kernel
theorem dX7_land_11 : decode cX7_land 11 = .ok (.iload_n 1, 1) := by decide +kernel
theorem dX7_land_12 : decode cX7_land 12 = .ok (.ifCond .ne 7, 3) := by decide +kernel
theorem dX7_land_15 : decode cX7_land 15 = .ok (.iconst (-1), 1) := by decide +kernel
theorem dX7_land_16 : decode cX7_land 16 = .ok (.goto 7, 3) := by decide +kernel
theorem dX7_land_19 : decode cX7_land 19 = .ok (.aload_n 0, 1) := by decide +kernel
theorem dX7_land_20 : decode cX7_land 20 = .ok (.getfield 84, 3) := by decide +kernel
theorem dX7_land_23 : decode cX7_land 23 = .ok (.putfield 20, 3) := by decide +kernel
theorem dX7_land_26 : decode cX7_land 26 = .ok (.iload_n 1, 1) := by decide +kernel
theorem dX7_land_27 : decode cX7_land 27 = .ok (.ifCond .eq 8, 3) := by decide +kernel
theorem dX7_land_30 : decode cX7_land 30 = .ok (.bipush (-10), 2) := by decide +kernel
theorem dX7_land_32 : decode cX7_land 32 = .ok (.iload_n 1, 1) := by decide +kernel
theorem dX7_land_33 : decode cX7_land 33 = .ok (.isub, 1) := by decide +kernel
theorem dX7_land_34 : decode cX7_land 34 = .ok (.ireturn, 1) := by decide +kernel
theorem dX7_land_35 : decode cX7_land 35 = .ok (.aload_n 0, 1) := by decide +kernel
theorem dX7_land_36 : decode cX7_land 36 = .ok (.aload_n 0, 1) := by decide +kernel
theorem dX7_land_37 : decode cX7_land 37 = .ok (.getfield 102, 3) := by decide +kernel
theorem dX7_land_40 : decode cX7_land 40 = .ok (.putfield 150, 3) := by decide +kernel
theorem dX7_land_43 : decode cX7_land 43 = .ok (.aload_n 0, 1) := by decide +kernel
theorem dX7_land_44 : decode cX7_land 44 = .ok (.aload_n 0, 1) := by decide +kernel
theorem dX7_land_45 : decode cX7_land 45 = .ok (.getfield 109, 3) := by decide +kernel
theorem dX7_land_48 : decode cX7_land 48 = .ok (.putfield 153, 3) := by decide +kernel
theorem dX7_land_51 : decode cX7_land 51 = .ok (.aload_n 0, 1) := by decide +kernel
theorem dX7_land_52 : decode cX7_land 52 = .ok (.aload_n 0, 1) := by decide +kernel
theorem dX7_land_53 : decode cX7_land 53 = .ok (.getfield 116, 3) := by decide +kernel
theorem dX7_land_56 : decode cX7_land 56 = .ok (.putfield 156, 3) := by decide +kernel
theorem dX7_land_59 : decode cX7_land 59 = .ok (.aload_n 0, 1) := by decide +kernel
theorem dX7_land_60 : decode cX7_land 60 = .ok (.aload_n 0, 1) := by decide +kernel
theorem dX7_land_61 : decode cX7_land 61 = .ok (.getfield 119, 3) := by decide +kernel
theorem dX7_land_64 : decode cX7_land 64 = .ok (.putfield 159, 3) := by decide +kernel
theorem dX7_land_67 : decode cX7_land 67 = .ok (.aload_n 0, 1) := by decide +kernel
theorem dX7_land_68 : decode cX7_land 68 = .ok (.aload_n 0, 1) := by decide +kernel
theorem dX7_land_69 : decode cX7_land 69 = .ok (.getfield 122, 3) := by decide +kernel
theorem dX7_land_72 : decode cX7_land 72 = .ok (.putfield 162, 3) := by decide +kernel
theorem dX7_land_75 : decode cX7_land 75 = .ok (.iconst 0, 1) := by decide +kernel
theorem dX7_land_76 : decode cX7_land 76 = .ok (.istore_n 2, 1) := by decide +kernel
theorem dX7_land_77 : decode cX7_land 77 = .ok (.iload_n 2, 1) := by decide +kernel
theorem dX7_land_78 : decode cX7_land 78 = .ok (.bipush 24, 2) := by decide +kernel
theorem dX7_land_80 : decode cX7_land 80 = .ok (.if_icmp .ge 21, 3) := by decide +kernel
theorem dX7_land_83 : decode cX7_land 83 = .ok (.aload_n 0, 1) := by decide +kernel
theorem dX7_land_84 : decode cX7_land 84 = .ok (.getfield 33, 3) := by decide +kernel
theorem dX7_land_87 : decode cX7_land 87 = .ok (.iload_n 2, 1) := by decide +kernel
theorem dX7_land_88 : decode cX7_land 88 = .ok (.aload_n 0, 1) := by decide +kernel
theorem dX7_land_89 : decode cX7_land 89 = .ok (.getfield 48, 3) := by decide +kernel
theorem dX7_land_92 : decode cX7_land 92 = .ok (.iload_n 2, 1) := by decide +kernel
theorem dX7_land_93 : decode cX7_land 93 = .ok (.iaload, 1) := by decide +kernel
theorem dX7_land_94 : decode cX7_land 94 = .ok (.iastore, 1) := by decide +kernel
theorem dX7_land_95 : decode cX7_land 95 = .ok (.iinc 2 1, 3) := by decide +kernel
theorem dX7_land_98 : decode cX7_land 98 = .ok (.goto (-21), 3) := by decide +kernel
theorem dX7_land_101 : decode cX7_land 101 = .ok (.iconst 0, 1) := by decide +kernel
theorem dX7_land_102 : decode cX7_land 102 = .ok (.istore_n 2, 1) := by decide +kernel
theorem dX7_land_103 : decode cX7_land 103 = .ok (.iload_n 2, 1) := by decide +kernel
theorem dX7_land_104 : decode cX7_land 104 = .ok (.bipush 12, 2) := by decide +kernel
theorem dX7_land_106 : decode cX7_land 106 = .ok (.if_icmp .ge 21, 3) := by decide +kernel
theorem dX7_land_109 : decode cX7_land 109 = .ok (.aload_n 0, 1) := by decide +kernel
theorem dX7_land_110 : decode cX7_land 110 = .ok (.getfield 36, 3) := by decide +kernel
theorem dX7_land_113 : decode cX7_land 113 = .ok (.iload_n 2, 1) := by decide +kernel
theorem dX7_land_114 : decode cX7_land 114 = .ok (.aload_n 0, 1) := by decide +kernel
theorem dX7_land_115 : decode cX7_land 115 = .ok (.getfield 51, 3) := by decide +kernel
theorem dX7_land_118 : decode cX7_land 118 = .ok (.iload_n 2, 1) := by decide +kernel
theorem dX7_land_119 : decode cX7_land 119 = .ok (.iaload, 1) := by decide +kernel
theorem dX7_land_120 : decode cX7_land 120 = .ok (.iastore, 1) := by decide +kernel
theorem dX7_land_121 : decode cX7_land 121 = .ok (.iinc 2 1, 3) := by decide +kernel
theorem dX7_land_124 : decode cX7_land 124 = .ok (.goto (-21), 3) := by decide +kernel
theorem dX7_land_127 : decode cX7_land 127 = .ok (.iconst 0, 1) := by decide +kernel
theorem dX7_land_128 : decode cX7_land 128 = .ok (.istore_n 2, 1) := by decide +kernel
theorem dX7_land_129 : decode cX7_land 129 = .ok (.iload_n 2, 1) := by decide +kernel
theorem dX7_land_130 : decode cX7_land 130 = .ok (.bipush 6, 2) := by decide +kernel
theorem dX7_land_132 : decode cX7_land 132 = .ok (.if_icmp .ge 21, 3) := by decide +kernel
theorem dX7_land_135 : decode cX7_land 135 = .ok (.aload_n 0, 1) := by decide +kernel
theorem dX7_land_136 : decode cX7_land 136 = .ok (.getfield 30, 3) := by decide +kernel
theorem dX7_land_139 : decode cX7_land 139 = .ok (.iload_n 2, 1) := by decide +kernel
theorem dX7_land_140 : decode cX7_land 140 = .ok (.aload_n 0, 1) := by decide +kernel
theorem dX7_land_141 : decode cX7_land 141 = .ok (.getfield 45, 3) := by decide +kernel
theorem dX7_land_144 : decode cX7_land 144 = .ok (.iload_n 2, 1) := by decide +kernel
theorem dX7_land_145 : decode cX7_land 145 = .ok (.iaload, 1) := by decide +kernel
theorem dX7_land_146 : decode cX7_land 146 = .ok (.iastore, 1) := by decide +kernel
theorem dX7_land_147 : decode cX7_land 147 = .ok (.iinc 2 1, 3) := by decide +kernel
theorem dX7_land_150 : decode cX7_land 150 = .ok (.goto (-21), 3) := by decide +kernel
theorem dX7_land_153 : decode cX7_land 153 = .ok (.aload_n 0, 1) := by decide +kernel
theorem dX7_land_154 : decode cX7_land 154 = .ok (.getfield 7, 3) := by decide +kernel
theorem dX7_land_157 : decode cX7_land 157 = .ok (.bipush 46, 2) := by decide +kernel
theorem dX7_land_159 : decode cX7_land 159 = .ok (.iaload, 1) := by decide +kernel
theorem dX7_land_160 : decode cX7_land 160 = .ok (.istore_n 2, 1) := by decide +kernel
theorem dX7_land_161 : decode cX7_land 161 = .ok (.iconst 0, 1) := by decide +kernel
theorem dX7_land_162 : decode cX7_land 162 = .ok (.istore_n 3, 1) := by decide +kernel
theorem dX7_land_163 : decode cX7_land 163 = .ok (.iload_n 3, 1) := by decide +kernel
theorem dX7_land_164 : decode cX7_land 164 = .ok (.bipush 47, 2) := by decide +kernel
theorem dX7_land_166 : decode cX7_land 166 = .ok (.if_icmp .ge 16, 3) := by decide +kernel
theorem dX7_land_169 : decode cX7_land 169 = .ok (.aload_n 0, 1) := by decide +kernel
theorem dX7_land_170 : decode cX7_land 170 = .ok (.getfield 7, 3) := by decide +kernel
theorem dX7_land_173 : decode cX7_land 173 = .ok (.iload_n 3, 1) := by decide +kernel
theorem dX7_land_174 : decode cX7_land 174 = .ok (.iconst 0, 1) := by decide +kernel
theorem dX7_land_175 : decode cX7_land 175 = .ok (.iastore, 1) := by decide +kernel
theorem dX7_land_176 : decode cX7_land 176 = .ok (.iinc 3 1, 3) := by decide +kernel
theorem dX7_land_179 : decode cX7_land 179 = .ok (.goto (-16), 3) := by decide +kernel
theorem dX7_land_182 : decode cX7_land 182 = .ok (.aload_n 0, 1) := by decide +kernel
theorem dX7_land_183 : decode cX7_land 183 = .ok (.getfield 7, 3) := by decide +kernel
theorem dX7_land_186 : decode cX7_land 186 = .ok (.bipush 46, 2) := by decide +kernel
theorem dX7_land_188 : decode cX7_land 188 = .ok (.iload_n 2, 1) := by decide +kernel
theorem dX7_land_189 : decode cX7_land 189 = .ok (.iastore, 1) := by decide +kernel
theorem dX7_land_190 : decode cX7_land 190 = .ok (.iconst 0, 1) := by decide +kernel
theorem dX7_land_191 : decode cX7_land 191 = .ok (.istore_n 3, 1) := by decide +kernel
theorem dX7_land_192 : decode cX7_land 192 = .ok (.iload_n 3, 1) := by decide +kernel
theorem dX7_land_193 : decode cX7_land 193 = .ok (.aload_n 0, 1) := by decide +kernel
theorem dX7_land_194 : decode cX7_land 194 = .ok (.getfield 153, 3) := by decide +kernel
theorem dX7_land_197 : decode cX7_land 197 = .ok (.if_icmp .ge 57, 3) := by decide +kernel
theorem dX7_land_200 : decode cX7_land 200 = .ok (.aload_n 0, 1) := by decide +kernel
theorem dX7_land_201 : decode cX7_land 201 = .ok (.getfield 24, 3) := by decide +kernel
theorem dX7_land_204 : decode cX7_land 204 = .ok (.iload_n 3, 1) := by decide +kernel
theorem dX7_land_205 : decode cX7_land 205 = .ok (.aload_n 0, 1) := by decide +kernel
theorem dX7_land_206 : decode cX7_land 206 = .ok (.getfield 42, 3) := by decide +kernel
theorem dX7_land_209 : decode cX7_land 209 = .ok (.iconst 3, 1) := by decide +kernel
theorem dX7_land_210 : decode cX7_land 210 = .ok (.iload_n 3, 1) := by decide +kernel
theorem dX7_land_211 : decode cX7_land 211 = .ok (.imul, 1) := by decide +kernel
theorem dX7_land_212 : decode cX7_land 212 = .ok (.iaload, 1) := by decide +kernel
theorem dX7_land_213 : decode cX7_land 213 = .ok (.iastore, 1) := by decide +kernel
theorem dX7_land_214 : decode cX7_land 214 = .ok (.aload_n 0, 1) := by decide +kernel
theorem dX7_land_215 : decode cX7_land 215 = .ok (.getfield 27, 3) := by decide +kernel
theorem dX7_land_218 : decode cX7_land 218 = .ok (.iload_n 3, 1) := by decide +kernel
theorem dX7_land_219 : decode cX7_land 219 = .ok (.aload_n 0, 1) := by decide +kernel
theorem dX7_land_220 : decode cX7_land 220 = .ok (.getfield 42, 3) := by decide +kernel
theorem dX7_land_223 : decode cX7_land 223 = .ok (.iconst 3, 1) := by decide +kernel
theorem dX7_land_224 : decode cX7_land 224 = .ok (.iload_n 3, 1) := by decide +kernel
theorem dX7_land_225 : decode cX7_land 225 = .ok (.imul, 1) := by decide +kernel
theorem dX7_land_226 : decode cX7_land 226 = .ok (.iconst 1, 1) := by decide +kernel
theorem dX7_land_227 : decode cX7_land 227 = .ok (.iadd, 1) := by decide +kernel
theorem dX7_land_228 : decode cX7_land 228 = .ok (.iaload, 1) := by decide +kernel
theorem dX7_land_229 : decode cX7_land 229 = .ok (.iastore, 1) := by decide +kernel
theorem dX7_land_230 : decode cX7_land 230 = .ok (.aload_n 0, 1) := by decide +kernel
theorem dX7_land_231 : decode cX7_land 231 = .ok (.getfield 7, 3) := by decide +kernel
theorem dX7_land_234 : decode cX7_land 234 = .ok (.iconst 0, 1) := by decide +kernel
theorem dX7_land_235 : decode cX7_land 235 = .ok (.iload_n 3, 1) := by decide +kernel
theorem dX7_land_236 : decode cX7_land 236 = .ok (.iadd, 1) := by decide +kernel
theorem dX7_land_237 : decode cX7_land 237 = .ok (.aload_n 0, 1) := by decide +kernel
theorem dX7_land_238 : decode cX7_land 238 = .ok (.getfield 42, 3) := by decide +kernel
theorem dX7_land_241 : decode cX7_land 241 = .ok (.iconst 3, 1) := by decide +kernel
theorem dX7_land_242 : decode cX7_land 242 = .ok (.iload_n 3, 1) := by decide +kernel
theorem dX7_land_243 : decode cX7_land 243 = .ok (.imul, 1) := by decide +kernel
theorem dX7_land_244 : decode cX7_land 244 = .ok (.iconst 2, 1) := by decide +kernel
theorem dX7_land_245 : decode cX7_land 245 = .ok (.iadd, 1) := by decide +kernel
theorem dX7_land_246 : decode cX7_land 246 = .ok (.iaload, 1) := by decide +kernel
theorem dX7_land_247 : decode cX7_land 247 = .ok (.iastore, 1) := by decide +kernel
theorem dX7_land_248 : decode cX7_land 248 = .ok (.iinc 3 1, 3) := by decide +kernel
theorem dX7_land_251 : decode cX7_land 251 = .ok (.goto (-59), 3) := by decide +kernel
theorem dX7_land_254 : decode cX7_land 254 = .ok (.iconst 0, 1) := by decide +kernel
theorem dX7_land_255 : decode cX7_land 255 = .ok (.istore_n 3, 1) := by decide +kernel
theorem dX7_land_256 : decode cX7_land 256 = .ok (.iload_n 3, 1) := by decide +kernel
theorem dX7_land_257 : decode cX7_land 257 = .ok (.bipush 30, 2) := by decide +kernel
theorem dX7_land_259 : decode cX7_land 259 = .ok (.if_icmp .ge 37, 3) := by decide +kernel
theorem dX7_land_262 : decode cX7_land 262 = .ok (.aload_n 0, 1) := by decide +kernel
theorem dX7_land_263 : decode cX7_land 263 = .ok (.getfield 7, 3) := by decide +kernel
theorem dX7_land_266 : decode cX7_land 266 = .ok (.iconst 5, 1) := by decide +kernel
theorem dX7_land_267 : decode cX7_land 267 = .ok (.iload_n 3, 1) := by decide +kernel
theorem dX7_land_268 : decode cX7_land 268 = .ok (.iadd, 1) := by decide +kernel
theorem dX7_land_269 : decode cX7_land 269 = .ok (.aload_n 0, 1) := by decide +kernel
theorem dX7_land_270 : decode cX7_land 270 = .ok (.getfield 54, 3) := by decide +kernel
theorem dX7_land_273 : decode cX7_land 273 = .ok (.iload_n 3, 1) := by decide +kernel
theorem dX7_land_274 : decode cX7_land 274 = .ok (.iaload, 1) := by decide +kernel
theorem dX7_land_275 : decode cX7_land 275 = .ok (.iconst (-1), 1) := by decide +kernel
theorem dX7_land_276 : decode cX7_land 276 = .ok (.if_icmp .ne 7, 3) := by decide +kernel
theorem dX7_land_279 : decode cX7_land 279 = .ok (.iconst 0, 1) := by decide +kernel
theorem dX7_land_280 : decode cX7_land 280 = .ok (.goto 9, 3) := by decide +kernel
theorem dX7_land_283 : decode cX7_land 283 = .ok (.aload_n 0, 1) := by decide +kernel
theorem dX7_land_284 : decode cX7_land 284 = .ok (.getfield 54, 3) := by decide +kernel
theorem dX7_land_287 : decode cX7_land 287 = .ok (.iload_n 3, 1) := by decide +kernel
theorem dX7_land_288 : decode cX7_land 288 = .ok (.iaload, 1) := by decide +kernel
theorem dX7_land_289 : decode cX7_land 289 = .ok (.iastore, 1) := by decide +kernel
theorem dX7_land_290 : decode cX7_land 290 = .ok (.iinc 3 1, 3) := by decide +kernel
theorem dX7_land_293 : decode cX7_land 293 = .ok (.goto (-37), 3) := by decide +kernel
theorem dX7_land_296 : decode cX7_land 296 = .ok (.aload_n 0, 1) := by decide +kernel
theorem dX7_land_297 : decode cX7_land 297 = .ok (.iconst 0, 1) := by decide +kernel
theorem dX7_land_298 : decode cX7_land 298 = .ok (.putfield 165, 3) := by decide +kernel
theorem dX7_land_301 : decode cX7_land 301 = .ok (.aload_n 0, 1) := by decide +kernel
theorem dX7_land_302 : decode cX7_land 302 = .ok (.getfield 13, 3) := by decide +kernel
theorem dX7_land_305 : decode cX7_land 305 = .ok (.iconst 0, 1) := by decide +kernel
theorem dX7_land_306 : decode cX7_land 306 = .ok (.iconst 0, 1) := by decide +kernel
theorem dX7_land_307 : decode cX7_land 307 = .ok (.bastore, 1) := by decide +kernel
theorem dX7_land_308 : decode cX7_land 308 = .ok (.aload_n 0, 1) := by decide +kernel
theorem dX7_land_309 : decode cX7_land 309 = .ok (.getfield 13, 3) := by decide +kernel
theorem dX7_land_312 : decode cX7_land 312 = .ok (.iconst 1, 1) := by decide +kernel
theorem dX7_land_313 : decode cX7_land 313 = .ok (.iconst 0, 1) := by decide +kernel
theorem dX7_land_314 : decode cX7_land 314 = .ok (.bastore, 1) := by decide +kernel
theorem dX7_land_315 : decode cX7_land 315 = .ok (.aload_n 0, 1) := by decide +kernel
theorem dX7_land_316 : decode cX7_land 316 = .ok (.getfield 150, 3) := by decide +kernel
theorem dX7_land_319 : decode cX7_land 319 = .ok (.ireturn, 1) := by decide +kernel
theorem dX7_fault_0 : decode cX7_fault 0 = .ok (.aload_n 0, 1) := by decide +kernel
theorem dX7_fault_1 : decode cX7_fault 1 = .ok (.getfield 20, 3) := by decide +kernel
theorem dX7_fault_4 : decode cX7_fault 4 = .ok (.ireturn, 1) := by decide +kernel
theorem dX7_isOne_0 : decode cX7_isOne 0 = .ok (.iload_n 1, 1) := by decide +kernel
theorem dX7_isOne_1 : decode cX7_isOne 1 = .ok (.i2l, 1) := by decide +kernel
theorem dX7_isOne_2 : decode cX7_isOne 2 = .ok (.lconst 0, 1) := by decide +kernel
theorem dX7_isOne_3 : decode cX7_isOne 3 = .ok (.aload_n 0, 1) := by decide +kernel
theorem dX7_isOne_4 : decode cX7_isOne 4 = .ok (.getfield 150, 3) := by decide +kernel
theorem dX7_isOne_7 : decode cX7_isOne 7 = .ok (.iconst 1, 1) := by decide +kernel
theorem dX7_isOne_8 : decode cX7_isOne 8 = .ok (.isub, 1) := by decide +kernel
theorem dX7_isOne_9 : decode cX7_isOne 9 = .ok (.i2l, 1) := by decide +kernel
theorem dX7_isOne_10 : decode cX7_isOne 10 = .ok (.invokestatic 68, 3) := by decide +kernel
theorem dX7_isOne_13 : decode cX7_isOne 13 = .ok (.ireturn, 1) := by decide +kernel
theorem dX7_isFighter_0 : decode cX7_isFighter 0 = .ok (.iload_n 1, 1) := by decide +kernel
theorem dX7_isFighter_1 : decode cX7_isFighter 1 = .ok (.i2l, 1) := by decide +kernel
theorem dX7_isFighter_2 : decode cX7_isFighter 2 = .ok (.lconst 0, 1) := by decide +kernel
theorem dX7_isFighter_3 : decode cX7_isFighter 3 = .ok (.aload_n 0, 1) := by decide +kernel
theorem dX7_isFighter_4 : decode cX7_isFighter 4 = .ok (.getfield 153, 3) := by decide +kernel
theorem dX7_isFighter_7 : decode cX7_isFighter 7 = .ok (.iconst 1, 1) := by decide +kernel
theorem dX7_isFighter_8 : decode cX7_isFighter 8 = .ok (.isub, 1) := by decide +kernel
theorem dX7_isFighter_9 : decode cX7_isFighter 9 = .ok (.i2l, 1) := by decide +kernel
theorem dX7_isFighter_10 : decode cX7_isFighter 10 = .ok (.invokestatic 68, 3) := by decide +kernel
theorem dX7_isFighter_13 : decode cX7_isFighter 13 = .ok (.ireturn, 1) := by decide +kernel
theorem dX7_isTask_0 : decode cX7_isTask 0 = .ok (.iload_n 1, 1) := by decide +kernel
theorem dX7_isTask_1 : decode cX7_isTask 1 = .ok (.i2l, 1) := by decide +kernel
theorem dX7_isTask_2 : decode cX7_isTask 2 = .ok (.lconst 0, 1) := by decide +kernel
theorem dX7_isTask_3 : decode cX7_isTask 3 = .ok (.aload_n 0, 1) := by decide +kernel
theorem dX7_isTask_4 : decode cX7_isTask 4 = .ok (.getfield 159, 3) := by decide +kernel
theorem dX7_isTask_7 : decode cX7_isTask 7 = .ok (.iconst 1, 1) := by decide +kernel
theorem dX7_isTask_8 : decode cX7_isTask 8 = .ok (.isub, 1) := by decide +kernel
theorem dX7_isTask_9 : decode cX7_isTask 9 = .ok (.i2l, 1) := by decide +kernel
theorem dX7_isTask_10 : decode cX7_isTask 10 = .ok (.invokestatic 68, 3) := by decide +kernel
theorem dX7_isTask_13 : decode cX7_isTask 13 = .ok (.ireturn, 1) := by decide +kernel
theorem dX7_thought_0 : decode cX7_thought 0 = .ok (.aload_n 0, 1) := by decide +kernel
theorem dX7_thought_1 : decode cX7_thought 1 = .ok (.getfield 7, 3) := by decide +kernel
theorem dX7_thought_4 : decode cX7_thought 4 = .ok (.iconst 5, 1) := by decide +kernel
theorem dX7_thought_5 : decode cX7_thought 5 = .ok (.iconst 5, 1) := by decide +kernel
theorem dX7_thought_6 : decode cX7_thought 6 = .ok (.iload_n 1, 1) := by decide +kernel
theorem dX7_thought_7 : decode cX7_thought 7 = .ok (.imul, 1) := by decide +kernel
theorem dX7_thought_8 : decode cX7_thought 8 = .ok (.iadd, 1) := by decide +kernel
theorem dX7_thought_9 : decode cX7_thought 9 = .ok (.iload_n 2, 1) := by decide +kernel
theorem dX7_thought_10 : decode cX7_thought 10 = .ok (.iadd, 1) := by decide +kernel
theorem dX7_thought_11 : decode cX7_thought 11 = .ok (.iaload, 1) := by decide +kernel
theorem dX7_thought_12 : decode cX7_thought 12 = .ok (.ireturn, 1) := by decide +kernel
theorem dX7_think_0 : decode cX7_think 0 = .ok (.aload_n 0, 1) := by decide +kernel
theorem dX7_think_1 : decode cX7_think 1 = .ok (.getfield 7, 3) := by decide +kernel
theorem dX7_think_4 : decode cX7_think 4 = .ok (.iconst 5, 1) := by decide +kernel
theorem dX7_think_5 : decode cX7_think 5 = .ok (.iconst 5, 1) := by decide +kernel
theorem dX7_think_6 : decode cX7_think 6 = .ok (.iload_n 1, 1) := by decide +kernel
theorem dX7_think_7 : decode cX7_think 7 = .ok (.imul, 1) := by decide +kernel
theorem dX7_think_8 : decode cX7_think 8 = .ok (.iadd, 1) := by decide +kernel
theorem dX7_think_9 : decode cX7_think 9 = .ok (.iload_n 2, 1) := by decide +kernel
theorem dX7_think_10 : decode cX7_think 10 = .ok (.iadd, 1) := by decide +kernel
theorem dX7_think_11 : decode cX7_think 11 = .ok (.iload_n 3, 1) := by decide +kernel
theorem dX7_think_12 : decode cX7_think 12 = .ok (.bipush 99, 2) := by decide +kernel
theorem dX7_think_14 : decode cX7_think 14 = .ok (.if_icmp .le 8, 3) := by decide +kernel
theorem dX7_think_17 : decode cX7_think 17 = .ok (.bipush 99, 2) := by decide +kernel
theorem dX7_think_19 : decode cX7_think 19 = .ok (.goto 4, 3) := by decide +kernel
theorem dX7_think_22 : decode cX7_think 22 = .ok (.iload_n 3, 1) := by decide +kernel
theorem dX7_think_23 : decode cX7_think 23 = .ok (.iastore, 1) := by decide +kernel
theorem dX7_think_24 : decode cX7_think 24 = .ok (.return_, 1) := by decide +kernel
theorem dX7_allThoughts_0 : decode cX7_allThoughts 0 = .ok (.iconst 0, 1) := by decide +kernel
theorem dX7_allThoughts_1 : decode cX7_allThoughts 1 = .ok (.istore_n 1, 1) := by decide +kernel
theorem dX7_allThoughts_2 : decode cX7_allThoughts 2 = .ok (.iconst 0, 1) := by decide +kernel
theorem dX7_allThoughts_3 : decode cX7_allThoughts 3 = .ok (.istore_n 2, 1) := by decide +kernel
theorem dX7_allThoughts_4 : decode cX7_allThoughts 4 = .ok (.iload_n 2, 1) := by decide +kernel
theorem dX7_allThoughts_5 : decode cX7_allThoughts 5 = .ok (.aload_n 0, 1) := by decide +kernel
theorem dX7_allThoughts_6 : decode cX7_allThoughts 6 = .ok (.getfield 150, 3) := by decide +kernel
theorem dX7_allThoughts_9 : decode cX7_allThoughts 9 = .ok (.if_icmp .ge 34, 3) := by decide +kernel
theorem dX7_allThoughts_12 : decode cX7_allThoughts 12 = .ok (.iconst 0, 1) := by decide +kernel
theorem dX7_allThoughts_13 : decode cX7_allThoughts 13 = .ok (.istore_n 3, 1) := by decide +kernel
theorem dX7_allThoughts_14 : decode cX7_allThoughts 14 = .ok (.iload_n 3, 1) := by decide +kernel
theorem dX7_allThoughts_15 : decode cX7_allThoughts 15 = .ok (.aload_n 0, 1) := by decide +kernel
theorem dX7_allThoughts_16 : decode cX7_allThoughts 16 = .ok (.getfield 153, 3) := by decide +kernel
theorem dX7_allThoughts_19 : decode cX7_allThoughts 19 = .ok (.if_icmp .ge 18, 3) := by decide +kernel
theorem dX7_allThoughts_22 : decode cX7_allThoughts 22 = .ok (.iload_n 1, 1) := by decide +kernel
theorem dX7_allThoughts_23 : decode cX7_allThoughts 23 = .ok (.aload_n 0, 1) := by decide +kernel
theorem dX7_allThoughts_24 : decode cX7_allThoughts 24 = .ok (.iload_n 2, 1) := by decide +kernel
theorem dX7_allThoughts_25 : decode cX7_allThoughts 25 = .ok (.iload_n 3, 1) := by decide +kernel
theorem dX7_allThoughts_26 : decode cX7_allThoughts 26 = .ok (.invokevirtual 168, 3) := by decide +kernel
theorem dX7_allThoughts_29 : decode cX7_allThoughts 29 = .ok (.iadd, 1) := by decide +kernel
theorem dX7_allThoughts_30 : decode cX7_allThoughts 30 = .ok (.istore_n 1, 1) := by decide +kernel
theorem dX7_allThoughts_31 : decode cX7_allThoughts 31 = .ok (.iinc 3 1, 3) := by decide +kernel
theorem dX7_allThoughts_34 : decode cX7_allThoughts 34 = .ok (.goto (-20), 3) := by decide +kernel
theorem dX7_allThoughts_37 : decode cX7_allThoughts 37 = .ok (.iinc 2 1, 3) := by decide +kernel
theorem dX7_allThoughts_40 : decode cX7_allThoughts 40 = .ok (.goto (-36), 3) := by decide +kernel
theorem dX7_allThoughts_43 : decode cX7_allThoughts 43 = .ok (.iload_n 1, 1) := by decide +kernel
theorem dX7_allThoughts_44 : decode cX7_allThoughts 44 = .ok (.ireturn, 1) := by decide +kernel
theorem dX7_told_0 : decode cX7_told 0 = .ok (.iload_n 1, 1) := by decide +kernel
theorem dX7_told_1 : decode cX7_told 1 = .ok (.tableswitch 99 0 8 #[51, 56, 61, 66, 71, 76, 81, 89, 94], 51) := by decide +kernel
theorem dX7_told_52 : decode cX7_told 52 = .ok (.aload_n 0, 1) := by decide +kernel
theorem dX7_told_53 : decode cX7_told 53 = .ok (.getfield 150, 3) := by decide +kernel
theorem dX7_told_56 : decode cX7_told 56 = .ok (.ireturn, 1) := by decide +kernel
theorem dX7_told_57 : decode cX7_told 57 = .ok (.aload_n 0, 1) := by decide +kernel
theorem dX7_told_58 : decode cX7_told 58 = .ok (.getfield 153, 3) := by decide +kernel
theorem dX7_told_61 : decode cX7_told 61 = .ok (.ireturn, 1) := by decide +kernel
theorem dX7_told_62 : decode cX7_told 62 = .ok (.aload_n 0, 1) := by decide +kernel
theorem dX7_told_63 : decode cX7_told 63 = .ok (.getfield 156, 3) := by decide +kernel
theorem dX7_told_66 : decode cX7_told 66 = .ok (.ireturn, 1) := by decide +kernel
theorem dX7_told_67 : decode cX7_told 67 = .ok (.aload_n 0, 1) := by decide +kernel
theorem dX7_told_68 : decode cX7_told 68 = .ok (.getfield 159, 3) := by decide +kernel
theorem dX7_told_71 : decode cX7_told 71 = .ok (.ireturn, 1) := by decide +kernel
theorem dX7_told_72 : decode cX7_told 72 = .ok (.aload_n 0, 1) := by decide +kernel
theorem dX7_told_73 : decode cX7_told 73 = .ok (.getfield 162, 3) := by decide +kernel
theorem dX7_told_76 : decode cX7_told 76 = .ok (.ireturn, 1) := by decide +kernel
theorem dX7_told_77 : decode cX7_told 77 = .ok (.aload_n 0, 1) := by decide +kernel
theorem dX7_told_78 : decode cX7_told 78 = .ok (.getfield 73, 3) := by decide +kernel
theorem dX7_told_81 : decode cX7_told 81 = .ok (.ireturn, 1) := by decide +kernel
theorem dX7_told_82 : decode cX7_told 82 = .ok (.aload_n 0, 1) := by decide +kernel
theorem dX7_told_83 : decode cX7_told 83 = .ok (.getfield 7, 3) := by decide +kernel
theorem dX7_told_86 : decode cX7_told 86 = .ok (.bipush 45, 2) := by decide +kernel
theorem dX7_told_88 : decode cX7_told 88 = .ok (.iaload, 1) := by decide +kernel
theorem dX7_told_89 : decode cX7_told 89 = .ok (.ireturn, 1) := by decide +kernel
theorem dX7_told_90 : decode cX7_told 90 = .ok (.aload_n 0, 1) := by decide +kernel
theorem dX7_told_91 : decode cX7_told 91 = .ok (.invokevirtual 172, 3) := by decide +kernel
theorem dX7_told_94 : decode cX7_told 94 = .ok (.ireturn, 1) := by decide +kernel
theorem dX7_told_95 : decode cX7_told 95 = .ok (.aload_n 0, 1) := by decide +kernel
theorem dX7_told_96 : decode cX7_told 96 = .ok (.getfield 165, 3) := by decide +kernel
theorem dX7_told_99 : decode cX7_told 99 = .ok (.ireturn, 1) := by decide +kernel
theorem dX7_told_100 : decode cX7_told 100 = .ok (.ldc 72, 2) := by decide +kernel
theorem dX7_told_102 : decode cX7_told 102 = .ok (.ireturn, 1) := by decide +kernel
theorem dX7_reads_0 : decode cX7_reads 0 = .ok (.iload_n 2, 1) := by decide +kernel
theorem dX7_reads_1 : decode cX7_reads 1 = .ok (.iload_n 2, 1) := by decide +kernel
theorem dX7_reads_2 : decode cX7_reads 2 = .ok (.iconst 2, 1) := by decide +kernel
theorem dX7_reads_3 : decode cX7_reads 3 = .ok (.idiv, 1) := by decide +kernel
theorem dX7_reads_4 : decode cX7_reads 4 = .ok (.iadd, 1) := by decide +kernel
theorem dX7_reads_5 : decode cX7_reads 5 = .ok (.istore_n 3, 1) := by decide +kernel
theorem dX7_reads_6 : decode cX7_reads 6 = .ok (.aload_n 0, 1) := by decide +kernel
theorem dX7_reads_7 : decode cX7_reads 7 = .ok (.getfield 24, 3) := by decide +kernel
theorem dX7_reads_10 : decode cX7_reads 10 = .ok (.iload_n 1, 1) := by decide +kernel
theorem dX7_reads_11 : decode cX7_reads 11 = .ok (.iaload, 1) := by decide +kernel
theorem dX7_reads_12 : decode cX7_reads 12 = .ok (.iconst 1, 1) := by decide +kernel
theorem dX7_reads_13 : decode cX7_reads 13 = .ok (.if_icmp .ne 7, 3) := by decide +kernel
theorem dX7_reads_16 : decode cX7_reads 16 = .ok (.iconst 0, 1) := by decide +kernel
theorem dX7_reads_17 : decode cX7_reads 17 = .ok (.goto 29, 3) := by decide +kernel
theorem dX7_reads_20 : decode cX7_reads 20 = .ok (.aload_n 0, 1) := by decide +kernel
theorem dX7_reads_21 : decode cX7_reads 21 = .ok (.getfield 24, 3) := by decide +kernel
theorem dX7_reads_24 : decode cX7_reads 24 = .ok (.iload_n 1, 1) := by decide +kernel
theorem dX7_reads_25 : decode cX7_reads 25 = .ok (.iaload, 1) := by decide +kernel
theorem dX7_reads_26 : decode cX7_reads 26 = .ok (.iconst 2, 1) := by decide +kernel
theorem dX7_reads_27 : decode cX7_reads 27 = .ok (.if_icmp .eq 7, 3) := by decide +kernel
theorem dX7_reads_30 : decode cX7_reads 30 = .ok (.iload_n 2, 1) := by decide +kernel
theorem dX7_reads_31 : decode cX7_reads 31 = .ok (.goto 15, 3) := by decide +kernel
theorem dX7_reads_34 : decode cX7_reads 34 = .ok (.iload_n 3, 1) := by decide +kernel
theorem dX7_reads_35 : decode cX7_reads 35 = .ok (.bipush 99, 2) := by decide +kernel
theorem dX7_reads_37 : decode cX7_reads 37 = .ok (.if_icmp .le 8, 3) := by decide +kernel
theorem dX7_reads_40 : decode cX7_reads 40 = .ok (.bipush 99, 2) := by decide +kernel
theorem dX7_reads_42 : decode cX7_reads 42 = .ok (.goto 4, 3) := by decide +kernel
theorem dX7_reads_45 : decode cX7_reads 45 = .ok (.iload_n 3, 1) := by decide +kernel
theorem dX7_reads_46 : decode cX7_reads 46 = .ok (.ireturn, 1) := by decide +kernel
theorem dX7_readsNow_0 : decode cX7_readsNow 0 = .ok (.aload_n 0, 1) := by decide +kernel
theorem dX7_readsNow_1 : decode cX7_readsNow 1 = .ok (.iload_n 1, 1) := by decide +kernel
theorem dX7_readsNow_2 : decode cX7_readsNow 2 = .ok (.aload_n 0, 1) := by decide +kernel
theorem dX7_readsNow_3 : decode cX7_readsNow 3 = .ok (.getfield 7, 3) := by decide +kernel
theorem dX7_readsNow_6 : decode cX7_readsNow 6 = .ok (.iconst 0, 1) := by decide +kernel
theorem dX7_readsNow_7 : decode cX7_readsNow 7 = .ok (.iload_n 1, 1) := by decide +kernel
theorem dX7_readsNow_8 : decode cX7_readsNow 8 = .ok (.iadd, 1) := by decide +kernel
theorem dX7_readsNow_9 : decode cX7_readsNow 9 = .ok (.iaload, 1) := by decide +kernel
theorem dX7_readsNow_10 : decode cX7_readsNow 10 = .ok (.invokevirtual 175, 3) := by decide +kernel
theorem dX7_readsNow_13 : decode cX7_readsNow 13 = .ok (.ireturn, 1) := by decide +kernel
theorem dX7_worthOf_0 : decode cX7_worthOf 0 = .ok (.iconst 0, 1) := by decide +kernel
theorem dX7_worthOf_1 : decode cX7_worthOf 1 = .ok (.istore_n 2, 1) := by decide +kernel
theorem dX7_worthOf_2 : decode cX7_worthOf 2 = .ok (.iconst 0, 1) := by decide +kernel
theorem dX7_worthOf_3 : decode cX7_worthOf 3 = .ok (.istore_n 3, 1) := by decide +kernel
theorem dX7_worthOf_4 : decode cX7_worthOf 4 = .ok (.iload_n 3, 1) := by decide +kernel
theorem dX7_worthOf_5 : decode cX7_worthOf 5 = .ok (.aload_n 0, 1) := by decide +kernel
theorem dX7_worthOf_6 : decode cX7_worthOf 6 = .ok (.getfield 159, 3) := by decide +kernel
theorem dX7_worthOf_9 : decode cX7_worthOf 9 = .ok (.if_icmp .ge 34, 3) := by decide +kernel
theorem dX7_worthOf_12 : decode cX7_worthOf 12 = .ok (.iload_n 2, 1) := by decide +kernel
theorem dX7_worthOf_13 : decode cX7_worthOf 13 = .ok (.iload_n 1, 1) := by decide +kernel
theorem dX7_worthOf_14 : decode cX7_worthOf 14 = .ok (.iload_n 3, 1) := by decide +kernel
theorem dX7_worthOf_15 : decode cX7_worthOf 15 = .ok (.invokestatic 112, 3) := by decide +kernel
theorem dX7_worthOf_18 : decode cX7_worthOf 18 = .ok (.ifCond .eq 16, 3) := by decide +kernel
theorem dX7_worthOf_21 : decode cX7_worthOf 21 = .ok (.aload_n 0, 1) := by decide +kernel
theorem dX7_worthOf_22 : decode cX7_worthOf 22 = .ok (.getfield 33, 3) := by decide +kernel
theorem dX7_worthOf_25 : decode cX7_worthOf 25 = .ok (.iconst 4, 1) := by decide +kernel
theorem dX7_worthOf_26 : decode cX7_worthOf 26 = .ok (.iload_n 3, 1) := by decide +kernel
theorem dX7_worthOf_27 : decode cX7_worthOf 27 = .ok (.imul, 1) := by decide +kernel
theorem dX7_worthOf_28 : decode cX7_worthOf 28 = .ok (.iconst 2, 1) := by decide +kernel
theorem dX7_worthOf_29 : decode cX7_worthOf 29 = .ok (.iadd, 1) := by decide +kernel
theorem dX7_worthOf_30 : decode cX7_worthOf 30 = .ok (.iaload, 1) := by decide +kernel
theorem dX7_worthOf_31 : decode cX7_worthOf 31 = .ok (.goto 4, 3) := by decide +kernel
theorem dX7_worthOf_34 : decode cX7_worthOf 34 = .ok (.iconst 0, 1) := by decide +kernel
theorem dX7_worthOf_35 : decode cX7_worthOf 35 = .ok (.iadd, 1) := by decide +kernel
theorem dX7_worthOf_36 : decode cX7_worthOf 36 = .ok (.istore_n 2, 1) := by decide +kernel
theorem dX7_worthOf_37 : decode cX7_worthOf 37 = .ok (.iinc 3 1, 3) := by decide +kernel
theorem dX7_worthOf_40 : decode cX7_worthOf 40 = .ok (.goto (-36), 3) := by decide +kernel
theorem dX7_worthOf_43 : decode cX7_worthOf 43 = .ok (.iload_n 2, 1) := by decide +kernel
theorem dX7_worthOf_44 : decode cX7_worthOf 44 = .ok (.ireturn, 1) := by decide +kernel
theorem dX7_fighter_0 : decode cX7_fighter 0 = .ok (.aload_n 0, 1) := by decide +kernel
theorem dX7_fighter_1 : decode cX7_fighter 1 = .ok (.iload_n 1, 1) := by decide +kernel
theorem dX7_fighter_2 : decode cX7_fighter 2 = .ok (.invokevirtual 178, 3) := by decide +kernel
theorem dX7_fighter_5 : decode cX7_fighter 5 = .ok (.ifCond .ne 6, 3) := by decide +kernel
theorem dX7_fighter_8 : decode cX7_fighter 8 = .ok (.ldc 181, 2) := by decide +kernel
theorem dX7_fighter_10 : decode cX7_fighter 10 = .ok (.ireturn, 1) := by decide +kernel
theorem dX7_fighter_11 : decode cX7_fighter 11 = .ok (.iload_n 2, 1) := by decide +kernel
theorem dX7_fighter_12 : decode cX7_fighter 12 = .ok (.tableswitch 107 0 6 #[44, 51, 58, 67, 73, 83, 93], 44) := by decide +kernel
theorem dX7_fighter_56 : decode cX7_fighter 56 = .ok (.aload_n 0, 1) := by decide +kernel
theorem dX7_fighter_57 : decode cX7_fighter 57 = .ok (.getfield 24, 3) := by decide +kernel
theorem dX7_fighter_60 : decode cX7_fighter 60 = .ok (.iload_n 1, 1) := by decide +kernel
theorem dX7_fighter_61 : decode cX7_fighter 61 = .ok (.iaload, 1) := by decide +kernel
theorem dX7_fighter_62 : decode cX7_fighter 62 = .ok (.ireturn, 1) := by decide +kernel
theorem dX7_fighter_63 : decode cX7_fighter 63 = .ok (.aload_n 0, 1) := by decide +kernel
theorem dX7_fighter_64 : decode cX7_fighter 64 = .ok (.getfield 27, 3) := by decide +kernel
theorem dX7_fighter_67 : decode cX7_fighter 67 = .ok (.iload_n 1, 1) := by decide +kernel
theorem dX7_fighter_68 : decode cX7_fighter 68 = .ok (.iaload, 1) := by decide +kernel
theorem dX7_fighter_69 : decode cX7_fighter 69 = .ok (.ireturn, 1) := by decide +kernel
theorem dX7_fighter_70 : decode cX7_fighter 70 = .ok (.aload_n 0, 1) := by decide +kernel
theorem dX7_fighter_71 : decode cX7_fighter 71 = .ok (.getfield 7, 3) := by decide +kernel
theorem dX7_fighter_74 : decode cX7_fighter 74 = .ok (.iconst 0, 1) := by decide +kernel
theorem dX7_fighter_75 : decode cX7_fighter 75 = .ok (.iload_n 1, 1) := by decide +kernel
theorem dX7_fighter_76 : decode cX7_fighter 76 = .ok (.iadd, 1) := by decide +kernel
theorem dX7_fighter_77 : decode cX7_fighter 77 = .ok (.iaload, 1) := by decide +kernel
theorem dX7_fighter_78 : decode cX7_fighter 78 = .ok (.ireturn, 1) := by decide +kernel
theorem dX7_fighter_79 : decode cX7_fighter 79 = .ok (.aload_n 0, 1) := by decide +kernel
theorem dX7_fighter_80 : decode cX7_fighter 80 = .ok (.iload_n 1, 1) := by decide +kernel
theorem dX7_fighter_81 : decode cX7_fighter 81 = .ok (.invokevirtual 182, 3) := by decide +kernel
theorem dX7_fighter_84 : decode cX7_fighter 84 = .ok (.ireturn, 1) := by decide +kernel
theorem dX7_fighter_85 : decode cX7_fighter 85 = .ok (.aload_n 0, 1) := by decide +kernel
theorem dX7_fighter_86 : decode cX7_fighter 86 = .ok (.getfield 7, 3) := by decide +kernel
theorem dX7_fighter_89 : decode cX7_fighter 89 = .ok (.bipush 35, 2) := by decide +kernel
theorem dX7_fighter_91 : decode cX7_fighter 91 = .ok (.iload_n 1, 1) := by decide +kernel
theorem dX7_fighter_92 : decode cX7_fighter 92 = .ok (.iadd, 1) := by decide +kernel
theorem dX7_fighter_93 : decode cX7_fighter 93 = .ok (.iaload, 1) := by decide +kernel
theorem dX7_fighter_94 : decode cX7_fighter 94 = .ok (.ireturn, 1) := by decide +kernel
theorem dX7_fighter_95 : decode cX7_fighter 95 = .ok (.aload_n 0, 1) := by decide +kernel
theorem dX7_fighter_96 : decode cX7_fighter 96 = .ok (.getfield 7, 3) := by decide +kernel
theorem dX7_fighter_99 : decode cX7_fighter 99 = .ok (.bipush 40, 2) := by decide +kernel
theorem dX7_fighter_101 : decode cX7_fighter 101 = .ok (.iload_n 1, 1) := by decide +kernel
theorem dX7_fighter_102 : decode cX7_fighter 102 = .ok (.iadd, 1) := by decide +kernel
theorem dX7_fighter_103 : decode cX7_fighter 103 = .ok (.iaload, 1) := by decide +kernel
theorem dX7_fighter_104 : decode cX7_fighter 104 = .ok (.ireturn, 1) := by decide +kernel
theorem dX7_fighter_105 : decode cX7_fighter 105 = .ok (.aload_n 0, 1) := by decide +kernel
theorem dX7_fighter_106 : decode cX7_fighter 106 = .ok (.aload_n 0, 1) := by decide +kernel
theorem dX7_fighter_107 : decode cX7_fighter 107 = .ok (.getfield 7, 3) := by decide +kernel
theorem dX7_fighter_110 : decode cX7_fighter 110 = .ok (.bipush 35, 2) := by decide +kernel
theorem dX7_fighter_112 : decode cX7_fighter 112 = .ok (.iload_n 1, 1) := by decide +kernel
theorem dX7_fighter_113 : decode cX7_fighter 113 = .ok (.iadd, 1) := by decide +kernel
theorem dX7_fighter_114 : decode cX7_fighter 114 = .ok (.iaload, 1) := by decide +kernel
theorem dX7_fighter_115 : decode cX7_fighter 115 = .ok (.invokevirtual 185, 3) := by decide +kernel
theorem dX7_fighter_118 : decode cX7_fighter 118 = .ok (.ireturn, 1) := by decide +kernel
theorem dX7_fighter_119 : decode cX7_fighter 119 = .ok (.ldc 72, 2) := by decide +kernel
theorem dX7_fighter_121 : decode cX7_fighter 121 = .ok (.ireturn, 1) := by decide +kernel
theorem dX7_thinks_0 : decode cX7_thinks 0 = .ok (.aload_n 0, 1) := by decide +kernel
theorem dX7_thinks_1 : decode cX7_thinks 1 = .ok (.iload_n 1, 1) := by decide +kernel
theorem dX7_thinks_2 : decode cX7_thinks 2 = .ok (.invokevirtual 188, 3) := by decide +kernel
theorem dX7_thinks_5 : decode cX7_thinks 5 = .ok (.ifCond .eq 20, 3) := by decide +kernel
theorem dX7_thinks_8 : decode cX7_thinks 8 = .ok (.aload_n 0, 1) := by decide +kernel
theorem dX7_thinks_9 : decode cX7_thinks 9 = .ok (.iload_n 2, 1) := by decide +kernel
theorem dX7_thinks_10 : decode cX7_thinks 10 = .ok (.invokevirtual 178, 3) := by decide +kernel
theorem dX7_thinks_13 : decode cX7_thinks 13 = .ok (.ifCond .eq 12, 3) := by decide +kernel
theorem dX7_thinks_16 : decode cX7_thinks 16 = .ok (.aload_n 0, 1) := by decide +kernel
theorem dX7_thinks_17 : decode cX7_thinks 17 = .ok (.iload_n 1, 1) := by decide +kernel
theorem dX7_thinks_18 : decode cX7_thinks 18 = .ok (.iload_n 2, 1) := by decide +kernel
theorem dX7_thinks_19 : decode cX7_thinks 19 = .ok (.invokevirtual 168, 3) := by decide +kernel
theorem dX7_thinks_22 : decode cX7_thinks 22 = .ok (.goto 5, 3) := by decide +kernel
theorem dX7_thinks_25 : decode cX7_thinks 25 = .ok (.ldc 181, 2) := by decide +kernel
theorem dX7_thinks_27 : decode cX7_thinks 27 = .ok (.ireturn, 1) := by decide +kernel
theorem dX7_chats_0 : decode cX7_chats 0 = .ok (.aload_n 0, 1) := by decide +kernel
theorem dX7_chats_1 : decode cX7_chats 1 = .ok (.iload_n 1, 1) := by decide +kernel
theorem dX7_chats_2 : decode cX7_chats 2 = .ok (.invokevirtual 188, 3) := by decide +kernel
theorem dX7_chats_5 : decode cX7_chats 5 = .ok (.ifCond .eq 12, 3) := by decide +kernel
theorem dX7_chats_8 : decode cX7_chats 8 = .ok (.aload_n 0, 1) := by decide +kernel
theorem dX7_chats_9 : decode cX7_chats 9 = .ok (.getfield 30, 3) := by decide +kernel
theorem dX7_chats_12 : decode cX7_chats 12 = .ok (.iload_n 1, 1) := by decide +kernel
theorem dX7_chats_13 : decode cX7_chats 13 = .ok (.iaload, 1) := by decide +kernel
theorem dX7_chats_14 : decode cX7_chats 14 = .ok (.goto 5, 3) := by decide +kernel
theorem dX7_chats_17 : decode cX7_chats 17 = .ok (.ldc 181, 2) := by decide +kernel
theorem dX7_chats_19 : decode cX7_chats 19 = .ok (.ireturn, 1) := by decide +kernel
theorem dX7_tricksOf_0 : decode cX7_tricksOf 0 = .ok (.iconst 0, 1) := by decide +kernel
theorem dX7_tricksOf_1 : decode cX7_tricksOf 1 = .ok (.istore_n 2, 1) := by decide +kernel
theorem dX7_tricksOf_2 : decode cX7_tricksOf 2 = .ok (.iconst 0, 1) := by decide +kernel
theorem dX7_tricksOf_3 : decode cX7_tricksOf 3 = .ok (.istore_n 3, 1) := by decide +kernel
theorem dX7_tricksOf_4 : decode cX7_tricksOf 4 = .ok (.iload_n 3, 1) := by decide +kernel
theorem dX7_tricksOf_5 : decode cX7_tricksOf 5 = .ok (.aload_n 0, 1) := by decide +kernel
theorem dX7_tricksOf_6 : decode cX7_tricksOf 6 = .ok (.getfield 162, 3) := by decide +kernel
theorem dX7_tricksOf_9 : decode cX7_tricksOf 9 = .ok (.if_icmp .ge 31, 3) := by decide +kernel
theorem dX7_tricksOf_12 : decode cX7_tricksOf 12 = .ok (.iload_n 2, 1) := by decide +kernel
theorem dX7_tricksOf_13 : decode cX7_tricksOf 13 = .ok (.aload_n 0, 1) := by decide +kernel
theorem dX7_tricksOf_14 : decode cX7_tricksOf 14 = .ok (.getfield 36, 3) := by decide +kernel
theorem dX7_tricksOf_17 : decode cX7_tricksOf 17 = .ok (.iconst 3, 1) := by decide +kernel
theorem dX7_tricksOf_18 : decode cX7_tricksOf 18 = .ok (.iload_n 3, 1) := by decide +kernel
theorem dX7_tricksOf_19 : decode cX7_tricksOf 19 = .ok (.imul, 1) := by decide +kernel
theorem dX7_tricksOf_20 : decode cX7_tricksOf 20 = .ok (.iaload, 1) := by decide +kernel
theorem dX7_tricksOf_21 : decode cX7_tricksOf 21 = .ok (.iload_n 1, 1) := by decide +kernel
theorem dX7_tricksOf_22 : decode cX7_tricksOf 22 = .ok (.if_icmp .ne 9, 3) := by decide +kernel
theorem dX7_tricksOf_25 : decode cX7_tricksOf 25 = .ok (.iconst 1, 1) := by decide +kernel
theorem dX7_tricksOf_26 : decode cX7_tricksOf 26 = .ok (.iload_n 3, 1) := by decide +kernel
theorem dX7_tricksOf_27 : decode cX7_tricksOf 27 = .ok (.ishl, 1) := by decide +kernel
theorem dX7_tricksOf_28 : decode cX7_tricksOf 28 = .ok (.goto 4, 3) := by decide +kernel
theorem dX7_tricksOf_31 : decode cX7_tricksOf 31 = .ok (.iconst 0, 1) := by decide +kernel
theorem dX7_tricksOf_32 : decode cX7_tricksOf 32 = .ok (.ior, 1) := by decide +kernel
theorem dX7_tricksOf_33 : decode cX7_tricksOf 33 = .ok (.istore_n 2, 1) := by decide +kernel
theorem dX7_tricksOf_34 : decode cX7_tricksOf 34 = .ok (.iinc 3 1, 3) := by decide +kernel
theorem dX7_tricksOf_37 : decode cX7_tricksOf 37 = .ok (.goto (-33), 3) := by decide +kernel
theorem dX7_tricksOf_40 : decode cX7_tricksOf 40 = .ok (.iload_n 2, 1) := by decide +kernel
theorem dX7_tricksOf_41 : decode cX7_tricksOf 41 = .ok (.ireturn, 1) := by decide +kernel
theorem dX7_task_0 : decode cX7_task 0 = .ok (.aload_n 0, 1) := by decide +kernel
theorem dX7_task_1 : decode cX7_task 1 = .ok (.iload_n 1, 1) := by decide +kernel
theorem dX7_task_2 : decode cX7_task 2 = .ok (.invokevirtual 191, 3) := by decide +kernel
theorem dX7_task_5 : decode cX7_task 5 = .ok (.ifCond .ne 8, 3) := by decide +kernel
theorem dX7_task_8 : decode cX7_task 8 = .ok (.ldc 181, 2) := by decide +kernel
theorem dX7_task_10 : decode cX7_task 10 = .ok (.goto 43, 3) := by decide +kernel
theorem dX7_task_13 : decode cX7_task 13 = .ok (.iload_n 2, 1) := by decide +kernel
theorem dX7_task_14 : decode cX7_task 14 = .ok (.i2l, 1) := by decide +kernel
theorem dX7_task_15 : decode cX7_task 15 = .ok (.lconst 0, 1) := by decide +kernel
theorem dX7_task_16 : decode cX7_task 16 = .ok (.ldc2_w 194, 3) := by decide +kernel
theorem dX7_task_19 : decode cX7_task 19 = .ok (.invokestatic 68, 3) := by decide +kernel
theorem dX7_task_22 : decode cX7_task 22 = .ok (.ifCond .eq 16, 3) := by decide +kernel
theorem dX7_task_25 : decode cX7_task 25 = .ok (.aload_n 0, 1) := by decide +kernel
theorem dX7_task_26 : decode cX7_task 26 = .ok (.getfield 33, 3) := by decide +kernel
theorem dX7_task_29 : decode cX7_task 29 = .ok (.iconst 4, 1) := by decide +kernel
theorem dX7_task_30 : decode cX7_task 30 = .ok (.iload_n 1, 1) := by decide +kernel
theorem dX7_task_31 : decode cX7_task 31 = .ok (.imul, 1) := by decide +kernel
theorem dX7_task_32 : decode cX7_task 32 = .ok (.iload_n 2, 1) := by decide +kernel
theorem dX7_task_33 : decode cX7_task 33 = .ok (.iadd, 1) := by decide +kernel
theorem dX7_task_34 : decode cX7_task 34 = .ok (.iaload, 1) := by decide +kernel
theorem dX7_task_35 : decode cX7_task 35 = .ok (.goto 18, 3) := by decide +kernel
theorem dX7_task_38 : decode cX7_task 38 = .ok (.iload_n 2, 1) := by decide +kernel
theorem dX7_task_39 : decode cX7_task 39 = .ok (.iconst 4, 1) := by decide +kernel
theorem dX7_task_40 : decode cX7_task 40 = .ok (.if_icmp .ne 11, 3) := by decide +kernel
theorem dX7_task_43 : decode cX7_task 43 = .ok (.aload_n 0, 1) := by decide +kernel
theorem dX7_task_44 : decode cX7_task 44 = .ok (.iload_n 1, 1) := by decide +kernel
theorem dX7_task_45 : decode cX7_task 45 = .ok (.invokevirtual 196, 3) := by decide +kernel
theorem dX7_task_48 : decode cX7_task 48 = .ok (.goto 5, 3) := by decide +kernel
theorem dX7_task_51 : decode cX7_task 51 = .ok (.ldc 72, 2) := by decide +kernel
theorem dX7_task_53 : decode cX7_task 53 = .ok (.ireturn, 1) := by decide +kernel
theorem dX7_trick_0 : decode cX7_trick 0 = .ok (.iload_n 1, 1) := by decide +kernel
theorem dX7_trick_1 : decode cX7_trick 1 = .ok (.i2l, 1) := by decide +kernel
theorem dX7_trick_2 : decode cX7_trick 2 = .ok (.lconst 0, 1) := by decide +kernel
theorem dX7_trick_3 : decode cX7_trick 3 = .ok (.aload_n 0, 1) := by decide +kernel
theorem dX7_trick_4 : decode cX7_trick 4 = .ok (.getfield 162, 3) := by decide +kernel
theorem dX7_trick_7 : decode cX7_trick 7 = .ok (.iconst 1, 1) := by decide +kernel
theorem dX7_trick_8 : decode cX7_trick 8 = .ok (.isub, 1) := by decide +kernel
theorem dX7_trick_9 : decode cX7_trick 9 = .ok (.i2l, 1) := by decide +kernel
theorem dX7_trick_10 : decode cX7_trick 10 = .ok (.invokestatic 68, 3) := by decide +kernel
theorem dX7_trick_13 : decode cX7_trick 13 = .ok (.ifCond .ne 8, 3) := by decide +kernel
theorem dX7_trick_16 : decode cX7_trick 16 = .ok (.ldc 181, 2) := by decide +kernel
theorem dX7_trick_18 : decode cX7_trick 18 = .ok (.goto 30, 3) := by decide +kernel
theorem dX7_trick_21 : decode cX7_trick 21 = .ok (.iload_n 2, 1) := by decide +kernel
theorem dX7_trick_22 : decode cX7_trick 22 = .ok (.i2l, 1) := by decide +kernel
theorem dX7_trick_23 : decode cX7_trick 23 = .ok (.lconst 0, 1) := by decide +kernel
theorem dX7_trick_24 : decode cX7_trick 24 = .ok (.ldc2_w 199, 3) := by decide +kernel
theorem dX7_trick_27 : decode cX7_trick 27 = .ok (.invokestatic 68, 3) := by decide +kernel
theorem dX7_trick_30 : decode cX7_trick 30 = .ok (.ifCond .eq 16, 3) := by decide +kernel
theorem dX7_trick_33 : decode cX7_trick 33 = .ok (.aload_n 0, 1) := by decide +kernel
theorem dX7_trick_34 : decode cX7_trick 34 = .ok (.getfield 36, 3) := by decide +kernel
theorem dX7_trick_37 : decode cX7_trick 37 = .ok (.iconst 3, 1) := by decide +kernel
theorem dX7_trick_38 : decode cX7_trick 38 = .ok (.iload_n 1, 1) := by decide +kernel
theorem dX7_trick_39 : decode cX7_trick 39 = .ok (.imul, 1) := by decide +kernel
theorem dX7_trick_40 : decode cX7_trick 40 = .ok (.iload_n 2, 1) := by decide +kernel
theorem dX7_trick_41 : decode cX7_trick 41 = .ok (.iadd, 1) := by decide +kernel
theorem dX7_trick_42 : decode cX7_trick 42 = .ok (.iaload, 1) := by decide +kernel
theorem dX7_trick_43 : decode cX7_trick 43 = .ok (.goto 5, 3) := by decide +kernel
theorem dX7_trick_46 : decode cX7_trick 46 = .ok (.ldc 72, 2) := by decide +kernel
theorem dX7_trick_48 : decode cX7_trick 48 = .ok (.ireturn, 1) := by decide +kernel
theorem dX7_doRead_0 : decode cX7_doRead 0 = .ok (.aload_n 0, 1) := by decide +kernel
theorem dX7_doRead_1 : decode cX7_doRead 1 = .ok (.iload_n 1, 1) := by decide +kernel
theorem dX7_doRead_2 : decode cX7_doRead 2 = .ok (.iload_n 2, 1) := by decide +kernel
theorem dX7_doRead_3 : decode cX7_doRead 3 = .ok (.aload_n 0, 1) := by decide +kernel
theorem dX7_doRead_4 : decode cX7_doRead 4 = .ok (.iload_n 1, 1) := by decide +kernel
theorem dX7_doRead_5 : decode cX7_doRead 5 = .ok (.iload_n 2, 1) := by decide +kernel
theorem dX7_doRead_6 : decode cX7_doRead 6 = .ok (.invokevirtual 168, 3) := by decide +kernel
theorem dX7_doRead_9 : decode cX7_doRead 9 = .ok (.aload_n 0, 1) := by decide +kernel
theorem dX7_doRead_10 : decode cX7_doRead 10 = .ok (.iload_n 2, 1) := by decide +kernel
theorem dX7_doRead_11 : decode cX7_doRead 11 = .ok (.invokevirtual 182, 3) := by decide +kernel
theorem dX7_doRead_14 : decode cX7_doRead 14 = .ok (.if_icmp .le 12, 3) := by decide +kernel
theorem dX7_doRead_17 : decode cX7_doRead 17 = .ok (.aload_n 0, 1) := by decide +kernel
theorem dX7_doRead_18 : decode cX7_doRead 18 = .ok (.iload_n 1, 1) := by decide +kernel
theorem dX7_doRead_19 : decode cX7_doRead 19 = .ok (.iload_n 2, 1) := by decide +kernel
theorem dX7_doRead_20 : decode cX7_doRead 20 = .ok (.invokevirtual 168, 3) := by decide +kernel
theorem dX7_doRead_23 : decode cX7_doRead 23 = .ok (.goto 8, 3) := by decide +kernel
theorem dX7_doRead_26 : decode cX7_doRead 26 = .ok (.aload_n 0, 1) := by decide +kernel
theorem dX7_doRead_27 : decode cX7_doRead 27 = .ok (.iload_n 2, 1) := by decide +kernel
theorem dX7_doRead_28 : decode cX7_doRead 28 = .ok (.invokevirtual 182, 3) := by decide +kernel
theorem dX7_doRead_31 : decode cX7_doRead 31 = .ok (.invokevirtual 201, 3) := by decide +kernel
theorem dX7_doRead_34 : decode cX7_doRead 34 = .ok (.return_, 1) := by decide +kernel
theorem dX7_read_0 : decode cX7_read 0 = .ok (.aload_n 0, 1) := by decide +kernel
theorem dX7_read_1 : decode cX7_read 1 = .ok (.iload_n 1, 1) := by decide +kernel
theorem dX7_read_2 : decode cX7_read 2 = .ok (.invokevirtual 188, 3) := by decide +kernel
theorem dX7_read_5 : decode cX7_read 5 = .ok (.ifCond .eq 11, 3) := by decide +kernel
theorem dX7_read_8 : decode cX7_read 8 = .ok (.aload_n 0, 1) := by decide +kernel
theorem dX7_read_9 : decode cX7_read 9 = .ok (.iload_n 2, 1) := by decide +kernel
theorem dX7_read_10 : decode cX7_read 10 = .ok (.invokevirtual 178, 3) := by decide +kernel
theorem dX7_read_13 : decode cX7_read 13 = .ok (.ifCond .ne 6, 3) := by decide +kernel
theorem dX7_read_16 : decode cX7_read 16 = .ok (.ldc 181, 2) := by decide +kernel
theorem dX7_read_18 : decode cX7_read 18 = .ok (.ireturn, 1) := by decide +kernel
theorem dX7_read_19 : decode cX7_read 19 = .ok (.aload_n 0, 1) := by decide +kernel
theorem dX7_read_20 : decode cX7_read 20 = .ok (.iload_n 1, 1) := by decide +kernel
theorem dX7_read_21 : decode cX7_read 21 = .ok (.iload_n 2, 1) := by decide +kernel
theorem dX7_read_22 : decode cX7_read 22 = .ok (.invokevirtual 205, 3) := by decide +kernel
theorem dX7_read_25 : decode cX7_read 25 = .ok (.aload_n 0, 1) := by decide +kernel
theorem dX7_read_26 : decode cX7_read 26 = .ok (.iload_n 1, 1) := by decide +kernel
theorem dX7_read_27 : decode cX7_read 27 = .ok (.iload_n 2, 1) := by decide +kernel
theorem dX7_read_28 : decode cX7_read 28 = .ok (.invokevirtual 168, 3) := by decide +kernel
theorem dX7_read_31 : decode cX7_read 31 = .ok (.ireturn, 1) := by decide +kernel
theorem dX7_doRumour_0 : decode cX7_doRumour 0 = .ok (.iconst 0, 1) := by decide +kernel
theorem dX7_doRumour_1 : decode cX7_doRumour 1 = .ok (.istore_n 2, 1) := by decide +kernel
theorem dX7_doRumour_2 : decode cX7_doRumour 2 = .ok (.iconst 0, 1) := by decide +kernel
theorem dX7_doRumour_3 : decode cX7_doRumour 3 = .ok (.istore_n 3, 1) := by decide +kernel
theorem dX7_doRumour_4 : decode cX7_doRumour 4 = .ok (.iload_n 3, 1) := by decide +kernel
theorem dX7_doRumour_5 : decode cX7_doRumour 5 = .ok (.aload_n 0, 1) := by decide +kernel
theorem dX7_doRumour_6 : decode cX7_doRumour 6 = .ok (.getfield 150, 3) := by decide +kernel
theorem dX7_doRumour_9 : decode cX7_doRumour 9 = .ok (.if_icmp .ge 114, 3) := by decide +kernel
theorem dX7_doRumour_12 : decode cX7_doRumour 12 = .ok (.aload_n 0, 1) := by decide +kernel
theorem dX7_doRumour_13 : decode cX7_doRumour 13 = .ok (.getfield 60, 3) := by decide +kernel
theorem dX7_doRumour_16 : decode cX7_doRumour 16 = .ok (.iload_n 3, 1) := by decide +kernel
theorem dX7_doRumour_17 : decode cX7_doRumour 17 = .ok (.aload_n 0, 1) := by decide +kernel
theorem dX7_doRumour_18 : decode cX7_doRumour 18 = .ok (.iload_n 3, 1) := by decide +kernel
theorem dX7_doRumour_19 : decode cX7_doRumour 19 = .ok (.iload_n 1, 1) := by decide +kernel
theorem dX7_doRumour_20 : decode cX7_doRumour 20 = .ok (.invokevirtual 168, 3) := by decide +kernel
theorem dX7_doRumour_23 : decode cX7_doRumour 23 = .ok (.iastore, 1) := by decide +kernel
theorem dX7_doRumour_24 : decode cX7_doRumour 24 = .ok (.iconst 0, 1) := by decide +kernel
theorem dX7_doRumour_25 : decode cX7_doRumour 25 = .ok (.istore 4, 2) := by decide +kernel
theorem dX7_doRumour_27 : decode cX7_doRumour 27 = .ok (.iload 4, 2) := by decide +kernel
theorem dX7_doRumour_29 : decode cX7_doRumour 29 = .ok (.aload_n 0, 1) := by decide +kernel
theorem dX7_doRumour_30 : decode cX7_doRumour 30 = .ok (.getfield 150, 3) := by decide +kernel
theorem dX7_doRumour_33 : decode cX7_doRumour 33 = .ok (.if_icmp .ge 61, 3) := by decide +kernel
theorem dX7_doRumour_36 : decode cX7_doRumour 36 = .ok (.aload_n 0, 1) := by decide +kernel
theorem dX7_doRumour_37 : decode cX7_doRumour 37 = .ok (.getfield 60, 3) := by decide +kernel
theorem dX7_doRumour_40 : decode cX7_doRumour 40 = .ok (.iload_n 3, 1) := by decide +kernel
theorem dX7_doRumour_41 : decode cX7_doRumour 41 = .ok (.aload_n 0, 1) := by decide +kernel
theorem dX7_doRumour_42 : decode cX7_doRumour 42 = .ok (.getfield 30, 3) := by decide +kernel
theorem dX7_doRumour_45 : decode cX7_doRumour 45 = .ok (.iload_n 3, 1) := by decide +kernel
theorem dX7_doRumour_46 : decode cX7_doRumour 46 = .ok (.iaload, 1) := by decide +kernel
theorem dX7_doRumour_47 : decode cX7_doRumour 47 = .ok (.iload 4, 2) := by decide +kernel
theorem dX7_doRumour_49 : decode cX7_doRumour 49 = .ok (.invokestatic 112, 3) := by decide +kernel
theorem dX7_doRumour_52 : decode cX7_doRumour 52 = .ok (.ifCond .eq 29, 3) := by decide +kernel
theorem dX7_doRumour_55 : decode cX7_doRumour 55 = .ok (.aload_n 0, 1) := by decide +kernel
theorem dX7_doRumour_56 : decode cX7_doRumour 56 = .ok (.iload 4, 2) := by decide +kernel
theorem dX7_doRumour_58 : decode cX7_doRumour 58 = .ok (.iload_n 1, 1) := by decide +kernel
theorem dX7_doRumour_59 : decode cX7_doRumour 59 = .ok (.invokevirtual 168, 3) := by decide +kernel
theorem dX7_doRumour_62 : decode cX7_doRumour 62 = .ok (.aload_n 0, 1) := by decide +kernel
theorem dX7_doRumour_63 : decode cX7_doRumour 63 = .ok (.getfield 60, 3) := by decide +kernel
theorem dX7_doRumour_66 : decode cX7_doRumour 66 = .ok (.iload_n 3, 1) := by decide +kernel
theorem dX7_doRumour_67 : decode cX7_doRumour 67 = .ok (.iaload, 1) := by decide +kernel
theorem dX7_doRumour_68 : decode cX7_doRumour 68 = .ok (.if_icmp .le 13, 3) := by decide +kernel
theorem dX7_doRumour_71 : decode cX7_doRumour 71 = .ok (.aload_n 0, 1) := by decide +kernel
theorem dX7_doRumour_72 : decode cX7_doRumour 72 = .ok (.iload 4, 2) := by decide +kernel
theorem dX7_doRumour_74 : decode cX7_doRumour 74 = .ok (.iload_n 1, 1) := by decide +kernel
theorem dX7_doRumour_75 : decode cX7_doRumour 75 = .ok (.invokevirtual 168, 3) := by decide +kernel
theorem dX7_doRumour_78 : decode cX7_doRumour 78 = .ok (.goto 9, 3) := by decide +kernel
theorem dX7_doRumour_81 : decode cX7_doRumour 81 = .ok (.aload_n 0, 1) := by decide +kernel
theorem dX7_doRumour_82 : decode cX7_doRumour 82 = .ok (.getfield 60, 3) := by decide +kernel
theorem dX7_doRumour_85 : decode cX7_doRumour 85 = .ok (.iload_n 3, 1) := by decide +kernel
theorem dX7_doRumour_86 : decode cX7_doRumour 86 = .ok (.iaload, 1) := by decide +kernel
theorem dX7_doRumour_87 : decode cX7_doRumour 87 = .ok (.iastore, 1) := by decide +kernel
theorem dX7_doRumour_88 : decode cX7_doRumour 88 = .ok (.iinc 4 1, 3) := by decide +kernel
theorem dX7_doRumour_91 : decode cX7_doRumour 91 = .ok (.goto (-64), 3) := by decide +kernel
theorem dX7_doRumour_94 : decode cX7_doRumour 94 = .ok (.iload_n 2, 1) := by decide +kernel
theorem dX7_doRumour_95 : decode cX7_doRumour 95 = .ok (.aload_n 0, 1) := by decide +kernel
theorem dX7_doRumour_96 : decode cX7_doRumour 96 = .ok (.getfield 60, 3) := by decide +kernel
theorem dX7_doRumour_99 : decode cX7_doRumour 99 = .ok (.iload_n 3, 1) := by decide +kernel
theorem dX7_doRumour_100 : decode cX7_doRumour 100 = .ok (.iaload, 1) := by decide +kernel
theorem dX7_doRumour_101 : decode cX7_doRumour 101 = .ok (.aload_n 0, 1) := by decide +kernel
theorem dX7_doRumour_102 : decode cX7_doRumour 102 = .ok (.iload_n 3, 1) := by decide +kernel
theorem dX7_doRumour_103 : decode cX7_doRumour 103 = .ok (.iload_n 1, 1) := by decide +kernel
theorem dX7_doRumour_104 : decode cX7_doRumour 104 = .ok (.invokevirtual 168, 3) := by decide +kernel
theorem dX7_doRumour_107 : decode cX7_doRumour 107 = .ok (.if_icmp .le 7, 3) := by decide +kernel
theorem dX7_doRumour_110 : decode cX7_doRumour 110 = .ok (.iconst 1, 1) := by decide +kernel
theorem dX7_doRumour_111 : decode cX7_doRumour 111 = .ok (.goto 4, 3) := by decide +kernel
theorem dX7_doRumour_114 : decode cX7_doRumour 114 = .ok (.iconst 0, 1) := by decide +kernel
theorem dX7_doRumour_115 : decode cX7_doRumour 115 = .ok (.iadd, 1) := by decide +kernel
theorem dX7_doRumour_116 : decode cX7_doRumour 116 = .ok (.istore_n 2, 1) := by decide +kernel
theorem dX7_doRumour_117 : decode cX7_doRumour 117 = .ok (.iinc 3 1, 3) := by decide +kernel
theorem dX7_doRumour_120 : decode cX7_doRumour 120 = .ok (.goto (-116), 3) := by decide +kernel
theorem dX7_doRumour_123 : decode cX7_doRumour 123 = .ok (.iconst 0, 1) := by decide +kernel
theorem dX7_doRumour_124 : decode cX7_doRumour 124 = .ok (.istore_n 3, 1) := by decide +kernel
theorem dX7_doRumour_125 : decode cX7_doRumour 125 = .ok (.iload_n 3, 1) := by decide +kernel
theorem dX7_doRumour_126 : decode cX7_doRumour 126 = .ok (.aload_n 0, 1) := by decide +kernel
theorem dX7_doRumour_127 : decode cX7_doRumour 127 = .ok (.getfield 150, 3) := by decide +kernel
theorem dX7_doRumour_130 : decode cX7_doRumour 130 = .ok (.if_icmp .ge 21, 3) := by decide +kernel
theorem dX7_doRumour_133 : decode cX7_doRumour 133 = .ok (.aload_n 0, 1) := by decide +kernel
theorem dX7_doRumour_134 : decode cX7_doRumour 134 = .ok (.iload_n 3, 1) := by decide +kernel
theorem dX7_doRumour_135 : decode cX7_doRumour 135 = .ok (.iload_n 1, 1) := by decide +kernel
theorem dX7_doRumour_136 : decode cX7_doRumour 136 = .ok (.aload_n 0, 1) := by decide +kernel
theorem dX7_doRumour_137 : decode cX7_doRumour 137 = .ok (.getfield 60, 3) := by decide +kernel
theorem dX7_doRumour_140 : decode cX7_doRumour 140 = .ok (.iload_n 3, 1) := by decide +kernel
theorem dX7_doRumour_141 : decode cX7_doRumour 141 = .ok (.iaload, 1) := by decide +kernel
theorem dX7_doRumour_142 : decode cX7_doRumour 142 = .ok (.invokevirtual 201, 3) := by decide +kernel
theorem dX7_doRumour_145 : decode cX7_doRumour 145 = .ok (.iinc 3 1, 3) := by decide +kernel
theorem dX7_doRumour_148 : decode cX7_doRumour 148 = .ok (.goto (-23), 3) := by decide +kernel
theorem dX7_doRumour_151 : decode cX7_doRumour 151 = .ok (.iload_n 2, 1) := by decide +kernel
theorem dX7_doRumour_152 : decode cX7_doRumour 152 = .ok (.ireturn, 1) := by decide +kernel
theorem dX7_rumour_0 : decode cX7_rumour 0 = .ok (.aload_n 0, 1) := by decide +kernel
theorem dX7_rumour_1 : decode cX7_rumour 1 = .ok (.iload_n 1, 1) := by decide +kernel
theorem dX7_rumour_2 : decode cX7_rumour 2 = .ok (.invokevirtual 178, 3) := by decide +kernel
theorem dX7_rumour_5 : decode cX7_rumour 5 = .ok (.ifCond .eq 11, 3) := by decide +kernel
theorem dX7_rumour_8 : decode cX7_rumour 8 = .ok (.aload_n 0, 1) := by decide +kernel
theorem dX7_rumour_9 : decode cX7_rumour 9 = .ok (.iload_n 1, 1) := by decide +kernel
theorem dX7_rumour_10 : decode cX7_rumour 10 = .ok (.invokevirtual 209, 3) := by decide +kernel
theorem dX7_rumour_13 : decode cX7_rumour 13 = .ok (.goto 5, 3) := by decide +kernel
theorem dX7_rumour_16 : decode cX7_rumour 16 = .ok (.ldc 181, 2) := by decide +kernel
theorem dX7_rumour_18 : decode cX7_rumour 18 = .ok (.ireturn, 1) := by decide +kernel
theorem dX7_doInspect_0 : decode cX7_doInspect 0 = .ok (.aload_n 0, 1) := by decide +kernel
theorem dX7_doInspect_1 : decode cX7_doInspect 1 = .ok (.iload_n 1, 1) := by decide +kernel
theorem dX7_doInspect_2 : decode cX7_doInspect 2 = .ok (.iload_n 2, 1) := by decide +kernel
theorem dX7_doInspect_3 : decode cX7_doInspect 3 = .ok (.aload_n 0, 1) := by decide +kernel
theorem dX7_doInspect_4 : decode cX7_doInspect 4 = .ok (.getfield 27, 3) := by decide +kernel
theorem dX7_doInspect_7 : decode cX7_doInspect 7 = .ok (.iload_n 2, 1) := by decide +kernel
theorem dX7_doInspect_8 : decode cX7_doInspect 8 = .ok (.iaload, 1) := by decide +kernel
theorem dX7_doInspect_9 : decode cX7_doInspect 9 = .ok (.invokevirtual 201, 3) := by decide +kernel
theorem dX7_doInspect_12 : decode cX7_doInspect 12 = .ok (.aload_n 0, 1) := by decide +kernel
theorem dX7_doInspect_13 : decode cX7_doInspect 13 = .ok (.getfield 7, 3) := by decide +kernel
theorem dX7_doInspect_16 : decode cX7_doInspect 16 = .ok (.iconst 0, 1) := by decide +kernel
theorem dX7_doInspect_17 : decode cX7_doInspect 17 = .ok (.iload_n 2, 1) := by decide +kernel
theorem dX7_doInspect_18 : decode cX7_doInspect 18 = .ok (.iadd, 1) := by decide +kernel
theorem dX7_doInspect_19 : decode cX7_doInspect 19 = .ok (.aload_n 0, 1) := by decide +kernel
theorem dX7_doInspect_20 : decode cX7_doInspect 20 = .ok (.getfield 24, 3) := by decide +kernel
theorem dX7_doInspect_23 : decode cX7_doInspect 23 = .ok (.iload_n 2, 1) := by decide +kernel
theorem dX7_doInspect_24 : decode cX7_doInspect 24 = .ok (.iaload, 1) := by decide +kernel
theorem dX7_doInspect_25 : decode cX7_doInspect 25 = .ok (.iconst 3, 1) := by decide +kernel
theorem dX7_doInspect_26 : decode cX7_doInspect 26 = .ok (.if_icmp .ne 7, 3) := by decide +kernel
theorem dX7_doInspect_29 : decode cX7_doInspect 29 = .ok (.iconst 0, 1) := by decide +kernel
theorem dX7_doInspect_30 : decode cX7_doInspect 30 = .ok (.goto 11, 3) := by decide +kernel
theorem dX7_doInspect_33 : decode cX7_doInspect 33 = .ok (.aload_n 0, 1) := by decide +kernel
theorem dX7_doInspect_34 : decode cX7_doInspect 34 = .ok (.getfield 7, 3) := by decide +kernel
theorem dX7_doInspect_37 : decode cX7_doInspect 37 = .ok (.iconst 0, 1) := by decide +kernel
theorem dX7_doInspect_38 : decode cX7_doInspect 38 = .ok (.iload_n 2, 1) := by decide +kernel
theorem dX7_doInspect_39 : decode cX7_doInspect 39 = .ok (.iadd, 1) := by decide +kernel
theorem dX7_doInspect_40 : decode cX7_doInspect 40 = .ok (.iaload, 1) := by decide +kernel
theorem dX7_doInspect_41 : decode cX7_doInspect 41 = .ok (.iastore, 1) := by decide +kernel
theorem dX7_doInspect_42 : decode cX7_doInspect 42 = .ok (.return_, 1) := by decide +kernel
theorem dX7_inspect_0 : decode cX7_inspect 0 = .ok (.aload_n 0, 1) := by decide +kernel
theorem dX7_inspect_1 : decode cX7_inspect 1 = .ok (.iload_n 1, 1) := by decide +kernel
theorem dX7_inspect_2 : decode cX7_inspect 2 = .ok (.invokevirtual 188, 3) := by decide +kernel
theorem dX7_inspect_5 : decode cX7_inspect 5 = .ok (.ifCond .eq 11, 3) := by decide +kernel
theorem dX7_inspect_8 : decode cX7_inspect 8 = .ok (.aload_n 0, 1) := by decide +kernel
theorem dX7_inspect_9 : decode cX7_inspect 9 = .ok (.iload_n 2, 1) := by decide +kernel
theorem dX7_inspect_10 : decode cX7_inspect 10 = .ok (.invokevirtual 178, 3) := by decide +kernel
theorem dX7_inspect_13 : decode cX7_inspect 13 = .ok (.ifCond .ne 6, 3) := by decide +kernel
theorem dX7_inspect_16 : decode cX7_inspect 16 = .ok (.ldc 181, 2) := by decide +kernel
theorem dX7_inspect_18 : decode cX7_inspect 18 = .ok (.ireturn, 1) := by decide +kernel
theorem dX7_inspect_19 : decode cX7_inspect 19 = .ok (.aload_n 0, 1) := by decide +kernel
theorem dX7_inspect_20 : decode cX7_inspect 20 = .ok (.iload_n 1, 1) := by decide +kernel
theorem dX7_inspect_21 : decode cX7_inspect 21 = .ok (.iload_n 2, 1) := by decide +kernel
theorem dX7_inspect_22 : decode cX7_inspect 22 = .ok (.invokevirtual 212, 3) := by decide +kernel
theorem dX7_inspect_25 : decode cX7_inspect 25 = .ok (.aload_n 0, 1) := by decide +kernel
theorem dX7_inspect_26 : decode cX7_inspect 26 = .ok (.getfield 27, 3) := by decide +kernel
theorem dX7_inspect_29 : decode cX7_inspect 29 = .ok (.iload_n 2, 1) := by decide +kernel
theorem dX7_inspect_30 : decode cX7_inspect 30 = .ok (.iaload, 1) := by decide +kernel
theorem dX7_inspect_31 : decode cX7_inspect 31 = .ok (.ireturn, 1) := by decide +kernel
theorem dX7_belt_0 : decode cX7_belt 0 = .ok (.aload_n 0, 1) := by decide +kernel
theorem dX7_belt_1 : decode cX7_belt 1 = .ok (.iload_n 1, 1) := by decide +kernel
theorem dX7_belt_2 : decode cX7_belt 2 = .ok (.invokevirtual 178, 3) := by decide +kernel
theorem dX7_belt_5 : decode cX7_belt 5 = .ok (.ifCond .ne 6, 3) := by decide +kernel
theorem dX7_belt_8 : decode cX7_belt 8 = .ok (.ldc 181, 2) := by decide +kernel
theorem dX7_belt_10 : decode cX7_belt 10 = .ok (.ireturn, 1) := by decide +kernel
theorem dX7_belt_11 : decode cX7_belt 11 = .ok (.iload_n 2, 1) := by decide +kernel
theorem dX7_belt_12 : decode cX7_belt 12 = .ok (.i2l, 1) := by decide +kernel
theorem dX7_belt_13 : decode cX7_belt 13 = .ok (.lconst 0, 1) := by decide +kernel
theorem dX7_belt_14 : decode cX7_belt 14 = .ok (.ldc2_w 215, 3) := by decide +kernel
theorem dX7_belt_17 : decode cX7_belt 17 = .ok (.invokestatic 68, 3) := by decide +kernel
theorem dX7_belt_20 : decode cX7_belt 20 = .ok (.ifCond .ne 6, 3) := by decide +kernel
theorem dX7_belt_23 : decode cX7_belt 23 = .ok (.ldc 72, 2) := by decide +kernel
theorem dX7_belt_25 : decode cX7_belt 25 = .ok (.ireturn, 1) := by decide +kernel
theorem dX7_belt_26 : decode cX7_belt 26 = .ok (.aload_n 0, 1) := by decide +kernel
theorem dX7_belt_27 : decode cX7_belt 27 = .ok (.getfield 7, 3) := by decide +kernel
theorem dX7_belt_30 : decode cX7_belt 30 = .ok (.iconst 0, 1) := by decide +kernel
theorem dX7_belt_31 : decode cX7_belt 31 = .ok (.iload_n 1, 1) := by decide +kernel
theorem dX7_belt_32 : decode cX7_belt 32 = .ok (.iadd, 1) := by decide +kernel
theorem dX7_belt_33 : decode cX7_belt 33 = .ok (.iaload, 1) := by decide +kernel
theorem dX7_belt_34 : decode cX7_belt 34 = .ok (.istore_n 3, 1) := by decide +kernel
theorem dX7_belt_35 : decode cX7_belt 35 = .ok (.aload_n 0, 1) := by decide +kernel
theorem dX7_belt_36 : decode cX7_belt 36 = .ok (.getfield 7, 3) := by decide +kernel
theorem dX7_belt_39 : decode cX7_belt 39 = .ok (.iconst 0, 1) := by decide +kernel
theorem dX7_belt_40 : decode cX7_belt 40 = .ok (.iload_n 1, 1) := by decide +kernel
theorem dX7_belt_41 : decode cX7_belt 41 = .ok (.iadd, 1) := by decide +kernel
theorem dX7_belt_42 : decode cX7_belt 42 = .ok (.iload_n 2, 1) := by decide +kernel
theorem dX7_belt_43 : decode cX7_belt 43 = .ok (.iastore, 1) := by decide +kernel
theorem dX7_belt_44 : decode cX7_belt 44 = .ok (.iload_n 3, 1) := by decide +kernel
theorem dX7_belt_45 : decode cX7_belt 45 = .ok (.ireturn, 1) := by decide +kernel
theorem dX7_passes_0 : decode cX7_passes 0 = .ok (.aload_n 0, 1) := by decide +kernel
theorem dX7_passes_1 : decode cX7_passes 1 = .ok (.getfield 33, 3) := by decide +kernel
theorem dX7_passes_4 : decode cX7_passes 4 = .ok (.iconst 4, 1) := by decide +kernel
theorem dX7_passes_5 : decode cX7_passes 5 = .ok (.iload_n 2, 1) := by decide +kernel
theorem dX7_passes_6 : decode cX7_passes 6 = .ok (.imul, 1) := by decide +kernel
theorem dX7_passes_7 : decode cX7_passes 7 = .ok (.iconst 1, 1) := by decide +kernel
theorem dX7_passes_8 : decode cX7_passes 8 = .ok (.iadd, 1) := by decide +kernel
theorem dX7_passes_9 : decode cX7_passes 9 = .ok (.iaload, 1) := by decide +kernel
theorem dX7_passes_10 : decode cX7_passes 10 = .ok (.istore 5, 2) := by decide +kernel
theorem dX7_passes_12 : decode cX7_passes 12 = .ok (.iload 5, 2) := by decide +kernel
theorem dX7_passes_14 : decode cX7_passes 14 = .ok (.istore 6, 2) := by decide +kernel
theorem dX7_passes_16 : decode cX7_passes 16 = .ok (.iconst 0, 1) := by decide +kernel
theorem dX7_passes_17 : decode cX7_passes 17 = .ok (.istore 7, 2) := by decide +kernel
theorem dX7_passes_19 : decode cX7_passes 19 = .ok (.iload 7, 2) := by decide +kernel
theorem dX7_passes_21 : decode cX7_passes 21 = .ok (.aload_n 0, 1) := by decide +kernel
theorem dX7_passes_22 : decode cX7_passes 22 = .ok (.getfield 162, 3) := by decide +kernel
theorem dX7_passes_25 : decode cX7_passes 25 = .ok (.if_icmp .ge 54, 3) := by decide +kernel
theorem dX7_passes_28 : decode cX7_passes 28 = .ok (.iload 6, 2) := by decide +kernel
theorem dX7_passes_30 : decode cX7_passes 30 = .ok (.iload_n 3, 1) := by decide +kernel
theorem dX7_passes_31 : decode cX7_passes 31 = .ok (.iload 7, 2) := by decide +kernel
theorem dX7_passes_33 : decode cX7_passes 33 = .ok (.invokestatic 112, 3) := by decide +kernel
theorem dX7_passes_36 : decode cX7_passes 36 = .ok (.ifCond .eq 33, 3) := by decide +kernel
theorem dX7_passes_39 : decode cX7_passes 39 = .ok (.aload_n 0, 1) := by decide +kernel
theorem dX7_passes_40 : decode cX7_passes 40 = .ok (.getfield 36, 3) := by decide +kernel
theorem dX7_passes_43 : decode cX7_passes 43 = .ok (.iconst 3, 1) := by decide +kernel
theorem dX7_passes_44 : decode cX7_passes 44 = .ok (.iload 7, 2) := by decide +kernel
theorem dX7_passes_46 : decode cX7_passes 46 = .ok (.imul, 1) := by decide +kernel
theorem dX7_passes_47 : decode cX7_passes 47 = .ok (.iconst 2, 1) := by decide +kernel
theorem dX7_passes_48 : decode cX7_passes 48 = .ok (.iadd, 1) := by decide +kernel
theorem dX7_passes_49 : decode cX7_passes 49 = .ok (.iaload, 1) := by decide +kernel
theorem dX7_passes_50 : decode cX7_passes 50 = .ok (.iload 4, 2) := by decide +kernel
theorem dX7_passes_52 : decode cX7_passes 52 = .ok (.if_icmp .gt 17, 3) := by decide +kernel
theorem dX7_passes_55 : decode cX7_passes 55 = .ok (.aload_n 0, 1) := by decide +kernel
theorem dX7_passes_56 : decode cX7_passes 56 = .ok (.getfield 36, 3) := by decide +kernel
theorem dX7_passes_59 : decode cX7_passes 59 = .ok (.iconst 3, 1) := by decide +kernel
theorem dX7_passes_60 : decode cX7_passes 60 = .ok (.iload 7, 2) := by decide +kernel
theorem dX7_passes_62 : decode cX7_passes 62 = .ok (.imul, 1) := by decide +kernel
theorem dX7_passes_63 : decode cX7_passes 63 = .ok (.iconst 1, 1) := by decide +kernel
theorem dX7_passes_64 : decode cX7_passes 64 = .ok (.iadd, 1) := by decide +kernel
theorem dX7_passes_65 : decode cX7_passes 65 = .ok (.iaload, 1) := by decide +kernel
theorem dX7_passes_66 : decode cX7_passes 66 = .ok (.goto 4, 3) := by decide +kernel
theorem dX7_passes_69 : decode cX7_passes 69 = .ok (.iconst 0, 1) := by decide +kernel
theorem dX7_passes_70 : decode cX7_passes 70 = .ok (.isub, 1) := by decide +kernel
theorem dX7_passes_71 : decode cX7_passes 71 = .ok (.istore 6, 2) := by decide +kernel
theorem dX7_passes_73 : decode cX7_passes 73 = .ok (.iinc 7 1, 3) := by decide +kernel
theorem dX7_passes_76 : decode cX7_passes 76 = .ok (.goto (-57), 3) := by decide +kernel
theorem dX7_passes_79 : decode cX7_passes 79 = .ok (.iload 6, 2) := by decide +kernel
theorem dX7_passes_81 : decode cX7_passes 81 = .ok (.ifCond .ge 7, 3) := by decide +kernel
theorem dX7_passes_84 : decode cX7_passes 84 = .ok (.iconst 0, 1) := by decide +kernel
theorem dX7_passes_85 : decode cX7_passes 85 = .ok (.goto 5, 3) := by decide +kernel
theorem dX7_passes_88 : decode cX7_passes 88 = .ok (.iload 6, 2) := by decide +kernel
theorem dX7_passes_90 : decode cX7_passes 90 = .ok (.istore 6, 2) := by decide +kernel
theorem dX7_passes_92 : decode cX7_passes 92 = .ok (.aload_n 0, 1) := by decide +kernel
theorem dX7_passes_93 : decode cX7_passes 93 = .ok (.getfield 24, 3) := by decide +kernel
theorem dX7_passes_96 : decode cX7_passes 96 = .ok (.iload_n 1, 1) := by decide +kernel
theorem dX7_passes_97 : decode cX7_passes 97 = .ok (.iaload, 1) := by decide +kernel
theorem dX7_passes_98 : decode cX7_passes 98 = .ok (.iconst 4, 1) := by decide +kernel
theorem dX7_passes_99 : decode cX7_passes 99 = .ok (.if_icmp .eq 25, 3) := by decide +kernel
theorem dX7_passes_102 : decode cX7_passes 102 = .ok (.aload_n 0, 1) := by decide +kernel
theorem dX7_passes_103 : decode cX7_passes 103 = .ok (.getfield 27, 3) := by decide +kernel
theorem dX7_passes_106 : decode cX7_passes 106 = .ok (.iload_n 1, 1) := by decide +kernel
theorem dX7_passes_107 : decode cX7_passes 107 = .ok (.iaload, 1) := by decide +kernel
theorem dX7_passes_108 : decode cX7_passes 108 = .ok (.iload 6, 2) := by decide +kernel
theorem dX7_passes_110 : decode cX7_passes 110 = .ok (.if_icmp .ge 10, 3) := by decide +kernel
theorem dX7_passes_113 : decode cX7_passes 113 = .ok (.iload 4, 2) := by decide +kernel
theorem dX7_passes_115 : decode cX7_passes 115 = .ok (.iload 5, 2) := by decide +kernel
theorem dX7_passes_117 : decode cX7_passes 117 = .ok (.if_icmp .le 7, 3) := by decide +kernel
theorem dX7_passes_120 : decode cX7_passes 120 = .ok (.iconst 1, 1) := by decide +kernel
theorem dX7_passes_121 : decode cX7_passes 121 = .ok (.goto 4, 3) := by decide +kernel
theorem dX7_passes_124 : decode cX7_passes 124 = .ok (.iconst 0, 1) := by decide +kernel
theorem dX7_passes_125 : decode cX7_passes 125 = .ok (.ireturn, 1) := by decide +kernel
theorem dX7_attempt_0 : decode cX7_attempt 0 = .ok (.aload_n 0, 1) := by decide +kernel
theorem dX7_attempt_1 : decode cX7_attempt 1 = .ok (.iload_n 1, 1) := by decide +kernel
theorem dX7_attempt_2 : decode cX7_attempt 2 = .ok (.invokevirtual 178, 3) := by decide +kernel
theorem dX7_attempt_5 : decode cX7_attempt 5 = .ok (.ifCond .eq 29, 3) := by decide +kernel
theorem dX7_attempt_8 : decode cX7_attempt 8 = .ok (.aload_n 0, 1) := by decide +kernel
theorem dX7_attempt_9 : decode cX7_attempt 9 = .ok (.iload_n 2, 1) := by decide +kernel
theorem dX7_attempt_10 : decode cX7_attempt 10 = .ok (.invokevirtual 191, 3) := by decide +kernel
theorem dX7_attempt_13 : decode cX7_attempt 13 = .ok (.ifCond .eq 21, 3) := by decide +kernel
theorem dX7_attempt_16 : decode cX7_attempt 16 = .ok (.iload_n 3, 1) := by decide +kernel
theorem dX7_attempt_17 : decode cX7_attempt 17 = .ok (.i2l, 1) := by decide +kernel
theorem dX7_attempt_18 : decode cX7_attempt 18 = .ok (.lconst 0, 1) := by decide +kernel
theorem dX7_attempt_19 : decode cX7_attempt 19 = .ok (.iconst 1, 1) := by decide +kernel
theorem dX7_attempt_20 : decode cX7_attempt 20 = .ok (.aload_n 0, 1) := by decide +kernel
theorem dX7_attempt_21 : decode cX7_attempt 21 = .ok (.getfield 162, 3) := by decide +kernel
theorem dX7_attempt_24 : decode cX7_attempt 24 = .ok (.ishl, 1) := by decide +kernel
theorem dX7_attempt_25 : decode cX7_attempt 25 = .ok (.iconst 1, 1) := by decide +kernel
theorem dX7_attempt_26 : decode cX7_attempt 26 = .ok (.isub, 1) := by decide +kernel
theorem dX7_attempt_27 : decode cX7_attempt 27 = .ok (.i2l, 1) := by decide +kernel
theorem dX7_attempt_28 : decode cX7_attempt 28 = .ok (.invokestatic 68, 3) := by decide +kernel
theorem dX7_attempt_31 : decode cX7_attempt 31 = .ok (.ifCond .ne 6, 3) := by decide +kernel
theorem dX7_attempt_34 : decode cX7_attempt 34 = .ok (.ldc 181, 2) := by decide +kernel
theorem dX7_attempt_36 : decode cX7_attempt 36 = .ok (.ireturn, 1) := by decide +kernel
theorem dX7_attempt_37 : decode cX7_attempt 37 = .ok (.aload_n 0, 1) := by decide +kernel
theorem dX7_attempt_38 : decode cX7_attempt 38 = .ok (.getfield 7, 3) := by decide +kernel
theorem dX7_attempt_41 : decode cX7_attempt 41 = .ok (.bipush 35, 2) := by decide +kernel
theorem dX7_attempt_43 : decode cX7_attempt 43 = .ok (.iload_n 1, 1) := by decide +kernel
theorem dX7_attempt_44 : decode cX7_attempt 44 = .ok (.iadd, 1) := by decide +kernel
theorem dX7_attempt_45 : decode cX7_attempt 45 = .ok (.iaload, 1) := by decide +kernel
theorem dX7_attempt_46 : decode cX7_attempt 46 = .ok (.iload_n 2, 1) := by decide +kernel
theorem dX7_attempt_47 : decode cX7_attempt 47 = .ok (.invokestatic 112, 3) := by decide +kernel
theorem dX7_attempt_50 : decode cX7_attempt 50 = .ok (.ifCond .ne 29, 3) := by decide +kernel
theorem dX7_attempt_53 : decode cX7_attempt 53 = .ok (.iload_n 3, 1) := by decide +kernel
theorem dX7_attempt_54 : decode cX7_attempt 54 = .ok (.aload_n 0, 1) := by decide +kernel
theorem dX7_attempt_55 : decode cX7_attempt 55 = .ok (.iload_n 2, 1) := by decide +kernel
theorem dX7_attempt_56 : decode cX7_attempt 56 = .ok (.invokevirtual 196, 3) := by decide +kernel
theorem dX7_attempt_59 : decode cX7_attempt 59 = .ok (.iconst (-1), 1) := by decide +kernel
theorem dX7_attempt_60 : decode cX7_attempt 60 = .ok (.ixor, 1) := by decide +kernel
theorem dX7_attempt_61 : decode cX7_attempt 61 = .ok (.iand, 1) := by decide +kernel
theorem dX7_attempt_62 : decode cX7_attempt 62 = .ok (.ifCond .ne 17, 3) := by decide +kernel
theorem dX7_attempt_65 : decode cX7_attempt 65 = .ok (.iload_n 3, 1) := by decide +kernel
theorem dX7_attempt_66 : decode cX7_attempt 66 = .ok (.aload_n 0, 1) := by decide +kernel
theorem dX7_attempt_67 : decode cX7_attempt 67 = .ok (.getfield 7, 3) := by decide +kernel
theorem dX7_attempt_70 : decode cX7_attempt 70 = .ok (.bipush 40, 2) := by decide +kernel
theorem dX7_attempt_72 : decode cX7_attempt 72 = .ok (.iload_n 1, 1) := by decide +kernel
theorem dX7_attempt_73 : decode cX7_attempt 73 = .ok (.iadd, 1) := by decide +kernel
theorem dX7_attempt_74 : decode cX7_attempt 74 = .ok (.iaload, 1) := by decide +kernel
theorem dX7_attempt_75 : decode cX7_attempt 75 = .ok (.iand, 1) := by decide +kernel
theorem dX7_attempt_76 : decode cX7_attempt 76 = .ok (.ifCond .eq 6, 3) := by decide +kernel
theorem dX7_attempt_79 : decode cX7_attempt 79 = .ok (.ldc 217, 2) := by decide +kernel
theorem dX7_attempt_81 : decode cX7_attempt 81 = .ok (.ireturn, 1) := by decide +kernel
theorem dX7_attempt_82 : decode cX7_attempt 82 = .ok (.aload_n 0, 1) := by decide +kernel
theorem dX7_attempt_83 : decode cX7_attempt 83 = .ok (.getfield 33, 3) := by decide +kernel
theorem dX7_attempt_86 : decode cX7_attempt 86 = .ok (.iconst 4, 1) := by decide +kernel
theorem dX7_attempt_87 : decode cX7_attempt 87 = .ok (.iload_n 2, 1) := by decide +kernel
theorem dX7_attempt_88 : decode cX7_attempt 88 = .ok (.imul, 1) := by decide +kernel
theorem dX7_attempt_89 : decode cX7_attempt 89 = .ok (.iaload, 1) := by decide +kernel
theorem dX7_attempt_90 : decode cX7_attempt 90 = .ok (.istore 4, 2) := by decide +kernel
theorem dX7_attempt_92 : decode cX7_attempt 92 = .ok (.aload_n 0, 1) := by decide +kernel
theorem dX7_attempt_93 : decode cX7_attempt 93 = .ok (.iload_n 1, 1) := by decide +kernel
theorem dX7_attempt_94 : decode cX7_attempt 94 = .ok (.iload_n 2, 1) := by decide +kernel
theorem dX7_attempt_95 : decode cX7_attempt 95 = .ok (.iload_n 3, 1) := by decide +kernel
theorem dX7_attempt_96 : decode cX7_attempt 96 = .ok (.aload_n 0, 1) := by decide +kernel
theorem dX7_attempt_97 : decode cX7_attempt 97 = .ok (.iload 4, 2) := by decide +kernel
theorem dX7_attempt_99 : decode cX7_attempt 99 = .ok (.iload_n 1, 1) := by decide +kernel
theorem dX7_attempt_100 : decode cX7_attempt 100 = .ok (.invokevirtual 168, 3) := by decide +kernel
theorem dX7_attempt_103 : decode cX7_attempt 103 = .ok (.invokevirtual 218, 3) := by decide +kernel
theorem dX7_attempt_106 : decode cX7_attempt 106 = .ok (.istore 5, 2) := by decide +kernel
theorem dX7_attempt_108 : decode cX7_attempt 108 = .ok (.aload_n 0, 1) := by decide +kernel
theorem dX7_attempt_109 : decode cX7_attempt 109 = .ok (.getfield 7, 3) := by decide +kernel
theorem dX7_attempt_112 : decode cX7_attempt 112 = .ok (.bipush 40, 2) := by decide +kernel
theorem dX7_attempt_114 : decode cX7_attempt 114 = .ok (.iload_n 1, 1) := by decide +kernel
theorem dX7_attempt_115 : decode cX7_attempt 115 = .ok (.iadd, 1) := by decide +kernel
theorem dX7_attempt_116 : decode cX7_attempt 116 = .ok (.dup2, 1) := by decide +kernel
theorem dX7_attempt_117 : decode cX7_attempt 117 = .ok (.iaload, 1) := by decide +kernel
theorem dX7_attempt_118 : decode cX7_attempt 118 = .ok (.iload_n 3, 1) := by decide +kernel
theorem dX7_attempt_119 : decode cX7_attempt 119 = .ok (.ior, 1) := by decide +kernel
theorem dX7_attempt_120 : decode cX7_attempt 120 = .ok (.iastore, 1) := by decide +kernel
theorem dX7_attempt_121 : decode cX7_attempt 121 = .ok (.iload 5, 2) := by decide +kernel
theorem dX7_attempt_123 : decode cX7_attempt 123 = .ok (.ifCond .ne 18, 3) := by decide +kernel
theorem dX7_attempt_126 : decode cX7_attempt 126 = .ok (.aload_n 0, 1) := by decide +kernel
theorem dX7_attempt_127 : decode cX7_attempt 127 = .ok (.iload 4, 2) := by decide +kernel
theorem dX7_attempt_129 : decode cX7_attempt 129 = .ok (.iload_n 1, 1) := by decide +kernel
theorem dX7_attempt_130 : decode cX7_attempt 130 = .ok (.aload_n 0, 1) := by decide +kernel
theorem dX7_attempt_131 : decode cX7_attempt 131 = .ok (.getfield 27, 3) := by decide +kernel
theorem dX7_attempt_134 : decode cX7_attempt 134 = .ok (.iload_n 1, 1) := by decide +kernel
theorem dX7_attempt_135 : decode cX7_attempt 135 = .ok (.iaload, 1) := by decide +kernel
theorem dX7_attempt_136 : decode cX7_attempt 136 = .ok (.invokevirtual 201, 3) := by decide +kernel
theorem dX7_attempt_139 : decode cX7_attempt 139 = .ok (.iconst 0, 1) := by decide +kernel
theorem dX7_attempt_140 : decode cX7_attempt 140 = .ok (.ireturn, 1) := by decide +kernel
theorem dX7_attempt_141 : decode cX7_attempt 141 = .ok (.aload_n 0, 1) := by decide +kernel
theorem dX7_attempt_142 : decode cX7_attempt 142 = .ok (.getfield 7, 3) := by decide +kernel
theorem dX7_attempt_145 : decode cX7_attempt 145 = .ok (.bipush 35, 2) := by decide +kernel
theorem dX7_attempt_147 : decode cX7_attempt 147 = .ok (.iload_n 1, 1) := by decide +kernel
theorem dX7_attempt_148 : decode cX7_attempt 148 = .ok (.iadd, 1) := by decide +kernel
theorem dX7_attempt_149 : decode cX7_attempt 149 = .ok (.dup2, 1) := by decide +kernel
theorem dX7_attempt_150 : decode cX7_attempt 150 = .ok (.iaload, 1) := by decide +kernel
theorem dX7_attempt_151 : decode cX7_attempt 151 = .ok (.iconst 1, 1) := by decide +kernel
theorem dX7_attempt_152 : decode cX7_attempt 152 = .ok (.iload_n 2, 1) := by decide +kernel
theorem dX7_attempt_153 : decode cX7_attempt 153 = .ok (.ishl, 1) := by decide +kernel
theorem dX7_attempt_154 : decode cX7_attempt 154 = .ok (.ior, 1) := by decide +kernel
theorem dX7_attempt_155 : decode cX7_attempt 155 = .ok (.iastore, 1) := by decide +kernel
theorem dX7_attempt_156 : decode cX7_attempt 156 = .ok (.iconst 0, 1) := by decide +kernel
theorem dX7_attempt_157 : decode cX7_attempt 157 = .ok (.istore 6, 2) := by decide +kernel
theorem dX7_attempt_159 : decode cX7_attempt 159 = .ok (.iload 6, 2) := by decide +kernel
theorem dX7_attempt_161 : decode cX7_attempt 161 = .ok (.aload_n 0, 1) := by decide +kernel
theorem dX7_attempt_162 : decode cX7_attempt 162 = .ok (.getfield 150, 3) := by decide +kernel
theorem dX7_attempt_165 : decode cX7_attempt 165 = .ok (.if_icmp .ge 34, 3) := by decide +kernel
theorem dX7_attempt_168 : decode cX7_attempt 168 = .ok (.aload_n 0, 1) := by decide +kernel
theorem dX7_attempt_169 : decode cX7_attempt 169 = .ok (.iload 6, 2) := by decide +kernel
theorem dX7_attempt_171 : decode cX7_attempt 171 = .ok (.iload_n 1, 1) := by decide +kernel
theorem dX7_attempt_172 : decode cX7_attempt 172 = .ok (.aload_n 0, 1) := by decide +kernel
theorem dX7_attempt_173 : decode cX7_attempt 173 = .ok (.iload 6, 2) := by decide +kernel
theorem dX7_attempt_175 : decode cX7_attempt 175 = .ok (.iload_n 1, 1) := by decide +kernel
theorem dX7_attempt_176 : decode cX7_attempt 176 = .ok (.invokevirtual 168, 3) := by decide +kernel
theorem dX7_attempt_179 : decode cX7_attempt 179 = .ok (.aload_n 0, 1) := by decide +kernel
theorem dX7_attempt_180 : decode cX7_attempt 180 = .ok (.getfield 33, 3) := by decide +kernel
theorem dX7_attempt_183 : decode cX7_attempt 183 = .ok (.iconst 4, 1) := by decide +kernel
theorem dX7_attempt_184 : decode cX7_attempt 184 = .ok (.iload_n 2, 1) := by decide +kernel
theorem dX7_attempt_185 : decode cX7_attempt 185 = .ok (.imul, 1) := by decide +kernel
theorem dX7_attempt_186 : decode cX7_attempt 186 = .ok (.iconst 3, 1) := by decide +kernel
theorem dX7_attempt_187 : decode cX7_attempt 187 = .ok (.iadd, 1) := by decide +kernel
theorem dX7_attempt_188 : decode cX7_attempt 188 = .ok (.iaload, 1) := by decide +kernel
theorem dX7_attempt_189 : decode cX7_attempt 189 = .ok (.iadd, 1) := by decide +kernel
theorem dX7_attempt_190 : decode cX7_attempt 190 = .ok (.invokevirtual 201, 3) := by decide +kernel
theorem dX7_attempt_193 : decode cX7_attempt 193 = .ok (.iinc 6 1, 3) := by decide +kernel
theorem dX7_attempt_196 : decode cX7_attempt 196 = .ok (.goto (-37), 3) := by decide +kernel
theorem dX7_attempt_199 : decode cX7_attempt 199 = .ok (.iconst 1, 1) := by decide +kernel
theorem dX7_attempt_200 : decode cX7_attempt 200 = .ok (.ireturn, 1) := by decide +kernel
theorem dX7_draw_0 : decode cX7_draw 0 = .ok (.aload_n 0, 1) := by decide +kernel
theorem dX7_draw_1 : decode cX7_draw 1 = .ok (.getfield 7, 3) := by decide +kernel
theorem dX7_draw_4 : decode cX7_draw 4 = .ok (.bipush 46, 2) := by decide +kernel
theorem dX7_draw_6 : decode cX7_draw 6 = .ok (.iaload, 1) := by decide +kernel
theorem dX7_draw_7 : decode cX7_draw 7 = .ok (.i2l, 1) := by decide +kernel
theorem dX7_draw_8 : decode cX7_draw 8 = .ok (.ldc2_w 222, 3) := by decide +kernel
theorem dX7_draw_11 : decode cX7_draw 11 = .ok (.lmul, 1) := by decide +kernel
theorem dX7_draw_12 : decode cX7_draw 12 = .ok (.ldc2_w 224, 3) := by decide +kernel
theorem dX7_draw_15 : decode cX7_draw 15 = .ok (.ladd, 1) := by decide +kernel
theorem dX7_draw_16 : decode cX7_draw 16 = .ok (.ldc2_w 226, 3) := by decide +kernel
theorem dX7_draw_19 : decode cX7_draw 19 = .ok (.lrem, 1) := by decide +kernel
theorem dX7_draw_20 : decode cX7_draw 20 = .ok (.lstore_n 2, 1) := by decide +kernel
theorem dX7_draw_21 : decode cX7_draw 21 = .ok (.aload_n 0, 1) := by decide +kernel
theorem dX7_draw_22 : decode cX7_draw 22 = .ok (.getfield 7, 3) := by decide +kernel
theorem dX7_draw_25 : decode cX7_draw 25 = .ok (.bipush 46, 2) := by decide +kernel
theorem dX7_draw_27 : decode cX7_draw 27 = .ok (.lload_n 2, 1) := by decide +kernel
theorem dX7_draw_28 : decode cX7_draw 28 = .ok (.l2i, 1) := by decide +kernel
theorem dX7_draw_29 : decode cX7_draw 29 = .ok (.iastore, 1) := by decide +kernel
theorem dX7_draw_30 : decode cX7_draw 30 = .ok (.lload_n 2, 1) := by decide +kernel
theorem dX7_draw_31 : decode cX7_draw 31 = .ok (.ldc2_w 228, 3) := by decide +kernel
theorem dX7_draw_34 : decode cX7_draw 34 = .ok (.ldiv, 1) := by decide +kernel
theorem dX7_draw_35 : decode cX7_draw 35 = .ok (.iload_n 1, 1) := by decide +kernel
theorem dX7_draw_36 : decode cX7_draw 36 = .ok (.i2l, 1) := by decide +kernel
theorem dX7_draw_37 : decode cX7_draw 37 = .ok (.lrem, 1) := by decide +kernel
theorem dX7_draw_38 : decode cX7_draw 38 = .ok (.l2i, 1) := by decide +kernel
theorem dX7_draw_39 : decode cX7_draw 39 = .ok (.ireturn, 1) := by decide +kernel
theorem dX7_drift_0 : decode cX7_drift 0 = .ok (.iload_n 1, 1) := by decide +kernel
theorem dX7_drift_1 : decode cX7_drift 1 = .ok (.i2l, 1) := by decide +kernel
theorem dX7_drift_2 : decode cX7_drift 2 = .ok (.lconst 1, 1) := by decide +kernel
theorem dX7_drift_3 : decode cX7_drift 3 = .ok (.ldc2_w 215, 3) := by decide +kernel
theorem dX7_drift_6 : decode cX7_drift 6 = .ok (.invokestatic 68, 3) := by decide +kernel
theorem dX7_drift_9 : decode cX7_drift 9 = .ok (.ifCond .ne 6, 3) := by decide +kernel
theorem dX7_drift_12 : decode cX7_drift 12 = .ok (.ldc 72, 2) := by decide +kernel
theorem dX7_drift_14 : decode cX7_drift 14 = .ok (.ireturn, 1) := by decide +kernel
theorem dX7_drift_15 : decode cX7_drift 15 = .ok (.aload_n 0, 1) := by decide +kernel
theorem dX7_drift_16 : decode cX7_drift 16 = .ok (.getfield 150, 3) := by decide +kernel
theorem dX7_drift_19 : decode cX7_drift 19 = .ok (.ifCond .eq 10, 3) := by decide +kernel
theorem dX7_drift_22 : decode cX7_drift 22 = .ok (.aload_n 0, 1) := by decide +kernel
theorem dX7_drift_23 : decode cX7_drift 23 = .ok (.getfield 153, 3) := by decide +kernel
theorem dX7_drift_26 : decode cX7_drift 26 = .ok (.ifCond .ne 6, 3) := by decide +kernel
theorem dX7_drift_29 : decode cX7_drift 29 = .ok (.ldc 217, 2) := by decide +kernel
theorem dX7_drift_31 : decode cX7_drift 31 = .ok (.ireturn, 1) := by decide +kernel
theorem dX7_drift_32 : decode cX7_drift 32 = .ok (.aload_n 0, 1) := by decide +kernel
theorem dX7_drift_33 : decode cX7_drift 33 = .ok (.getfield 7, 3) := by decide +kernel
theorem dX7_drift_36 : decode cX7_drift 36 = .ok (.bipush 45, 2) := by decide +kernel
theorem dX7_drift_38 : decode cX7_drift 38 = .ok (.iaload, 1) := by decide +kernel
theorem dX7_drift_39 : decode cX7_drift 39 = .ok (.ldc 230, 2) := by decide +kernel
theorem dX7_drift_41 : decode cX7_drift 41 = .ok (.if_icmp .le 6, 3) := by decide +kernel
theorem dX7_drift_44 : decode cX7_drift 44 = .ok (.ldc 76, 2) := by decide +kernel
theorem dX7_drift_46 : decode cX7_drift 46 = .ok (.ireturn, 1) := by decide +kernel
theorem dX7_drift_47 : decode cX7_drift 47 = .ok (.iconst 0, 1) := by decide +kernel
theorem dX7_drift_48 : decode cX7_drift 48 = .ok (.istore_n 2, 1) := by decide +kernel
theorem dX7_drift_49 : decode cX7_drift 49 = .ok (.iload_n 2, 1) := by decide +kernel
theorem dX7_drift_50 : decode cX7_drift 50 = .ok (.iload_n 1, 1) := by decide +kernel
theorem dX7_drift_51 : decode cX7_drift 51 = .ok (.if_icmp .ge 84, 3) := by decide +kernel
theorem dX7_drift_54 : decode cX7_drift 54 = .ok (.aload_n 0, 1) := by decide +kernel
theorem dX7_drift_55 : decode cX7_drift 55 = .ok (.aload_n 0, 1) := by decide +kernel
theorem dX7_drift_56 : decode cX7_drift 56 = .ok (.getfield 150, 3) := by decide +kernel
theorem dX7_drift_59 : decode cX7_drift 59 = .ok (.invokevirtual 231, 3) := by decide +kernel
theorem dX7_drift_62 : decode cX7_drift 62 = .ok (.istore_n 3, 1) := by decide +kernel
theorem dX7_drift_63 : decode cX7_drift 63 = .ok (.aload_n 0, 1) := by decide +kernel
theorem dX7_drift_64 : decode cX7_drift 64 = .ok (.aload_n 0, 1) := by decide +kernel
theorem dX7_drift_65 : decode cX7_drift 65 = .ok (.getfield 153, 3) := by decide +kernel
theorem dX7_drift_68 : decode cX7_drift 68 = .ok (.invokevirtual 231, 3) := by decide +kernel
theorem dX7_drift_71 : decode cX7_drift 71 = .ok (.istore 4, 2) := by decide +kernel
theorem dX7_drift_73 : decode cX7_drift 73 = .ok (.aload_n 0, 1) := by decide +kernel
theorem dX7_drift_74 : decode cX7_drift 74 = .ok (.iconst 3, 1) := by decide +kernel
theorem dX7_drift_75 : decode cX7_drift 75 = .ok (.invokevirtual 231, 3) := by decide +kernel
theorem dX7_drift_78 : decode cX7_drift 78 = .ok (.istore 5, 2) := by decide +kernel
theorem dX7_drift_80 : decode cX7_drift 80 = .ok (.iload 5, 2) := by decide +kernel
theorem dX7_drift_82 : decode cX7_drift 82 = .ok (.ifCond .ne 13, 3) := by decide +kernel
theorem dX7_drift_85 : decode cX7_drift 85 = .ok (.aload_n 0, 1) := by decide +kernel
theorem dX7_drift_86 : decode cX7_drift 86 = .ok (.iload_n 3, 1) := by decide +kernel
theorem dX7_drift_87 : decode cX7_drift 87 = .ok (.iload 4, 2) := by decide +kernel
theorem dX7_drift_89 : decode cX7_drift 89 = .ok (.invokevirtual 205, 3) := by decide +kernel
theorem dX7_drift_92 : decode cX7_drift 92 = .ok (.goto 26, 3) := by decide +kernel
theorem dX7_drift_95 : decode cX7_drift 95 = .ok (.iload 5, 2) := by decide +kernel
theorem dX7_drift_97 : decode cX7_drift 97 = .ok (.iconst 1, 1) := by decide +kernel
theorem dX7_drift_98 : decode cX7_drift 98 = .ok (.if_icmp .ne 13, 3) := by decide +kernel
theorem dX7_drift_101 : decode cX7_drift 101 = .ok (.aload_n 0, 1) := by decide +kernel
theorem dX7_drift_102 : decode cX7_drift 102 = .ok (.iload 4, 2) := by decide +kernel
theorem dX7_drift_104 : decode cX7_drift 104 = .ok (.invokevirtual 209, 3) := by decide +kernel
theorem dX7_drift_107 : decode cX7_drift 107 = .ok (.pop, 1) := by decide +kernel
theorem dX7_drift_108 : decode cX7_drift 108 = .ok (.goto 10, 3) := by decide +kernel
theorem dX7_drift_111 : decode cX7_drift 111 = .ok (.aload_n 0, 1) := by decide +kernel
theorem dX7_drift_112 : decode cX7_drift 112 = .ok (.iload_n 3, 1) := by decide +kernel
theorem dX7_drift_113 : decode cX7_drift 113 = .ok (.iload 4, 2) := by decide +kernel
theorem dX7_drift_115 : decode cX7_drift 115 = .ok (.invokevirtual 212, 3) := by decide +kernel
theorem dX7_drift_118 : decode cX7_drift 118 = .ok (.aload_n 0, 1) := by decide +kernel
theorem dX7_drift_119 : decode cX7_drift 119 = .ok (.getfield 7, 3) := by decide +kernel
theorem dX7_drift_122 : decode cX7_drift 122 = .ok (.bipush 45, 2) := by decide +kernel
theorem dX7_drift_124 : decode cX7_drift 124 = .ok (.dup2, 1) := by decide +kernel
theorem dX7_drift_125 : decode cX7_drift 125 = .ok (.iaload, 1) := by decide +kernel
theorem dX7_drift_126 : decode cX7_drift 126 = .ok (.iconst 1, 1) := by decide +kernel
theorem dX7_drift_127 : decode cX7_drift 127 = .ok (.iadd, 1) := by decide +kernel
theorem dX7_drift_128 : decode cX7_drift 128 = .ok (.iastore, 1) := by decide +kernel
theorem dX7_drift_129 : decode cX7_drift 129 = .ok (.iinc 2 1, 3) := by decide +kernel
theorem dX7_drift_132 : decode cX7_drift 132 = .ok (.goto (-83), 3) := by decide +kernel
theorem dX7_drift_135 : decode cX7_drift 135 = .ok (.aload_n 0, 1) := by decide +kernel
theorem dX7_drift_136 : decode cX7_drift 136 = .ok (.getfield 7, 3) := by decide +kernel
theorem dX7_drift_139 : decode cX7_drift 139 = .ok (.bipush 45, 2) := by decide +kernel
theorem dX7_drift_141 : decode cX7_drift 141 = .ok (.iaload, 1) := by decide +kernel
theorem dX7_drift_142 : decode cX7_drift 142 = .ok (.ireturn, 1) := by decide +kernel
theorem dX7_fameOf_0 : decode cX7_fameOf 0 = .ok (.iconst 0, 1) := by decide +kernel
theorem dX7_fameOf_1 : decode cX7_fameOf 1 = .ok (.istore_n 2, 1) := by decide +kernel
theorem dX7_fameOf_2 : decode cX7_fameOf 2 = .ok (.iconst 0, 1) := by decide +kernel
theorem dX7_fameOf_3 : decode cX7_fameOf 3 = .ok (.istore_n 3, 1) := by decide +kernel
theorem dX7_fameOf_4 : decode cX7_fameOf 4 = .ok (.iload_n 3, 1) := by decide +kernel
theorem dX7_fameOf_5 : decode cX7_fameOf 5 = .ok (.aload_n 0, 1) := by decide +kernel
theorem dX7_fameOf_6 : decode cX7_fameOf 6 = .ok (.getfield 159, 3) := by decide +kernel
theorem dX7_fameOf_9 : decode cX7_fameOf 9 = .ok (.if_icmp .ge 34, 3) := by decide +kernel
theorem dX7_fameOf_12 : decode cX7_fameOf 12 = .ok (.iload_n 2, 1) := by decide +kernel
theorem dX7_fameOf_13 : decode cX7_fameOf 13 = .ok (.iload_n 1, 1) := by decide +kernel
theorem dX7_fameOf_14 : decode cX7_fameOf 14 = .ok (.iload_n 3, 1) := by decide +kernel
theorem dX7_fameOf_15 : decode cX7_fameOf 15 = .ok (.invokestatic 112, 3) := by decide +kernel
theorem dX7_fameOf_18 : decode cX7_fameOf 18 = .ok (.ifCond .eq 16, 3) := by decide +kernel
theorem dX7_fameOf_21 : decode cX7_fameOf 21 = .ok (.aload_n 0, 1) := by decide +kernel
theorem dX7_fameOf_22 : decode cX7_fameOf 22 = .ok (.getfield 33, 3) := by decide +kernel
theorem dX7_fameOf_25 : decode cX7_fameOf 25 = .ok (.iconst 4, 1) := by decide +kernel
theorem dX7_fameOf_26 : decode cX7_fameOf 26 = .ok (.iload_n 3, 1) := by decide +kernel
theorem dX7_fameOf_27 : decode cX7_fameOf 27 = .ok (.imul, 1) := by decide +kernel
theorem dX7_fameOf_28 : decode cX7_fameOf 28 = .ok (.iconst 3, 1) := by decide +kernel
theorem dX7_fameOf_29 : decode cX7_fameOf 29 = .ok (.iadd, 1) := by decide +kernel
theorem dX7_fameOf_30 : decode cX7_fameOf 30 = .ok (.iaload, 1) := by decide +kernel
theorem dX7_fameOf_31 : decode cX7_fameOf 31 = .ok (.goto 4, 3) := by decide +kernel
theorem dX7_fameOf_34 : decode cX7_fameOf 34 = .ok (.iconst 0, 1) := by decide +kernel
theorem dX7_fameOf_35 : decode cX7_fameOf 35 = .ok (.iadd, 1) := by decide +kernel
theorem dX7_fameOf_36 : decode cX7_fameOf 36 = .ok (.istore_n 2, 1) := by decide +kernel
theorem dX7_fameOf_37 : decode cX7_fameOf 37 = .ok (.iinc 3 1, 3) := by decide +kernel
theorem dX7_fameOf_40 : decode cX7_fameOf 40 = .ok (.goto (-36), 3) := by decide +kernel
theorem dX7_fameOf_43 : decode cX7_fameOf 43 = .ok (.iload_n 2, 1) := by decide +kernel
theorem dX7_fameOf_44 : decode cX7_fameOf 44 = .ok (.ireturn, 1) := by decide +kernel
theorem dX7_leastTricks_0 : decode cX7_leastTricks 0 = .ok (.aload_n 0, 1) := by decide +kernel
theorem dX7_leastTricks_1 : decode cX7_leastTricks 1 = .ok (.aload_n 0, 1) := by decide +kernel
theorem dX7_leastTricks_2 : decode cX7_leastTricks 2 = .ok (.getfield 33, 3) := by decide +kernel
theorem dX7_leastTricks_5 : decode cX7_leastTricks 5 = .ok (.iconst 4, 1) := by decide +kernel
theorem dX7_leastTricks_6 : decode cX7_leastTricks 6 = .ok (.iload_n 2, 1) := by decide +kernel
theorem dX7_leastTricks_7 : decode cX7_leastTricks 7 = .ok (.imul, 1) := by decide +kernel
theorem dX7_leastTricks_8 : decode cX7_leastTricks 8 = .ok (.iaload, 1) := by decide +kernel
theorem dX7_leastTricks_9 : decode cX7_leastTricks 9 = .ok (.iload_n 1, 1) := by decide +kernel
theorem dX7_leastTricks_10 : decode cX7_leastTricks 10 = .ok (.invokevirtual 168, 3) := by decide +kernel
theorem dX7_leastTricks_13 : decode cX7_leastTricks 13 = .ok (.aload_n 0, 1) := by decide +kernel
theorem dX7_leastTricks_14 : decode cX7_leastTricks 14 = .ok (.iload_n 3, 1) := by decide +kernel
theorem dX7_leastTricks_15 : decode cX7_leastTricks 15 = .ok (.invokevirtual 234, 3) := by decide +kernel
theorem dX7_leastTricks_18 : decode cX7_leastTricks 18 = .ok (.iadd, 1) := by decide +kernel
theorem dX7_leastTricks_19 : decode cX7_leastTricks 19 = .ok (.istore 4, 2) := by decide +kernel
theorem dX7_leastTricks_21 : decode cX7_leastTricks 21 = .ok (.iload 4, 2) := by decide +kernel
theorem dX7_leastTricks_23 : decode cX7_leastTricks 23 = .ok (.bipush 99, 2) := by decide +kernel
theorem dX7_leastTricks_25 : decode cX7_leastTricks 25 = .ok (.if_icmp .le 8, 3) := by decide +kernel
theorem dX7_leastTricks_28 : decode cX7_leastTricks 28 = .ok (.bipush 99, 2) := by decide +kernel
theorem dX7_leastTricks_30 : decode cX7_leastTricks 30 = .ok (.goto 5, 3) := by decide +kernel
theorem dX7_leastTricks_33 : decode cX7_leastTricks 33 = .ok (.iload 4, 2) := by decide +kernel
theorem dX7_leastTricks_35 : decode cX7_leastTricks 35 = .ok (.istore 4, 2) := by decide +kernel
theorem dX7_leastTricks_37 : decode cX7_leastTricks 37 = .ok (.aload_n 0, 1) := by decide +kernel
theorem dX7_leastTricks_38 : decode cX7_leastTricks 38 = .ok (.iload_n 2, 1) := by decide +kernel
theorem dX7_leastTricks_39 : decode cX7_leastTricks 39 = .ok (.invokevirtual 196, 3) := by decide +kernel
theorem dX7_leastTricks_42 : decode cX7_leastTricks 42 = .ok (.aload_n 0, 1) := by decide +kernel
theorem dX7_leastTricks_43 : decode cX7_leastTricks 43 = .ok (.getfield 7, 3) := by decide +kernel
theorem dX7_leastTricks_46 : decode cX7_leastTricks 46 = .ok (.bipush 40, 2) := by decide +kernel
theorem dX7_leastTricks_48 : decode cX7_leastTricks 48 = .ok (.iload_n 1, 1) := by decide +kernel
theorem dX7_leastTricks_49 : decode cX7_leastTricks 49 = .ok (.iadd, 1) := by decide +kernel
theorem dX7_leastTricks_50 : decode cX7_leastTricks 50 = .ok (.iaload, 1) := by decide +kernel
theorem dX7_leastTricks_51 : decode cX7_leastTricks 51 = .ok (.iconst (-1), 1) := by decide +kernel
theorem dX7_leastTricks_52 : decode cX7_leastTricks 52 = .ok (.ixor, 1) := by decide +kernel
theorem dX7_leastTricks_53 : decode cX7_leastTricks 53 = .ok (.iand, 1) := by decide +kernel
theorem dX7_leastTricks_54 : decode cX7_leastTricks 54 = .ok (.istore 5, 2) := by decide +kernel
theorem dX7_leastTricks_56 : decode cX7_leastTricks 56 = .ok (.iconst 0, 1) := by decide +kernel
theorem dX7_leastTricks_57 : decode cX7_leastTricks 57 = .ok (.istore 6, 2) := by decide +kernel
theorem dX7_leastTricks_59 : decode cX7_leastTricks 59 = .ok (.iload 6, 2) := by decide +kernel
theorem dX7_leastTricks_61 : decode cX7_leastTricks 61 = .ok (.bipush 16, 2) := by decide +kernel
theorem dX7_leastTricks_63 : decode cX7_leastTricks 63 = .ok (.if_icmp .ge 35, 3) := by decide +kernel
theorem dX7_leastTricks_66 : decode cX7_leastTricks 66 = .ok (.iload 6, 2) := by decide +kernel
theorem dX7_leastTricks_68 : decode cX7_leastTricks 68 = .ok (.iload 5, 2) := by decide +kernel
theorem dX7_leastTricks_70 : decode cX7_leastTricks 70 = .ok (.iconst (-1), 1) := by decide +kernel
theorem dX7_leastTricks_71 : decode cX7_leastTricks 71 = .ok (.ixor, 1) := by decide +kernel
theorem dX7_leastTricks_72 : decode cX7_leastTricks 72 = .ok (.iand, 1) := by decide +kernel
theorem dX7_leastTricks_73 : decode cX7_leastTricks 73 = .ok (.ifCond .ne 19, 3) := by decide +kernel
theorem dX7_leastTricks_76 : decode cX7_leastTricks 76 = .ok (.aload_n 0, 1) := by decide +kernel
theorem dX7_leastTricks_77 : decode cX7_leastTricks 77 = .ok (.iload_n 1, 1) := by decide +kernel
theorem dX7_leastTricks_78 : decode cX7_leastTricks 78 = .ok (.iload_n 2, 1) := by decide +kernel
theorem dX7_leastTricks_79 : decode cX7_leastTricks 79 = .ok (.iload 6, 2) := by decide +kernel
theorem dX7_leastTricks_81 : decode cX7_leastTricks 81 = .ok (.iload 4, 2) := by decide +kernel
theorem dX7_leastTricks_83 : decode cX7_leastTricks 83 = .ok (.invokevirtual 218, 3) := by decide +kernel
theorem dX7_leastTricks_86 : decode cX7_leastTricks 86 = .ok (.ifCond .eq 6, 3) := by decide +kernel
theorem dX7_leastTricks_89 : decode cX7_leastTricks 89 = .ok (.iload 6, 2) := by decide +kernel
theorem dX7_leastTricks_91 : decode cX7_leastTricks 91 = .ok (.ireturn, 1) := by decide +kernel
theorem dX7_leastTricks_92 : decode cX7_leastTricks 92 = .ok (.iinc 6 1, 3) := by decide +kernel
theorem dX7_leastTricks_95 : decode cX7_leastTricks 95 = .ok (.goto (-36), 3) := by decide +kernel
theorem dX7_leastTricks_98 : decode cX7_leastTricks 98 = .ok (.iconst (-1), 1) := by decide +kernel
theorem dX7_leastTricks_99 : decode cX7_leastTricks 99 = .ok (.ireturn, 1) := by decide +kernel
theorem dX7_nextTask_0 : decode cX7_nextTask 0 = .ok (.iconst 0, 1) := by decide +kernel
theorem dX7_nextTask_1 : decode cX7_nextTask 1 = .ok (.istore_n 3, 1) := by decide +kernel
theorem dX7_nextTask_2 : decode cX7_nextTask 2 = .ok (.iload_n 3, 1) := by decide +kernel
theorem dX7_nextTask_3 : decode cX7_nextTask 3 = .ok (.aload_n 0, 1) := by decide +kernel
theorem dX7_nextTask_4 : decode cX7_nextTask 4 = .ok (.getfield 159, 3) := by decide +kernel
theorem dX7_nextTask_7 : decode cX7_nextTask 7 = .ok (.if_icmp .ge 46, 3) := by decide +kernel
theorem dX7_nextTask_10 : decode cX7_nextTask 10 = .ok (.aload_n 0, 1) := by decide +kernel
theorem dX7_nextTask_11 : decode cX7_nextTask 11 = .ok (.getfield 7, 3) := by decide +kernel
theorem dX7_nextTask_14 : decode cX7_nextTask 14 = .ok (.bipush 35, 2) := by decide +kernel
theorem dX7_nextTask_16 : decode cX7_nextTask 16 = .ok (.iload_n 1, 1) := by decide +kernel
theorem dX7_nextTask_17 : decode cX7_nextTask 17 = .ok (.iadd, 1) := by decide +kernel
theorem dX7_nextTask_18 : decode cX7_nextTask 18 = .ok (.iaload, 1) := by decide +kernel
theorem dX7_nextTask_19 : decode cX7_nextTask 19 = .ok (.iload_n 3, 1) := by decide +kernel
theorem dX7_nextTask_20 : decode cX7_nextTask 20 = .ok (.invokestatic 112, 3) := by decide +kernel
theorem dX7_nextTask_23 : decode cX7_nextTask 23 = .ok (.ifCond .ne 24, 3) := by decide +kernel
theorem dX7_nextTask_26 : decode cX7_nextTask 26 = .ok (.iload_n 2, 1) := by decide +kernel
theorem dX7_nextTask_27 : decode cX7_nextTask 27 = .ok (.iload_n 3, 1) := by decide +kernel
theorem dX7_nextTask_28 : decode cX7_nextTask 28 = .ok (.invokestatic 112, 3) := by decide +kernel
theorem dX7_nextTask_31 : decode cX7_nextTask 31 = .ok (.ifCond .ne 16, 3) := by decide +kernel
theorem dX7_nextTask_34 : decode cX7_nextTask 34 = .ok (.aload_n 0, 1) := by decide +kernel
theorem dX7_nextTask_35 : decode cX7_nextTask 35 = .ok (.iload_n 1, 1) := by decide +kernel
theorem dX7_nextTask_36 : decode cX7_nextTask 36 = .ok (.iload_n 3, 1) := by decide +kernel
theorem dX7_nextTask_37 : decode cX7_nextTask 37 = .ok (.iload_n 2, 1) := by decide +kernel
theorem dX7_nextTask_38 : decode cX7_nextTask 38 = .ok (.invokevirtual 237, 3) := by decide +kernel
theorem dX7_nextTask_41 : decode cX7_nextTask 41 = .ok (.iconst (-1), 1) := by decide +kernel
theorem dX7_nextTask_42 : decode cX7_nextTask 42 = .ok (.if_icmp .eq 5, 3) := by decide +kernel
theorem dX7_nextTask_45 : decode cX7_nextTask 45 = .ok (.iload_n 3, 1) := by decide +kernel
theorem dX7_nextTask_46 : decode cX7_nextTask 46 = .ok (.ireturn, 1) := by decide +kernel
theorem dX7_nextTask_47 : decode cX7_nextTask 47 = .ok (.iinc 3 1, 3) := by decide +kernel
theorem dX7_nextTask_50 : decode cX7_nextTask 50 = .ok (.goto (-48), 3) := by decide +kernel
theorem dX7_nextTask_53 : decode cX7_nextTask 53 = .ok (.iconst (-1), 1) := by decide +kernel
theorem dX7_nextTask_54 : decode cX7_nextTask 54 = .ok (.ireturn, 1) := by decide +kernel
theorem dX7_passable_0 : decode cX7_passable 0 = .ok (.iconst 0, 1) := by decide +kernel
theorem dX7_passable_1 : decode cX7_passable 1 = .ok (.istore_n 2, 1) := by decide +kernel
theorem dX7_passable_2 : decode cX7_passable 2 = .ok (.aload_n 0, 1) := by decide +kernel
theorem dX7_passable_3 : decode cX7_passable 3 = .ok (.iload_n 1, 1) := by decide +kernel
theorem dX7_passable_4 : decode cX7_passable 4 = .ok (.iload_n 2, 1) := by decide +kernel
theorem dX7_passable_5 : decode cX7_passable 5 = .ok (.invokevirtual 240, 3) := by decide +kernel
theorem dX7_passable_8 : decode cX7_passable 8 = .ok (.istore_n 3, 1) := by decide +kernel
theorem dX7_passable_9 : decode cX7_passable 9 = .ok (.iload_n 3, 1) := by decide +kernel
theorem dX7_passable_10 : decode cX7_passable 10 = .ok (.iconst (-1), 1) := by decide +kernel
theorem dX7_passable_11 : decode cX7_passable 11 = .ok (.if_icmp .eq 19, 3) := by decide +kernel
theorem dX7_passable_14 : decode cX7_passable 14 = .ok (.iload_n 2, 1) := by decide +kernel
theorem dX7_passable_15 : decode cX7_passable 15 = .ok (.iconst 1, 1) := by decide +kernel
theorem dX7_passable_16 : decode cX7_passable 16 = .ok (.iload_n 3, 1) := by decide +kernel
theorem dX7_passable_17 : decode cX7_passable 17 = .ok (.ishl, 1) := by decide +kernel
theorem dX7_passable_18 : decode cX7_passable 18 = .ok (.ior, 1) := by decide +kernel
theorem dX7_passable_19 : decode cX7_passable 19 = .ok (.istore_n 2, 1) := by decide +kernel
theorem dX7_passable_20 : decode cX7_passable 20 = .ok (.aload_n 0, 1) := by decide +kernel
theorem dX7_passable_21 : decode cX7_passable 21 = .ok (.iload_n 1, 1) := by decide +kernel
theorem dX7_passable_22 : decode cX7_passable 22 = .ok (.iload_n 2, 1) := by decide +kernel
theorem dX7_passable_23 : decode cX7_passable 23 = .ok (.invokevirtual 240, 3) := by decide +kernel
theorem dX7_passable_26 : decode cX7_passable 26 = .ok (.istore_n 3, 1) := by decide +kernel
theorem dX7_passable_27 : decode cX7_passable 27 = .ok (.goto (-18), 3) := by decide +kernel
theorem dX7_passable_30 : decode cX7_passable 30 = .ok (.iload_n 2, 1) := by decide +kernel
theorem dX7_passable_31 : decode cX7_passable 31 = .ok (.ireturn, 1) := by decide +kernel
theorem dX7_plan_0 : decode cX7_plan 0 = .ok (.aload_n 0, 1) := by decide +kernel
theorem dX7_plan_1 : decode cX7_plan 1 = .ok (.iload_n 1, 1) := by decide +kernel
theorem dX7_plan_2 : decode cX7_plan 2 = .ok (.invokevirtual 178, 3) := by decide +kernel
theorem dX7_plan_5 : decode cX7_plan 5 = .ok (.ifCond .ne 6, 3) := by decide +kernel
theorem dX7_plan_8 : decode cX7_plan 8 = .ok (.ldc 181, 2) := by decide +kernel
theorem dX7_plan_10 : decode cX7_plan 10 = .ok (.ireturn, 1) := by decide +kernel
theorem dX7_plan_11 : decode cX7_plan 11 = .ok (.iload_n 3, 1) := by decide +kernel
theorem dX7_plan_12 : decode cX7_plan 12 = .ok (.i2l, 1) := by decide +kernel
theorem dX7_plan_13 : decode cX7_plan 13 = .ok (.lconst 0, 1) := by decide +kernel
theorem dX7_plan_14 : decode cX7_plan 14 = .ok (.lconst 1, 1) := by decide +kernel
theorem dX7_plan_15 : decode cX7_plan 15 = .ok (.invokestatic 68, 3) := by decide +kernel
theorem dX7_plan_18 : decode cX7_plan 18 = .ok (.ifCond .ne 6, 3) := by decide +kernel
theorem dX7_plan_21 : decode cX7_plan 21 = .ok (.ldc 72, 2) := by decide +kernel
theorem dX7_plan_23 : decode cX7_plan 23 = .ok (.ireturn, 1) := by decide +kernel
theorem dX7_plan_24 : decode cX7_plan 24 = .ok (.aload_n 0, 1) := by decide +kernel
theorem dX7_plan_25 : decode cX7_plan 25 = .ok (.aload_n 0, 1) := by decide +kernel
theorem dX7_plan_26 : decode cX7_plan 26 = .ok (.iload_n 1, 1) := by decide +kernel
theorem dX7_plan_27 : decode cX7_plan 27 = .ok (.invokevirtual 243, 3) := by decide +kernel
theorem dX7_plan_30 : decode cX7_plan 30 = .ok (.invokevirtual 185, 3) := by decide +kernel
theorem dX7_plan_33 : decode cX7_plan 33 = .ok (.istore 4, 2) := by decide +kernel
theorem dX7_plan_35 : decode cX7_plan 35 = .ok (.iload_n 2, 1) := by decide +kernel
theorem dX7_plan_36 : decode cX7_plan 36 = .ok (.iconst (-1), 1) := by decide +kernel
theorem dX7_plan_37 : decode cX7_plan 37 = .ok (.if_icmp .gt 15, 3) := by decide +kernel
theorem dX7_plan_40 : decode cX7_plan 40 = .ok (.iload_n 2, 1) := by decide +kernel
theorem dX7_plan_41 : decode cX7_plan 41 = .ok (.iconst (-1), 1) := by decide +kernel
theorem dX7_plan_42 : decode cX7_plan 42 = .ok (.if_icmp .ne 8, 3) := by decide +kernel
theorem dX7_plan_45 : decode cX7_plan 45 = .ok (.iload 4, 2) := by decide +kernel
theorem dX7_plan_47 : decode cX7_plan 47 = .ok (.goto 4, 3) := by decide +kernel
theorem dX7_plan_50 : decode cX7_plan 50 = .ok (.iconst (-1), 1) := by decide +kernel
theorem dX7_plan_51 : decode cX7_plan 51 = .ok (.ireturn, 1) := by decide +kernel
theorem dX7_plan_52 : decode cX7_plan 52 = .ok (.iconst 0, 1) := by decide +kernel
theorem dX7_plan_53 : decode cX7_plan 53 = .ok (.istore 5, 2) := by decide +kernel
theorem dX7_plan_55 : decode cX7_plan 55 = .ok (.iconst 0, 1) := by decide +kernel
theorem dX7_plan_56 : decode cX7_plan 56 = .ok (.istore 6, 2) := by decide +kernel
theorem dX7_plan_58 : decode cX7_plan 58 = .ok (.aload_n 0, 1) := by decide +kernel
theorem dX7_plan_59 : decode cX7_plan 59 = .ok (.iload 5, 2) := by decide +kernel
theorem dX7_plan_61 : decode cX7_plan 61 = .ok (.invokevirtual 185, 3) := by decide +kernel
theorem dX7_plan_64 : decode cX7_plan 64 = .ok (.iload 4, 2) := by decide +kernel
theorem dX7_plan_66 : decode cX7_plan 66 = .ok (.if_icmp .ge 52, 3) := by decide +kernel
theorem dX7_plan_69 : decode cX7_plan 69 = .ok (.aload_n 0, 1) := by decide +kernel
theorem dX7_plan_70 : decode cX7_plan 70 = .ok (.iload_n 1, 1) := by decide +kernel
theorem dX7_plan_71 : decode cX7_plan 71 = .ok (.iload 5, 2) := by decide +kernel
theorem dX7_plan_73 : decode cX7_plan 73 = .ok (.invokevirtual 240, 3) := by decide +kernel
theorem dX7_plan_76 : decode cX7_plan 76 = .ok (.istore 7, 2) := by decide +kernel
theorem dX7_plan_78 : decode cX7_plan 78 = .ok (.iload 6, 2) := by decide +kernel
theorem dX7_plan_80 : decode cX7_plan 80 = .ok (.iload_n 2, 1) := by decide +kernel
theorem dX7_plan_81 : decode cX7_plan 81 = .ok (.if_icmp .ne 22, 3) := by decide +kernel
theorem dX7_plan_84 : decode cX7_plan 84 = .ok (.iload_n 3, 1) := by decide +kernel
theorem dX7_plan_85 : decode cX7_plan 85 = .ok (.ifCond .ne 8, 3) := by decide +kernel
theorem dX7_plan_88 : decode cX7_plan 88 = .ok (.iload 7, 2) := by decide +kernel
theorem dX7_plan_90 : decode cX7_plan 90 = .ok (.goto 12, 3) := by decide +kernel
theorem dX7_plan_93 : decode cX7_plan 93 = .ok (.aload_n 0, 1) := by decide +kernel
theorem dX7_plan_94 : decode cX7_plan 94 = .ok (.iload_n 1, 1) := by decide +kernel
theorem dX7_plan_95 : decode cX7_plan 95 = .ok (.iload 7, 2) := by decide +kernel
theorem dX7_plan_97 : decode cX7_plan 97 = .ok (.iload 5, 2) := by decide +kernel
theorem dX7_plan_99 : decode cX7_plan 99 = .ok (.invokevirtual 237, 3) := by decide +kernel
theorem dX7_plan_102 : decode cX7_plan 102 = .ok (.ireturn, 1) := by decide +kernel
theorem dX7_plan_103 : decode cX7_plan 103 = .ok (.iload 5, 2) := by decide +kernel
theorem dX7_plan_105 : decode cX7_plan 105 = .ok (.iconst 1, 1) := by decide +kernel
theorem dX7_plan_106 : decode cX7_plan 106 = .ok (.iload 7, 2) := by decide +kernel
theorem dX7_plan_108 : decode cX7_plan 108 = .ok (.ishl, 1) := by decide +kernel
theorem dX7_plan_109 : decode cX7_plan 109 = .ok (.ior, 1) := by decide +kernel
theorem dX7_plan_110 : decode cX7_plan 110 = .ok (.istore 5, 2) := by decide +kernel
theorem dX7_plan_112 : decode cX7_plan 112 = .ok (.iinc 6 1, 3) := by decide +kernel
theorem dX7_plan_115 : decode cX7_plan 115 = .ok (.goto (-57), 3) := by decide +kernel
theorem dX7_plan_118 : decode cX7_plan 118 = .ok (.iconst (-1), 1) := by decide +kernel
theorem dX7_plan_119 : decode cX7_plan 119 = .ok (.ireturn, 1) := by decide +kernel
theorem dX7_stops_0 : decode cX7_stops 0 = .ok (.aload_n 0, 1) := by decide +kernel
theorem dX7_stops_1 : decode cX7_stops 1 = .ok (.iload_n 1, 1) := by decide +kernel
theorem dX7_stops_2 : decode cX7_stops 2 = .ok (.invokevirtual 178, 3) := by decide +kernel
theorem dX7_stops_5 : decode cX7_stops 5 = .ok (.ifCond .ne 6, 3) := by decide +kernel
theorem dX7_stops_8 : decode cX7_stops 8 = .ok (.ldc 181, 2) := by decide +kernel
theorem dX7_stops_10 : decode cX7_stops 10 = .ok (.ireturn, 1) := by decide +kernel
theorem dX7_stops_11 : decode cX7_stops 11 = .ok (.aload_n 0, 1) := by decide +kernel
theorem dX7_stops_12 : decode cX7_stops 12 = .ok (.iload_n 1, 1) := by decide +kernel
theorem dX7_stops_13 : decode cX7_stops 13 = .ok (.invokevirtual 243, 3) := by decide +kernel
theorem dX7_stops_16 : decode cX7_stops 16 = .ok (.aload_n 0, 1) := by decide +kernel
theorem dX7_stops_17 : decode cX7_stops 17 = .ok (.getfield 7, 3) := by decide +kernel
theorem dX7_stops_20 : decode cX7_stops 20 = .ok (.bipush 35, 2) := by decide +kernel
theorem dX7_stops_22 : decode cX7_stops 22 = .ok (.iload_n 1, 1) := by decide +kernel
theorem dX7_stops_23 : decode cX7_stops 23 = .ok (.iadd, 1) := by decide +kernel
theorem dX7_stops_24 : decode cX7_stops 24 = .ok (.iaload, 1) := by decide +kernel
theorem dX7_stops_25 : decode cX7_stops 25 = .ok (.ior, 1) := by decide +kernel
theorem dX7_stops_26 : decode cX7_stops 26 = .ok (.istore_n 2, 1) := by decide +kernel
theorem dX7_stops_27 : decode cX7_stops 27 = .ok (.iconst 0, 1) := by decide +kernel
theorem dX7_stops_28 : decode cX7_stops 28 = .ok (.istore_n 3, 1) := by decide +kernel
theorem dX7_stops_29 : decode cX7_stops 29 = .ok (.iload_n 3, 1) := by decide +kernel
theorem dX7_stops_30 : decode cX7_stops 30 = .ok (.aload_n 0, 1) := by decide +kernel
theorem dX7_stops_31 : decode cX7_stops 31 = .ok (.getfield 159, 3) := by decide +kernel
theorem dX7_stops_34 : decode cX7_stops 34 = .ok (.if_icmp .ge 19, 3) := by decide +kernel
theorem dX7_stops_37 : decode cX7_stops 37 = .ok (.iload_n 2, 1) := by decide +kernel
theorem dX7_stops_38 : decode cX7_stops 38 = .ok (.iload_n 3, 1) := by decide +kernel
theorem dX7_stops_39 : decode cX7_stops 39 = .ok (.invokestatic 112, 3) := by decide +kernel
theorem dX7_stops_42 : decode cX7_stops 42 = .ok (.ifCond .ne 5, 3) := by decide +kernel
theorem dX7_stops_45 : decode cX7_stops 45 = .ok (.iload_n 3, 1) := by decide +kernel
theorem dX7_stops_46 : decode cX7_stops 46 = .ok (.ireturn, 1) := by decide +kernel
theorem dX7_stops_47 : decode cX7_stops 47 = .ok (.iinc 3 1, 3) := by decide +kernel
theorem dX7_stops_50 : decode cX7_stops 50 = .ok (.goto (-21), 3) := by decide +kernel
theorem dX7_stops_53 : decode cX7_stops 53 = .ok (.iconst (-1), 1) := by decide +kernel
theorem dX7_stops_54 : decode cX7_stops 54 = .ok (.ireturn, 1) := by decide +kernel
theorem dX7_wouldThink_0 : decode cX7_wouldThink 0 = .ok (.aload_n 0, 1) := by decide +kernel
theorem dX7_wouldThink_1 : decode cX7_wouldThink 1 = .ok (.iload_n 2, 1) := by decide +kernel
theorem dX7_wouldThink_2 : decode cX7_wouldThink 2 = .ok (.aload_n 0, 1) := by decide +kernel
theorem dX7_wouldThink_3 : decode cX7_wouldThink 3 = .ok (.getfield 63, 3) := by decide +kernel
theorem dX7_wouldThink_6 : decode cX7_wouldThink 6 = .ok (.iload_n 2, 1) := by decide +kernel
theorem dX7_wouldThink_7 : decode cX7_wouldThink 7 = .ok (.iaload, 1) := by decide +kernel
theorem dX7_wouldThink_8 : decode cX7_wouldThink 8 = .ok (.invokevirtual 175, 3) := by decide +kernel
theorem dX7_wouldThink_11 : decode cX7_wouldThink 11 = .ok (.istore_n 3, 1) := by decide +kernel
theorem dX7_wouldThink_12 : decode cX7_wouldThink 12 = .ok (.iload_n 3, 1) := by decide +kernel
theorem dX7_wouldThink_13 : decode cX7_wouldThink 13 = .ok (.aload_n 0, 1) := by decide +kernel
theorem dX7_wouldThink_14 : decode cX7_wouldThink 14 = .ok (.iload_n 1, 1) := by decide +kernel
theorem dX7_wouldThink_15 : decode cX7_wouldThink 15 = .ok (.iload_n 2, 1) := by decide +kernel
theorem dX7_wouldThink_16 : decode cX7_wouldThink 16 = .ok (.invokevirtual 168, 3) := by decide +kernel
theorem dX7_wouldThink_19 : decode cX7_wouldThink 19 = .ok (.if_icmp .le 7, 3) := by decide +kernel
theorem dX7_wouldThink_22 : decode cX7_wouldThink 22 = .ok (.iload_n 3, 1) := by decide +kernel
theorem dX7_wouldThink_23 : decode cX7_wouldThink 23 = .ok (.goto 9, 3) := by decide +kernel
theorem dX7_wouldThink_26 : decode cX7_wouldThink 26 = .ok (.aload_n 0, 1) := by decide +kernel
theorem dX7_wouldThink_27 : decode cX7_wouldThink 27 = .ok (.iload_n 1, 1) := by decide +kernel
theorem dX7_wouldThink_28 : decode cX7_wouldThink 28 = .ok (.iload_n 2, 1) := by decide +kernel
theorem dX7_wouldThink_29 : decode cX7_wouldThink 29 = .ok (.invokevirtual 168, 3) := by decide +kernel
theorem dX7_wouldThink_32 : decode cX7_wouldThink 32 = .ok (.ireturn, 1) := by decide +kernel
theorem dX7_gainOf_0 : decode cX7_gainOf 0 = .ok (.iconst 0, 1) := by decide +kernel
theorem dX7_gainOf_1 : decode cX7_gainOf 1 = .ok (.istore_n 2, 1) := by decide +kernel
theorem dX7_gainOf_2 : decode cX7_gainOf 2 = .ok (.iconst 0, 1) := by decide +kernel
theorem dX7_gainOf_3 : decode cX7_gainOf 3 = .ok (.istore_n 3, 1) := by decide +kernel
theorem dX7_gainOf_4 : decode cX7_gainOf 4 = .ok (.iload_n 3, 1) := by decide +kernel
theorem dX7_gainOf_5 : decode cX7_gainOf 5 = .ok (.aload_n 0, 1) := by decide +kernel
theorem dX7_gainOf_6 : decode cX7_gainOf 6 = .ok (.getfield 150, 3) := by decide +kernel
theorem dX7_gainOf_9 : decode cX7_gainOf 9 = .ok (.if_icmp .ge 77, 3) := by decide +kernel
theorem dX7_gainOf_12 : decode cX7_gainOf 12 = .ok (.iconst 1, 1) := by decide +kernel
theorem dX7_gainOf_13 : decode cX7_gainOf 13 = .ok (.istore 4, 2) := by decide +kernel
theorem dX7_gainOf_15 : decode cX7_gainOf 15 = .ok (.iconst 0, 1) := by decide +kernel
theorem dX7_gainOf_16 : decode cX7_gainOf 16 = .ok (.istore 5, 2) := by decide +kernel
theorem dX7_gainOf_18 : decode cX7_gainOf 18 = .ok (.iload 5, 2) := by decide +kernel
theorem dX7_gainOf_20 : decode cX7_gainOf 20 = .ok (.aload_n 0, 1) := by decide +kernel
theorem dX7_gainOf_21 : decode cX7_gainOf 21 = .ok (.getfield 153, 3) := by decide +kernel
theorem dX7_gainOf_24 : decode cX7_gainOf 24 = .ok (.if_icmp .ge 43, 3) := by decide +kernel
theorem dX7_gainOf_27 : decode cX7_gainOf 27 = .ok (.iload 4, 2) := by decide +kernel
theorem dX7_gainOf_29 : decode cX7_gainOf 29 = .ok (.ifCond .eq 29, 3) := by decide +kernel
theorem dX7_gainOf_32 : decode cX7_gainOf 32 = .ok (.iload 5, 2) := by decide +kernel
theorem dX7_gainOf_34 : decode cX7_gainOf 34 = .ok (.iload_n 1, 1) := by decide +kernel
theorem dX7_gainOf_35 : decode cX7_gainOf 35 = .ok (.if_icmp .eq 19, 3) := by decide +kernel
theorem dX7_gainOf_38 : decode cX7_gainOf 38 = .ok (.aload_n 0, 1) := by decide +kernel
theorem dX7_gainOf_39 : decode cX7_gainOf 39 = .ok (.iload_n 3, 1) := by decide +kernel
theorem dX7_gainOf_40 : decode cX7_gainOf 40 = .ok (.iload_n 1, 1) := by decide +kernel
theorem dX7_gainOf_41 : decode cX7_gainOf 41 = .ok (.invokevirtual 246, 3) := by decide +kernel
theorem dX7_gainOf_44 : decode cX7_gainOf 44 = .ok (.aload_n 0, 1) := by decide +kernel
theorem dX7_gainOf_45 : decode cX7_gainOf 45 = .ok (.iload_n 3, 1) := by decide +kernel
theorem dX7_gainOf_46 : decode cX7_gainOf 46 = .ok (.iload 5, 2) := by decide +kernel
theorem dX7_gainOf_48 : decode cX7_gainOf 48 = .ok (.invokevirtual 246, 3) := by decide +kernel
theorem dX7_gainOf_51 : decode cX7_gainOf 51 = .ok (.if_icmp .le 7, 3) := by decide +kernel
theorem dX7_gainOf_54 : decode cX7_gainOf 54 = .ok (.iconst 1, 1) := by decide +kernel
theorem dX7_gainOf_55 : decode cX7_gainOf 55 = .ok (.goto 4, 3) := by decide +kernel
theorem dX7_gainOf_58 : decode cX7_gainOf 58 = .ok (.iconst 0, 1) := by decide +kernel
theorem dX7_gainOf_59 : decode cX7_gainOf 59 = .ok (.istore 4, 2) := by decide +kernel
theorem dX7_gainOf_61 : decode cX7_gainOf 61 = .ok (.iinc 5 1, 3) := by decide +kernel
theorem dX7_gainOf_64 : decode cX7_gainOf 64 = .ok (.goto (-46), 3) := by decide +kernel
theorem dX7_gainOf_67 : decode cX7_gainOf 67 = .ok (.iload_n 2, 1) := by decide +kernel
theorem dX7_gainOf_68 : decode cX7_gainOf 68 = .ok (.iload 4, 2) := by decide +kernel
theorem dX7_gainOf_70 : decode cX7_gainOf 70 = .ok (.ifCond .eq 7, 3) := by decide +kernel
theorem dX7_gainOf_73 : decode cX7_gainOf 73 = .ok (.iconst 1, 1) := by decide +kernel
theorem dX7_gainOf_74 : decode cX7_gainOf 74 = .ok (.goto 4, 3) := by decide +kernel
theorem dX7_gainOf_77 : decode cX7_gainOf 77 = .ok (.iconst 0, 1) := by decide +kernel
theorem dX7_gainOf_78 : decode cX7_gainOf 78 = .ok (.iadd, 1) := by decide +kernel
theorem dX7_gainOf_79 : decode cX7_gainOf 79 = .ok (.istore_n 2, 1) := by decide +kernel
theorem dX7_gainOf_80 : decode cX7_gainOf 80 = .ok (.iinc 3 1, 3) := by decide +kernel
theorem dX7_gainOf_83 : decode cX7_gainOf 83 = .ok (.goto (-79), 3) := by decide +kernel
theorem dX7_gainOf_86 : decode cX7_gainOf 86 = .ok (.aload_n 0, 1) := by decide +kernel
theorem dX7_gainOf_87 : decode cX7_gainOf 87 = .ok (.iload_n 1, 1) := by decide +kernel
theorem dX7_gainOf_88 : decode cX7_gainOf 88 = .ok (.aload_n 0, 1) := by decide +kernel
theorem dX7_gainOf_89 : decode cX7_gainOf 89 = .ok (.getfield 63, 3) := by decide +kernel
theorem dX7_gainOf_92 : decode cX7_gainOf 92 = .ok (.iload_n 1, 1) := by decide +kernel
theorem dX7_gainOf_93 : decode cX7_gainOf 93 = .ok (.iaload, 1) := by decide +kernel
theorem dX7_gainOf_94 : decode cX7_gainOf 94 = .ok (.invokevirtual 175, 3) := by decide +kernel
theorem dX7_gainOf_97 : decode cX7_gainOf 97 = .ok (.aload_n 0, 1) := by decide +kernel
theorem dX7_gainOf_98 : decode cX7_gainOf 98 = .ok (.getfield 27, 3) := by decide +kernel
theorem dX7_gainOf_101 : decode cX7_gainOf 101 = .ok (.iload_n 1, 1) := by decide +kernel
theorem dX7_gainOf_102 : decode cX7_gainOf 102 = .ok (.iaload, 1) := by decide +kernel
theorem dX7_gainOf_103 : decode cX7_gainOf 103 = .ok (.isub, 1) := by decide +kernel
theorem dX7_gainOf_104 : decode cX7_gainOf 104 = .ok (.istore_n 3, 1) := by decide +kernel
theorem dX7_gainOf_105 : decode cX7_gainOf 105 = .ok (.bipush 10, 2) := by decide +kernel
theorem dX7_gainOf_107 : decode cX7_gainOf 107 = .ok (.iload_n 2, 1) := by decide +kernel
theorem dX7_gainOf_108 : decode cX7_gainOf 108 = .ok (.imul, 1) := by decide +kernel
theorem dX7_gainOf_109 : decode cX7_gainOf 109 = .ok (.iload_n 3, 1) := by decide +kernel
theorem dX7_gainOf_110 : decode cX7_gainOf 110 = .ok (.ifCond .le 12, 3) := by decide +kernel
theorem dX7_gainOf_113 : decode cX7_gainOf 113 = .ok (.iconst 3, 1) := by decide +kernel
theorem dX7_gainOf_114 : decode cX7_gainOf 114 = .ok (.iload_n 3, 1) := by decide +kernel
theorem dX7_gainOf_115 : decode cX7_gainOf 115 = .ok (.bipush 10, 2) := by decide +kernel
theorem dX7_gainOf_117 : decode cX7_gainOf 117 = .ok (.idiv, 1) := by decide +kernel
theorem dX7_gainOf_118 : decode cX7_gainOf 118 = .ok (.imul, 1) := by decide +kernel
theorem dX7_gainOf_119 : decode cX7_gainOf 119 = .ok (.goto 4, 3) := by decide +kernel
theorem dX7_gainOf_122 : decode cX7_gainOf 122 = .ok (.iconst 0, 1) := by decide +kernel
theorem dX7_gainOf_123 : decode cX7_gainOf 123 = .ok (.isub, 1) := by decide +kernel
theorem dX7_gainOf_124 : decode cX7_gainOf 124 = .ok (.ireturn, 1) := by decide +kernel
theorem dX7_writes_0 : decode cX7_writes 0 = .ok (.iconst 0, 1) := by decide +kernel
theorem dX7_writes_1 : decode cX7_writes 1 = .ok (.istore_n 1, 1) := by decide +kernel
theorem dX7_writes_2 : decode cX7_writes 2 = .ok (.iconst 0, 1) := by decide +kernel
theorem dX7_writes_3 : decode cX7_writes 3 = .ok (.istore_n 2, 1) := by decide +kernel
theorem dX7_writes_4 : decode cX7_writes 4 = .ok (.iload_n 2, 1) := by decide +kernel
theorem dX7_writes_5 : decode cX7_writes 5 = .ok (.aload_n 0, 1) := by decide +kernel
theorem dX7_writes_6 : decode cX7_writes 6 = .ok (.getfield 153, 3) := by decide +kernel
theorem dX7_writes_9 : decode cX7_writes 9 = .ok (.if_icmp .ge 111, 3) := by decide +kernel
theorem dX7_writes_12 : decode cX7_writes 12 = .ok (.aload_n 0, 1) := by decide +kernel
theorem dX7_writes_13 : decode cX7_writes 13 = .ok (.getfield 63, 3) := by decide +kernel
theorem dX7_writes_16 : decode cX7_writes 16 = .ok (.iload_n 2, 1) := by decide +kernel
theorem dX7_writes_17 : decode cX7_writes 17 = .ok (.iaload, 1) := by decide +kernel
theorem dX7_writes_18 : decode cX7_writes 18 = .ok (.istore_n 3, 1) := by decide +kernel
theorem dX7_writes_19 : decode cX7_writes 19 = .ok (.iconst 0, 1) := by decide +kernel
theorem dX7_writes_20 : decode cX7_writes 20 = .ok (.istore 4, 2) := by decide +kernel
theorem dX7_writes_22 : decode cX7_writes 22 = .ok (.sipush (-1000), 3) := by decide +kernel
theorem dX7_writes_25 : decode cX7_writes 25 = .ok (.istore 5, 2) := by decide +kernel
theorem dX7_writes_27 : decode cX7_writes 27 = .ok (.iconst 0, 1) := by decide +kernel
theorem dX7_writes_28 : decode cX7_writes 28 = .ok (.istore 6, 2) := by decide +kernel
theorem dX7_writes_30 : decode cX7_writes 30 = .ok (.iload 6, 2) := by decide +kernel
theorem dX7_writes_32 : decode cX7_writes 32 = .ok (.bipush 100, 2) := by decide +kernel
theorem dX7_writes_34 : decode cX7_writes 34 = .ok (.if_icmp .ge 56, 3) := by decide +kernel
theorem dX7_writes_37 : decode cX7_writes 37 = .ok (.aload_n 0, 1) := by decide +kernel
theorem dX7_writes_38 : decode cX7_writes 38 = .ok (.getfield 63, 3) := by decide +kernel
theorem dX7_writes_41 : decode cX7_writes 41 = .ok (.iload_n 2, 1) := by decide +kernel
theorem dX7_writes_42 : decode cX7_writes 42 = .ok (.iload 6, 2) := by decide +kernel
theorem dX7_writes_44 : decode cX7_writes 44 = .ok (.iastore, 1) := by decide +kernel
theorem dX7_writes_45 : decode cX7_writes 45 = .ok (.aload_n 0, 1) := by decide +kernel
theorem dX7_writes_46 : decode cX7_writes 46 = .ok (.iload_n 2, 1) := by decide +kernel
theorem dX7_writes_47 : decode cX7_writes 47 = .ok (.invokevirtual 249, 3) := by decide +kernel
theorem dX7_writes_50 : decode cX7_writes 50 = .ok (.istore 7, 2) := by decide +kernel
theorem dX7_writes_52 : decode cX7_writes 52 = .ok (.iload 7, 2) := by decide +kernel
theorem dX7_writes_54 : decode cX7_writes 54 = .ok (.iload 5, 2) := by decide +kernel
theorem dX7_writes_56 : decode cX7_writes 56 = .ok (.if_icmp .le 8, 3) := by decide +kernel
theorem dX7_writes_59 : decode cX7_writes 59 = .ok (.iload 6, 2) := by decide +kernel
theorem dX7_writes_61 : decode cX7_writes 61 = .ok (.goto 5, 3) := by decide +kernel
theorem dX7_writes_64 : decode cX7_writes 64 = .ok (.iload 4, 2) := by decide +kernel
theorem dX7_writes_66 : decode cX7_writes 66 = .ok (.istore 4, 2) := by decide +kernel
theorem dX7_writes_68 : decode cX7_writes 68 = .ok (.iload 7, 2) := by decide +kernel
theorem dX7_writes_70 : decode cX7_writes 70 = .ok (.iload 5, 2) := by decide +kernel
theorem dX7_writes_72 : decode cX7_writes 72 = .ok (.if_icmp .le 8, 3) := by decide +kernel
theorem dX7_writes_75 : decode cX7_writes 75 = .ok (.iload 7, 2) := by decide +kernel
theorem dX7_writes_77 : decode cX7_writes 77 = .ok (.goto 5, 3) := by decide +kernel
theorem dX7_writes_80 : decode cX7_writes 80 = .ok (.iload 5, 2) := by decide +kernel
theorem dX7_writes_82 : decode cX7_writes 82 = .ok (.istore 5, 2) := by decide +kernel
theorem dX7_writes_84 : decode cX7_writes 84 = .ok (.iinc 6 10, 3) := by decide +kernel
theorem dX7_writes_87 : decode cX7_writes 87 = .ok (.goto (-57), 3) := by decide +kernel
theorem dX7_writes_90 : decode cX7_writes 90 = .ok (.aload_n 0, 1) := by decide +kernel
theorem dX7_writes_91 : decode cX7_writes 91 = .ok (.getfield 63, 3) := by decide +kernel
theorem dX7_writes_94 : decode cX7_writes 94 = .ok (.iload_n 2, 1) := by decide +kernel
theorem dX7_writes_95 : decode cX7_writes 95 = .ok (.iload 4, 2) := by decide +kernel
theorem dX7_writes_97 : decode cX7_writes 97 = .ok (.iastore, 1) := by decide +kernel
theorem dX7_writes_98 : decode cX7_writes 98 = .ok (.iload_n 1, 1) := by decide +kernel
theorem dX7_writes_99 : decode cX7_writes 99 = .ok (.ifCond .ne 9, 3) := by decide +kernel
theorem dX7_writes_102 : decode cX7_writes 102 = .ok (.iload 4, 2) := by decide +kernel
theorem dX7_writes_104 : decode cX7_writes 104 = .ok (.iload_n 3, 1) := by decide +kernel
theorem dX7_writes_105 : decode cX7_writes 105 = .ok (.if_icmp .eq 7, 3) := by decide +kernel
theorem dX7_writes_108 : decode cX7_writes 108 = .ok (.iconst 1, 1) := by decide +kernel
theorem dX7_writes_109 : decode cX7_writes 109 = .ok (.goto 4, 3) := by decide +kernel
theorem dX7_writes_112 : decode cX7_writes 112 = .ok (.iconst 0, 1) := by decide +kernel
theorem dX7_writes_113 : decode cX7_writes 113 = .ok (.istore_n 1, 1) := by decide +kernel
theorem dX7_writes_114 : decode cX7_writes 114 = .ok (.iinc 2 1, 3) := by decide +kernel
theorem dX7_writes_117 : decode cX7_writes 117 = .ok (.goto (-113), 3) := by decide +kernel
theorem dX7_writes_120 : decode cX7_writes 120 = .ok (.iload_n 1, 1) := by decide +kernel
theorem dX7_writes_121 : decode cX7_writes 121 = .ok (.ireturn, 1) := by decide +kernel
theorem dX7_write_0 : decode cX7_write 0 = .ok (.iload_n 1, 1) := by decide +kernel
theorem dX7_write_1 : decode cX7_write 1 = .ok (.iconst (-1), 1) := by decide +kernel
theorem dX7_write_2 : decode cX7_write 2 = .ok (.if_icmp .eq 14, 3) := by decide +kernel
theorem dX7_write_5 : decode cX7_write 5 = .ok (.aload_n 0, 1) := by decide +kernel
theorem dX7_write_6 : decode cX7_write 6 = .ok (.iload_n 1, 1) := by decide +kernel
theorem dX7_write_7 : decode cX7_write 7 = .ok (.invokevirtual 178, 3) := by decide +kernel
theorem dX7_write_10 : decode cX7_write 10 = .ok (.ifCond .ne 6, 3) := by decide +kernel
theorem dX7_write_13 : decode cX7_write 13 = .ok (.ldc 181, 2) := by decide +kernel
theorem dX7_write_15 : decode cX7_write 15 = .ok (.ireturn, 1) := by decide +kernel
theorem dX7_write_16 : decode cX7_write 16 = .ok (.iconst 0, 1) := by decide +kernel
theorem dX7_write_17 : decode cX7_write 17 = .ok (.istore_n 2, 1) := by decide +kernel
theorem dX7_write_18 : decode cX7_write 18 = .ok (.iload_n 2, 1) := by decide +kernel
theorem dX7_write_19 : decode cX7_write 19 = .ok (.iconst 5, 1) := by decide +kernel
theorem dX7_write_20 : decode cX7_write 20 = .ok (.if_icmp .ge 23, 3) := by decide +kernel
theorem dX7_write_23 : decode cX7_write 23 = .ok (.aload_n 0, 1) := by decide +kernel
theorem dX7_write_24 : decode cX7_write 24 = .ok (.getfield 63, 3) := by decide +kernel
theorem dX7_write_27 : decode cX7_write 27 = .ok (.iload_n 2, 1) := by decide +kernel
theorem dX7_write_28 : decode cX7_write 28 = .ok (.aload_n 0, 1) := by decide +kernel
theorem dX7_write_29 : decode cX7_write 29 = .ok (.getfield 7, 3) := by decide +kernel
theorem dX7_write_32 : decode cX7_write 32 = .ok (.iconst 0, 1) := by decide +kernel
theorem dX7_write_33 : decode cX7_write 33 = .ok (.iload_n 2, 1) := by decide +kernel
theorem dX7_write_34 : decode cX7_write 34 = .ok (.iadd, 1) := by decide +kernel
theorem dX7_write_35 : decode cX7_write 35 = .ok (.iaload, 1) := by decide +kernel
theorem dX7_write_36 : decode cX7_write 36 = .ok (.iastore, 1) := by decide +kernel
theorem dX7_write_37 : decode cX7_write 37 = .ok (.iinc 2 1, 3) := by decide +kernel
theorem dX7_write_40 : decode cX7_write 40 = .ok (.goto (-22), 3) := by decide +kernel
theorem dX7_write_43 : decode cX7_write 43 = .ok (.iconst 0, 1) := by decide +kernel
theorem dX7_write_44 : decode cX7_write 44 = .ok (.istore_n 2, 1) := by decide +kernel
theorem dX7_write_45 : decode cX7_write 45 = .ok (.iload_n 2, 1) := by decide +kernel
theorem dX7_write_46 : decode cX7_write 46 = .ok (.bipush 20, 2) := by decide +kernel
theorem dX7_write_48 : decode cX7_write 48 = .ok (.if_icmp .ge 16, 3) := by decide +kernel
theorem dX7_write_51 : decode cX7_write 51 = .ok (.aload_n 0, 1) := by decide +kernel
theorem dX7_write_52 : decode cX7_write 52 = .ok (.invokevirtual 252, 3) := by decide +kernel
theorem dX7_write_55 : decode cX7_write 55 = .ok (.ifCond .eq 9, 3) := by decide +kernel
theorem dX7_write_58 : decode cX7_write 58 = .ok (.iinc 2 1, 3) := by decide +kernel
theorem dX7_write_61 : decode cX7_write 61 = .ok (.goto (-16), 3) := by decide +kernel
theorem dX7_write_64 : decode cX7_write 64 = .ok (.iload_n 2, 1) := by decide +kernel
theorem dX7_write_65 : decode cX7_write 65 = .ok (.bipush 20, 2) := by decide +kernel
theorem dX7_write_67 : decode cX7_write 67 = .ok (.if_icmp .ne 7, 3) := by decide +kernel
theorem dX7_write_70 : decode cX7_write 70 = .ok (.iconst (-1), 1) := by decide +kernel
theorem dX7_write_71 : decode cX7_write 71 = .ok (.goto 18, 3) := by decide +kernel
theorem dX7_write_74 : decode cX7_write 74 = .ok (.iload_n 1, 1) := by decide +kernel
theorem dX7_write_75 : decode cX7_write 75 = .ok (.iconst (-1), 1) := by decide +kernel
theorem dX7_write_76 : decode cX7_write 76 = .ok (.if_icmp .ne 7, 3) := by decide +kernel
theorem dX7_write_79 : decode cX7_write 79 = .ok (.iload_n 2, 1) := by decide +kernel
theorem dX7_write_80 : decode cX7_write 80 = .ok (.goto 9, 3) := by decide +kernel
theorem dX7_write_83 : decode cX7_write 83 = .ok (.aload_n 0, 1) := by decide +kernel
theorem dX7_write_84 : decode cX7_write 84 = .ok (.getfield 63, 3) := by decide +kernel
theorem dX7_write_87 : decode cX7_write 87 = .ok (.iload_n 1, 1) := by decide +kernel
theorem dX7_write_88 : decode cX7_write 88 = .ok (.iaload, 1) := by decide +kernel
theorem dX7_write_89 : decode cX7_write 89 = .ok (.ireturn, 1) := by decide +kernel
theorem dX7_divisor_0 : decode cX7_divisor 0 = .ok (.iload_n 0, 1) := by decide +kernel
theorem dX7_divisor_1 : decode cX7_divisor 1 = .ok (.istore_n 2, 1) := by decide +kernel
theorem dX7_divisor_2 : decode cX7_divisor 2 = .ok (.iload_n 1, 1) := by decide +kernel
theorem dX7_divisor_3 : decode cX7_divisor 3 = .ok (.istore_n 3, 1) := by decide +kernel
theorem dX7_divisor_4 : decode cX7_divisor 4 = .ok (.iload_n 3, 1) := by decide +kernel
theorem dX7_divisor_5 : decode cX7_divisor 5 = .ok (.ifCond .eq 16, 3) := by decide +kernel
theorem dX7_divisor_8 : decode cX7_divisor 8 = .ok (.iload_n 2, 1) := by decide +kernel
theorem dX7_divisor_9 : decode cX7_divisor 9 = .ok (.iload_n 3, 1) := by decide +kernel
theorem dX7_divisor_10 : decode cX7_divisor 10 = .ok (.irem, 1) := by decide +kernel
theorem dX7_divisor_11 : decode cX7_divisor 11 = .ok (.istore 4, 2) := by decide +kernel
theorem dX7_divisor_13 : decode cX7_divisor 13 = .ok (.iload_n 3, 1) := by decide +kernel
theorem dX7_divisor_14 : decode cX7_divisor 14 = .ok (.istore_n 2, 1) := by decide +kernel
theorem dX7_divisor_15 : decode cX7_divisor 15 = .ok (.iload 4, 2) := by decide +kernel
theorem dX7_divisor_17 : decode cX7_divisor 17 = .ok (.istore_n 3, 1) := by decide +kernel
theorem dX7_divisor_18 : decode cX7_divisor 18 = .ok (.goto (-14), 3) := by decide +kernel
theorem dX7_divisor_21 : decode cX7_divisor 21 = .ok (.iload_n 2, 1) := by decide +kernel
theorem dX7_divisor_22 : decode cX7_divisor 22 = .ok (.ireturn, 1) := by decide +kernel
theorem dX7_tells_0 : decode cX7_tells 0 = .ok (.iload_n 1, 1) := by decide +kernel
theorem dX7_tells_1 : decode cX7_tells 1 = .ok (.i2l, 1) := by decide +kernel
theorem dX7_tells_2 : decode cX7_tells 2 = .ok (.lconst 0, 1) := by decide +kernel
theorem dX7_tells_3 : decode cX7_tells 3 = .ok (.ldc2_w 215, 3) := by decide +kernel
theorem dX7_tells_6 : decode cX7_tells 6 = .ok (.invokestatic 68, 3) := by decide +kernel
theorem dX7_tells_9 : decode cX7_tells 9 = .ok (.ifCond .eq 25, 3) := by decide +kernel
theorem dX7_tells_12 : decode cX7_tells 12 = .ok (.iload_n 2, 1) := by decide +kernel
theorem dX7_tells_13 : decode cX7_tells 13 = .ok (.i2l, 1) := by decide +kernel
theorem dX7_tells_14 : decode cX7_tells 14 = .ok (.lconst 0, 1) := by decide +kernel
theorem dX7_tells_15 : decode cX7_tells 15 = .ok (.ldc2_w 215, 3) := by decide +kernel
theorem dX7_tells_18 : decode cX7_tells 18 = .ok (.invokestatic 68, 3) := by decide +kernel
theorem dX7_tells_21 : decode cX7_tells 21 = .ok (.ifCond .eq 13, 3) := by decide +kernel
theorem dX7_tells_24 : decode cX7_tells 24 = .ok (.iload_n 3, 1) := by decide +kernel
theorem dX7_tells_25 : decode cX7_tells 25 = .ok (.i2l, 1) := by decide +kernel
theorem dX7_tells_26 : decode cX7_tells 26 = .ok (.lconst 0, 1) := by decide +kernel
theorem dX7_tells_27 : decode cX7_tells 27 = .ok (.lconst 1, 1) := by decide +kernel
theorem dX7_tells_28 : decode cX7_tells 28 = .ok (.invokestatic 68, 3) := by decide +kernel
theorem dX7_tells_31 : decode cX7_tells 31 = .ok (.ifCond .ne 6, 3) := by decide +kernel
theorem dX7_tells_34 : decode cX7_tells 34 = .ok (.ldc 72, 2) := by decide +kernel
theorem dX7_tells_36 : decode cX7_tells 36 = .ok (.ireturn, 1) := by decide +kernel
theorem dX7_tells_37 : decode cX7_tells 37 = .ok (.iconst 0, 1) := by decide +kernel
theorem dX7_tells_38 : decode cX7_tells 38 = .ok (.istore 4, 2) := by decide +kernel
theorem dX7_tells_40 : decode cX7_tells 40 = .ok (.iconst 0, 1) := by decide +kernel
theorem dX7_tells_41 : decode cX7_tells 41 = .ok (.istore 5, 2) := by decide +kernel
theorem dX7_tells_43 : decode cX7_tells 43 = .ok (.iconst 0, 1) := by decide +kernel
theorem dX7_tells_44 : decode cX7_tells 44 = .ok (.istore 6, 2) := by decide +kernel
theorem dX7_tells_46 : decode cX7_tells 46 = .ok (.iload 6, 2) := by decide +kernel
theorem dX7_tells_48 : decode cX7_tells 48 = .ok (.aload_n 0, 1) := by decide +kernel
theorem dX7_tells_49 : decode cX7_tells 49 = .ok (.getfield 153, 3) := by decide +kernel
theorem dX7_tells_52 : decode cX7_tells 52 = .ok (.if_icmp .ge 67, 3) := by decide +kernel
theorem dX7_tells_55 : decode cX7_tells 55 = .ok (.aload_n 0, 1) := by decide +kernel
theorem dX7_tells_56 : decode cX7_tells 56 = .ok (.iload 6, 2) := by decide +kernel
theorem dX7_tells_58 : decode cX7_tells 58 = .ok (.invokevirtual 182, 3) := by decide +kernel
theorem dX7_tells_61 : decode cX7_tells 61 = .ok (.iload_n 1, 1) := by decide +kernel
theorem dX7_tells_62 : decode cX7_tells 62 = .ok (.if_icmp .ne 7, 3) := by decide +kernel
theorem dX7_tells_65 : decode cX7_tells 65 = .ok (.iconst 1, 1) := by decide +kernel
theorem dX7_tells_66 : decode cX7_tells 66 = .ok (.goto 4, 3) := by decide +kernel
theorem dX7_tells_69 : decode cX7_tells 69 = .ok (.iconst 0, 1) := by decide +kernel
theorem dX7_tells_70 : decode cX7_tells 70 = .ok (.istore 7, 2) := by decide +kernel
theorem dX7_tells_72 : decode cX7_tells 72 = .ok (.iload 4, 2) := by decide +kernel
theorem dX7_tells_74 : decode cX7_tells 74 = .ok (.iload 7, 2) := by decide +kernel
theorem dX7_tells_76 : decode cX7_tells 76 = .ok (.ifCond .eq 7, 3) := by decide +kernel
theorem dX7_tells_79 : decode cX7_tells 79 = .ok (.iconst 1, 1) := by decide +kernel
theorem dX7_tells_80 : decode cX7_tells 80 = .ok (.goto 4, 3) := by decide +kernel
theorem dX7_tells_83 : decode cX7_tells 83 = .ok (.iconst 0, 1) := by decide +kernel
theorem dX7_tells_84 : decode cX7_tells 84 = .ok (.iadd, 1) := by decide +kernel
theorem dX7_tells_85 : decode cX7_tells 85 = .ok (.istore 4, 2) := by decide +kernel
theorem dX7_tells_87 : decode cX7_tells 87 = .ok (.iload 5, 2) := by decide +kernel
theorem dX7_tells_89 : decode cX7_tells 89 = .ok (.iload 7, 2) := by decide +kernel
theorem dX7_tells_91 : decode cX7_tells 91 = .ok (.ifCond .eq 18, 3) := by decide +kernel
theorem dX7_tells_94 : decode cX7_tells 94 = .ok (.aload_n 0, 1) := by decide +kernel
theorem dX7_tells_95 : decode cX7_tells 95 = .ok (.getfield 27, 3) := by decide +kernel
theorem dX7_tells_98 : decode cX7_tells 98 = .ok (.iload 6, 2) := by decide +kernel
theorem dX7_tells_100 : decode cX7_tells 100 = .ok (.iaload, 1) := by decide +kernel
theorem dX7_tells_101 : decode cX7_tells 101 = .ok (.iload_n 2, 1) := by decide +kernel
theorem dX7_tells_102 : decode cX7_tells 102 = .ok (.if_icmp .lt 7, 3) := by decide +kernel
theorem dX7_tells_105 : decode cX7_tells 105 = .ok (.iconst 1, 1) := by decide +kernel
theorem dX7_tells_106 : decode cX7_tells 106 = .ok (.goto 4, 3) := by decide +kernel
theorem dX7_tells_109 : decode cX7_tells 109 = .ok (.iconst 0, 1) := by decide +kernel
theorem dX7_tells_110 : decode cX7_tells 110 = .ok (.iadd, 1) := by decide +kernel
theorem dX7_tells_111 : decode cX7_tells 111 = .ok (.istore 5, 2) := by decide +kernel
theorem dX7_tells_113 : decode cX7_tells 113 = .ok (.iinc 6 1, 3) := by decide +kernel
theorem dX7_tells_116 : decode cX7_tells 116 = .ok (.goto (-70), 3) := by decide +kernel
theorem dX7_tells_119 : decode cX7_tells 119 = .ok (.iload 4, 2) := by decide +kernel
theorem dX7_tells_121 : decode cX7_tells 121 = .ok (.ifCond .ne 5, 3) := by decide +kernel
theorem dX7_tells_124 : decode cX7_tells 124 = .ok (.iload_n 3, 1) := by decide +kernel
theorem dX7_tells_125 : decode cX7_tells 125 = .ok (.ireturn, 1) := by decide +kernel
theorem dX7_tells_126 : decode cX7_tells 126 = .ok (.iload 5, 2) := by decide +kernel
theorem dX7_tells_128 : decode cX7_tells 128 = .ok (.iload 4, 2) := by decide +kernel
theorem dX7_tells_130 : decode cX7_tells 130 = .ok (.invokestatic 256, 3) := by decide +kernel
theorem dX7_tells_133 : decode cX7_tells 133 = .ok (.istore 6, 2) := by decide +kernel
theorem dX7_tells_135 : decode cX7_tells 135 = .ok (.iload_n 3, 1) := by decide +kernel
theorem dX7_tells_136 : decode cX7_tells 136 = .ok (.ifCond .ne 11, 3) := by decide +kernel
theorem dX7_tells_139 : decode cX7_tells 139 = .ok (.iload 5, 2) := by decide +kernel
theorem dX7_tells_141 : decode cX7_tells 141 = .ok (.iload 6, 2) := by decide +kernel
theorem dX7_tells_143 : decode cX7_tells 143 = .ok (.idiv, 1) := by decide +kernel
theorem dX7_tells_144 : decode cX7_tells 144 = .ok (.goto 8, 3) := by decide +kernel
theorem dX7_tells_147 : decode cX7_tells 147 = .ok (.iload 4, 2) := by decide +kernel
theorem dX7_tells_149 : decode cX7_tells 149 = .ok (.iload 6, 2) := by decide +kernel
theorem dX7_tells_151 : decode cX7_tells 151 = .ok (.idiv, 1) := by decide +kernel
theorem dX7_tells_152 : decode cX7_tells 152 = .ok (.ireturn, 1) := by decide +kernel
theorem dX7_wordsTo_0 : decode cX7_wordsTo 0 = .ok (.iconst 0, 1) := by decide +kernel
theorem dX7_wordsTo_1 : decode cX7_wordsTo 1 = .ok (.istore_n 3, 1) := by decide +kernel
theorem dX7_wordsTo_2 : decode cX7_wordsTo 2 = .ok (.iload_n 2, 1) := by decide +kernel
theorem dX7_wordsTo_3 : decode cX7_wordsTo 3 = .ok (.istore 4, 2) := by decide +kernel
theorem dX7_wordsTo_5 : decode cX7_wordsTo 5 = .ok (.iload 4, 2) := by decide +kernel
theorem dX7_wordsTo_7 : decode cX7_wordsTo 7 = .ok (.aload_n 0, 1) := by decide +kernel
theorem dX7_wordsTo_8 : decode cX7_wordsTo 8 = .ok (.getfield 27, 3) := by decide +kernel
theorem dX7_wordsTo_11 : decode cX7_wordsTo 11 = .ok (.iload_n 1, 1) := by decide +kernel
theorem dX7_wordsTo_12 : decode cX7_wordsTo 12 = .ok (.iaload, 1) := by decide +kernel
theorem dX7_wordsTo_13 : decode cX7_wordsTo 13 = .ok (.if_icmp .lt 27, 3) := by decide +kernel
theorem dX7_wordsTo_16 : decode cX7_wordsTo 16 = .ok (.iload 4, 2) := by decide +kernel
theorem dX7_wordsTo_18 : decode cX7_wordsTo 18 = .ok (.bipush 10, 2) := by decide +kernel
theorem dX7_wordsTo_20 : decode cX7_wordsTo 20 = .ok (.if_icmp .ge 7, 3) := by decide +kernel
theorem dX7_wordsTo_23 : decode cX7_wordsTo 23 = .ok (.iconst 0, 1) := by decide +kernel
theorem dX7_wordsTo_24 : decode cX7_wordsTo 24 = .ok (.goto 8, 3) := by decide +kernel
theorem dX7_wordsTo_27 : decode cX7_wordsTo 27 = .ok (.iload 4, 2) := by decide +kernel
theorem dX7_wordsTo_29 : decode cX7_wordsTo 29 = .ok (.bipush 10, 2) := by decide +kernel
theorem dX7_wordsTo_31 : decode cX7_wordsTo 31 = .ok (.isub, 1) := by decide +kernel
theorem dX7_wordsTo_32 : decode cX7_wordsTo 32 = .ok (.istore 4, 2) := by decide +kernel
theorem dX7_wordsTo_34 : decode cX7_wordsTo 34 = .ok (.iinc 3 1, 3) := by decide +kernel
theorem dX7_wordsTo_37 : decode cX7_wordsTo 37 = .ok (.goto (-32), 3) := by decide +kernel
theorem dX7_wordsTo_40 : decode cX7_wordsTo 40 = .ok (.iload_n 3, 1) := by decide +kernel
theorem dX7_wordsTo_41 : decode cX7_wordsTo 41 = .ok (.ireturn, 1) := by decide +kernel
theorem dX7_words_0 : decode cX7_words 0 = .ok (.aload_n 0, 1) := by decide +kernel
theorem dX7_words_1 : decode cX7_words 1 = .ok (.iload_n 1, 1) := by decide +kernel
theorem dX7_words_2 : decode cX7_words 2 = .ok (.invokevirtual 178, 3) := by decide +kernel
theorem dX7_words_5 : decode cX7_words 5 = .ok (.ifCond .eq 16, 3) := by decide +kernel
theorem dX7_words_8 : decode cX7_words 8 = .ok (.aload_n 0, 1) := by decide +kernel
theorem dX7_words_9 : decode cX7_words 9 = .ok (.iload_n 2, 1) := by decide +kernel
theorem dX7_words_10 : decode cX7_words 10 = .ok (.invokevirtual 178, 3) := by decide +kernel
theorem dX7_words_13 : decode cX7_words 13 = .ok (.ifCond .eq 8, 3) := by decide +kernel
theorem dX7_words_16 : decode cX7_words 16 = .ok (.iload_n 1, 1) := by decide +kernel
theorem dX7_words_17 : decode cX7_words 17 = .ok (.iload_n 2, 1) := by decide +kernel
theorem dX7_words_18 : decode cX7_words 18 = .ok (.if_icmp .ne 6, 3) := by decide +kernel
theorem dX7_words_21 : decode cX7_words 21 = .ok (.ldc 181, 2) := by decide +kernel
theorem dX7_words_23 : decode cX7_words 23 = .ok (.ireturn, 1) := by decide +kernel
theorem dX7_words_24 : decode cX7_words 24 = .ok (.aload_n 0, 1) := by decide +kernel
theorem dX7_words_25 : decode cX7_words 25 = .ok (.getfield 27, 3) := by decide +kernel
theorem dX7_words_28 : decode cX7_words 28 = .ok (.iload_n 1, 1) := by decide +kernel
theorem dX7_words_29 : decode cX7_words 29 = .ok (.iaload, 1) := by decide +kernel
theorem dX7_words_30 : decode cX7_words 30 = .ok (.ifCond .eq 12, 3) := by decide +kernel
theorem dX7_words_33 : decode cX7_words 33 = .ok (.aload_n 0, 1) := by decide +kernel
theorem dX7_words_34 : decode cX7_words 34 = .ok (.getfield 27, 3) := by decide +kernel
theorem dX7_words_37 : decode cX7_words 37 = .ok (.iload_n 2, 1) := by decide +kernel
theorem dX7_words_38 : decode cX7_words 38 = .ok (.iaload, 1) := by decide +kernel
theorem dX7_words_39 : decode cX7_words 39 = .ok (.ifCond .ne 7, 3) := by decide +kernel
theorem dX7_words_42 : decode cX7_words 42 = .ok (.iconst (-1), 1) := by decide +kernel
theorem dX7_words_43 : decode cX7_words 43 = .ok (.goto 24, 3) := by decide +kernel
theorem dX7_words_46 : decode cX7_words 46 = .ok (.aload_n 0, 1) := by decide +kernel
theorem dX7_words_47 : decode cX7_words 47 = .ok (.iload_n 1, 1) := by decide +kernel
theorem dX7_words_48 : decode cX7_words 48 = .ok (.aload_n 0, 1) := by decide +kernel
theorem dX7_words_49 : decode cX7_words 49 = .ok (.iload_n 2, 1) := by decide +kernel
theorem dX7_words_50 : decode cX7_words 50 = .ok (.invokevirtual 182, 3) := by decide +kernel
theorem dX7_words_53 : decode cX7_words 53 = .ok (.invokevirtual 259, 3) := by decide +kernel
theorem dX7_words_56 : decode cX7_words 56 = .ok (.aload_n 0, 1) := by decide +kernel
theorem dX7_words_57 : decode cX7_words 57 = .ok (.iload_n 2, 1) := by decide +kernel
theorem dX7_words_58 : decode cX7_words 58 = .ok (.aload_n 0, 1) := by decide +kernel
theorem dX7_words_59 : decode cX7_words 59 = .ok (.iload_n 1, 1) := by decide +kernel
theorem dX7_words_60 : decode cX7_words 60 = .ok (.invokevirtual 182, 3) := by decide +kernel
theorem dX7_words_63 : decode cX7_words 63 = .ok (.invokevirtual 259, 3) := by decide +kernel
theorem dX7_words_66 : decode cX7_words 66 = .ok (.iadd, 1) := by decide +kernel
theorem dX7_words_67 : decode cX7_words 67 = .ok (.ireturn, 1) := by decide +kernel
theorem dX7_hire_0 : decode cX7_hire 0 = .ok (.aload_n 0, 1) := by decide +kernel
theorem dX7_hire_1 : decode cX7_hire 1 = .ok (.iload_n 1, 1) := by decide +kernel
theorem dX7_hire_2 : decode cX7_hire 2 = .ok (.invokevirtual 178, 3) := by decide +kernel
theorem dX7_hire_5 : decode cX7_hire 5 = .ok (.ifCond .ne 6, 3) := by decide +kernel
theorem dX7_hire_8 : decode cX7_hire 8 = .ok (.ldc 181, 2) := by decide +kernel
theorem dX7_hire_10 : decode cX7_hire 10 = .ok (.ireturn, 1) := by decide +kernel
theorem dX7_hire_11 : decode cX7_hire 11 = .ok (.iload_n 2, 1) := by decide +kernel
theorem dX7_hire_12 : decode cX7_hire 12 = .ok (.i2l, 1) := by decide +kernel
theorem dX7_hire_13 : decode cX7_hire 13 = .ok (.lconst 0, 1) := by decide +kernel
theorem dX7_hire_14 : decode cX7_hire 14 = .ok (.lconst 1, 1) := by decide +kernel
theorem dX7_hire_15 : decode cX7_hire 15 = .ok (.invokestatic 68, 3) := by decide +kernel
theorem dX7_hire_18 : decode cX7_hire 18 = .ok (.ifCond .ne 6, 3) := by decide +kernel
theorem dX7_hire_21 : decode cX7_hire 21 = .ok (.ldc 72, 2) := by decide +kernel
theorem dX7_hire_23 : decode cX7_hire 23 = .ok (.ireturn, 1) := by decide +kernel
theorem dX7_hire_24 : decode cX7_hire 24 = .ok (.iconst 0, 1) := by decide +kernel
theorem dX7_hire_25 : decode cX7_hire 25 = .ok (.istore_n 3, 1) := by decide +kernel
theorem dX7_hire_26 : decode cX7_hire 26 = .ok (.iconst (-1), 1) := by decide +kernel
theorem dX7_hire_27 : decode cX7_hire 27 = .ok (.istore 4, 2) := by decide +kernel
theorem dX7_hire_29 : decode cX7_hire 29 = .ok (.iconst 0, 1) := by decide +kernel
theorem dX7_hire_30 : decode cX7_hire 30 = .ok (.istore 5, 2) := by decide +kernel
theorem dX7_hire_32 : decode cX7_hire 32 = .ok (.iconst 0, 1) := by decide +kernel
theorem dX7_hire_33 : decode cX7_hire 33 = .ok (.istore 6, 2) := by decide +kernel
theorem dX7_hire_35 : decode cX7_hire 35 = .ok (.iload 6, 2) := by decide +kernel
theorem dX7_hire_37 : decode cX7_hire 37 = .ok (.iload_n 1, 1) := by decide +kernel
theorem dX7_hire_38 : decode cX7_hire 38 = .ok (.if_icmp .gt 136, 3) := by decide +kernel
theorem dX7_hire_41 : decode cX7_hire 41 = .ok (.iconst (-1), 1) := by decide +kernel
theorem dX7_hire_42 : decode cX7_hire 42 = .ok (.istore 4, 2) := by decide +kernel
theorem dX7_hire_44 : decode cX7_hire 44 = .ok (.iconst 0, 1) := by decide +kernel
theorem dX7_hire_45 : decode cX7_hire 45 = .ok (.istore 7, 2) := by decide +kernel
theorem dX7_hire_47 : decode cX7_hire 47 = .ok (.iconst 0, 1) := by decide +kernel
theorem dX7_hire_48 : decode cX7_hire 48 = .ok (.istore 5, 2) := by decide +kernel
theorem dX7_hire_50 : decode cX7_hire 50 = .ok (.iconst 0, 1) := by decide +kernel
theorem dX7_hire_51 : decode cX7_hire 51 = .ok (.istore 8, 2) := by decide +kernel
theorem dX7_hire_53 : decode cX7_hire 53 = .ok (.iload 8, 2) := by decide +kernel
theorem dX7_hire_55 : decode cX7_hire 55 = .ok (.aload_n 0, 1) := by decide +kernel
theorem dX7_hire_56 : decode cX7_hire 56 = .ok (.getfield 150, 3) := by decide +kernel
theorem dX7_hire_59 : decode cX7_hire 59 = .ok (.if_icmp .ge 92, 3) := by decide +kernel
theorem dX7_hire_62 : decode cX7_hire 62 = .ok (.iload_n 3, 1) := by decide +kernel
theorem dX7_hire_63 : decode cX7_hire 63 = .ok (.iload 8, 2) := by decide +kernel
theorem dX7_hire_65 : decode cX7_hire 65 = .ok (.invokestatic 112, 3) := by decide +kernel
theorem dX7_hire_68 : decode cX7_hire 68 = .ok (.ifCond .eq 7, 3) := by decide +kernel
theorem dX7_hire_71 : decode cX7_hire 71 = .ok (.iconst 0, 1) := by decide +kernel
theorem dX7_hire_72 : decode cX7_hire 72 = .ok (.goto 11, 3) := by decide +kernel
theorem dX7_hire_75 : decode cX7_hire 75 = .ok (.aload_n 0, 1) := by decide +kernel
theorem dX7_hire_76 : decode cX7_hire 76 = .ok (.iload 8, 2) := by decide +kernel
theorem dX7_hire_78 : decode cX7_hire 78 = .ok (.iload 6, 2) := by decide +kernel
theorem dX7_hire_80 : decode cX7_hire 80 = .ok (.invokevirtual 168, 3) := by decide +kernel
theorem dX7_hire_83 : decode cX7_hire 83 = .ok (.istore 9, 2) := by decide +kernel
theorem dX7_hire_85 : decode cX7_hire 85 = .ok (.iload 9, 2) := by decide +kernel
theorem dX7_hire_87 : decode cX7_hire 87 = .ok (.iload 7, 2) := by decide +kernel
theorem dX7_hire_89 : decode cX7_hire 89 = .ok (.if_icmp .le 8, 3) := by decide +kernel
theorem dX7_hire_92 : decode cX7_hire 92 = .ok (.iload 7, 2) := by decide +kernel
theorem dX7_hire_94 : decode cX7_hire 94 = .ok (.goto 17, 3) := by decide +kernel
theorem dX7_hire_97 : decode cX7_hire 97 = .ok (.iload 9, 2) := by decide +kernel
theorem dX7_hire_99 : decode cX7_hire 99 = .ok (.iload 5, 2) := by decide +kernel
theorem dX7_hire_101 : decode cX7_hire 101 = .ok (.if_icmp .le 8, 3) := by decide +kernel
theorem dX7_hire_104 : decode cX7_hire 104 = .ok (.iload 9, 2) := by decide +kernel
theorem dX7_hire_106 : decode cX7_hire 106 = .ok (.goto 5, 3) := by decide +kernel
theorem dX7_hire_109 : decode cX7_hire 109 = .ok (.iload 5, 2) := by decide +kernel
theorem dX7_hire_111 : decode cX7_hire 111 = .ok (.istore 5, 2) := by decide +kernel
theorem dX7_hire_113 : decode cX7_hire 113 = .ok (.iload 9, 2) := by decide +kernel
theorem dX7_hire_115 : decode cX7_hire 115 = .ok (.iload 7, 2) := by decide +kernel
theorem dX7_hire_117 : decode cX7_hire 117 = .ok (.if_icmp .le 8, 3) := by decide +kernel
theorem dX7_hire_120 : decode cX7_hire 120 = .ok (.iload 8, 2) := by decide +kernel
theorem dX7_hire_122 : decode cX7_hire 122 = .ok (.goto 5, 3) := by decide +kernel
theorem dX7_hire_125 : decode cX7_hire 125 = .ok (.iload 4, 2) := by decide +kernel
theorem dX7_hire_127 : decode cX7_hire 127 = .ok (.istore 4, 2) := by decide +kernel
theorem dX7_hire_129 : decode cX7_hire 129 = .ok (.iload 9, 2) := by decide +kernel
theorem dX7_hire_131 : decode cX7_hire 131 = .ok (.iload 7, 2) := by decide +kernel
theorem dX7_hire_133 : decode cX7_hire 133 = .ok (.if_icmp .le 8, 3) := by decide +kernel
theorem dX7_hire_136 : decode cX7_hire 136 = .ok (.iload 9, 2) := by decide +kernel
theorem dX7_hire_138 : decode cX7_hire 138 = .ok (.goto 5, 3) := by decide +kernel
theorem dX7_hire_141 : decode cX7_hire 141 = .ok (.iload 7, 2) := by decide +kernel
theorem dX7_hire_143 : decode cX7_hire 143 = .ok (.istore 7, 2) := by decide +kernel
theorem dX7_hire_145 : decode cX7_hire 145 = .ok (.iinc 8 1, 3) := by decide +kernel
theorem dX7_hire_148 : decode cX7_hire 148 = .ok (.goto (-95), 3) := by decide +kernel
theorem dX7_hire_151 : decode cX7_hire 151 = .ok (.iload_n 3, 1) := by decide +kernel
theorem dX7_hire_152 : decode cX7_hire 152 = .ok (.iload 4, 2) := by decide +kernel
theorem dX7_hire_154 : decode cX7_hire 154 = .ok (.iconst (-1), 1) := by decide +kernel
theorem dX7_hire_155 : decode cX7_hire 155 = .ok (.if_icmp .ne 7, 3) := by decide +kernel
theorem dX7_hire_158 : decode cX7_hire 158 = .ok (.iconst 0, 1) := by decide +kernel
theorem dX7_hire_159 : decode cX7_hire 159 = .ok (.goto 7, 3) := by decide +kernel
theorem dX7_hire_162 : decode cX7_hire 162 = .ok (.iconst 1, 1) := by decide +kernel
theorem dX7_hire_163 : decode cX7_hire 163 = .ok (.iload 4, 2) := by decide +kernel
theorem dX7_hire_165 : decode cX7_hire 165 = .ok (.ishl, 1) := by decide +kernel
theorem dX7_hire_166 : decode cX7_hire 166 = .ok (.ior, 1) := by decide +kernel
theorem dX7_hire_167 : decode cX7_hire 167 = .ok (.istore_n 3, 1) := by decide +kernel
theorem dX7_hire_168 : decode cX7_hire 168 = .ok (.iinc 6 1, 3) := by decide +kernel
theorem dX7_hire_171 : decode cX7_hire 171 = .ok (.goto (-136), 3) := by decide +kernel
theorem dX7_hire_174 : decode cX7_hire 174 = .ok (.iload 4, 2) := by decide +kernel
theorem dX7_hire_176 : decode cX7_hire 176 = .ok (.iconst (-1), 1) := by decide +kernel
theorem dX7_hire_177 : decode cX7_hire 177 = .ok (.if_icmp .ne 7, 3) := by decide +kernel
theorem dX7_hire_180 : decode cX7_hire 180 = .ok (.iconst (-1), 1) := by decide +kernel
theorem dX7_hire_181 : decode cX7_hire 181 = .ok (.goto 14, 3) := by decide +kernel
theorem dX7_hire_184 : decode cX7_hire 184 = .ok (.iload_n 2, 1) := by decide +kernel
theorem dX7_hire_185 : decode cX7_hire 185 = .ok (.ifCond .ne 8, 3) := by decide +kernel
theorem dX7_hire_188 : decode cX7_hire 188 = .ok (.iload 4, 2) := by decide +kernel
theorem dX7_hire_190 : decode cX7_hire 190 = .ok (.goto 5, 3) := by decide +kernel
theorem dX7_hire_193 : decode cX7_hire 193 = .ok (.iload 5, 2) := by decide +kernel
theorem dX7_hire_195 : decode cX7_hire 195 = .ok (.ireturn, 1) := by decide +kernel
theorem dX7_saw_0 : decode cX7_saw 0 = .ok (.aload_n 0, 1) := by decide +kernel
theorem dX7_saw_1 : decode cX7_saw 1 = .ok (.iload_n 1, 1) := by decide +kernel
theorem dX7_saw_2 : decode cX7_saw 2 = .ok (.invokevirtual 188, 3) := by decide +kernel
theorem dX7_saw_5 : decode cX7_saw 5 = .ok (.ifCond .eq 11, 3) := by decide +kernel
theorem dX7_saw_8 : decode cX7_saw 8 = .ok (.aload_n 0, 1) := by decide +kernel
theorem dX7_saw_9 : decode cX7_saw 9 = .ok (.iload_n 2, 1) := by decide +kernel
theorem dX7_saw_10 : decode cX7_saw 10 = .ok (.invokevirtual 178, 3) := by decide +kernel
theorem dX7_saw_13 : decode cX7_saw 13 = .ok (.ifCond .ne 6, 3) := by decide +kernel
theorem dX7_saw_16 : decode cX7_saw 16 = .ok (.ldc 181, 2) := by decide +kernel
theorem dX7_saw_18 : decode cX7_saw 18 = .ok (.ireturn, 1) := by decide +kernel
theorem dX7_saw_19 : decode cX7_saw 19 = .ok (.iload_n 3, 1) := by decide +kernel
theorem dX7_saw_20 : decode cX7_saw 20 = .ok (.i2l, 1) := by decide +kernel
theorem dX7_saw_21 : decode cX7_saw 21 = .ok (.lconst 0, 1) := by decide +kernel
theorem dX7_saw_22 : decode cX7_saw 22 = .ok (.lconst 1, 1) := by decide +kernel
theorem dX7_saw_23 : decode cX7_saw 23 = .ok (.invokestatic 68, 3) := by decide +kernel
theorem dX7_saw_26 : decode cX7_saw 26 = .ok (.ifCond .ne 6, 3) := by decide +kernel
theorem dX7_saw_29 : decode cX7_saw 29 = .ok (.ldc 72, 2) := by decide +kernel
theorem dX7_saw_31 : decode cX7_saw 31 = .ok (.ireturn, 1) := by decide +kernel
theorem dX7_saw_32 : decode cX7_saw 32 = .ok (.iconst 0, 1) := by decide +kernel
theorem dX7_saw_33 : decode cX7_saw 33 = .ok (.istore 4, 2) := by decide +kernel
theorem dX7_saw_35 : decode cX7_saw 35 = .ok (.iconst 0, 1) := by decide +kernel
theorem dX7_saw_36 : decode cX7_saw 36 = .ok (.istore 5, 2) := by decide +kernel
theorem dX7_saw_38 : decode cX7_saw 38 = .ok (.iconst 0, 1) := by decide +kernel
theorem dX7_saw_39 : decode cX7_saw 39 = .ok (.istore 6, 2) := by decide +kernel
theorem dX7_saw_41 : decode cX7_saw 41 = .ok (.iload 6, 2) := by decide +kernel
theorem dX7_saw_43 : decode cX7_saw 43 = .ok (.iconst 2, 1) := by decide +kernel
theorem dX7_saw_44 : decode cX7_saw 44 = .ok (.if_icmp .ge 113, 3) := by decide +kernel
theorem dX7_saw_47 : decode cX7_saw 47 = .ok (.iconst 0, 1) := by decide +kernel
theorem dX7_saw_48 : decode cX7_saw 48 = .ok (.istore 7, 2) := by decide +kernel
theorem dX7_saw_50 : decode cX7_saw 50 = .ok (.iload 7, 2) := by decide +kernel
theorem dX7_saw_52 : decode cX7_saw 52 = .ok (.bipush 64, 2) := by decide +kernel
theorem dX7_saw_54 : decode cX7_saw 54 = .ok (.if_icmp .ge 97, 3) := by decide +kernel
theorem dX7_saw_57 : decode cX7_saw 57 = .ok (.iload 6, 2) := by decide +kernel
theorem dX7_saw_59 : decode cX7_saw 59 = .ok (.iconst 1, 1) := by decide +kernel
theorem dX7_saw_60 : decode cX7_saw 60 = .ok (.if_icmp .ne 11, 3) := by decide +kernel
theorem dX7_saw_63 : decode cX7_saw 63 = .ok (.aload_n 0, 1) := by decide +kernel
theorem dX7_saw_64 : decode cX7_saw 64 = .ok (.iload_n 2, 1) := by decide +kernel
theorem dX7_saw_65 : decode cX7_saw 65 = .ok (.invokevirtual 182, 3) := by decide +kernel
theorem dX7_saw_68 : decode cX7_saw 68 = .ok (.goto 4, 3) := by decide +kernel
theorem dX7_saw_71 : decode cX7_saw 71 = .ok (.iconst 0, 1) := by decide +kernel
theorem dX7_saw_72 : decode cX7_saw 72 = .ok (.aload_n 0, 1) := by decide +kernel
theorem dX7_saw_73 : decode cX7_saw 73 = .ok (.iload 7, 2) := by decide +kernel
theorem dX7_saw_75 : decode cX7_saw 75 = .ok (.invokevirtual 234, 3) := by decide +kernel
theorem dX7_saw_78 : decode cX7_saw 78 = .ok (.iadd, 1) := by decide +kernel
theorem dX7_saw_79 : decode cX7_saw 79 = .ok (.istore 8, 2) := by decide +kernel
theorem dX7_saw_81 : decode cX7_saw 81 = .ok (.iload 8, 2) := by decide +kernel
theorem dX7_saw_83 : decode cX7_saw 83 = .ok (.bipush 99, 2) := by decide +kernel
theorem dX7_saw_85 : decode cX7_saw 85 = .ok (.if_icmp .le 8, 3) := by decide +kernel
theorem dX7_saw_88 : decode cX7_saw 88 = .ok (.bipush 99, 2) := by decide +kernel
theorem dX7_saw_90 : decode cX7_saw 90 = .ok (.goto 5, 3) := by decide +kernel
theorem dX7_saw_93 : decode cX7_saw 93 = .ok (.iload 8, 2) := by decide +kernel
theorem dX7_saw_95 : decode cX7_saw 95 = .ok (.istore 8, 2) := by decide +kernel
theorem dX7_saw_97 : decode cX7_saw 97 = .ok (.iload 7, 2) := by decide +kernel
theorem dX7_saw_99 : decode cX7_saw 99 = .ok (.aload_n 0, 1) := by decide +kernel
theorem dX7_saw_100 : decode cX7_saw 100 = .ok (.getfield 7, 3) := by decide +kernel
theorem dX7_saw_103 : decode cX7_saw 103 = .ok (.bipush 35, 2) := by decide +kernel
theorem dX7_saw_105 : decode cX7_saw 105 = .ok (.iload_n 2, 1) := by decide +kernel
theorem dX7_saw_106 : decode cX7_saw 106 = .ok (.iadd, 1) := by decide +kernel
theorem dX7_saw_107 : decode cX7_saw 107 = .ok (.iaload, 1) := by decide +kernel
theorem dX7_saw_108 : decode cX7_saw 108 = .ok (.iconst (-1), 1) := by decide +kernel
theorem dX7_saw_109 : decode cX7_saw 109 = .ok (.ixor, 1) := by decide +kernel
theorem dX7_saw_110 : decode cX7_saw 110 = .ok (.iand, 1) := by decide +kernel
theorem dX7_saw_111 : decode cX7_saw 111 = .ok (.ifCond .ne 34, 3) := by decide +kernel
theorem dX7_saw_114 : decode cX7_saw 114 = .ok (.iload 8, 2) := by decide +kernel
theorem dX7_saw_116 : decode cX7_saw 116 = .ok (.aload_n 0, 1) := by decide +kernel
theorem dX7_saw_117 : decode cX7_saw 117 = .ok (.iload_n 1, 1) := by decide +kernel
theorem dX7_saw_118 : decode cX7_saw 118 = .ok (.iload_n 2, 1) := by decide +kernel
theorem dX7_saw_119 : decode cX7_saw 119 = .ok (.invokevirtual 168, 3) := by decide +kernel
theorem dX7_saw_122 : decode cX7_saw 122 = .ok (.if_icmp .ne 23, 3) := by decide +kernel
theorem dX7_saw_125 : decode cX7_saw 125 = .ok (.iload 4, 2) := by decide +kernel
theorem dX7_saw_127 : decode cX7_saw 127 = .ok (.ifCond .ne 8, 3) := by decide +kernel
theorem dX7_saw_130 : decode cX7_saw 130 = .ok (.iload 7, 2) := by decide +kernel
theorem dX7_saw_132 : decode cX7_saw 132 = .ok (.goto 8, 3) := by decide +kernel
theorem dX7_saw_135 : decode cX7_saw 135 = .ok (.iload 5, 2) := by decide +kernel
theorem dX7_saw_137 : decode cX7_saw 137 = .ok (.iload 7, 2) := by decide +kernel
theorem dX7_saw_139 : decode cX7_saw 139 = .ok (.iand, 1) := by decide +kernel
theorem dX7_saw_140 : decode cX7_saw 140 = .ok (.istore 5, 2) := by decide +kernel
theorem dX7_saw_142 : decode cX7_saw 142 = .ok (.iinc 4 1, 3) := by decide +kernel
theorem dX7_saw_145 : decode cX7_saw 145 = .ok (.iinc 7 1, 3) := by decide +kernel
theorem dX7_saw_148 : decode cX7_saw 148 = .ok (.goto (-98), 3) := by decide +kernel
theorem dX7_saw_151 : decode cX7_saw 151 = .ok (.iinc 6 1, 3) := by decide +kernel
theorem dX7_saw_154 : decode cX7_saw 154 = .ok (.goto (-113), 3) := by decide +kernel
theorem dX7_saw_157 : decode cX7_saw 157 = .ok (.iload_n 3, 1) := by decide +kernel
theorem dX7_saw_158 : decode cX7_saw 158 = .ok (.ifCond .ne 8, 3) := by decide +kernel
theorem dX7_saw_161 : decode cX7_saw 161 = .ok (.iload 4, 2) := by decide +kernel
theorem dX7_saw_163 : decode cX7_saw 163 = .ok (.goto 5, 3) := by decide +kernel
theorem dX7_saw_166 : decode cX7_saw 166 = .ok (.iload 5, 2) := by decide +kernel
theorem dX7_saw_168 : decode cX7_saw 168 = .ok (.ireturn, 1) := by decide +kernel
theorem dX7_hides_0 : decode cX7_hides 0 = .ok (.iload_n 1, 1) := by decide +kernel
theorem dX7_hides_1 : decode cX7_hides 1 = .ok (.i2l, 1) := by decide +kernel
theorem dX7_hides_2 : decode cX7_hides 2 = .ok (.lconst 1, 1) := by decide +kernel
theorem dX7_hides_3 : decode cX7_hides 3 = .ok (.ldc2_w 262, 3) := by decide +kernel
theorem dX7_hides_6 : decode cX7_hides 6 = .ok (.invokestatic 68, 3) := by decide +kernel
theorem dX7_hides_9 : decode cX7_hides 9 = .ok (.ifCond .eq 15, 3) := by decide +kernel
theorem dX7_hides_12 : decode cX7_hides 12 = .ok (.iload_n 2, 1) := by decide +kernel
theorem dX7_hides_13 : decode cX7_hides 13 = .ok (.i2l, 1) := by decide +kernel
theorem dX7_hides_14 : decode cX7_hides 14 = .ok (.lconst 0, 1) := by decide +kernel
theorem dX7_hides_15 : decode cX7_hides 15 = .ok (.ldc2_w 264, 3) := by decide +kernel
theorem dX7_hides_18 : decode cX7_hides 18 = .ok (.invokestatic 68, 3) := by decide +kernel
theorem dX7_hides_21 : decode cX7_hides 21 = .ok (.ifCond .ne 6, 3) := by decide +kernel
theorem dX7_hides_24 : decode cX7_hides 24 = .ok (.ldc 72, 2) := by decide +kernel
theorem dX7_hides_26 : decode cX7_hides 26 = .ok (.ireturn, 1) := by decide +kernel
theorem dX7_hides_27 : decode cX7_hides 27 = .ok (.ldc2_w 266, 3) := by decide +kernel
theorem dX7_hides_30 : decode cX7_hides 30 = .ok (.lstore_n 3, 1) := by decide +kernel
theorem dX7_hides_31 : decode cX7_hides 31 = .ok (.iconst 0, 1) := by decide +kernel
theorem dX7_hides_32 : decode cX7_hides 32 = .ok (.istore 5, 2) := by decide +kernel
theorem dX7_hides_34 : decode cX7_hides 34 = .ok (.iload 5, 2) := by decide +kernel
theorem dX7_hides_36 : decode cX7_hides 36 = .ok (.iload_n 1, 1) := by decide +kernel
theorem dX7_hides_37 : decode cX7_hides 37 = .ok (.if_icmp .ge 21, 3) := by decide +kernel
theorem dX7_hides_40 : decode cX7_hides 40 = .ok (.lload_n 3, 1) := by decide +kernel
theorem dX7_hides_41 : decode cX7_hides 41 = .ok (.bipush 100, 2) := by decide +kernel
theorem dX7_hides_43 : decode cX7_hides 43 = .ok (.iload_n 2, 1) := by decide +kernel
theorem dX7_hides_44 : decode cX7_hides 44 = .ok (.isub, 1) := by decide +kernel
theorem dX7_hides_45 : decode cX7_hides 45 = .ok (.i2l, 1) := by decide +kernel
theorem dX7_hides_46 : decode cX7_hides 46 = .ok (.lmul, 1) := by decide +kernel
theorem dX7_hides_47 : decode cX7_hides 47 = .ok (.ldc2_w 264, 3) := by decide +kernel
theorem dX7_hides_50 : decode cX7_hides 50 = .ok (.ldiv, 1) := by decide +kernel
theorem dX7_hides_51 : decode cX7_hides 51 = .ok (.lstore_n 3, 1) := by decide +kernel
theorem dX7_hides_52 : decode cX7_hides 52 = .ok (.iinc 5 1, 3) := by decide +kernel
theorem dX7_hides_55 : decode cX7_hides 55 = .ok (.goto (-21), 3) := by decide +kernel
theorem dX7_hides_58 : decode cX7_hides 58 = .ok (.lload_n 3, 1) := by decide +kernel
theorem dX7_hides_59 : decode cX7_hides 59 = .ok (.l2i, 1) := by decide +kernel
theorem dX7_hides_60 : decode cX7_hides 60 = .ok (.ireturn, 1) := by decide +kernel
theorem dX7_note_0 : decode cX7_note 0 = .ok (.aload_n 0, 1) := by decide +kernel
theorem dX7_note_1 : decode cX7_note 1 = .ok (.iload_n 1, 1) := by decide +kernel
theorem dX7_note_2 : decode cX7_note 2 = .ok (.invokevirtual 188, 3) := by decide +kernel
theorem dX7_note_5 : decode cX7_note 5 = .ok (.ifCond .eq 11, 3) := by decide +kernel
theorem dX7_note_8 : decode cX7_note 8 = .ok (.aload_n 0, 1) := by decide +kernel
theorem dX7_note_9 : decode cX7_note 9 = .ok (.iload_n 2, 1) := by decide +kernel
theorem dX7_note_10 : decode cX7_note 10 = .ok (.invokevirtual 178, 3) := by decide +kernel
theorem dX7_note_13 : decode cX7_note 13 = .ok (.ifCond .ne 6, 3) := by decide +kernel
theorem dX7_note_16 : decode cX7_note 16 = .ok (.ldc 181, 2) := by decide +kernel
theorem dX7_note_18 : decode cX7_note 18 = .ok (.ireturn, 1) := by decide +kernel
theorem dX7_note_19 : decode cX7_note 19 = .ok (.iload_n 3, 1) := by decide +kernel
theorem dX7_note_20 : decode cX7_note 20 = .ok (.i2l, 1) := by decide +kernel
theorem dX7_note_21 : decode cX7_note 21 = .ok (.lconst 0, 1) := by decide +kernel
theorem dX7_note_22 : decode cX7_note 22 = .ok (.ldc2_w 215, 3) := by decide +kernel
theorem dX7_note_25 : decode cX7_note 25 = .ok (.invokestatic 68, 3) := by decide +kernel
theorem dX7_note_28 : decode cX7_note 28 = .ok (.ifCond .ne 6, 3) := by decide +kernel
theorem dX7_note_31 : decode cX7_note 31 = .ok (.ldc 72, 2) := by decide +kernel
theorem dX7_note_33 : decode cX7_note 33 = .ok (.ireturn, 1) := by decide +kernel
theorem dX7_note_34 : decode cX7_note 34 = .ok (.aload_n 0, 1) := by decide +kernel
theorem dX7_note_35 : decode cX7_note 35 = .ok (.getfield 165, 3) := by decide +kernel
theorem dX7_note_38 : decode cX7_note 38 = .ok (.bipush 15, 2) := by decide +kernel
theorem dX7_note_40 : decode cX7_note 40 = .ok (.if_icmp .ne 6, 3) := by decide +kernel
theorem dX7_note_43 : decode cX7_note 43 = .ok (.ldc 76, 2) := by decide +kernel
theorem dX7_note_45 : decode cX7_note 45 = .ok (.ireturn, 1) := by decide +kernel
theorem dX7_note_46 : decode cX7_note 46 = .ok (.aload_n 0, 1) := by decide +kernel
theorem dX7_note_47 : decode cX7_note 47 = .ok (.getfield 39, 3) := by decide +kernel
theorem dX7_note_50 : decode cX7_note 50 = .ok (.iconst 3, 1) := by decide +kernel
theorem dX7_note_51 : decode cX7_note 51 = .ok (.aload_n 0, 1) := by decide +kernel
theorem dX7_note_52 : decode cX7_note 52 = .ok (.getfield 165, 3) := by decide +kernel
theorem dX7_note_55 : decode cX7_note 55 = .ok (.imul, 1) := by decide +kernel
theorem dX7_note_56 : decode cX7_note 56 = .ok (.iload_n 1, 1) := by decide +kernel
theorem dX7_note_57 : decode cX7_note 57 = .ok (.iastore, 1) := by decide +kernel
theorem dX7_note_58 : decode cX7_note 58 = .ok (.aload_n 0, 1) := by decide +kernel
theorem dX7_note_59 : decode cX7_note 59 = .ok (.getfield 39, 3) := by decide +kernel
theorem dX7_note_62 : decode cX7_note 62 = .ok (.iconst 3, 1) := by decide +kernel
theorem dX7_note_63 : decode cX7_note 63 = .ok (.aload_n 0, 1) := by decide +kernel
theorem dX7_note_64 : decode cX7_note 64 = .ok (.getfield 165, 3) := by decide +kernel
theorem dX7_note_67 : decode cX7_note 67 = .ok (.imul, 1) := by decide +kernel
theorem dX7_note_68 : decode cX7_note 68 = .ok (.iconst 1, 1) := by decide +kernel
theorem dX7_note_69 : decode cX7_note 69 = .ok (.iadd, 1) := by decide +kernel
theorem dX7_note_70 : decode cX7_note 70 = .ok (.iload_n 2, 1) := by decide +kernel
theorem dX7_note_71 : decode cX7_note 71 = .ok (.iastore, 1) := by decide +kernel
theorem dX7_note_72 : decode cX7_note 72 = .ok (.aload_n 0, 1) := by decide +kernel
theorem dX7_note_73 : decode cX7_note 73 = .ok (.getfield 39, 3) := by decide +kernel
theorem dX7_note_76 : decode cX7_note 76 = .ok (.iconst 3, 1) := by decide +kernel
theorem dX7_note_77 : decode cX7_note 77 = .ok (.aload_n 0, 1) := by decide +kernel
theorem dX7_note_78 : decode cX7_note 78 = .ok (.getfield 165, 3) := by decide +kernel
theorem dX7_note_81 : decode cX7_note 81 = .ok (.imul, 1) := by decide +kernel
theorem dX7_note_82 : decode cX7_note 82 = .ok (.iconst 2, 1) := by decide +kernel
theorem dX7_note_83 : decode cX7_note 83 = .ok (.iadd, 1) := by decide +kernel
theorem dX7_note_84 : decode cX7_note 84 = .ok (.iload_n 3, 1) := by decide +kernel
theorem dX7_note_85 : decode cX7_note 85 = .ok (.iastore, 1) := by decide +kernel
theorem dX7_note_86 : decode cX7_note 86 = .ok (.aload_n 0, 1) := by decide +kernel
theorem dX7_note_87 : decode cX7_note 87 = .ok (.dup, 1) := by decide +kernel
theorem dX7_note_88 : decode cX7_note 88 = .ok (.getfield 165, 3) := by decide +kernel
theorem dX7_note_91 : decode cX7_note 91 = .ok (.iconst 1, 1) := by decide +kernel
theorem dX7_note_92 : decode cX7_note 92 = .ok (.iadd, 1) := by decide +kernel
theorem dX7_note_93 : decode cX7_note 93 = .ok (.putfield 165, 3) := by decide +kernel
theorem dX7_note_96 : decode cX7_note 96 = .ok (.aload_n 0, 1) := by decide +kernel
theorem dX7_note_97 : decode cX7_note 97 = .ok (.getfield 165, 3) := by decide +kernel
theorem dX7_note_100 : decode cX7_note 100 = .ok (.ireturn, 1) := by decide +kernel
theorem dX7_tear_0 : decode cX7_tear 0 = .ok (.aload_n 0, 1) := by decide +kernel
theorem dX7_tear_1 : decode cX7_tear 1 = .ok (.getfield 165, 3) := by decide +kernel
theorem dX7_tear_4 : decode cX7_tear 4 = .ok (.istore_n 1, 1) := by decide +kernel
theorem dX7_tear_5 : decode cX7_tear 5 = .ok (.aload_n 0, 1) := by decide +kernel
theorem dX7_tear_6 : decode cX7_tear 6 = .ok (.iconst 0, 1) := by decide +kernel
theorem dX7_tear_7 : decode cX7_tear 7 = .ok (.putfield 165, 3) := by decide +kernel
theorem dX7_tear_10 : decode cX7_tear 10 = .ok (.iload_n 1, 1) := by decide +kernel
theorem dX7_tear_11 : decode cX7_tear 11 = .ok (.ireturn, 1) := by decide +kernel
theorem dX7_judge_0 : decode cX7_judge 0 = .ok (.iconst 0, 1) := by decide +kernel
theorem dX7_judge_1 : decode cX7_judge 1 = .ok (.istore_n 1, 1) := by decide +kernel
theorem dX7_judge_2 : decode cX7_judge 2 = .ok (.iload_n 1, 1) := by decide +kernel
theorem dX7_judge_3 : decode cX7_judge 3 = .ok (.aload_n 0, 1) := by decide +kernel
theorem dX7_judge_4 : decode cX7_judge 4 = .ok (.getfield 165, 3) := by decide +kernel
theorem dX7_judge_7 : decode cX7_judge 7 = .ok (.if_icmp .ge 46, 3) := by decide +kernel
theorem dX7_judge_10 : decode cX7_judge 10 = .ok (.aload_n 0, 1) := by decide +kernel
theorem dX7_judge_11 : decode cX7_judge 11 = .ok (.aload_n 0, 1) := by decide +kernel
theorem dX7_judge_12 : decode cX7_judge 12 = .ok (.getfield 39, 3) := by decide +kernel
theorem dX7_judge_15 : decode cX7_judge 15 = .ok (.iconst 3, 1) := by decide +kernel
theorem dX7_judge_16 : decode cX7_judge 16 = .ok (.iload_n 1, 1) := by decide +kernel
theorem dX7_judge_17 : decode cX7_judge 17 = .ok (.imul, 1) := by decide +kernel
theorem dX7_judge_18 : decode cX7_judge 18 = .ok (.iaload, 1) := by decide +kernel
theorem dX7_judge_19 : decode cX7_judge 19 = .ok (.aload_n 0, 1) := by decide +kernel
theorem dX7_judge_20 : decode cX7_judge 20 = .ok (.getfield 39, 3) := by decide +kernel
theorem dX7_judge_23 : decode cX7_judge 23 = .ok (.iconst 3, 1) := by decide +kernel
theorem dX7_judge_24 : decode cX7_judge 24 = .ok (.iload_n 1, 1) := by decide +kernel
theorem dX7_judge_25 : decode cX7_judge 25 = .ok (.imul, 1) := by decide +kernel
theorem dX7_judge_26 : decode cX7_judge 26 = .ok (.iconst 1, 1) := by decide +kernel
theorem dX7_judge_27 : decode cX7_judge 27 = .ok (.iadd, 1) := by decide +kernel
theorem dX7_judge_28 : decode cX7_judge 28 = .ok (.iaload, 1) := by decide +kernel
theorem dX7_judge_29 : decode cX7_judge 29 = .ok (.invokevirtual 168, 3) := by decide +kernel
theorem dX7_judge_32 : decode cX7_judge 32 = .ok (.aload_n 0, 1) := by decide +kernel
theorem dX7_judge_33 : decode cX7_judge 33 = .ok (.getfield 39, 3) := by decide +kernel
theorem dX7_judge_36 : decode cX7_judge 36 = .ok (.iconst 3, 1) := by decide +kernel
theorem dX7_judge_37 : decode cX7_judge 37 = .ok (.iload_n 1, 1) := by decide +kernel
theorem dX7_judge_38 : decode cX7_judge 38 = .ok (.imul, 1) := by decide +kernel
theorem dX7_judge_39 : decode cX7_judge 39 = .ok (.iconst 2, 1) := by decide +kernel
theorem dX7_judge_40 : decode cX7_judge 40 = .ok (.iadd, 1) := by decide +kernel
theorem dX7_judge_41 : decode cX7_judge 41 = .ok (.iaload, 1) := by decide +kernel
theorem dX7_judge_42 : decode cX7_judge 42 = .ok (.if_icmp .eq 5, 3) := by decide +kernel
theorem dX7_judge_45 : decode cX7_judge 45 = .ok (.iload_n 1, 1) := by decide +kernel
theorem dX7_judge_46 : decode cX7_judge 46 = .ok (.ireturn, 1) := by decide +kernel
theorem dX7_judge_47 : decode cX7_judge 47 = .ok (.iinc 1 1, 3) := by decide +kernel
theorem dX7_judge_50 : decode cX7_judge 50 = .ok (.goto (-48), 3) := by decide +kernel
theorem dX7_judge_53 : decode cX7_judge 53 = .ok (.iconst (-1), 1) := by decide +kernel
theorem dX7_judge_54 : decode cX7_judge 54 = .ok (.ireturn, 1) := by decide +kernel
theorem dX7_seed_0 : decode cX7_seed 0 = .ok (.iload_n 1, 1) := by decide +kernel
theorem dX7_seed_1 : decode cX7_seed 1 = .ok (.ifCond .ge 6, 3) := by decide +kernel
theorem dX7_seed_4 : decode cX7_seed 4 = .ok (.ldc 72, 2) := by decide +kernel
theorem dX7_seed_6 : decode cX7_seed 6 = .ok (.ireturn, 1) := by decide +kernel
theorem dX7_seed_7 : decode cX7_seed 7 = .ok (.aload_n 0, 1) := by decide +kernel
theorem dX7_seed_8 : decode cX7_seed 8 = .ok (.getfield 7, 3) := by decide +kernel
theorem dX7_seed_11 : decode cX7_seed 11 = .ok (.bipush 46, 2) := by decide +kernel
theorem dX7_seed_13 : decode cX7_seed 13 = .ok (.iaload, 1) := by decide +kernel
theorem dX7_seed_14 : decode cX7_seed 14 = .ok (.istore_n 2, 1) := by decide +kernel
theorem dX7_seed_15 : decode cX7_seed 15 = .ok (.aload_n 0, 1) := by decide +kernel
theorem dX7_seed_16 : decode cX7_seed 16 = .ok (.getfield 7, 3) := by decide +kernel
theorem dX7_seed_19 : decode cX7_seed 19 = .ok (.bipush 46, 2) := by decide +kernel
theorem dX7_seed_21 : decode cX7_seed 21 = .ok (.iload_n 1, 1) := by decide +kernel
theorem dX7_seed_22 : decode cX7_seed 22 = .ok (.iastore, 1) := by decide +kernel
theorem dX7_seed_23 : decode cX7_seed 23 = .ok (.iload_n 2, 1) := by decide +kernel
theorem dX7_seed_24 : decode cX7_seed 24 = .ok (.ireturn, 1) := by decide +kernel
theorem dX7_copyRow_0 : decode cX7_copyRow 0 = .ok (.iconst 0, 1) := by decide +kernel
theorem dX7_copyRow_1 : decode cX7_copyRow 1 = .ok (.istore_n 3, 1) := by decide +kernel
theorem dX7_copyRow_2 : decode cX7_copyRow 2 = .ok (.iload_n 3, 1) := by decide +kernel
theorem dX7_copyRow_3 : decode cX7_copyRow 3 = .ok (.bipush 47, 2) := by decide +kernel
theorem dX7_copyRow_5 : decode cX7_copyRow 5 = .ok (.if_icmp .ge 25, 3) := by decide +kernel
theorem dX7_copyRow_8 : decode cX7_copyRow 8 = .ok (.aload_n 0, 1) := by decide +kernel
theorem dX7_copyRow_9 : decode cX7_copyRow 9 = .ok (.getfield 7, 3) := by decide +kernel
theorem dX7_copyRow_12 : decode cX7_copyRow 12 = .ok (.iload_n 2, 1) := by decide +kernel
theorem dX7_copyRow_13 : decode cX7_copyRow 13 = .ok (.iload_n 3, 1) := by decide +kernel
theorem dX7_copyRow_14 : decode cX7_copyRow 14 = .ok (.iadd, 1) := by decide +kernel
theorem dX7_copyRow_15 : decode cX7_copyRow 15 = .ok (.aload_n 0, 1) := by decide +kernel
theorem dX7_copyRow_16 : decode cX7_copyRow 16 = .ok (.getfield 7, 3) := by decide +kernel
theorem dX7_copyRow_19 : decode cX7_copyRow 19 = .ok (.iload_n 1, 1) := by decide +kernel
theorem dX7_copyRow_20 : decode cX7_copyRow 20 = .ok (.iload_n 3, 1) := by decide +kernel
theorem dX7_copyRow_21 : decode cX7_copyRow 21 = .ok (.iadd, 1) := by decide +kernel
theorem dX7_copyRow_22 : decode cX7_copyRow 22 = .ok (.iaload, 1) := by decide +kernel
theorem dX7_copyRow_23 : decode cX7_copyRow 23 = .ok (.iastore, 1) := by decide +kernel
theorem dX7_copyRow_24 : decode cX7_copyRow 24 = .ok (.iinc 3 1, 3) := by decide +kernel
theorem dX7_copyRow_27 : decode cX7_copyRow 27 = .ok (.goto (-25), 3) := by decide +kernel
theorem dX7_copyRow_30 : decode cX7_copyRow 30 = .ok (.return_, 1) := by decide +kernel
theorem dX7_keep_0 : decode cX7_keep 0 = .ok (.iload_n 1, 1) := by decide +kernel
theorem dX7_keep_1 : decode cX7_keep 1 = .ok (.i2l, 1) := by decide +kernel
theorem dX7_keep_2 : decode cX7_keep 2 = .ok (.lconst 0, 1) := by decide +kernel
theorem dX7_keep_3 : decode cX7_keep 3 = .ok (.lconst 1, 1) := by decide +kernel
theorem dX7_keep_4 : decode cX7_keep 4 = .ok (.invokestatic 68, 3) := by decide +kernel
theorem dX7_keep_7 : decode cX7_keep 7 = .ok (.ifCond .ne 6, 3) := by decide +kernel
theorem dX7_keep_10 : decode cX7_keep 10 = .ok (.ldc 181, 2) := by decide +kernel
theorem dX7_keep_12 : decode cX7_keep 12 = .ok (.ireturn, 1) := by decide +kernel
theorem dX7_keep_13 : decode cX7_keep 13 = .ok (.aload_n 0, 1) := by decide +kernel
theorem dX7_keep_14 : decode cX7_keep 14 = .ok (.iconst 0, 1) := by decide +kernel
theorem dX7_keep_15 : decode cX7_keep 15 = .ok (.bipush 47, 2) := by decide +kernel
theorem dX7_keep_17 : decode cX7_keep 17 = .ok (.iconst 1, 1) := by decide +kernel
theorem dX7_keep_18 : decode cX7_keep 18 = .ok (.iload_n 1, 1) := by decide +kernel
theorem dX7_keep_19 : decode cX7_keep 19 = .ok (.iadd, 1) := by decide +kernel
theorem dX7_keep_20 : decode cX7_keep 20 = .ok (.imul, 1) := by decide +kernel
theorem dX7_keep_21 : decode cX7_keep 21 = .ok (.invokevirtual 268, 3) := by decide +kernel
theorem dX7_keep_24 : decode cX7_keep 24 = .ok (.aload_n 0, 1) := by decide +kernel
theorem dX7_keep_25 : decode cX7_keep 25 = .ok (.getfield 13, 3) := by decide +kernel
theorem dX7_keep_28 : decode cX7_keep 28 = .ok (.iload_n 1, 1) := by decide +kernel
theorem dX7_keep_29 : decode cX7_keep 29 = .ok (.iconst 1, 1) := by decide +kernel
theorem dX7_keep_30 : decode cX7_keep 30 = .ok (.bastore, 1) := by decide +kernel
theorem dX7_keep_31 : decode cX7_keep 31 = .ok (.iconst 1, 1) := by decide +kernel
theorem dX7_keep_32 : decode cX7_keep 32 = .ok (.ireturn, 1) := by decide +kernel
theorem dX7_goBack_0 : decode cX7_goBack 0 = .ok (.iload_n 1, 1) := by decide +kernel
theorem dX7_goBack_1 : decode cX7_goBack 1 = .ok (.i2l, 1) := by decide +kernel
theorem dX7_goBack_2 : decode cX7_goBack 2 = .ok (.lconst 0, 1) := by decide +kernel
theorem dX7_goBack_3 : decode cX7_goBack 3 = .ok (.lconst 1, 1) := by decide +kernel
theorem dX7_goBack_4 : decode cX7_goBack 4 = .ok (.invokestatic 68, 3) := by decide +kernel
theorem dX7_goBack_7 : decode cX7_goBack 7 = .ok (.ifCond .ne 6, 3) := by decide +kernel
theorem dX7_goBack_10 : decode cX7_goBack 10 = .ok (.ldc 181, 2) := by decide +kernel
theorem dX7_goBack_12 : decode cX7_goBack 12 = .ok (.ireturn, 1) := by decide +kernel
theorem dX7_goBack_13 : decode cX7_goBack 13 = .ok (.aload_n 0, 1) := by decide +kernel
theorem dX7_goBack_14 : decode cX7_goBack 14 = .ok (.getfield 13, 3) := by decide +kernel
theorem dX7_goBack_17 : decode cX7_goBack 17 = .ok (.iload_n 1, 1) := by decide +kernel
theorem dX7_goBack_18 : decode cX7_goBack 18 = .ok (.baload, 1) := by decide +kernel
theorem dX7_goBack_19 : decode cX7_goBack 19 = .ok (.ifCond .ne 6, 3) := by decide +kernel
theorem dX7_goBack_22 : decode cX7_goBack 22 = .ok (.ldc 217, 2) := by decide +kernel
theorem dX7_goBack_24 : decode cX7_goBack 24 = .ok (.ireturn, 1) := by decide +kernel
theorem dX7_goBack_25 : decode cX7_goBack 25 = .ok (.aload_n 0, 1) := by decide +kernel
theorem dX7_goBack_26 : decode cX7_goBack 26 = .ok (.bipush 47, 2) := by decide +kernel
theorem dX7_goBack_28 : decode cX7_goBack 28 = .ok (.iconst 1, 1) := by decide +kernel
theorem dX7_goBack_29 : decode cX7_goBack 29 = .ok (.iload_n 1, 1) := by decide +kernel
theorem dX7_goBack_30 : decode cX7_goBack 30 = .ok (.iadd, 1) := by decide +kernel
theorem dX7_goBack_31 : decode cX7_goBack 31 = .ok (.imul, 1) := by decide +kernel
theorem dX7_goBack_32 : decode cX7_goBack 32 = .ok (.iconst 0, 1) := by decide +kernel
theorem dX7_goBack_33 : decode cX7_goBack 33 = .ok (.invokevirtual 268, 3) := by decide +kernel
theorem dX7_goBack_36 : decode cX7_goBack 36 = .ok (.iconst 1, 1) := by decide +kernel
theorem dX7_goBack_37 : decode cX7_goBack 37 = .ok (.ireturn, 1) := by decide +kernel
theorem dL_law_0 : decode cL_law 0 = .ok (.new 7, 3) := by decide +kernel
theorem dL_law_3 : decode cL_law 3 = .ok (.dup, 1) := by decide +kernel
theorem dL_law_4 : decode cL_law 4 = .ok (.invokespecial 9, 3) := by decide +kernel
theorem dL_law_7 : decode cL_law 7 = .ok (.astore_n 1, 1) := by decide +kernel
theorem dL_law_8 : decode cL_law 8 = .ok (.new 10, 3) := by decide +kernel
theorem dL_law_11 : decode cL_law 11 = .ok (.dup, 1) := by decide +kernel
theorem dL_law_12 : decode cL_law 12 = .ok (.invokespecial 12, 3) := by decide +kernel
theorem dL_law_15 : decode cL_law 15 = .ok (.astore_n 2, 1) := by decide +kernel
theorem dL_law_16 : decode cL_law 16 = .ok (.iconst 0, 1) := by decide +kernel
theorem dL_law_17 : decode cL_law 17 = .ok (.istore_n 3, 1) := by decide +kernel
theorem dL_law_18 : decode cL_law 18 = .ok (.iload_n 3, 1) := by decide +kernel
theorem dL_law_19 : decode cL_law 19 = .ok (.aload_n 0, 1) := by decide +kernel
theorem dL_law_20 : decode cL_law 20 = .ok (.arraylength, 1) := by decide +kernel
theorem dL_law_21 : decode cL_law 21 = .ok (.iconst 4, 1) := by decide +kernel
theorem dL_law_22 : decode cL_law 22 = .ok (.isub, 1) := by decide +kernel
theorem dL_law_23 : decode cL_law 23 = .ok (.if_icmp .gt 974, 3) := by decide +kernel
theorem dL_law_26 : decode cL_law 26 = .ok (.aload_n 0, 1) := by decide +kernel
theorem dL_law_27 : decode cL_law 27 = .ok (.iload_n 3, 1) := by decide +kernel
theorem dL_law_28 : decode cL_law 28 = .ok (.iaload, 1) := by decide +kernel
theorem dL_law_29 : decode cL_law 29 = .ok (.bipush 31, 2) := by decide +kernel
theorem dL_law_31 : decode cL_law 31 = .ok (.iand, 1) := by decide +kernel
theorem dL_law_32 : decode cL_law 32 = .ok (.tableswitch 959 0 28 #[132, 155, 168, 181, 204, 237, 270, 293, 326, 359, 392, 415, 448, 481, 524, 547, 590, 613, 636, 679, 712, 745, 788, 821, 864, 877, 890, 913, 936], 132) := by decide +kernel
theorem dL_law_164 : decode cL_law 164 = .ok (.aload_n 1, 1) := by decide +kernel
theorem dL_law_165 : decode cL_law 165 = .ok (.aload_n 0, 1) := by decide +kernel
theorem dL_law_166 : decode cL_law 166 = .ok (.iload_n 3, 1) := by decide +kernel
theorem dL_law_167 : decode cL_law 167 = .ok (.iconst 1, 1) := by decide +kernel
theorem dL_law_168 : decode cL_law 168 = .ok (.iadd, 1) := by decide +kernel
theorem dL_law_169 : decode cL_law 169 = .ok (.iaload, 1) := by decide +kernel
theorem dL_law_170 : decode cL_law 170 = .ok (.invokevirtual 13, 3) := by decide +kernel
theorem dL_law_173 : decode cL_law 173 = .ok (.aload_n 2, 1) := by decide +kernel
theorem dL_law_174 : decode cL_law 174 = .ok (.aload_n 0, 1) := by decide +kernel
theorem dL_law_175 : decode cL_law 175 = .ok (.iload_n 3, 1) := by decide +kernel
theorem dL_law_176 : decode cL_law 176 = .ok (.iconst 1, 1) := by decide +kernel
theorem dL_law_177 : decode cL_law 177 = .ok (.iadd, 1) := by decide +kernel
theorem dL_law_178 : decode cL_law 178 = .ok (.iaload, 1) := by decide +kernel
theorem dL_law_179 : decode cL_law 179 = .ok (.invokevirtual 17, 3) := by decide +kernel
theorem dL_law_182 : decode cL_law 182 = .ok (.if_icmp .eq 809, 3) := by decide +kernel
theorem dL_law_185 : decode cL_law 185 = .ok (.iconst 0, 1) := by decide +kernel
theorem dL_law_186 : decode cL_law 186 = .ok (.ireturn, 1) := by decide +kernel
theorem dL_law_187 : decode cL_law 187 = .ok (.aload_n 1, 1) := by decide +kernel
theorem dL_law_188 : decode cL_law 188 = .ok (.invokevirtual 18, 3) := by decide +kernel
theorem dL_law_191 : decode cL_law 191 = .ok (.aload_n 2, 1) := by decide +kernel
theorem dL_law_192 : decode cL_law 192 = .ok (.invokevirtual 22, 3) := by decide +kernel
theorem dL_law_195 : decode cL_law 195 = .ok (.if_icmp .eq 796, 3) := by decide +kernel
theorem dL_law_198 : decode cL_law 198 = .ok (.iconst 0, 1) := by decide +kernel
theorem dL_law_199 : decode cL_law 199 = .ok (.ireturn, 1) := by decide +kernel
theorem dL_law_200 : decode cL_law 200 = .ok (.aload_n 1, 1) := by decide +kernel
theorem dL_law_201 : decode cL_law 201 = .ok (.invokevirtual 23, 3) := by decide +kernel
theorem dL_law_204 : decode cL_law 204 = .ok (.aload_n 2, 1) := by decide +kernel
theorem dL_law_205 : decode cL_law 205 = .ok (.invokevirtual 26, 3) := by decide +kernel
theorem dL_law_208 : decode cL_law 208 = .ok (.if_icmp .eq 783, 3) := by decide +kernel
theorem dL_law_211 : decode cL_law 211 = .ok (.iconst 0, 1) := by decide +kernel
theorem dL_law_212 : decode cL_law 212 = .ok (.ireturn, 1) := by decide +kernel
theorem dL_law_213 : decode cL_law 213 = .ok (.aload_n 1, 1) := by decide +kernel
theorem dL_law_214 : decode cL_law 214 = .ok (.aload_n 0, 1) := by decide +kernel
theorem dL_law_215 : decode cL_law 215 = .ok (.iload_n 3, 1) := by decide +kernel
theorem dL_law_216 : decode cL_law 216 = .ok (.iconst 1, 1) := by decide +kernel
theorem dL_law_217 : decode cL_law 217 = .ok (.iadd, 1) := by decide +kernel
theorem dL_law_218 : decode cL_law 218 = .ok (.iaload, 1) := by decide +kernel
theorem dL_law_219 : decode cL_law 219 = .ok (.invokevirtual 27, 3) := by decide +kernel
theorem dL_law_222 : decode cL_law 222 = .ok (.aload_n 2, 1) := by decide +kernel
theorem dL_law_223 : decode cL_law 223 = .ok (.aload_n 0, 1) := by decide +kernel
theorem dL_law_224 : decode cL_law 224 = .ok (.iload_n 3, 1) := by decide +kernel
theorem dL_law_225 : decode cL_law 225 = .ok (.iconst 1, 1) := by decide +kernel
theorem dL_law_226 : decode cL_law 226 = .ok (.iadd, 1) := by decide +kernel
theorem dL_law_227 : decode cL_law 227 = .ok (.iaload, 1) := by decide +kernel
theorem dL_law_228 : decode cL_law 228 = .ok (.invokevirtual 30, 3) := by decide +kernel
theorem dL_law_231 : decode cL_law 231 = .ok (.if_icmp .eq 760, 3) := by decide +kernel
theorem dL_law_234 : decode cL_law 234 = .ok (.iconst 0, 1) := by decide +kernel
theorem dL_law_235 : decode cL_law 235 = .ok (.ireturn, 1) := by decide +kernel
theorem dL_law_236 : decode cL_law 236 = .ok (.aload_n 1, 1) := by decide +kernel
theorem dL_law_237 : decode cL_law 237 = .ok (.aload_n 0, 1) := by decide +kernel
theorem dL_law_238 : decode cL_law 238 = .ok (.iload_n 3, 1) := by decide +kernel
theorem dL_law_239 : decode cL_law 239 = .ok (.iconst 1, 1) := by decide +kernel
theorem dL_law_240 : decode cL_law 240 = .ok (.iadd, 1) := by decide +kernel
theorem dL_law_241 : decode cL_law 241 = .ok (.iaload, 1) := by decide +kernel
theorem dL_law_242 : decode cL_law 242 = .ok (.aload_n 0, 1) := by decide +kernel
theorem dL_law_243 : decode cL_law 243 = .ok (.iload_n 3, 1) := by decide +kernel
theorem dL_law_244 : decode cL_law 244 = .ok (.iconst 2, 1) := by decide +kernel
theorem dL_law_245 : decode cL_law 245 = .ok (.iadd, 1) := by decide +kernel
theorem dL_law_246 : decode cL_law 246 = .ok (.iaload, 1) := by decide +kernel
theorem dL_law_247 : decode cL_law 247 = .ok (.invokevirtual 31, 3) := by decide +kernel
theorem dL_law_250 : decode cL_law 250 = .ok (.aload_n 2, 1) := by decide +kernel
theorem dL_law_251 : decode cL_law 251 = .ok (.aload_n 0, 1) := by decide +kernel
theorem dL_law_252 : decode cL_law 252 = .ok (.iload_n 3, 1) := by decide +kernel
theorem dL_law_253 : decode cL_law 253 = .ok (.iconst 1, 1) := by decide +kernel
theorem dL_law_254 : decode cL_law 254 = .ok (.iadd, 1) := by decide +kernel
theorem dL_law_255 : decode cL_law 255 = .ok (.iaload, 1) := by decide +kernel
theorem dL_law_256 : decode cL_law 256 = .ok (.aload_n 0, 1) := by decide +kernel
theorem dL_law_257 : decode cL_law 257 = .ok (.iload_n 3, 1) := by decide +kernel
theorem dL_law_258 : decode cL_law 258 = .ok (.iconst 2, 1) := by decide +kernel
theorem dL_law_259 : decode cL_law 259 = .ok (.iadd, 1) := by decide +kernel
theorem dL_law_260 : decode cL_law 260 = .ok (.iaload, 1) := by decide +kernel
theorem dL_law_261 : decode cL_law 261 = .ok (.invokevirtual 35, 3) := by decide +kernel
theorem dL_law_264 : decode cL_law 264 = .ok (.if_icmp .eq 727, 3) := by decide +kernel
theorem dL_law_267 : decode cL_law 267 = .ok (.iconst 0, 1) := by decide +kernel
theorem dL_law_268 : decode cL_law 268 = .ok (.ireturn, 1) := by decide +kernel
theorem dL_law_269 : decode cL_law 269 = .ok (.aload_n 1, 1) := by decide +kernel
theorem dL_law_270 : decode cL_law 270 = .ok (.aload_n 0, 1) := by decide +kernel
theorem dL_law_271 : decode cL_law 271 = .ok (.iload_n 3, 1) := by decide +kernel
theorem dL_law_272 : decode cL_law 272 = .ok (.iconst 1, 1) := by decide +kernel
theorem dL_law_273 : decode cL_law 273 = .ok (.iadd, 1) := by decide +kernel
theorem dL_law_274 : decode cL_law 274 = .ok (.iaload, 1) := by decide +kernel
theorem dL_law_275 : decode cL_law 275 = .ok (.aload_n 0, 1) := by decide +kernel
theorem dL_law_276 : decode cL_law 276 = .ok (.iload_n 3, 1) := by decide +kernel
theorem dL_law_277 : decode cL_law 277 = .ok (.iconst 2, 1) := by decide +kernel
theorem dL_law_278 : decode cL_law 278 = .ok (.iadd, 1) := by decide +kernel
theorem dL_law_279 : decode cL_law 279 = .ok (.iaload, 1) := by decide +kernel
theorem dL_law_280 : decode cL_law 280 = .ok (.invokevirtual 36, 3) := by decide +kernel
theorem dL_law_283 : decode cL_law 283 = .ok (.aload_n 2, 1) := by decide +kernel
theorem dL_law_284 : decode cL_law 284 = .ok (.aload_n 0, 1) := by decide +kernel
theorem dL_law_285 : decode cL_law 285 = .ok (.iload_n 3, 1) := by decide +kernel
theorem dL_law_286 : decode cL_law 286 = .ok (.iconst 1, 1) := by decide +kernel
theorem dL_law_287 : decode cL_law 287 = .ok (.iadd, 1) := by decide +kernel
theorem dL_law_288 : decode cL_law 288 = .ok (.iaload, 1) := by decide +kernel
theorem dL_law_289 : decode cL_law 289 = .ok (.aload_n 0, 1) := by decide +kernel
theorem dL_law_290 : decode cL_law 290 = .ok (.iload_n 3, 1) := by decide +kernel
theorem dL_law_291 : decode cL_law 291 = .ok (.iconst 2, 1) := by decide +kernel
theorem dL_law_292 : decode cL_law 292 = .ok (.iadd, 1) := by decide +kernel
theorem dL_law_293 : decode cL_law 293 = .ok (.iaload, 1) := by decide +kernel
theorem dL_law_294 : decode cL_law 294 = .ok (.invokevirtual 39, 3) := by decide +kernel
theorem dL_law_297 : decode cL_law 297 = .ok (.if_icmp .eq 694, 3) := by decide +kernel
theorem dL_law_300 : decode cL_law 300 = .ok (.iconst 0, 1) := by decide +kernel
theorem dL_law_301 : decode cL_law 301 = .ok (.ireturn, 1) := by decide +kernel
theorem dL_law_302 : decode cL_law 302 = .ok (.aload_n 1, 1) := by decide +kernel
theorem dL_law_303 : decode cL_law 303 = .ok (.aload_n 0, 1) := by decide +kernel
theorem dL_law_304 : decode cL_law 304 = .ok (.iload_n 3, 1) := by decide +kernel
theorem dL_law_305 : decode cL_law 305 = .ok (.iconst 1, 1) := by decide +kernel
theorem dL_law_306 : decode cL_law 306 = .ok (.iadd, 1) := by decide +kernel
theorem dL_law_307 : decode cL_law 307 = .ok (.iaload, 1) := by decide +kernel
theorem dL_law_308 : decode cL_law 308 = .ok (.invokevirtual 40, 3) := by decide +kernel
theorem dL_law_311 : decode cL_law 311 = .ok (.aload_n 2, 1) := by decide +kernel
theorem dL_law_312 : decode cL_law 312 = .ok (.aload_n 0, 1) := by decide +kernel
theorem dL_law_313 : decode cL_law 313 = .ok (.iload_n 3, 1) := by decide +kernel
theorem dL_law_314 : decode cL_law 314 = .ok (.iconst 1, 1) := by decide +kernel
theorem dL_law_315 : decode cL_law 315 = .ok (.iadd, 1) := by decide +kernel
theorem dL_law_316 : decode cL_law 316 = .ok (.iaload, 1) := by decide +kernel
theorem dL_law_317 : decode cL_law 317 = .ok (.invokevirtual 43, 3) := by decide +kernel
theorem dL_law_320 : decode cL_law 320 = .ok (.if_icmp .eq 671, 3) := by decide +kernel
theorem dL_law_323 : decode cL_law 323 = .ok (.iconst 0, 1) := by decide +kernel
theorem dL_law_324 : decode cL_law 324 = .ok (.ireturn, 1) := by decide +kernel
theorem dL_law_325 : decode cL_law 325 = .ok (.aload_n 1, 1) := by decide +kernel
theorem dL_law_326 : decode cL_law 326 = .ok (.aload_n 0, 1) := by decide +kernel
theorem dL_law_327 : decode cL_law 327 = .ok (.iload_n 3, 1) := by decide +kernel
theorem dL_law_328 : decode cL_law 328 = .ok (.iconst 1, 1) := by decide +kernel
theorem dL_law_329 : decode cL_law 329 = .ok (.iadd, 1) := by decide +kernel
theorem dL_law_330 : decode cL_law 330 = .ok (.iaload, 1) := by decide +kernel
theorem dL_law_331 : decode cL_law 331 = .ok (.aload_n 0, 1) := by decide +kernel
theorem dL_law_332 : decode cL_law 332 = .ok (.iload_n 3, 1) := by decide +kernel
theorem dL_law_333 : decode cL_law 333 = .ok (.iconst 2, 1) := by decide +kernel
theorem dL_law_334 : decode cL_law 334 = .ok (.iadd, 1) := by decide +kernel
theorem dL_law_335 : decode cL_law 335 = .ok (.iaload, 1) := by decide +kernel
theorem dL_law_336 : decode cL_law 336 = .ok (.invokevirtual 44, 3) := by decide +kernel
theorem dL_law_339 : decode cL_law 339 = .ok (.aload_n 2, 1) := by decide +kernel
theorem dL_law_340 : decode cL_law 340 = .ok (.aload_n 0, 1) := by decide +kernel
theorem dL_law_341 : decode cL_law 341 = .ok (.iload_n 3, 1) := by decide +kernel
theorem dL_law_342 : decode cL_law 342 = .ok (.iconst 1, 1) := by decide +kernel
theorem dL_law_343 : decode cL_law 343 = .ok (.iadd, 1) := by decide +kernel
theorem dL_law_344 : decode cL_law 344 = .ok (.iaload, 1) := by decide +kernel
theorem dL_law_345 : decode cL_law 345 = .ok (.aload_n 0, 1) := by decide +kernel
theorem dL_law_346 : decode cL_law 346 = .ok (.iload_n 3, 1) := by decide +kernel
theorem dL_law_347 : decode cL_law 347 = .ok (.iconst 2, 1) := by decide +kernel
theorem dL_law_348 : decode cL_law 348 = .ok (.iadd, 1) := by decide +kernel
theorem dL_law_349 : decode cL_law 349 = .ok (.iaload, 1) := by decide +kernel
theorem dL_law_350 : decode cL_law 350 = .ok (.invokevirtual 47, 3) := by decide +kernel
theorem dL_law_353 : decode cL_law 353 = .ok (.if_icmp .eq 638, 3) := by decide +kernel
theorem dL_law_356 : decode cL_law 356 = .ok (.iconst 0, 1) := by decide +kernel
theorem dL_law_357 : decode cL_law 357 = .ok (.ireturn, 1) := by decide +kernel
theorem dL_law_358 : decode cL_law 358 = .ok (.aload_n 1, 1) := by decide +kernel
theorem dL_law_359 : decode cL_law 359 = .ok (.aload_n 0, 1) := by decide +kernel
theorem dL_law_360 : decode cL_law 360 = .ok (.iload_n 3, 1) := by decide +kernel
theorem dL_law_361 : decode cL_law 361 = .ok (.iconst 1, 1) := by decide +kernel
theorem dL_law_362 : decode cL_law 362 = .ok (.iadd, 1) := by decide +kernel
theorem dL_law_363 : decode cL_law 363 = .ok (.iaload, 1) := by decide +kernel
theorem dL_law_364 : decode cL_law 364 = .ok (.aload_n 0, 1) := by decide +kernel
theorem dL_law_365 : decode cL_law 365 = .ok (.iload_n 3, 1) := by decide +kernel
theorem dL_law_366 : decode cL_law 366 = .ok (.iconst 2, 1) := by decide +kernel
theorem dL_law_367 : decode cL_law 367 = .ok (.iadd, 1) := by decide +kernel
theorem dL_law_368 : decode cL_law 368 = .ok (.iaload, 1) := by decide +kernel
theorem dL_law_369 : decode cL_law 369 = .ok (.invokevirtual 48, 3) := by decide +kernel
theorem dL_law_372 : decode cL_law 372 = .ok (.aload_n 2, 1) := by decide +kernel
theorem dL_law_373 : decode cL_law 373 = .ok (.aload_n 0, 1) := by decide +kernel
theorem dL_law_374 : decode cL_law 374 = .ok (.iload_n 3, 1) := by decide +kernel
theorem dL_law_375 : decode cL_law 375 = .ok (.iconst 1, 1) := by decide +kernel
theorem dL_law_376 : decode cL_law 376 = .ok (.iadd, 1) := by decide +kernel
theorem dL_law_377 : decode cL_law 377 = .ok (.iaload, 1) := by decide +kernel
theorem dL_law_378 : decode cL_law 378 = .ok (.aload_n 0, 1) := by decide +kernel
theorem dL_law_379 : decode cL_law 379 = .ok (.iload_n 3, 1) := by decide +kernel
theorem dL_law_380 : decode cL_law 380 = .ok (.iconst 2, 1) := by decide +kernel
theorem dL_law_381 : decode cL_law 381 = .ok (.iadd, 1) := by decide +kernel
theorem dL_law_382 : decode cL_law 382 = .ok (.iaload, 1) := by decide +kernel
theorem dL_law_383 : decode cL_law 383 = .ok (.invokevirtual 51, 3) := by decide +kernel
theorem dL_law_386 : decode cL_law 386 = .ok (.if_icmp .eq 605, 3) := by decide +kernel
theorem dL_law_389 : decode cL_law 389 = .ok (.iconst 0, 1) := by decide +kernel
theorem dL_law_390 : decode cL_law 390 = .ok (.ireturn, 1) := by decide +kernel
theorem dL_law_391 : decode cL_law 391 = .ok (.aload_n 1, 1) := by decide +kernel
theorem dL_law_392 : decode cL_law 392 = .ok (.aload_n 0, 1) := by decide +kernel
theorem dL_law_393 : decode cL_law 393 = .ok (.iload_n 3, 1) := by decide +kernel
theorem dL_law_394 : decode cL_law 394 = .ok (.iconst 1, 1) := by decide +kernel
theorem dL_law_395 : decode cL_law 395 = .ok (.iadd, 1) := by decide +kernel
theorem dL_law_396 : decode cL_law 396 = .ok (.iaload, 1) := by decide +kernel
theorem dL_law_397 : decode cL_law 397 = .ok (.aload_n 0, 1) := by decide +kernel
theorem dL_law_398 : decode cL_law 398 = .ok (.iload_n 3, 1) := by decide +kernel
theorem dL_law_399 : decode cL_law 399 = .ok (.iconst 2, 1) := by decide +kernel
theorem dL_law_400 : decode cL_law 400 = .ok (.iadd, 1) := by decide +kernel
theorem dL_law_401 : decode cL_law 401 = .ok (.iaload, 1) := by decide +kernel
theorem dL_law_402 : decode cL_law 402 = .ok (.invokevirtual 52, 3) := by decide +kernel
theorem dL_law_405 : decode cL_law 405 = .ok (.aload_n 2, 1) := by decide +kernel
theorem dL_law_406 : decode cL_law 406 = .ok (.aload_n 0, 1) := by decide +kernel
theorem dL_law_407 : decode cL_law 407 = .ok (.iload_n 3, 1) := by decide +kernel
theorem dL_law_408 : decode cL_law 408 = .ok (.iconst 1, 1) := by decide +kernel
theorem dL_law_409 : decode cL_law 409 = .ok (.iadd, 1) := by decide +kernel
theorem dL_law_410 : decode cL_law 410 = .ok (.iaload, 1) := by decide +kernel
theorem dL_law_411 : decode cL_law 411 = .ok (.aload_n 0, 1) := by decide +kernel
theorem dL_law_412 : decode cL_law 412 = .ok (.iload_n 3, 1) := by decide +kernel
theorem dL_law_413 : decode cL_law 413 = .ok (.iconst 2, 1) := by decide +kernel
theorem dL_law_414 : decode cL_law 414 = .ok (.iadd, 1) := by decide +kernel
theorem dL_law_415 : decode cL_law 415 = .ok (.iaload, 1) := by decide +kernel
theorem dL_law_416 : decode cL_law 416 = .ok (.invokevirtual 55, 3) := by decide +kernel
theorem dL_law_419 : decode cL_law 419 = .ok (.if_icmp .eq 572, 3) := by decide +kernel
theorem dL_law_422 : decode cL_law 422 = .ok (.iconst 0, 1) := by decide +kernel
theorem dL_law_423 : decode cL_law 423 = .ok (.ireturn, 1) := by decide +kernel
theorem dL_law_424 : decode cL_law 424 = .ok (.aload_n 1, 1) := by decide +kernel
theorem dL_law_425 : decode cL_law 425 = .ok (.aload_n 0, 1) := by decide +kernel
theorem dL_law_426 : decode cL_law 426 = .ok (.iload_n 3, 1) := by decide +kernel
theorem dL_law_427 : decode cL_law 427 = .ok (.iconst 1, 1) := by decide +kernel
theorem dL_law_428 : decode cL_law 428 = .ok (.iadd, 1) := by decide +kernel
theorem dL_law_429 : decode cL_law 429 = .ok (.iaload, 1) := by decide +kernel
theorem dL_law_430 : decode cL_law 430 = .ok (.invokevirtual 56, 3) := by decide +kernel
theorem dL_law_433 : decode cL_law 433 = .ok (.aload_n 2, 1) := by decide +kernel
theorem dL_law_434 : decode cL_law 434 = .ok (.aload_n 0, 1) := by decide +kernel
theorem dL_law_435 : decode cL_law 435 = .ok (.iload_n 3, 1) := by decide +kernel
theorem dL_law_436 : decode cL_law 436 = .ok (.iconst 1, 1) := by decide +kernel
theorem dL_law_437 : decode cL_law 437 = .ok (.iadd, 1) := by decide +kernel
theorem dL_law_438 : decode cL_law 438 = .ok (.iaload, 1) := by decide +kernel
theorem dL_law_439 : decode cL_law 439 = .ok (.invokevirtual 59, 3) := by decide +kernel
theorem dL_law_442 : decode cL_law 442 = .ok (.if_icmp .eq 549, 3) := by decide +kernel
theorem dL_law_445 : decode cL_law 445 = .ok (.iconst 0, 1) := by decide +kernel
theorem dL_law_446 : decode cL_law 446 = .ok (.ireturn, 1) := by decide +kernel
theorem dL_law_447 : decode cL_law 447 = .ok (.aload_n 1, 1) := by decide +kernel
theorem dL_law_448 : decode cL_law 448 = .ok (.aload_n 0, 1) := by decide +kernel
theorem dL_law_449 : decode cL_law 449 = .ok (.iload_n 3, 1) := by decide +kernel
theorem dL_law_450 : decode cL_law 450 = .ok (.iconst 1, 1) := by decide +kernel
theorem dL_law_451 : decode cL_law 451 = .ok (.iadd, 1) := by decide +kernel
theorem dL_law_452 : decode cL_law 452 = .ok (.iaload, 1) := by decide +kernel
theorem dL_law_453 : decode cL_law 453 = .ok (.aload_n 0, 1) := by decide +kernel
theorem dL_law_454 : decode cL_law 454 = .ok (.iload_n 3, 1) := by decide +kernel
theorem dL_law_455 : decode cL_law 455 = .ok (.iconst 2, 1) := by decide +kernel
theorem dL_law_456 : decode cL_law 456 = .ok (.iadd, 1) := by decide +kernel
theorem dL_law_457 : decode cL_law 457 = .ok (.iaload, 1) := by decide +kernel
theorem dL_law_458 : decode cL_law 458 = .ok (.invokevirtual 60, 3) := by decide +kernel
theorem dL_law_461 : decode cL_law 461 = .ok (.aload_n 2, 1) := by decide +kernel
theorem dL_law_462 : decode cL_law 462 = .ok (.aload_n 0, 1) := by decide +kernel
theorem dL_law_463 : decode cL_law 463 = .ok (.iload_n 3, 1) := by decide +kernel
theorem dL_law_464 : decode cL_law 464 = .ok (.iconst 1, 1) := by decide +kernel
theorem dL_law_465 : decode cL_law 465 = .ok (.iadd, 1) := by decide +kernel
theorem dL_law_466 : decode cL_law 466 = .ok (.iaload, 1) := by decide +kernel
theorem dL_law_467 : decode cL_law 467 = .ok (.aload_n 0, 1) := by decide +kernel
theorem dL_law_468 : decode cL_law 468 = .ok (.iload_n 3, 1) := by decide +kernel
theorem dL_law_469 : decode cL_law 469 = .ok (.iconst 2, 1) := by decide +kernel
theorem dL_law_470 : decode cL_law 470 = .ok (.iadd, 1) := by decide +kernel
theorem dL_law_471 : decode cL_law 471 = .ok (.iaload, 1) := by decide +kernel
theorem dL_law_472 : decode cL_law 472 = .ok (.invokevirtual 63, 3) := by decide +kernel
theorem dL_law_475 : decode cL_law 475 = .ok (.if_icmp .eq 516, 3) := by decide +kernel
theorem dL_law_478 : decode cL_law 478 = .ok (.iconst 0, 1) := by decide +kernel
theorem dL_law_479 : decode cL_law 479 = .ok (.ireturn, 1) := by decide +kernel
theorem dL_law_480 : decode cL_law 480 = .ok (.aload_n 1, 1) := by decide +kernel
theorem dL_law_481 : decode cL_law 481 = .ok (.aload_n 0, 1) := by decide +kernel
theorem dL_law_482 : decode cL_law 482 = .ok (.iload_n 3, 1) := by decide +kernel
theorem dL_law_483 : decode cL_law 483 = .ok (.iconst 1, 1) := by decide +kernel
theorem dL_law_484 : decode cL_law 484 = .ok (.iadd, 1) := by decide +kernel
theorem dL_law_485 : decode cL_law 485 = .ok (.iaload, 1) := by decide +kernel
theorem dL_law_486 : decode cL_law 486 = .ok (.aload_n 0, 1) := by decide +kernel
theorem dL_law_487 : decode cL_law 487 = .ok (.iload_n 3, 1) := by decide +kernel
theorem dL_law_488 : decode cL_law 488 = .ok (.iconst 2, 1) := by decide +kernel
theorem dL_law_489 : decode cL_law 489 = .ok (.iadd, 1) := by decide +kernel
theorem dL_law_490 : decode cL_law 490 = .ok (.iaload, 1) := by decide +kernel
theorem dL_law_491 : decode cL_law 491 = .ok (.invokevirtual 64, 3) := by decide +kernel
theorem dL_law_494 : decode cL_law 494 = .ok (.aload_n 2, 1) := by decide +kernel
theorem dL_law_495 : decode cL_law 495 = .ok (.aload_n 0, 1) := by decide +kernel
theorem dL_law_496 : decode cL_law 496 = .ok (.iload_n 3, 1) := by decide +kernel
theorem dL_law_497 : decode cL_law 497 = .ok (.iconst 1, 1) := by decide +kernel
theorem dL_law_498 : decode cL_law 498 = .ok (.iadd, 1) := by decide +kernel
theorem dL_law_499 : decode cL_law 499 = .ok (.iaload, 1) := by decide +kernel
theorem dL_law_500 : decode cL_law 500 = .ok (.aload_n 0, 1) := by decide +kernel
theorem dL_law_501 : decode cL_law 501 = .ok (.iload_n 3, 1) := by decide +kernel
theorem dL_law_502 : decode cL_law 502 = .ok (.iconst 2, 1) := by decide +kernel
theorem dL_law_503 : decode cL_law 503 = .ok (.iadd, 1) := by decide +kernel
theorem dL_law_504 : decode cL_law 504 = .ok (.iaload, 1) := by decide +kernel
theorem dL_law_505 : decode cL_law 505 = .ok (.invokevirtual 67, 3) := by decide +kernel
theorem dL_law_508 : decode cL_law 508 = .ok (.if_icmp .eq 483, 3) := by decide +kernel
theorem dL_law_511 : decode cL_law 511 = .ok (.iconst 0, 1) := by decide +kernel
theorem dL_law_512 : decode cL_law 512 = .ok (.ireturn, 1) := by decide +kernel
theorem dL_law_513 : decode cL_law 513 = .ok (.aload_n 1, 1) := by decide +kernel
theorem dL_law_514 : decode cL_law 514 = .ok (.aload_n 0, 1) := by decide +kernel
theorem dL_law_515 : decode cL_law 515 = .ok (.iload_n 3, 1) := by decide +kernel
theorem dL_law_516 : decode cL_law 516 = .ok (.iconst 1, 1) := by decide +kernel
theorem dL_law_517 : decode cL_law 517 = .ok (.iadd, 1) := by decide +kernel
theorem dL_law_518 : decode cL_law 518 = .ok (.iaload, 1) := by decide +kernel
theorem dL_law_519 : decode cL_law 519 = .ok (.aload_n 0, 1) := by decide +kernel
theorem dL_law_520 : decode cL_law 520 = .ok (.iload_n 3, 1) := by decide +kernel
theorem dL_law_521 : decode cL_law 521 = .ok (.iconst 2, 1) := by decide +kernel
theorem dL_law_522 : decode cL_law 522 = .ok (.iadd, 1) := by decide +kernel
theorem dL_law_523 : decode cL_law 523 = .ok (.iaload, 1) := by decide +kernel
theorem dL_law_524 : decode cL_law 524 = .ok (.aload_n 0, 1) := by decide +kernel
theorem dL_law_525 : decode cL_law 525 = .ok (.iload_n 3, 1) := by decide +kernel
theorem dL_law_526 : decode cL_law 526 = .ok (.iconst 3, 1) := by decide +kernel
theorem dL_law_527 : decode cL_law 527 = .ok (.iadd, 1) := by decide +kernel
theorem dL_law_528 : decode cL_law 528 = .ok (.iaload, 1) := by decide +kernel
theorem dL_law_529 : decode cL_law 529 = .ok (.invokevirtual 68, 3) := by decide +kernel
theorem dL_law_532 : decode cL_law 532 = .ok (.aload_n 2, 1) := by decide +kernel
theorem dL_law_533 : decode cL_law 533 = .ok (.aload_n 0, 1) := by decide +kernel
theorem dL_law_534 : decode cL_law 534 = .ok (.iload_n 3, 1) := by decide +kernel
theorem dL_law_535 : decode cL_law 535 = .ok (.iconst 1, 1) := by decide +kernel
theorem dL_law_536 : decode cL_law 536 = .ok (.iadd, 1) := by decide +kernel
theorem dL_law_537 : decode cL_law 537 = .ok (.iaload, 1) := by decide +kernel
theorem dL_law_538 : decode cL_law 538 = .ok (.aload_n 0, 1) := by decide +kernel
theorem dL_law_539 : decode cL_law 539 = .ok (.iload_n 3, 1) := by decide +kernel
theorem dL_law_540 : decode cL_law 540 = .ok (.iconst 2, 1) := by decide +kernel
theorem dL_law_541 : decode cL_law 541 = .ok (.iadd, 1) := by decide +kernel
theorem dL_law_542 : decode cL_law 542 = .ok (.iaload, 1) := by decide +kernel
theorem dL_law_543 : decode cL_law 543 = .ok (.aload_n 0, 1) := by decide +kernel
theorem dL_law_544 : decode cL_law 544 = .ok (.iload_n 3, 1) := by decide +kernel
theorem dL_law_545 : decode cL_law 545 = .ok (.iconst 3, 1) := by decide +kernel
theorem dL_law_546 : decode cL_law 546 = .ok (.iadd, 1) := by decide +kernel
theorem dL_law_547 : decode cL_law 547 = .ok (.iaload, 1) := by decide +kernel
theorem dL_law_548 : decode cL_law 548 = .ok (.invokevirtual 72, 3) := by decide +kernel
theorem dL_law_551 : decode cL_law 551 = .ok (.if_icmp .eq 440, 3) := by decide +kernel
theorem dL_law_554 : decode cL_law 554 = .ok (.iconst 0, 1) := by decide +kernel
theorem dL_law_555 : decode cL_law 555 = .ok (.ireturn, 1) := by decide +kernel
theorem dL_law_556 : decode cL_law 556 = .ok (.aload_n 1, 1) := by decide +kernel
theorem dL_law_557 : decode cL_law 557 = .ok (.aload_n 0, 1) := by decide +kernel
theorem dL_law_558 : decode cL_law 558 = .ok (.iload_n 3, 1) := by decide +kernel
theorem dL_law_559 : decode cL_law 559 = .ok (.iconst 1, 1) := by decide +kernel
theorem dL_law_560 : decode cL_law 560 = .ok (.iadd, 1) := by decide +kernel
theorem dL_law_561 : decode cL_law 561 = .ok (.iaload, 1) := by decide +kernel
theorem dL_law_562 : decode cL_law 562 = .ok (.invokevirtual 73, 3) := by decide +kernel
theorem dL_law_565 : decode cL_law 565 = .ok (.aload_n 2, 1) := by decide +kernel
theorem dL_law_566 : decode cL_law 566 = .ok (.aload_n 0, 1) := by decide +kernel
theorem dL_law_567 : decode cL_law 567 = .ok (.iload_n 3, 1) := by decide +kernel
theorem dL_law_568 : decode cL_law 568 = .ok (.iconst 1, 1) := by decide +kernel
theorem dL_law_569 : decode cL_law 569 = .ok (.iadd, 1) := by decide +kernel
theorem dL_law_570 : decode cL_law 570 = .ok (.iaload, 1) := by decide +kernel
theorem dL_law_571 : decode cL_law 571 = .ok (.invokevirtual 76, 3) := by decide +kernel
theorem dL_law_574 : decode cL_law 574 = .ok (.if_icmp .eq 417, 3) := by decide +kernel
theorem dL_law_577 : decode cL_law 577 = .ok (.iconst 0, 1) := by decide +kernel
theorem dL_law_578 : decode cL_law 578 = .ok (.ireturn, 1) := by decide +kernel
theorem dL_law_579 : decode cL_law 579 = .ok (.aload_n 1, 1) := by decide +kernel
theorem dL_law_580 : decode cL_law 580 = .ok (.aload_n 0, 1) := by decide +kernel
theorem dL_law_581 : decode cL_law 581 = .ok (.iload_n 3, 1) := by decide +kernel
theorem dL_law_582 : decode cL_law 582 = .ok (.iconst 1, 1) := by decide +kernel
theorem dL_law_583 : decode cL_law 583 = .ok (.iadd, 1) := by decide +kernel
theorem dL_law_584 : decode cL_law 584 = .ok (.iaload, 1) := by decide +kernel
theorem dL_law_585 : decode cL_law 585 = .ok (.aload_n 0, 1) := by decide +kernel
theorem dL_law_586 : decode cL_law 586 = .ok (.iload_n 3, 1) := by decide +kernel
theorem dL_law_587 : decode cL_law 587 = .ok (.iconst 2, 1) := by decide +kernel
theorem dL_law_588 : decode cL_law 588 = .ok (.iadd, 1) := by decide +kernel
theorem dL_law_589 : decode cL_law 589 = .ok (.iaload, 1) := by decide +kernel
theorem dL_law_590 : decode cL_law 590 = .ok (.aload_n 0, 1) := by decide +kernel
theorem dL_law_591 : decode cL_law 591 = .ok (.iload_n 3, 1) := by decide +kernel
theorem dL_law_592 : decode cL_law 592 = .ok (.iconst 3, 1) := by decide +kernel
theorem dL_law_593 : decode cL_law 593 = .ok (.iadd, 1) := by decide +kernel
theorem dL_law_594 : decode cL_law 594 = .ok (.iaload, 1) := by decide +kernel
theorem dL_law_595 : decode cL_law 595 = .ok (.invokevirtual 77, 3) := by decide +kernel
theorem dL_law_598 : decode cL_law 598 = .ok (.aload_n 2, 1) := by decide +kernel
theorem dL_law_599 : decode cL_law 599 = .ok (.aload_n 0, 1) := by decide +kernel
theorem dL_law_600 : decode cL_law 600 = .ok (.iload_n 3, 1) := by decide +kernel
theorem dL_law_601 : decode cL_law 601 = .ok (.iconst 1, 1) := by decide +kernel
theorem dL_law_602 : decode cL_law 602 = .ok (.iadd, 1) := by decide +kernel
theorem dL_law_603 : decode cL_law 603 = .ok (.iaload, 1) := by decide +kernel
theorem dL_law_604 : decode cL_law 604 = .ok (.aload_n 0, 1) := by decide +kernel
theorem dL_law_605 : decode cL_law 605 = .ok (.iload_n 3, 1) := by decide +kernel
theorem dL_law_606 : decode cL_law 606 = .ok (.iconst 2, 1) := by decide +kernel
theorem dL_law_607 : decode cL_law 607 = .ok (.iadd, 1) := by decide +kernel
theorem dL_law_608 : decode cL_law 608 = .ok (.iaload, 1) := by decide +kernel
theorem dL_law_609 : decode cL_law 609 = .ok (.aload_n 0, 1) := by decide +kernel
theorem dL_law_610 : decode cL_law 610 = .ok (.iload_n 3, 1) := by decide +kernel
theorem dL_law_611 : decode cL_law 611 = .ok (.iconst 3, 1) := by decide +kernel
theorem dL_law_612 : decode cL_law 612 = .ok (.iadd, 1) := by decide +kernel
theorem dL_law_613 : decode cL_law 613 = .ok (.iaload, 1) := by decide +kernel
theorem dL_law_614 : decode cL_law 614 = .ok (.invokevirtual 80, 3) := by decide +kernel
theorem dL_law_617 : decode cL_law 617 = .ok (.if_icmp .eq 374, 3) := by decide +kernel
theorem dL_law_620 : decode cL_law 620 = .ok (.iconst 0, 1) := by decide +kernel
theorem dL_law_621 : decode cL_law 621 = .ok (.ireturn, 1) := by decide +kernel
theorem dL_law_622 : decode cL_law 622 = .ok (.aload_n 1, 1) := by decide +kernel
theorem dL_law_623 : decode cL_law 623 = .ok (.aload_n 0, 1) := by decide +kernel
theorem dL_law_624 : decode cL_law 624 = .ok (.iload_n 3, 1) := by decide +kernel
theorem dL_law_625 : decode cL_law 625 = .ok (.iconst 1, 1) := by decide +kernel
theorem dL_law_626 : decode cL_law 626 = .ok (.iadd, 1) := by decide +kernel
theorem dL_law_627 : decode cL_law 627 = .ok (.iaload, 1) := by decide +kernel
theorem dL_law_628 : decode cL_law 628 = .ok (.invokevirtual 81, 3) := by decide +kernel
theorem dL_law_631 : decode cL_law 631 = .ok (.aload_n 2, 1) := by decide +kernel
theorem dL_law_632 : decode cL_law 632 = .ok (.aload_n 0, 1) := by decide +kernel
theorem dL_law_633 : decode cL_law 633 = .ok (.iload_n 3, 1) := by decide +kernel
theorem dL_law_634 : decode cL_law 634 = .ok (.iconst 1, 1) := by decide +kernel
theorem dL_law_635 : decode cL_law 635 = .ok (.iadd, 1) := by decide +kernel
theorem dL_law_636 : decode cL_law 636 = .ok (.iaload, 1) := by decide +kernel
theorem dL_law_637 : decode cL_law 637 = .ok (.invokevirtual 84, 3) := by decide +kernel
theorem dL_law_640 : decode cL_law 640 = .ok (.if_icmp .eq 351, 3) := by decide +kernel
theorem dL_law_643 : decode cL_law 643 = .ok (.iconst 0, 1) := by decide +kernel
theorem dL_law_644 : decode cL_law 644 = .ok (.ireturn, 1) := by decide +kernel
theorem dL_law_645 : decode cL_law 645 = .ok (.aload_n 1, 1) := by decide +kernel
theorem dL_law_646 : decode cL_law 646 = .ok (.aload_n 0, 1) := by decide +kernel
theorem dL_law_647 : decode cL_law 647 = .ok (.iload_n 3, 1) := by decide +kernel
theorem dL_law_648 : decode cL_law 648 = .ok (.iconst 1, 1) := by decide +kernel
theorem dL_law_649 : decode cL_law 649 = .ok (.iadd, 1) := by decide +kernel
theorem dL_law_650 : decode cL_law 650 = .ok (.iaload, 1) := by decide +kernel
theorem dL_law_651 : decode cL_law 651 = .ok (.invokevirtual 85, 3) := by decide +kernel
theorem dL_law_654 : decode cL_law 654 = .ok (.aload_n 2, 1) := by decide +kernel
theorem dL_law_655 : decode cL_law 655 = .ok (.aload_n 0, 1) := by decide +kernel
theorem dL_law_656 : decode cL_law 656 = .ok (.iload_n 3, 1) := by decide +kernel
theorem dL_law_657 : decode cL_law 657 = .ok (.iconst 1, 1) := by decide +kernel
theorem dL_law_658 : decode cL_law 658 = .ok (.iadd, 1) := by decide +kernel
theorem dL_law_659 : decode cL_law 659 = .ok (.iaload, 1) := by decide +kernel
theorem dL_law_660 : decode cL_law 660 = .ok (.invokevirtual 88, 3) := by decide +kernel
theorem dL_law_663 : decode cL_law 663 = .ok (.if_icmp .eq 328, 3) := by decide +kernel
theorem dL_law_666 : decode cL_law 666 = .ok (.iconst 0, 1) := by decide +kernel
theorem dL_law_667 : decode cL_law 667 = .ok (.ireturn, 1) := by decide +kernel
theorem dL_law_668 : decode cL_law 668 = .ok (.aload_n 1, 1) := by decide +kernel
theorem dL_law_669 : decode cL_law 669 = .ok (.aload_n 0, 1) := by decide +kernel
theorem dL_law_670 : decode cL_law 670 = .ok (.iload_n 3, 1) := by decide +kernel
theorem dL_law_671 : decode cL_law 671 = .ok (.iconst 1, 1) := by decide +kernel
theorem dL_law_672 : decode cL_law 672 = .ok (.iadd, 1) := by decide +kernel
theorem dL_law_673 : decode cL_law 673 = .ok (.iaload, 1) := by decide +kernel
theorem dL_law_674 : decode cL_law 674 = .ok (.aload_n 0, 1) := by decide +kernel
theorem dL_law_675 : decode cL_law 675 = .ok (.iload_n 3, 1) := by decide +kernel
theorem dL_law_676 : decode cL_law 676 = .ok (.iconst 2, 1) := by decide +kernel
theorem dL_law_677 : decode cL_law 677 = .ok (.iadd, 1) := by decide +kernel
theorem dL_law_678 : decode cL_law 678 = .ok (.iaload, 1) := by decide +kernel
theorem dL_law_679 : decode cL_law 679 = .ok (.aload_n 0, 1) := by decide +kernel
theorem dL_law_680 : decode cL_law 680 = .ok (.iload_n 3, 1) := by decide +kernel
theorem dL_law_681 : decode cL_law 681 = .ok (.iconst 3, 1) := by decide +kernel
theorem dL_law_682 : decode cL_law 682 = .ok (.iadd, 1) := by decide +kernel
theorem dL_law_683 : decode cL_law 683 = .ok (.iaload, 1) := by decide +kernel
theorem dL_law_684 : decode cL_law 684 = .ok (.invokevirtual 89, 3) := by decide +kernel
theorem dL_law_687 : decode cL_law 687 = .ok (.aload_n 2, 1) := by decide +kernel
theorem dL_law_688 : decode cL_law 688 = .ok (.aload_n 0, 1) := by decide +kernel
theorem dL_law_689 : decode cL_law 689 = .ok (.iload_n 3, 1) := by decide +kernel
theorem dL_law_690 : decode cL_law 690 = .ok (.iconst 1, 1) := by decide +kernel
theorem dL_law_691 : decode cL_law 691 = .ok (.iadd, 1) := by decide +kernel
theorem dL_law_692 : decode cL_law 692 = .ok (.iaload, 1) := by decide +kernel
theorem dL_law_693 : decode cL_law 693 = .ok (.aload_n 0, 1) := by decide +kernel
theorem dL_law_694 : decode cL_law 694 = .ok (.iload_n 3, 1) := by decide +kernel
theorem dL_law_695 : decode cL_law 695 = .ok (.iconst 2, 1) := by decide +kernel
theorem dL_law_696 : decode cL_law 696 = .ok (.iadd, 1) := by decide +kernel
theorem dL_law_697 : decode cL_law 697 = .ok (.iaload, 1) := by decide +kernel
theorem dL_law_698 : decode cL_law 698 = .ok (.aload_n 0, 1) := by decide +kernel
theorem dL_law_699 : decode cL_law 699 = .ok (.iload_n 3, 1) := by decide +kernel
theorem dL_law_700 : decode cL_law 700 = .ok (.iconst 3, 1) := by decide +kernel
theorem dL_law_701 : decode cL_law 701 = .ok (.iadd, 1) := by decide +kernel
theorem dL_law_702 : decode cL_law 702 = .ok (.iaload, 1) := by decide +kernel
theorem dL_law_703 : decode cL_law 703 = .ok (.invokevirtual 92, 3) := by decide +kernel
theorem dL_law_706 : decode cL_law 706 = .ok (.if_icmp .eq 285, 3) := by decide +kernel
theorem dL_law_709 : decode cL_law 709 = .ok (.iconst 0, 1) := by decide +kernel
theorem dL_law_710 : decode cL_law 710 = .ok (.ireturn, 1) := by decide +kernel
theorem dL_law_711 : decode cL_law 711 = .ok (.aload_n 1, 1) := by decide +kernel
theorem dL_law_712 : decode cL_law 712 = .ok (.aload_n 0, 1) := by decide +kernel
theorem dL_law_713 : decode cL_law 713 = .ok (.iload_n 3, 1) := by decide +kernel
theorem dL_law_714 : decode cL_law 714 = .ok (.iconst 1, 1) := by decide +kernel
theorem dL_law_715 : decode cL_law 715 = .ok (.iadd, 1) := by decide +kernel
theorem dL_law_716 : decode cL_law 716 = .ok (.iaload, 1) := by decide +kernel
theorem dL_law_717 : decode cL_law 717 = .ok (.aload_n 0, 1) := by decide +kernel
theorem dL_law_718 : decode cL_law 718 = .ok (.iload_n 3, 1) := by decide +kernel
theorem dL_law_719 : decode cL_law 719 = .ok (.iconst 2, 1) := by decide +kernel
theorem dL_law_720 : decode cL_law 720 = .ok (.iadd, 1) := by decide +kernel
theorem dL_law_721 : decode cL_law 721 = .ok (.iaload, 1) := by decide +kernel
theorem dL_law_722 : decode cL_law 722 = .ok (.invokevirtual 93, 3) := by decide +kernel
theorem dL_law_725 : decode cL_law 725 = .ok (.aload_n 2, 1) := by decide +kernel
theorem dL_law_726 : decode cL_law 726 = .ok (.aload_n 0, 1) := by decide +kernel
theorem dL_law_727 : decode cL_law 727 = .ok (.iload_n 3, 1) := by decide +kernel
theorem dL_law_728 : decode cL_law 728 = .ok (.iconst 1, 1) := by decide +kernel
theorem dL_law_729 : decode cL_law 729 = .ok (.iadd, 1) := by decide +kernel
theorem dL_law_730 : decode cL_law 730 = .ok (.iaload, 1) := by decide +kernel
theorem dL_law_731 : decode cL_law 731 = .ok (.aload_n 0, 1) := by decide +kernel
theorem dL_law_732 : decode cL_law 732 = .ok (.iload_n 3, 1) := by decide +kernel
theorem dL_law_733 : decode cL_law 733 = .ok (.iconst 2, 1) := by decide +kernel
theorem dL_law_734 : decode cL_law 734 = .ok (.iadd, 1) := by decide +kernel
theorem dL_law_735 : decode cL_law 735 = .ok (.iaload, 1) := by decide +kernel
theorem dL_law_736 : decode cL_law 736 = .ok (.invokevirtual 96, 3) := by decide +kernel
theorem dL_law_739 : decode cL_law 739 = .ok (.if_icmp .eq 252, 3) := by decide +kernel
theorem dL_law_742 : decode cL_law 742 = .ok (.iconst 0, 1) := by decide +kernel
theorem dL_law_743 : decode cL_law 743 = .ok (.ireturn, 1) := by decide +kernel
theorem dL_law_744 : decode cL_law 744 = .ok (.aload_n 1, 1) := by decide +kernel
theorem dL_law_745 : decode cL_law 745 = .ok (.aload_n 0, 1) := by decide +kernel
theorem dL_law_746 : decode cL_law 746 = .ok (.iload_n 3, 1) := by decide +kernel
theorem dL_law_747 : decode cL_law 747 = .ok (.iconst 1, 1) := by decide +kernel
theorem dL_law_748 : decode cL_law 748 = .ok (.iadd, 1) := by decide +kernel
theorem dL_law_749 : decode cL_law 749 = .ok (.iaload, 1) := by decide +kernel
theorem dL_law_750 : decode cL_law 750 = .ok (.aload_n 0, 1) := by decide +kernel
theorem dL_law_751 : decode cL_law 751 = .ok (.iload_n 3, 1) := by decide +kernel
theorem dL_law_752 : decode cL_law 752 = .ok (.iconst 2, 1) := by decide +kernel
theorem dL_law_753 : decode cL_law 753 = .ok (.iadd, 1) := by decide +kernel
theorem dL_law_754 : decode cL_law 754 = .ok (.iaload, 1) := by decide +kernel
theorem dL_law_755 : decode cL_law 755 = .ok (.invokevirtual 97, 3) := by decide +kernel
theorem dL_law_758 : decode cL_law 758 = .ok (.aload_n 2, 1) := by decide +kernel
theorem dL_law_759 : decode cL_law 759 = .ok (.aload_n 0, 1) := by decide +kernel
theorem dL_law_760 : decode cL_law 760 = .ok (.iload_n 3, 1) := by decide +kernel
theorem dL_law_761 : decode cL_law 761 = .ok (.iconst 1, 1) := by decide +kernel
theorem dL_law_762 : decode cL_law 762 = .ok (.iadd, 1) := by decide +kernel
theorem dL_law_763 : decode cL_law 763 = .ok (.iaload, 1) := by decide +kernel
theorem dL_law_764 : decode cL_law 764 = .ok (.aload_n 0, 1) := by decide +kernel
theorem dL_law_765 : decode cL_law 765 = .ok (.iload_n 3, 1) := by decide +kernel
theorem dL_law_766 : decode cL_law 766 = .ok (.iconst 2, 1) := by decide +kernel
theorem dL_law_767 : decode cL_law 767 = .ok (.iadd, 1) := by decide +kernel
theorem dL_law_768 : decode cL_law 768 = .ok (.iaload, 1) := by decide +kernel
theorem dL_law_769 : decode cL_law 769 = .ok (.invokevirtual 100, 3) := by decide +kernel
theorem dL_law_772 : decode cL_law 772 = .ok (.if_icmp .eq 219, 3) := by decide +kernel
theorem dL_law_775 : decode cL_law 775 = .ok (.iconst 0, 1) := by decide +kernel
theorem dL_law_776 : decode cL_law 776 = .ok (.ireturn, 1) := by decide +kernel
theorem dL_law_777 : decode cL_law 777 = .ok (.aload_n 1, 1) := by decide +kernel
theorem dL_law_778 : decode cL_law 778 = .ok (.aload_n 0, 1) := by decide +kernel
theorem dL_law_779 : decode cL_law 779 = .ok (.iload_n 3, 1) := by decide +kernel
theorem dL_law_780 : decode cL_law 780 = .ok (.iconst 1, 1) := by decide +kernel
theorem dL_law_781 : decode cL_law 781 = .ok (.iadd, 1) := by decide +kernel
theorem dL_law_782 : decode cL_law 782 = .ok (.iaload, 1) := by decide +kernel
theorem dL_law_783 : decode cL_law 783 = .ok (.aload_n 0, 1) := by decide +kernel
theorem dL_law_784 : decode cL_law 784 = .ok (.iload_n 3, 1) := by decide +kernel
theorem dL_law_785 : decode cL_law 785 = .ok (.iconst 2, 1) := by decide +kernel
theorem dL_law_786 : decode cL_law 786 = .ok (.iadd, 1) := by decide +kernel
theorem dL_law_787 : decode cL_law 787 = .ok (.iaload, 1) := by decide +kernel
theorem dL_law_788 : decode cL_law 788 = .ok (.aload_n 0, 1) := by decide +kernel
theorem dL_law_789 : decode cL_law 789 = .ok (.iload_n 3, 1) := by decide +kernel
theorem dL_law_790 : decode cL_law 790 = .ok (.iconst 3, 1) := by decide +kernel
theorem dL_law_791 : decode cL_law 791 = .ok (.iadd, 1) := by decide +kernel
theorem dL_law_792 : decode cL_law 792 = .ok (.iaload, 1) := by decide +kernel
theorem dL_law_793 : decode cL_law 793 = .ok (.invokevirtual 101, 3) := by decide +kernel
theorem dL_law_796 : decode cL_law 796 = .ok (.aload_n 2, 1) := by decide +kernel
theorem dL_law_797 : decode cL_law 797 = .ok (.aload_n 0, 1) := by decide +kernel
theorem dL_law_798 : decode cL_law 798 = .ok (.iload_n 3, 1) := by decide +kernel
theorem dL_law_799 : decode cL_law 799 = .ok (.iconst 1, 1) := by decide +kernel
theorem dL_law_800 : decode cL_law 800 = .ok (.iadd, 1) := by decide +kernel
theorem dL_law_801 : decode cL_law 801 = .ok (.iaload, 1) := by decide +kernel
theorem dL_law_802 : decode cL_law 802 = .ok (.aload_n 0, 1) := by decide +kernel
theorem dL_law_803 : decode cL_law 803 = .ok (.iload_n 3, 1) := by decide +kernel
theorem dL_law_804 : decode cL_law 804 = .ok (.iconst 2, 1) := by decide +kernel
theorem dL_law_805 : decode cL_law 805 = .ok (.iadd, 1) := by decide +kernel
theorem dL_law_806 : decode cL_law 806 = .ok (.iaload, 1) := by decide +kernel
theorem dL_law_807 : decode cL_law 807 = .ok (.aload_n 0, 1) := by decide +kernel
theorem dL_law_808 : decode cL_law 808 = .ok (.iload_n 3, 1) := by decide +kernel
theorem dL_law_809 : decode cL_law 809 = .ok (.iconst 3, 1) := by decide +kernel
theorem dL_law_810 : decode cL_law 810 = .ok (.iadd, 1) := by decide +kernel
theorem dL_law_811 : decode cL_law 811 = .ok (.iaload, 1) := by decide +kernel
theorem dL_law_812 : decode cL_law 812 = .ok (.invokevirtual 104, 3) := by decide +kernel
theorem dL_law_815 : decode cL_law 815 = .ok (.if_icmp .eq 176, 3) := by decide +kernel
theorem dL_law_818 : decode cL_law 818 = .ok (.iconst 0, 1) := by decide +kernel
theorem dL_law_819 : decode cL_law 819 = .ok (.ireturn, 1) := by decide +kernel
theorem dL_law_820 : decode cL_law 820 = .ok (.aload_n 1, 1) := by decide +kernel
theorem dL_law_821 : decode cL_law 821 = .ok (.aload_n 0, 1) := by decide +kernel
theorem dL_law_822 : decode cL_law 822 = .ok (.iload_n 3, 1) := by decide +kernel
theorem dL_law_823 : decode cL_law 823 = .ok (.iconst 1, 1) := by decide +kernel
theorem dL_law_824 : decode cL_law 824 = .ok (.iadd, 1) := by decide +kernel
theorem dL_law_825 : decode cL_law 825 = .ok (.iaload, 1) := by decide +kernel
theorem dL_law_826 : decode cL_law 826 = .ok (.aload_n 0, 1) := by decide +kernel
theorem dL_law_827 : decode cL_law 827 = .ok (.iload_n 3, 1) := by decide +kernel
theorem dL_law_828 : decode cL_law 828 = .ok (.iconst 2, 1) := by decide +kernel
theorem dL_law_829 : decode cL_law 829 = .ok (.iadd, 1) := by decide +kernel
theorem dL_law_830 : decode cL_law 830 = .ok (.iaload, 1) := by decide +kernel
theorem dL_law_831 : decode cL_law 831 = .ok (.invokevirtual 105, 3) := by decide +kernel
theorem dL_law_834 : decode cL_law 834 = .ok (.aload_n 2, 1) := by decide +kernel
theorem dL_law_835 : decode cL_law 835 = .ok (.aload_n 0, 1) := by decide +kernel
theorem dL_law_836 : decode cL_law 836 = .ok (.iload_n 3, 1) := by decide +kernel
theorem dL_law_837 : decode cL_law 837 = .ok (.iconst 1, 1) := by decide +kernel
theorem dL_law_838 : decode cL_law 838 = .ok (.iadd, 1) := by decide +kernel
theorem dL_law_839 : decode cL_law 839 = .ok (.iaload, 1) := by decide +kernel
theorem dL_law_840 : decode cL_law 840 = .ok (.aload_n 0, 1) := by decide +kernel
theorem dL_law_841 : decode cL_law 841 = .ok (.iload_n 3, 1) := by decide +kernel
theorem dL_law_842 : decode cL_law 842 = .ok (.iconst 2, 1) := by decide +kernel
theorem dL_law_843 : decode cL_law 843 = .ok (.iadd, 1) := by decide +kernel
theorem dL_law_844 : decode cL_law 844 = .ok (.iaload, 1) := by decide +kernel
theorem dL_law_845 : decode cL_law 845 = .ok (.invokevirtual 108, 3) := by decide +kernel
theorem dL_law_848 : decode cL_law 848 = .ok (.if_icmp .eq 143, 3) := by decide +kernel
theorem dL_law_851 : decode cL_law 851 = .ok (.iconst 0, 1) := by decide +kernel
theorem dL_law_852 : decode cL_law 852 = .ok (.ireturn, 1) := by decide +kernel
theorem dL_law_853 : decode cL_law 853 = .ok (.aload_n 1, 1) := by decide +kernel
theorem dL_law_854 : decode cL_law 854 = .ok (.aload_n 0, 1) := by decide +kernel
theorem dL_law_855 : decode cL_law 855 = .ok (.iload_n 3, 1) := by decide +kernel
theorem dL_law_856 : decode cL_law 856 = .ok (.iconst 1, 1) := by decide +kernel
theorem dL_law_857 : decode cL_law 857 = .ok (.iadd, 1) := by decide +kernel
theorem dL_law_858 : decode cL_law 858 = .ok (.iaload, 1) := by decide +kernel
theorem dL_law_859 : decode cL_law 859 = .ok (.aload_n 0, 1) := by decide +kernel
theorem dL_law_860 : decode cL_law 860 = .ok (.iload_n 3, 1) := by decide +kernel
theorem dL_law_861 : decode cL_law 861 = .ok (.iconst 2, 1) := by decide +kernel
theorem dL_law_862 : decode cL_law 862 = .ok (.iadd, 1) := by decide +kernel
theorem dL_law_863 : decode cL_law 863 = .ok (.iaload, 1) := by decide +kernel
theorem dL_law_864 : decode cL_law 864 = .ok (.aload_n 0, 1) := by decide +kernel
theorem dL_law_865 : decode cL_law 865 = .ok (.iload_n 3, 1) := by decide +kernel
theorem dL_law_866 : decode cL_law 866 = .ok (.iconst 3, 1) := by decide +kernel
theorem dL_law_867 : decode cL_law 867 = .ok (.iadd, 1) := by decide +kernel
theorem dL_law_868 : decode cL_law 868 = .ok (.iaload, 1) := by decide +kernel
theorem dL_law_869 : decode cL_law 869 = .ok (.invokevirtual 109, 3) := by decide +kernel
theorem dL_law_872 : decode cL_law 872 = .ok (.aload_n 2, 1) := by decide +kernel
theorem dL_law_873 : decode cL_law 873 = .ok (.aload_n 0, 1) := by decide +kernel
theorem dL_law_874 : decode cL_law 874 = .ok (.iload_n 3, 1) := by decide +kernel
theorem dL_law_875 : decode cL_law 875 = .ok (.iconst 1, 1) := by decide +kernel
theorem dL_law_876 : decode cL_law 876 = .ok (.iadd, 1) := by decide +kernel
theorem dL_law_877 : decode cL_law 877 = .ok (.iaload, 1) := by decide +kernel
theorem dL_law_878 : decode cL_law 878 = .ok (.aload_n 0, 1) := by decide +kernel
theorem dL_law_879 : decode cL_law 879 = .ok (.iload_n 3, 1) := by decide +kernel
theorem dL_law_880 : decode cL_law 880 = .ok (.iconst 2, 1) := by decide +kernel
theorem dL_law_881 : decode cL_law 881 = .ok (.iadd, 1) := by decide +kernel
theorem dL_law_882 : decode cL_law 882 = .ok (.iaload, 1) := by decide +kernel
theorem dL_law_883 : decode cL_law 883 = .ok (.aload_n 0, 1) := by decide +kernel
theorem dL_law_884 : decode cL_law 884 = .ok (.iload_n 3, 1) := by decide +kernel
theorem dL_law_885 : decode cL_law 885 = .ok (.iconst 3, 1) := by decide +kernel
theorem dL_law_886 : decode cL_law 886 = .ok (.iadd, 1) := by decide +kernel
theorem dL_law_887 : decode cL_law 887 = .ok (.iaload, 1) := by decide +kernel
theorem dL_law_888 : decode cL_law 888 = .ok (.invokevirtual 112, 3) := by decide +kernel
theorem dL_law_891 : decode cL_law 891 = .ok (.if_icmp .eq 100, 3) := by decide +kernel
theorem dL_law_894 : decode cL_law 894 = .ok (.iconst 0, 1) := by decide +kernel
theorem dL_law_895 : decode cL_law 895 = .ok (.ireturn, 1) := by decide +kernel
theorem dL_law_896 : decode cL_law 896 = .ok (.aload_n 1, 1) := by decide +kernel
theorem dL_law_897 : decode cL_law 897 = .ok (.invokevirtual 113, 3) := by decide +kernel
theorem dL_law_900 : decode cL_law 900 = .ok (.aload_n 2, 1) := by decide +kernel
theorem dL_law_901 : decode cL_law 901 = .ok (.invokevirtual 116, 3) := by decide +kernel
theorem dL_law_904 : decode cL_law 904 = .ok (.if_icmp .eq 87, 3) := by decide +kernel
theorem dL_law_907 : decode cL_law 907 = .ok (.iconst 0, 1) := by decide +kernel
theorem dL_law_908 : decode cL_law 908 = .ok (.ireturn, 1) := by decide +kernel
theorem dL_law_909 : decode cL_law 909 = .ok (.aload_n 1, 1) := by decide +kernel
theorem dL_law_910 : decode cL_law 910 = .ok (.invokevirtual 117, 3) := by decide +kernel
theorem dL_law_913 : decode cL_law 913 = .ok (.aload_n 2, 1) := by decide +kernel
theorem dL_law_914 : decode cL_law 914 = .ok (.invokevirtual 120, 3) := by decide +kernel
theorem dL_law_917 : decode cL_law 917 = .ok (.if_icmp .eq 74, 3) := by decide +kernel
theorem dL_law_920 : decode cL_law 920 = .ok (.iconst 0, 1) := by decide +kernel
theorem dL_law_921 : decode cL_law 921 = .ok (.ireturn, 1) := by decide +kernel
theorem dL_law_922 : decode cL_law 922 = .ok (.aload_n 1, 1) := by decide +kernel
theorem dL_law_923 : decode cL_law 923 = .ok (.aload_n 0, 1) := by decide +kernel
theorem dL_law_924 : decode cL_law 924 = .ok (.iload_n 3, 1) := by decide +kernel
theorem dL_law_925 : decode cL_law 925 = .ok (.iconst 1, 1) := by decide +kernel
theorem dL_law_926 : decode cL_law 926 = .ok (.iadd, 1) := by decide +kernel
theorem dL_law_927 : decode cL_law 927 = .ok (.iaload, 1) := by decide +kernel
theorem dL_law_928 : decode cL_law 928 = .ok (.invokevirtual 121, 3) := by decide +kernel
theorem dL_law_931 : decode cL_law 931 = .ok (.aload_n 2, 1) := by decide +kernel
theorem dL_law_932 : decode cL_law 932 = .ok (.aload_n 0, 1) := by decide +kernel
theorem dL_law_933 : decode cL_law 933 = .ok (.iload_n 3, 1) := by decide +kernel
theorem dL_law_934 : decode cL_law 934 = .ok (.iconst 1, 1) := by decide +kernel
theorem dL_law_935 : decode cL_law 935 = .ok (.iadd, 1) := by decide +kernel
theorem dL_law_936 : decode cL_law 936 = .ok (.iaload, 1) := by decide +kernel
theorem dL_law_937 : decode cL_law 937 = .ok (.invokevirtual 124, 3) := by decide +kernel
theorem dL_law_940 : decode cL_law 940 = .ok (.if_icmp .eq 51, 3) := by decide +kernel
theorem dL_law_943 : decode cL_law 943 = .ok (.iconst 0, 1) := by decide +kernel
theorem dL_law_944 : decode cL_law 944 = .ok (.ireturn, 1) := by decide +kernel
theorem dL_law_945 : decode cL_law 945 = .ok (.aload_n 1, 1) := by decide +kernel
theorem dL_law_946 : decode cL_law 946 = .ok (.aload_n 0, 1) := by decide +kernel
theorem dL_law_947 : decode cL_law 947 = .ok (.iload_n 3, 1) := by decide +kernel
theorem dL_law_948 : decode cL_law 948 = .ok (.iconst 1, 1) := by decide +kernel
theorem dL_law_949 : decode cL_law 949 = .ok (.iadd, 1) := by decide +kernel
theorem dL_law_950 : decode cL_law 950 = .ok (.iaload, 1) := by decide +kernel
theorem dL_law_951 : decode cL_law 951 = .ok (.invokevirtual 125, 3) := by decide +kernel
theorem dL_law_954 : decode cL_law 954 = .ok (.aload_n 2, 1) := by decide +kernel
theorem dL_law_955 : decode cL_law 955 = .ok (.aload_n 0, 1) := by decide +kernel
theorem dL_law_956 : decode cL_law 956 = .ok (.iload_n 3, 1) := by decide +kernel
theorem dL_law_957 : decode cL_law 957 = .ok (.iconst 1, 1) := by decide +kernel
theorem dL_law_958 : decode cL_law 958 = .ok (.iadd, 1) := by decide +kernel
theorem dL_law_959 : decode cL_law 959 = .ok (.iaload, 1) := by decide +kernel
theorem dL_law_960 : decode cL_law 960 = .ok (.invokevirtual 128, 3) := by decide +kernel
theorem dL_law_963 : decode cL_law 963 = .ok (.if_icmp .eq 28, 3) := by decide +kernel
theorem dL_law_966 : decode cL_law 966 = .ok (.iconst 0, 1) := by decide +kernel
theorem dL_law_967 : decode cL_law 967 = .ok (.ireturn, 1) := by decide +kernel
theorem dL_law_968 : decode cL_law 968 = .ok (.aload_n 1, 1) := by decide +kernel
theorem dL_law_969 : decode cL_law 969 = .ok (.aload_n 0, 1) := by decide +kernel
theorem dL_law_970 : decode cL_law 970 = .ok (.iload_n 3, 1) := by decide +kernel
theorem dL_law_971 : decode cL_law 971 = .ok (.iconst 1, 1) := by decide +kernel
theorem dL_law_972 : decode cL_law 972 = .ok (.iadd, 1) := by decide +kernel
theorem dL_law_973 : decode cL_law 973 = .ok (.iaload, 1) := by decide +kernel
theorem dL_law_974 : decode cL_law 974 = .ok (.invokevirtual 129, 3) := by decide +kernel
theorem dL_law_977 : decode cL_law 977 = .ok (.aload_n 2, 1) := by decide +kernel
theorem dL_law_978 : decode cL_law 978 = .ok (.aload_n 0, 1) := by decide +kernel
theorem dL_law_979 : decode cL_law 979 = .ok (.iload_n 3, 1) := by decide +kernel
theorem dL_law_980 : decode cL_law 980 = .ok (.iconst 1, 1) := by decide +kernel
theorem dL_law_981 : decode cL_law 981 = .ok (.iadd, 1) := by decide +kernel
theorem dL_law_982 : decode cL_law 982 = .ok (.iaload, 1) := by decide +kernel
theorem dL_law_983 : decode cL_law 983 = .ok (.invokevirtual 132, 3) := by decide +kernel
theorem dL_law_986 : decode cL_law 986 = .ok (.if_icmp .eq 5, 3) := by decide +kernel
theorem dL_law_989 : decode cL_law 989 = .ok (.iconst 0, 1) := by decide +kernel
theorem dL_law_990 : decode cL_law 990 = .ok (.ireturn, 1) := by decide +kernel
theorem dL_law_991 : decode cL_law 991 = .ok (.iinc 3 4, 3) := by decide +kernel
theorem dL_law_994 : decode cL_law 994 = .ok (.goto (-976), 3) := by decide +kernel
theorem dL_law_997 : decode cL_law 997 = .ok (.iconst 1, 1) := by decide +kernel
theorem dL_law_998 : decode cL_law 998 = .ok (.ireturn, 1) := by decide +kernel
