theorem dX9_tryBothRoads_66 : decode cX9_tryBothRoads 66 = .ok (.aload_n 2, 1) := by decide +kernel
theorem dX9_tryBothRoads_67 : decode cX9_tryBothRoads 67 = .ok (.invokevirtual 159, 3) := by decide +kernel
theorem dX9_tryBothRoads_70 : decode cX9_tryBothRoads 70 = .ok (.iinc 3 1, 3) := by decide +kernel
theorem dX9_tryBothRoads_73 : decode cX9_tryBothRoads 73 = .ok (.goto (-54), 3) := by decide +kernel
theorem dX9_tryBothRoads_76 : decode cX9_tryBothRoads 76 = .ok (.return_, 1) := by decide +kernel
theorem dX9_base_0 : decode cX9_base 0 = .ok (.iload_n 1, 1) := by decide +kernel
theorem dX9_base_1 : decode cX9_base 1 = .ok (.invokestatic 70, 3) := by decide +kernel
theorem dX9_base_4 : decode cX9_base 4 = .ok (.ifCond .eq 20, 3) := by decide +kernel
theorem dX9_base_7 : decode cX9_base 7 = .ok (.aload_n 0, 1) := by decide +kernel
theorem dX9_base_8 : decode cX9_base 8 = .ok (.iload_n 2, 1) := by decide +kernel
theorem dX9_base_9 : decode cX9_base 9 = .ok (.invokevirtual 66, 3) := by decide +kernel
theorem dX9_base_12 : decode cX9_base 12 = .ok (.ifCond .eq 12, 3) := by decide +kernel
theorem dX9_base_15 : decode cX9_base 15 = .ok (.iload_n 3, 1) := by decide +kernel
theorem dX9_base_16 : decode cX9_base 16 = .ok (.iconst 0, 1) := by decide +kernel
theorem dX9_base_17 : decode cX9_base 17 = .ok (.iconst 3, 1) := by decide +kernel
theorem dX9_base_18 : decode cX9_base 18 = .ok (.invokestatic 76, 3) := by decide +kernel
theorem dX9_base_21 : decode cX9_base 21 = .ok (.ifCond .ne 5, 3) := by decide +kernel
theorem dX9_base_24 : decode cX9_base 24 = .ok (.iconst (-1), 1) := by decide +kernel
theorem dX9_base_25 : decode cX9_base 25 = .ok (.ireturn, 1) := by decide +kernel
theorem dX9_base_26 : decode cX9_base 26 = .ok (.aload_n 0, 1) := by decide +kernel
theorem dX9_base_27 : decode cX9_base 27 = .ok (.getfield 11, 3) := by decide +kernel
theorem dX9_base_30 : decode cX9_base 30 = .ok (.iload_n 2, 1) := by decide +kernel
theorem dX9_base_31 : decode cX9_base 31 = .ok (.aaload, 1) := by decide +kernel
theorem dX9_base_32 : decode cX9_base 32 = .ok (.getfield 163, 3) := by decide +kernel
theorem dX9_base_35 : decode cX9_base 35 = .ok (.iload_n 1, 1) := by decide +kernel
theorem dX9_base_36 : decode cX9_base 36 = .ok (.aaload, 1) := by decide +kernel
theorem dX9_base_37 : decode cX9_base 37 = .ok (.astore 4, 2) := by decide +kernel
theorem dX9_base_39 : decode cX9_base 39 = .ok (.iload_n 3, 1) := by decide +kernel
theorem dX9_base_40 : decode cX9_base 40 = .ok (.tableswitch 85 0 2 #[28, 47, 66], 28) := by decide +kernel
theorem dX9_base_68 : decode cX9_base 68 = .ok (.aload 4, 2) := by decide +kernel
theorem dX9_base_70 : decode cX9_base 70 = .ok (.getfield 167, 3) := by decide +kernel
theorem dX9_base_73 : decode cX9_base 73 = .ok (.ifCond .le 11, 3) := by decide +kernel
theorem dX9_base_76 : decode cX9_base 76 = .ok (.aload 4, 2) := by decide +kernel
theorem dX9_base_78 : decode cX9_base 78 = .ok (.getfield 172, 3) := by decide +kernel
theorem dX9_base_81 : decode cX9_base 81 = .ok (.goto 5, 3) := by decide +kernel
theorem dX9_base_84 : decode cX9_base 84 = .ok (.bipush (-4), 2) := by decide +kernel
theorem dX9_base_86 : decode cX9_base 86 = .ok (.ireturn, 1) := by decide +kernel
theorem dX9_base_87 : decode cX9_base 87 = .ok (.aload 4, 2) := by decide +kernel
theorem dX9_base_89 : decode cX9_base 89 = .ok (.getfield 167, 3) := by decide +kernel
theorem dX9_base_92 : decode cX9_base 92 = .ok (.ifCond .le 11, 3) := by decide +kernel
theorem dX9_base_95 : decode cX9_base 95 = .ok (.aload 4, 2) := by decide +kernel
theorem dX9_base_97 : decode cX9_base 97 = .ok (.getfield 167, 3) := by decide +kernel
theorem dX9_base_100 : decode cX9_base 100 = .ok (.goto 5, 3) := by decide +kernel
theorem dX9_base_103 : decode cX9_base 103 = .ok (.bipush (-4), 2) := by decide +kernel
theorem dX9_base_105 : decode cX9_base 105 = .ok (.ireturn, 1) := by decide +kernel
theorem dX9_base_106 : decode cX9_base 106 = .ok (.aload 4, 2) := by decide +kernel
theorem dX9_base_108 : decode cX9_base 108 = .ok (.getfield 175, 3) := by decide +kernel
theorem dX9_base_111 : decode cX9_base 111 = .ok (.ifCond .le 11, 3) := by decide +kernel
theorem dX9_base_114 : decode cX9_base 114 = .ok (.aload 4, 2) := by decide +kernel
theorem dX9_base_116 : decode cX9_base 116 = .ok (.getfield 175, 3) := by decide +kernel
theorem dX9_base_119 : decode cX9_base 119 = .ok (.goto 5, 3) := by decide +kernel
theorem dX9_base_122 : decode cX9_base 122 = .ok (.bipush (-4), 2) := by decide +kernel
theorem dX9_base_124 : decode cX9_base 124 = .ok (.ireturn, 1) := by decide +kernel
theorem dX9_base_125 : decode cX9_base 125 = .ok (.aload 4, 2) := by decide +kernel
theorem dX9_base_127 : decode cX9_base 127 = .ok (.invokevirtual 178, 3) := by decide +kernel
theorem dX9_base_130 : decode cX9_base 130 = .ok (.ifCond .le 11, 3) := by decide +kernel
theorem dX9_base_133 : decode cX9_base 133 = .ok (.aload 4, 2) := by decide +kernel
theorem dX9_base_135 : decode cX9_base 135 = .ok (.invokevirtual 178, 3) := by decide +kernel
theorem dX9_base_138 : decode cX9_base 138 = .ok (.goto 5, 3) := by decide +kernel
theorem dX9_base_141 : decode cX9_base 141 = .ok (.bipush (-4), 2) := by decide +kernel
theorem dX9_base_143 : decode cX9_base 143 = .ok (.ireturn, 1) := by decide +kernel
theorem dX9_about_0 : decode cX9_about 0 = .ok (.aload_n 0, 1) := by decide +kernel
theorem dX9_about_1 : decode cX9_about 1 = .ok (.iload_n 1, 1) := by decide +kernel
theorem dX9_about_2 : decode cX9_about 2 = .ok (.invokevirtual 66, 3) := by decide +kernel
theorem dX9_about_5 : decode cX9_about 5 = .ok (.ifCond .eq 12, 3) := by decide +kernel
theorem dX9_about_8 : decode cX9_about 8 = .ok (.iload_n 2, 1) := by decide +kernel
theorem dX9_about_9 : decode cX9_about 9 = .ok (.iconst 0, 1) := by decide +kernel
theorem dX9_about_10 : decode cX9_about 10 = .ok (.iconst 3, 1) := by decide +kernel
theorem dX9_about_11 : decode cX9_about 11 = .ok (.invokestatic 76, 3) := by decide +kernel
theorem dX9_about_14 : decode cX9_about 14 = .ok (.ifCond .ne 5, 3) := by decide +kernel
theorem dX9_about_17 : decode cX9_about 17 = .ok (.iconst (-1), 1) := by decide +kernel
theorem dX9_about_18 : decode cX9_about 18 = .ok (.ireturn, 1) := by decide +kernel
theorem dX9_about_19 : decode cX9_about 19 = .ok (.aload_n 0, 1) := by decide +kernel
theorem dX9_about_20 : decode cX9_about 20 = .ok (.getfield 11, 3) := by decide +kernel
theorem dX9_about_23 : decode cX9_about 23 = .ok (.iload_n 1, 1) := by decide +kernel
theorem dX9_about_24 : decode cX9_about 24 = .ok (.aaload, 1) := by decide +kernel
theorem dX9_about_25 : decode cX9_about 25 = .ok (.astore_n 3, 1) := by decide +kernel
theorem dX9_about_26 : decode cX9_about 26 = .ok (.iload_n 2, 1) := by decide +kernel
theorem dX9_about_27 : decode cX9_about 27 = .ok (.tableswitch 50 0 2 #[25, 30, 37], 25) := by decide +kernel
theorem dX9_about_52 : decode cX9_about 52 = .ok (.aload_n 3, 1) := by decide +kernel
theorem dX9_about_53 : decode cX9_about 53 = .ok (.getfield 182, 3) := by decide +kernel
theorem dX9_about_56 : decode cX9_about 56 = .ok (.ireturn, 1) := by decide +kernel
theorem dX9_about_57 : decode cX9_about 57 = .ok (.aload_n 3, 1) := by decide +kernel
theorem dX9_about_58 : decode cX9_about 58 = .ok (.getfield 147, 3) := by decide +kernel
theorem dX9_about_61 : decode cX9_about 61 = .ok (.iconst 2, 1) := by decide +kernel
theorem dX9_about_62 : decode cX9_about 62 = .ok (.imul, 1) := by decide +kernel
theorem dX9_about_63 : decode cX9_about 63 = .ok (.ireturn, 1) := by decide +kernel
theorem dX9_about_64 : decode cX9_about 64 = .ok (.aload_n 3, 1) := by decide +kernel
theorem dX9_about_65 : decode cX9_about 65 = .ok (.invokevirtual 144, 3) := by decide +kernel
theorem dX9_about_68 : decode cX9_about 68 = .ok (.ifCond .eq 7, 3) := by decide +kernel
theorem dX9_about_71 : decode cX9_about 71 = .ok (.iconst 1, 1) := by decide +kernel
theorem dX9_about_72 : decode cX9_about 72 = .ok (.goto 4, 3) := by decide +kernel
theorem dX9_about_75 : decode cX9_about 75 = .ok (.iconst 0, 1) := by decide +kernel
theorem dX9_about_76 : decode cX9_about 76 = .ok (.ireturn, 1) := by decide +kernel
theorem dX9_about_77 : decode cX9_about 77 = .ok (.aload_n 3, 1) := by decide +kernel
theorem dX9_about_78 : decode cX9_about 78 = .ok (.invokevirtual 185, 3) := by decide +kernel
theorem dX9_about_81 : decode cX9_about 81 = .ok (.ireturn, 1) := by decide +kernel
theorem dX9_answers_0 : decode cX9_answers 0 = .ok (.aload_n 0, 1) := by decide +kernel
theorem dX9_answers_1 : decode cX9_answers 1 = .ok (.invokevirtual 188, 3) := by decide +kernel
theorem dX9_answers_4 : decode cX9_answers 4 = .ok (.ifCond .eq 10, 3) := by decide +kernel
theorem dX9_answers_7 : decode cX9_answers 7 = .ok (.aload_n 0, 1) := by decide +kernel
theorem dX9_answers_8 : decode cX9_answers 8 = .ok (.invokevirtual 191, 3) := by decide +kernel
theorem dX9_answers_11 : decode cX9_answers 11 = .ok (.goto 5, 3) := by decide +kernel
theorem dX9_answers_14 : decode cX9_answers 14 = .ok (.bipush (-2), 2) := by decide +kernel
theorem dX9_answers_16 : decode cX9_answers 16 = .ok (.ireturn, 1) := by decide +kernel
theorem dX9_share_0 : decode cX9_share 0 = .ok (.iload_n 1, 1) := by decide +kernel
theorem dX9_share_1 : decode cX9_share 1 = .ok (.iconst 0, 1) := by decide +kernel
theorem dX9_share_2 : decode cX9_share 2 = .ok (.bipush 7, 2) := by decide +kernel
theorem dX9_share_4 : decode cX9_share 4 = .ok (.invokestatic 76, 3) := by decide +kernel
theorem dX9_share_7 : decode cX9_share 7 = .ok (.ifCond .ne 5, 3) := by decide +kernel
theorem dX9_share_10 : decode cX9_share 10 = .ok (.iconst (-1), 1) := by decide +kernel
theorem dX9_share_11 : decode cX9_share 11 = .ok (.ireturn, 1) := by decide +kernel
theorem dX9_share_12 : decode cX9_share 12 = .ok (.aload_n 0, 1) := by decide +kernel
theorem dX9_share_13 : decode cX9_share 13 = .ok (.iconst 0, 1) := by decide +kernel
theorem dX9_share_14 : decode cX9_share 14 = .ok (.invokevirtual 194, 3) := by decide +kernel
theorem dX9_share_17 : decode cX9_share 17 = .ok (.ifCond .ne 6, 3) := by decide +kernel
theorem dX9_share_20 : decode cX9_share 20 = .ok (.bipush (-2), 2) := by decide +kernel
theorem dX9_share_22 : decode cX9_share 22 = .ok (.ireturn, 1) := by decide +kernel
theorem dX9_share_23 : decode cX9_share 23 = .ok (.iconst 0, 1) := by decide +kernel
theorem dX9_share_24 : decode cX9_share 24 = .ok (.istore_n 2, 1) := by decide +kernel
theorem dX9_share_25 : decode cX9_share 25 = .ok (.iconst 0, 1) := by decide +kernel
theorem dX9_share_26 : decode cX9_share 26 = .ok (.istore_n 3, 1) := by decide +kernel
theorem dX9_share_27 : decode cX9_share 27 = .ok (.iload_n 3, 1) := by decide +kernel
theorem dX9_share_28 : decode cX9_share 28 = .ok (.aload_n 0, 1) := by decide +kernel
theorem dX9_share_29 : decode cX9_share 29 = .ok (.getfield 62, 3) := by decide +kernel
theorem dX9_share_32 : decode cX9_share 32 = .ok (.if_icmp .ge 25, 3) := by decide +kernel
theorem dX9_share_35 : decode cX9_share 35 = .ok (.aload_n 0, 1) := by decide +kernel
theorem dX9_share_36 : decode cX9_share 36 = .ok (.getfield 11, 3) := by decide +kernel
theorem dX9_share_39 : decode cX9_share 39 = .ok (.iload_n 3, 1) := by decide +kernel
theorem dX9_share_40 : decode cX9_share 40 = .ok (.aaload, 1) := by decide +kernel
theorem dX9_share_41 : decode cX9_share 41 = .ok (.invokevirtual 185, 3) := by decide +kernel
theorem dX9_share_44 : decode cX9_share 44 = .ok (.iload_n 1, 1) := by decide +kernel
theorem dX9_share_45 : decode cX9_share 45 = .ok (.if_icmp .ne 6, 3) := by decide +kernel
theorem dX9_share_48 : decode cX9_share 48 = .ok (.iinc 2 1, 3) := by decide +kernel
theorem dX9_share_51 : decode cX9_share 51 = .ok (.iinc 3 1, 3) := by decide +kernel
theorem dX9_share_54 : decode cX9_share 54 = .ok (.goto (-27), 3) := by decide +kernel
theorem dX9_share_57 : decode cX9_share 57 = .ok (.iload_n 2, 1) := by decide +kernel
theorem dX9_share_58 : decode cX9_share 58 = .ok (.ireturn, 1) := by decide +kernel
theorem dX9_number_0 : decode cX9_number 0 = .ok (.iload_n 1, 1) := by decide +kernel
theorem dX9_number_1 : decode cX9_number 1 = .ok (.iconst 0, 1) := by decide +kernel
theorem dX9_number_2 : decode cX9_number 2 = .ok (.iconst 2, 1) := by decide +kernel
theorem dX9_number_3 : decode cX9_number 3 = .ok (.invokestatic 76, 3) := by decide +kernel
theorem dX9_number_6 : decode cX9_number 6 = .ok (.ifCond .ne 5, 3) := by decide +kernel
theorem dX9_number_9 : decode cX9_number 9 = .ok (.iconst (-1), 1) := by decide +kernel
theorem dX9_number_10 : decode cX9_number 10 = .ok (.ireturn, 1) := by decide +kernel
theorem dX9_number_11 : decode cX9_number 11 = .ok (.aload_n 0, 1) := by decide +kernel
theorem dX9_number_12 : decode cX9_number 12 = .ok (.iconst 1, 1) := by decide +kernel
theorem dX9_number_13 : decode cX9_number 13 = .ok (.invokevirtual 194, 3) := by decide +kernel
theorem dX9_number_16 : decode cX9_number 16 = .ok (.ifCond .eq 10, 3) := by decide +kernel
theorem dX9_number_19 : decode cX9_number 19 = .ok (.aload_n 0, 1) := by decide +kernel
theorem dX9_number_20 : decode cX9_number 20 = .ok (.invokevirtual 191, 3) := by decide +kernel
theorem dX9_number_23 : decode cX9_number 23 = .ok (.ifCond .ne 6, 3) := by decide +kernel
theorem dX9_number_26 : decode cX9_number 26 = .ok (.bipush (-2), 2) := by decide +kernel
theorem dX9_number_28 : decode cX9_number 28 = .ok (.ireturn, 1) := by decide +kernel
theorem dX9_number_29 : decode cX9_number 29 = .ok (.aload_n 0, 1) := by decide +kernel
theorem dX9_number_30 : decode cX9_number 30 = .ok (.getfield 46, 3) := by decide +kernel
theorem dX9_number_33 : decode cX9_number 33 = .ok (.aload_n 0, 1) := by decide +kernel
theorem dX9_number_34 : decode cX9_number 34 = .ok (.getfield 11, 3) := by decide +kernel
theorem dX9_number_37 : decode cX9_number 37 = .ok (.aload_n 0, 1) := by decide +kernel
theorem dX9_number_38 : decode cX9_number 38 = .ok (.getfield 62, 3) := by decide +kernel
theorem dX9_number_41 : decode cX9_number 41 = .ok (.invokevirtual 197, 3) := by decide +kernel
theorem dX9_number_44 : decode cX9_number 44 = .ok (.iload_n 1, 1) := by decide +kernel
theorem dX9_number_45 : decode cX9_number 45 = .ok (.ifCond .ne 11, 3) := by decide +kernel
theorem dX9_number_48 : decode cX9_number 48 = .ok (.aload_n 0, 1) := by decide +kernel
theorem dX9_number_49 : decode cX9_number 49 = .ok (.getfield 46, 3) := by decide +kernel
theorem dX9_number_52 : decode cX9_number 52 = .ok (.getfield 201, 3) := by decide +kernel
theorem dX9_number_55 : decode cX9_number 55 = .ok (.ireturn, 1) := by decide +kernel
theorem dX9_number_56 : decode cX9_number 56 = .ok (.iload_n 1, 1) := by decide +kernel
theorem dX9_number_57 : decode cX9_number 57 = .ok (.iconst 1, 1) := by decide +kernel
theorem dX9_number_58 : decode cX9_number 58 = .ok (.if_icmp .ne 16, 3) := by decide +kernel
theorem dX9_number_61 : decode cX9_number 61 = .ok (.aload_n 0, 1) := by decide +kernel
theorem dX9_number_62 : decode cX9_number 62 = .ok (.getfield 46, 3) := by decide +kernel
theorem dX9_number_65 : decode cX9_number 65 = .ok (.getfield 204, 3) := by decide +kernel
theorem dX9_number_68 : decode cX9_number 68 = .ok (.invokestatic 207, 3) := by decide +kernel
theorem dX9_number_71 : decode cX9_number 71 = .ok (.goto 10, 3) := by decide +kernel
theorem dX9_number_74 : decode cX9_number 74 = .ok (.aload_n 0, 1) := by decide +kernel
theorem dX9_number_75 : decode cX9_number 75 = .ok (.getfield 46, 3) := by decide +kernel
theorem dX9_number_78 : decode cX9_number 78 = .ok (.getfield 204, 3) := by decide +kernel
theorem dX9_number_81 : decode cX9_number 81 = .ok (.ireturn, 1) := by decide +kernel
theorem dX9_order_0 : decode cX9_order 0 = .ok (.iload_n 1, 1) := by decide +kernel
theorem dX9_order_1 : decode cX9_order 1 = .ok (.iconst 0, 1) := by decide +kernel
theorem dX9_order_2 : decode cX9_order 2 = .ok (.iconst 1, 1) := by decide +kernel
theorem dX9_order_3 : decode cX9_order 3 = .ok (.invokestatic 76, 3) := by decide +kernel
theorem dX9_order_6 : decode cX9_order 6 = .ok (.ifCond .ne 5, 3) := by decide +kernel
theorem dX9_order_9 : decode cX9_order 9 = .ok (.iconst (-1), 1) := by decide +kernel
theorem dX9_order_10 : decode cX9_order 10 = .ok (.ireturn, 1) := by decide +kernel
theorem dX9_order_11 : decode cX9_order 11 = .ok (.aload_n 0, 1) := by decide +kernel
theorem dX9_order_12 : decode cX9_order 12 = .ok (.iconst 2, 1) := by decide +kernel
theorem dX9_order_13 : decode cX9_order 13 = .ok (.invokevirtual 194, 3) := by decide +kernel
theorem dX9_order_16 : decode cX9_order 16 = .ok (.ifCond .eq 10, 3) := by decide +kernel
theorem dX9_order_19 : decode cX9_order 19 = .ok (.aload_n 0, 1) := by decide +kernel
theorem dX9_order_20 : decode cX9_order 20 = .ok (.invokevirtual 191, 3) := by decide +kernel
theorem dX9_order_23 : decode cX9_order 23 = .ok (.ifCond .ne 6, 3) := by decide +kernel
theorem dX9_order_26 : decode cX9_order 26 = .ok (.bipush (-2), 2) := by decide +kernel
theorem dX9_order_28 : decode cX9_order 28 = .ok (.ireturn, 1) := by decide +kernel
theorem dX9_order_29 : decode cX9_order 29 = .ok (.aload_n 0, 1) := by decide +kernel
theorem dX9_order_30 : decode cX9_order 30 = .ok (.getfield 53, 3) := by decide +kernel
theorem dX9_order_33 : decode cX9_order 33 = .ok (.aload_n 0, 1) := by decide +kernel
theorem dX9_order_34 : decode cX9_order 34 = .ok (.getfield 11, 3) := by decide +kernel
theorem dX9_order_37 : decode cX9_order 37 = .ok (.aload_n 0, 1) := by decide +kernel
theorem dX9_order_38 : decode cX9_order 38 = .ok (.getfield 62, 3) := by decide +kernel
theorem dX9_order_41 : decode cX9_order 41 = .ok (.aload_n 0, 1) := by decide +kernel
theorem dX9_order_42 : decode cX9_order 42 = .ok (.getfield 18, 3) := by decide +kernel
theorem dX9_order_45 : decode cX9_order 45 = .ok (.getfield 213, 3) := by decide +kernel
theorem dX9_order_48 : decode cX9_order 48 = .ok (.invokevirtual 216, 3) := by decide +kernel
theorem dX9_order_51 : decode cX9_order 51 = .ok (.iload_n 1, 1) := by decide +kernel
theorem dX9_order_52 : decode cX9_order 52 = .ok (.ifCond .ne 13, 3) := by decide +kernel
theorem dX9_order_55 : decode cX9_order 55 = .ok (.aload_n 0, 1) := by decide +kernel
theorem dX9_order_56 : decode cX9_order 56 = .ok (.getfield 53, 3) := by decide +kernel
theorem dX9_order_59 : decode cX9_order 59 = .ok (.getfield 220, 3) := by decide +kernel
theorem dX9_order_62 : decode cX9_order 62 = .ok (.goto 10, 3) := by decide +kernel
theorem dX9_order_65 : decode cX9_order 65 = .ok (.aload_n 0, 1) := by decide +kernel
theorem dX9_order_66 : decode cX9_order 66 = .ok (.getfield 53, 3) := by decide +kernel
theorem dX9_order_69 : decode cX9_order 69 = .ok (.getfield 223, 3) := by decide +kernel
theorem dX9_order_72 : decode cX9_order 72 = .ok (.ireturn, 1) := by decide +kernel
theorem dX9_isShown_0 : decode cX9_isShown 0 = .ok (.aload_n 0, 1) := by decide +kernel
theorem dX9_isShown_1 : decode cX9_isShown 1 = .ok (.getfield 18, 3) := by decide +kernel
theorem dX9_isShown_4 : decode cX9_isShown 4 = .ok (.getfield 58, 3) := by decide +kernel
theorem dX9_isShown_7 : decode cX9_isShown 7 = .ok (.ifCond .eq 28, 3) := by decide +kernel
theorem dX9_isShown_10 : decode cX9_isShown 10 = .ok (.aload_n 0, 1) := by decide +kernel
theorem dX9_isShown_11 : decode cX9_isShown 11 = .ok (.getfield 88, 3) := by decide +kernel
theorem dX9_isShown_14 : decode cX9_isShown 14 = .ok (.ifCond .eq 17, 3) := by decide +kernel
theorem dX9_isShown_17 : decode cX9_isShown 17 = .ok (.aload_n 0, 1) := by decide +kernel
theorem dX9_isShown_18 : decode cX9_isShown 18 = .ok (.getfield 98, 3) := by decide +kernel
theorem dX9_isShown_21 : decode cX9_isShown 21 = .ok (.aload_n 0, 1) := by decide +kernel
theorem dX9_isShown_22 : decode cX9_isShown 22 = .ok (.getfield 18, 3) := by decide +kernel
theorem dX9_isShown_25 : decode cX9_isShown 25 = .ok (.getfield 134, 3) := by decide +kernel
theorem dX9_isShown_28 : decode cX9_isShown 28 = .ok (.if_icmp .lt 7, 3) := by decide +kernel
theorem dX9_isShown_31 : decode cX9_isShown 31 = .ok (.iconst 1, 1) := by decide +kernel
theorem dX9_isShown_32 : decode cX9_isShown 32 = .ok (.goto 4, 3) := by decide +kernel
theorem dX9_isShown_35 : decode cX9_isShown 35 = .ok (.iconst 0, 1) := by decide +kernel
theorem dX9_isShown_36 : decode cX9_isShown 36 = .ok (.ireturn, 1) := by decide +kernel
theorem dX9_areResultsShown_0 : decode cX9_areResultsShown 0 = .ok (.aload_n 0, 1) := by decide +kernel
theorem dX9_areResultsShown_1 : decode cX9_areResultsShown 1 = .ok (.invokevirtual 188, 3) := by decide +kernel
theorem dX9_areResultsShown_4 : decode cX9_areResultsShown 4 = .ok (.ifCond .eq 29, 3) := by decide +kernel
theorem dX9_areResultsShown_7 : decode cX9_areResultsShown 7 = .ok (.aload_n 0, 1) := by decide +kernel
theorem dX9_areResultsShown_8 : decode cX9_areResultsShown 8 = .ok (.getfield 18, 3) := by decide +kernel
theorem dX9_areResultsShown_11 : decode cX9_areResultsShown 11 = .ok (.getfield 226, 3) := by decide +kernel
theorem dX9_areResultsShown_14 : decode cX9_areResultsShown 14 = .ok (.iload_n 1, 1) := by decide +kernel
theorem dX9_areResultsShown_15 : decode cX9_areResultsShown 15 = .ok (.if_icmp .ne 18, 3) := by decide +kernel
theorem dX9_areResultsShown_18 : decode cX9_areResultsShown 18 = .ok (.aload_n 0, 1) := by decide +kernel
theorem dX9_areResultsShown_19 : decode cX9_areResultsShown 19 = .ok (.invokevirtual 191, 3) := by decide +kernel
theorem dX9_areResultsShown_22 : decode cX9_areResultsShown 22 = .ok (.aload_n 0, 1) := by decide +kernel
theorem dX9_areResultsShown_23 : decode cX9_areResultsShown 23 = .ok (.getfield 91, 3) := by decide +kernel
theorem dX9_areResultsShown_26 : decode cX9_areResultsShown 26 = .ok (.if_icmp .lt 7, 3) := by decide +kernel
theorem dX9_areResultsShown_29 : decode cX9_areResultsShown 29 = .ok (.iconst 1, 1) := by decide +kernel
theorem dX9_areResultsShown_30 : decode cX9_areResultsShown 30 = .ok (.goto 4, 3) := by decide +kernel
theorem dX9_areResultsShown_33 : decode cX9_areResultsShown 33 = .ok (.iconst 0, 1) := by decide +kernel
theorem dX9_areResultsShown_34 : decode cX9_areResultsShown 34 = .ok (.ireturn, 1) := by decide +kernel
theorem dX9_countAnswered_0 : decode cX9_countAnswered 0 = .ok (.iconst 0, 1) := by decide +kernel
theorem dX9_countAnswered_1 : decode cX9_countAnswered 1 = .ok (.istore_n 1, 1) := by decide +kernel
theorem dX9_countAnswered_2 : decode cX9_countAnswered 2 = .ok (.iconst 0, 1) := by decide +kernel
theorem dX9_countAnswered_3 : decode cX9_countAnswered 3 = .ok (.istore_n 2, 1) := by decide +kernel
theorem dX9_countAnswered_4 : decode cX9_countAnswered 4 = .ok (.iload_n 2, 1) := by decide +kernel
theorem dX9_countAnswered_5 : decode cX9_countAnswered 5 = .ok (.aload_n 0, 1) := by decide +kernel
theorem dX9_countAnswered_6 : decode cX9_countAnswered 6 = .ok (.getfield 62, 3) := by decide +kernel
theorem dX9_countAnswered_9 : decode cX9_countAnswered 9 = .ok (.if_icmp .ge 26, 3) := by decide +kernel
theorem dX9_countAnswered_12 : decode cX9_countAnswered 12 = .ok (.aload_n 0, 1) := by decide +kernel
theorem dX9_countAnswered_13 : decode cX9_countAnswered 13 = .ok (.getfield 11, 3) := by decide +kernel
theorem dX9_countAnswered_16 : decode cX9_countAnswered 16 = .ok (.iload_n 2, 1) := by decide +kernel
theorem dX9_countAnswered_17 : decode cX9_countAnswered 17 = .ok (.aaload, 1) := by decide +kernel
theorem dX9_countAnswered_18 : decode cX9_countAnswered 18 = .ok (.invokevirtual 185, 3) := by decide +kernel
theorem dX9_countAnswered_21 : decode cX9_countAnswered 21 = .ok (.bipush (-4), 2) := by decide +kernel
theorem dX9_countAnswered_23 : decode cX9_countAnswered 23 = .ok (.if_icmp .eq 6, 3) := by decide +kernel
theorem dX9_countAnswered_26 : decode cX9_countAnswered 26 = .ok (.iinc 1 1, 3) := by decide +kernel
theorem dX9_countAnswered_29 : decode cX9_countAnswered 29 = .ok (.iinc 2 1, 3) := by decide +kernel
theorem dX9_countAnswered_32 : decode cX9_countAnswered 32 = .ok (.goto (-28), 3) := by decide +kernel
theorem dX9_countAnswered_35 : decode cX9_countAnswered 35 = .ok (.iload_n 1, 1) := by decide +kernel
theorem dX9_countAnswered_36 : decode cX9_countAnswered 36 = .ok (.ireturn, 1) := by decide +kernel
theorem dX9_close_0 : decode cX9_close 0 = .ok (.aload_n 0, 1) := by decide +kernel
theorem dX9_close_1 : decode cX9_close 1 = .ok (.getfield 18, 3) := by decide +kernel
theorem dX9_close_4 : decode cX9_close 4 = .ok (.getfield 58, 3) := by decide +kernel
theorem dX9_close_7 : decode cX9_close 7 = .ok (.ifCond .ne 6, 3) := by decide +kernel
theorem dX9_close_10 : decode cX9_close 10 = .ok (.bipush (-2), 2) := by decide +kernel
theorem dX9_close_12 : decode cX9_close 12 = .ok (.ireturn, 1) := by decide +kernel
theorem dX9_close_13 : decode cX9_close 13 = .ok (.aload_n 0, 1) := by decide +kernel
theorem dX9_close_14 : decode cX9_close 14 = .ok (.getfield 18, 3) := by decide +kernel
theorem dX9_close_17 : decode cX9_close 17 = .ok (.iload_n 1, 1) := by decide +kernel
theorem dX9_close_18 : decode cX9_close 18 = .ok (.invokevirtual 109, 3) := by decide +kernel
theorem dX9_close_21 : decode cX9_close 21 = .ok (.ifCond .ne 5, 3) := by decide +kernel
theorem dX9_close_24 : decode cX9_close 24 = .ok (.iconst (-1), 1) := by decide +kernel
theorem dX9_close_25 : decode cX9_close 25 = .ok (.ireturn, 1) := by decide +kernel
theorem dX9_close_26 : decode cX9_close 26 = .ok (.aload_n 0, 1) := by decide +kernel
theorem dX9_close_27 : decode cX9_close 27 = .ok (.getfield 98, 3) := by decide +kernel
theorem dX9_close_30 : decode cX9_close 30 = .ok (.aload_n 0, 1) := by decide +kernel
theorem dX9_close_31 : decode cX9_close 31 = .ok (.getfield 18, 3) := by decide +kernel
theorem dX9_close_34 : decode cX9_close 34 = .ok (.getfield 134, 3) := by decide +kernel
theorem dX9_close_37 : decode cX9_close 37 = .ok (.if_icmp .ge 6, 3) := by decide +kernel
theorem dX9_close_40 : decode cX9_close 40 = .ok (.bipush (-2), 2) := by decide +kernel
theorem dX9_close_42 : decode cX9_close 42 = .ok (.ireturn, 1) := by decide +kernel
theorem dX9_close_43 : decode cX9_close 43 = .ok (.aload_n 0, 1) := by decide +kernel
theorem dX9_close_44 : decode cX9_close 44 = .ok (.getfield 32, 3) := by decide +kernel
theorem dX9_close_47 : decode cX9_close 47 = .ok (.invokevirtual 229, 3) := by decide +kernel
theorem dX9_close_50 : decode cX9_close 50 = .ok (.ifCond .eq 6, 3) := by decide +kernel
theorem dX9_close_53 : decode cX9_close 53 = .ok (.bipush (-3), 2) := by decide +kernel
theorem dX9_close_55 : decode cX9_close 55 = .ok (.ireturn, 1) := by decide +kernel
theorem dX9_close_56 : decode cX9_close 56 = .ok (.aload_n 0, 1) := by decide +kernel
theorem dX9_close_57 : decode cX9_close 57 = .ok (.getfield 18, 3) := by decide +kernel
theorem dX9_close_60 : decode cX9_close 60 = .ok (.iconst 0, 1) := by decide +kernel
theorem dX9_close_61 : decode cX9_close 61 = .ok (.putfield 58, 3) := by decide +kernel
theorem dX9_close_64 : decode cX9_close 64 = .ok (.aload_n 0, 1) := by decide +kernel
theorem dX9_close_65 : decode cX9_close 65 = .ok (.getfield 25, 3) := by decide +kernel
theorem dX9_close_68 : decode cX9_close 68 = .ok (.iconst 0, 1) := by decide +kernel
theorem dX9_close_69 : decode cX9_close 69 = .ok (.putfield 123, 3) := by decide +kernel
theorem dX9_close_72 : decode cX9_close 72 = .ok (.aload_n 0, 1) := by decide +kernel
theorem dX9_close_73 : decode cX9_close 73 = .ok (.getfield 32, 3) := by decide +kernel
theorem dX9_close_76 : decode cX9_close 76 = .ok (.aload_n 0, 1) := by decide +kernel
theorem dX9_close_77 : decode cX9_close 77 = .ok (.getfield 11, 3) := by decide +kernel
theorem dX9_close_80 : decode cX9_close 80 = .ok (.aload_n 0, 1) := by decide +kernel
theorem dX9_close_81 : decode cX9_close 81 = .ok (.getfield 62, 3) := by decide +kernel
theorem dX9_close_84 : decode cX9_close 84 = .ok (.iload_n 1, 1) := by decide +kernel
theorem dX9_close_85 : decode cX9_close 85 = .ok (.invokevirtual 232, 3) := by decide +kernel
theorem dX9_close_88 : decode cX9_close 88 = .ok (.ireturn, 1) := by decide +kernel
theorem dX9_book_0 : decode cX9_book 0 = .ok (.iload_n 1, 1) := by decide +kernel
theorem dX9_book_1 : decode cX9_book 1 = .ok (.ifCond .lt 22, 3) := by decide +kernel
theorem dX9_book_4 : decode cX9_book 4 = .ok (.iload_n 1, 1) := by decide +kernel
theorem dX9_book_5 : decode cX9_book 5 = .ok (.aload_n 0, 1) := by decide +kernel
theorem dX9_book_6 : decode cX9_book 6 = .ok (.getfield 32, 3) := by decide +kernel
theorem dX9_book_9 : decode cX9_book 9 = .ok (.getfield 236, 3) := by decide +kernel
theorem dX9_book_12 : decode cX9_book 12 = .ok (.if_icmp .ge 11, 3) := by decide +kernel
theorem dX9_book_15 : decode cX9_book 15 = .ok (.aload_n 0, 1) := by decide +kernel
theorem dX9_book_16 : decode cX9_book 16 = .ok (.iload_n 2, 1) := by decide +kernel
theorem dX9_book_17 : decode cX9_book 17 = .ok (.invokevirtual 66, 3) := by decide +kernel
theorem dX9_book_20 : decode cX9_book 20 = .ok (.ifCond .ne 6, 3) := by decide +kernel
theorem dX9_book_23 : decode cX9_book 23 = .ok (.bipush (-9), 2) := by decide +kernel
theorem dX9_book_25 : decode cX9_book 25 = .ok (.ireturn, 1) := by decide +kernel
theorem dX9_book_26 : decode cX9_book 26 = .ok (.aload_n 0, 1) := by decide +kernel
theorem dX9_book_27 : decode cX9_book 27 = .ok (.getfield 32, 3) := by decide +kernel
theorem dX9_book_30 : decode cX9_book 30 = .ok (.getfield 239, 3) := by decide +kernel
theorem dX9_book_33 : decode cX9_book 33 = .ok (.iload_n 1, 1) := by decide +kernel
theorem dX9_book_34 : decode cX9_book 34 = .ok (.aaload, 1) := by decide +kernel
theorem dX9_book_35 : decode cX9_book 35 = .ok (.iload_n 2, 1) := by decide +kernel
theorem dX9_book_36 : decode cX9_book 36 = .ok (.iaload, 1) := by decide +kernel
theorem dX9_book_37 : decode cX9_book 37 = .ok (.ireturn, 1) := by decide +kernel
theorem dX9_marks_0 : decode cX9_marks 0 = .ok (.aload_n 0, 1) := by decide +kernel
theorem dX9_marks_1 : decode cX9_marks 1 = .ok (.iload_n 1, 1) := by decide +kernel
theorem dX9_marks_2 : decode cX9_marks 2 = .ok (.invokevirtual 66, 3) := by decide +kernel
theorem dX9_marks_5 : decode cX9_marks 5 = .ok (.ifCond .eq 15, 3) := by decide +kernel
theorem dX9_marks_8 : decode cX9_marks 8 = .ok (.aload_n 0, 1) := by decide +kernel
theorem dX9_marks_9 : decode cX9_marks 9 = .ok (.getfield 11, 3) := by decide +kernel
theorem dX9_marks_12 : decode cX9_marks 12 = .ok (.iload_n 1, 1) := by decide +kernel
theorem dX9_marks_13 : decode cX9_marks 13 = .ok (.aaload, 1) := by decide +kernel
theorem dX9_marks_14 : decode cX9_marks 14 = .ok (.getfield 243, 3) := by decide +kernel
theorem dX9_marks_17 : decode cX9_marks 17 = .ok (.goto 4, 3) := by decide +kernel
theorem dX9_marks_20 : decode cX9_marks 20 = .ok (.iconst (-1), 1) := by decide +kernel
theorem dX9_marks_21 : decode cX9_marks 21 = .ok (.ireturn, 1) := by decide +kernel
theorem dX9_teams_0 : decode cX9_teams 0 = .ok (.iload_n 2, 1) := by decide +kernel
theorem dX9_teams_1 : decode cX9_teams 1 = .ok (.iconst 0, 1) := by decide +kernel
theorem dX9_teams_2 : decode cX9_teams 2 = .ok (.iconst 1, 1) := by decide +kernel
theorem dX9_teams_3 : decode cX9_teams 3 = .ok (.invokestatic 76, 3) := by decide +kernel
theorem dX9_teams_6 : decode cX9_teams 6 = .ok (.ifCond .eq 11, 3) := by decide +kernel
theorem dX9_teams_9 : decode cX9_teams 9 = .ok (.aload_n 0, 1) := by decide +kernel
theorem dX9_teams_10 : decode cX9_teams 10 = .ok (.iload_n 1, 1) := by decide +kernel
theorem dX9_teams_11 : decode cX9_teams 11 = .ok (.invokevirtual 246, 3) := by decide +kernel
theorem dX9_teams_14 : decode cX9_teams 14 = .ok (.ifCond .ne 5, 3) := by decide +kernel
theorem dX9_teams_17 : decode cX9_teams 17 = .ok (.iconst (-1), 1) := by decide +kernel
theorem dX9_teams_18 : decode cX9_teams 18 = .ok (.ireturn, 1) := by decide +kernel
theorem dX9_teams_19 : decode cX9_teams 19 = .ok (.aload_n 0, 1) := by decide +kernel
theorem dX9_teams_20 : decode cX9_teams 20 = .ok (.iload_n 1, 1) := by decide +kernel
theorem dX9_teams_21 : decode cX9_teams 21 = .ok (.invokevirtual 249, 3) := by decide +kernel
theorem dX9_teams_24 : decode cX9_teams 24 = .ok (.istore_n 3, 1) := by decide +kernel
theorem dX9_teams_25 : decode cX9_teams 25 = .ok (.iload_n 2, 1) := by decide +kernel
theorem dX9_teams_26 : decode cX9_teams 26 = .ok (.ifCond .ne 7, 3) := by decide +kernel
theorem dX9_teams_29 : decode cX9_teams 29 = .ok (.iload_n 3, 1) := by decide +kernel
theorem dX9_teams_30 : decode cX9_teams 30 = .ok (.goto 9, 3) := by decide +kernel
theorem dX9_teams_33 : decode cX9_teams 33 = .ok (.aload_n 0, 1) := by decide +kernel
theorem dX9_teams_34 : decode cX9_teams 34 = .ok (.iload_n 3, 1) := by decide +kernel
theorem dX9_teams_35 : decode cX9_teams 35 = .ok (.iload_n 1, 1) := by decide +kernel
theorem dX9_teams_36 : decode cX9_teams 36 = .ok (.invokevirtual 252, 3) := by decide +kernel
theorem dX9_teams_39 : decode cX9_teams 39 = .ok (.ireturn, 1) := by decide +kernel
theorem dX9_canBeTeams_0 : decode cX9_canBeTeams 0 = .ok (.iconst 1, 1) := by decide +kernel
theorem dX9_canBeTeams_1 : decode cX9_canBeTeams 1 = .ok (.aload_n 0, 1) := by decide +kernel
theorem dX9_canBeTeams_2 : decode cX9_canBeTeams 2 = .ok (.getfield 62, 3) := by decide +kernel
theorem dX9_canBeTeams_5 : decode cX9_canBeTeams 5 = .ok (.ishl, 1) := by decide +kernel
theorem dX9_canBeTeams_6 : decode cX9_canBeTeams 6 = .ok (.iconst 1, 1) := by decide +kernel
theorem dX9_canBeTeams_7 : decode cX9_canBeTeams 7 = .ok (.isub, 1) := by decide +kernel
theorem dX9_canBeTeams_8 : decode cX9_canBeTeams 8 = .ok (.istore_n 2, 1) := by decide +kernel
theorem dX9_canBeTeams_9 : decode cX9_canBeTeams 9 = .ok (.iload_n 1, 1) := by decide +kernel
theorem dX9_canBeTeams_10 : decode cX9_canBeTeams 10 = .ok (.iload_n 2, 1) := by decide +kernel
theorem dX9_canBeTeams_11 : decode cX9_canBeTeams 11 = .ok (.iconst (-1), 1) := by decide +kernel
theorem dX9_canBeTeams_12 : decode cX9_canBeTeams 12 = .ok (.ixor, 1) := by decide +kernel
theorem dX9_canBeTeams_13 : decode cX9_canBeTeams 13 = .ok (.iand, 1) := by decide +kernel
theorem dX9_canBeTeams_14 : decode cX9_canBeTeams 14 = .ok (.ifCond .ne 20, 3) := by decide +kernel
theorem dX9_canBeTeams_17 : decode cX9_canBeTeams 17 = .ok (.iload_n 1, 1) := by decide +kernel
theorem dX9_canBeTeams_18 : decode cX9_canBeTeams 18 = .ok (.invokestatic 207, 3) := by decide +kernel
theorem dX9_canBeTeams_21 : decode cX9_canBeTeams 21 = .ok (.iconst 2, 1) := by decide +kernel
theorem dX9_canBeTeams_22 : decode cX9_canBeTeams 22 = .ok (.bipush 12, 2) := by decide +kernel
theorem dX9_canBeTeams_24 : decode cX9_canBeTeams 24 = .ok (.invokestatic 76, 3) := by decide +kernel
theorem dX9_canBeTeams_27 : decode cX9_canBeTeams 27 = .ok (.ifCond .eq 7, 3) := by decide +kernel
theorem dX9_canBeTeams_30 : decode cX9_canBeTeams 30 = .ok (.iconst 1, 1) := by decide +kernel
theorem dX9_canBeTeams_31 : decode cX9_canBeTeams 31 = .ok (.goto 4, 3) := by decide +kernel
theorem dX9_canBeTeams_34 : decode cX9_canBeTeams 34 = .ok (.iconst 0, 1) := by decide +kernel
theorem dX9_canBeTeams_35 : decode cX9_canBeTeams 35 = .ok (.ireturn, 1) := by decide +kernel
theorem dX9_evenestTeam_0 : decode cX9_evenestTeam 0 = .ok (.iload_n 1, 1) := by decide +kernel
theorem dX9_evenestTeam_1 : decode cX9_evenestTeam 1 = .ok (.invokestatic 255, 3) := by decide +kernel
theorem dX9_evenestTeam_4 : decode cX9_evenestTeam 4 = .ok (.istore_n 2, 1) := by decide +kernel
theorem dX9_evenestTeam_5 : decode cX9_evenestTeam 5 = .ok (.iload_n 1, 1) := by decide +kernel
theorem dX9_evenestTeam_6 : decode cX9_evenestTeam 6 = .ok (.iload_n 2, 1) := by decide +kernel
theorem dX9_evenestTeam_7 : decode cX9_evenestTeam 7 = .ok (.ixor, 1) := by decide +kernel
theorem dX9_evenestTeam_8 : decode cX9_evenestTeam 8 = .ok (.istore_n 3, 1) := by decide +kernel
theorem dX9_evenestTeam_9 : decode cX9_evenestTeam 9 = .ok (.iload_n 1, 1) := by decide +kernel
theorem dX9_evenestTeam_10 : decode cX9_evenestTeam 10 = .ok (.invokestatic 207, 3) := by decide +kernel
theorem dX9_evenestTeam_13 : decode cX9_evenestTeam 13 = .ok (.istore 4, 2) := by decide +kernel
theorem dX9_evenestTeam_15 : decode cX9_evenestTeam 15 = .ok (.iconst 1, 1) := by decide +kernel
theorem dX9_evenestTeam_16 : decode cX9_evenestTeam 16 = .ok (.iload 4, 2) := by decide +kernel
theorem dX9_evenestTeam_18 : decode cX9_evenestTeam 18 = .ok (.iconst 1, 1) := by decide +kernel
theorem dX9_evenestTeam_19 : decode cX9_evenestTeam 19 = .ok (.isub, 1) := by decide +kernel
theorem dX9_evenestTeam_20 : decode cX9_evenestTeam 20 = .ok (.ishl, 1) := by decide +kernel
theorem dX9_evenestTeam_21 : decode cX9_evenestTeam 21 = .ok (.istore 5, 2) := by decide +kernel
theorem dX9_evenestTeam_23 : decode cX9_evenestTeam 23 = .ok (.iconst 0, 1) := by decide +kernel
theorem dX9_evenestTeam_24 : decode cX9_evenestTeam 24 = .ok (.istore 6, 2) := by decide +kernel
theorem dX9_evenestTeam_26 : decode cX9_evenestTeam 26 = .ok (.ldc_w 258, 3) := by decide +kernel
theorem dX9_evenestTeam_29 : decode cX9_evenestTeam 29 = .ok (.istore 7, 2) := by decide +kernel
theorem dX9_evenestTeam_31 : decode cX9_evenestTeam 31 = .ok (.iconst 0, 1) := by decide +kernel
theorem dX9_evenestTeam_32 : decode cX9_evenestTeam 32 = .ok (.istore 8, 2) := by decide +kernel
theorem dX9_evenestTeam_34 : decode cX9_evenestTeam 34 = .ok (.iconst 0, 1) := by decide +kernel
theorem dX9_evenestTeam_35 : decode cX9_evenestTeam 35 = .ok (.istore 9, 2) := by decide +kernel
theorem dX9_evenestTeam_37 : decode cX9_evenestTeam 37 = .ok (.iload 9, 2) := by decide +kernel
theorem dX9_evenestTeam_39 : decode cX9_evenestTeam 39 = .ok (.iload 5, 2) := by decide +kernel
theorem dX9_evenestTeam_41 : decode cX9_evenestTeam 41 = .ok (.if_icmp .ge 64, 3) := by decide +kernel
theorem dX9_evenestTeam_44 : decode cX9_evenestTeam 44 = .ok (.iload_n 2, 1) := by decide +kernel
theorem dX9_evenestTeam_45 : decode cX9_evenestTeam 45 = .ok (.iload 8, 2) := by decide +kernel
theorem dX9_evenestTeam_47 : decode cX9_evenestTeam 47 = .ok (.ior, 1) := by decide +kernel
theorem dX9_evenestTeam_48 : decode cX9_evenestTeam 48 = .ok (.istore 10, 2) := by decide +kernel
theorem dX9_evenestTeam_50 : decode cX9_evenestTeam 50 = .ok (.iconst 2, 1) := by decide +kernel
theorem dX9_evenestTeam_51 : decode cX9_evenestTeam 51 = .ok (.iload 10, 2) := by decide +kernel
theorem dX9_evenestTeam_53 : decode cX9_evenestTeam 53 = .ok (.invokestatic 207, 3) := by decide +kernel
theorem dX9_evenestTeam_56 : decode cX9_evenestTeam 56 = .ok (.imul, 1) := by decide +kernel
theorem dX9_evenestTeam_57 : decode cX9_evenestTeam 57 = .ok (.iload 4, 2) := by decide +kernel
theorem dX9_evenestTeam_59 : decode cX9_evenestTeam 59 = .ok (.isub, 1) := by decide +kernel
theorem dX9_evenestTeam_60 : decode cX9_evenestTeam 60 = .ok (.invokestatic 259, 3) := by decide +kernel
theorem dX9_evenestTeam_63 : decode cX9_evenestTeam 63 = .ok (.iconst 1, 1) := by decide +kernel
theorem dX9_evenestTeam_64 : decode cX9_evenestTeam 64 = .ok (.if_icmp .gt 27, 3) := by decide +kernel
theorem dX9_evenestTeam_67 : decode cX9_evenestTeam 67 = .ok (.aload_n 0, 1) := by decide +kernel
theorem dX9_evenestTeam_68 : decode cX9_evenestTeam 68 = .ok (.iload 10, 2) := by decide +kernel
theorem dX9_evenestTeam_70 : decode cX9_evenestTeam 70 = .ok (.iload_n 1, 1) := by decide +kernel
theorem dX9_evenestTeam_71 : decode cX9_evenestTeam 71 = .ok (.invokevirtual 252, 3) := by decide +kernel
theorem dX9_evenestTeam_74 : decode cX9_evenestTeam 74 = .ok (.istore 11, 2) := by decide +kernel
theorem dX9_evenestTeam_76 : decode cX9_evenestTeam 76 = .ok (.iload 11, 2) := by decide +kernel
theorem dX9_evenestTeam_78 : decode cX9_evenestTeam 78 = .ok (.iload 7, 2) := by decide +kernel
theorem dX9_evenestTeam_80 : decode cX9_evenestTeam 80 = .ok (.if_icmp .ge 11, 3) := by decide +kernel
theorem dX9_evenestTeam_83 : decode cX9_evenestTeam 83 = .ok (.iload 10, 2) := by decide +kernel
theorem dX9_evenestTeam_85 : decode cX9_evenestTeam 85 = .ok (.istore 6, 2) := by decide +kernel
theorem dX9_evenestTeam_87 : decode cX9_evenestTeam 87 = .ok (.iload 11, 2) := by decide +kernel
theorem dX9_evenestTeam_89 : decode cX9_evenestTeam 89 = .ok (.istore 7, 2) := by decide +kernel
theorem dX9_evenestTeam_91 : decode cX9_evenestTeam 91 = .ok (.iload 8, 2) := by decide +kernel
theorem dX9_evenestTeam_93 : decode cX9_evenestTeam 93 = .ok (.iload_n 3, 1) := by decide +kernel
theorem dX9_evenestTeam_94 : decode cX9_evenestTeam 94 = .ok (.isub, 1) := by decide +kernel
theorem dX9_evenestTeam_95 : decode cX9_evenestTeam 95 = .ok (.iload_n 3, 1) := by decide +kernel
theorem dX9_evenestTeam_96 : decode cX9_evenestTeam 96 = .ok (.iand, 1) := by decide +kernel
theorem dX9_evenestTeam_97 : decode cX9_evenestTeam 97 = .ok (.istore 8, 2) := by decide +kernel
theorem dX9_evenestTeam_99 : decode cX9_evenestTeam 99 = .ok (.iinc 9 1, 3) := by decide +kernel
theorem dX9_evenestTeam_102 : decode cX9_evenestTeam 102 = .ok (.goto (-65), 3) := by decide +kernel
theorem dX9_evenestTeam_105 : decode cX9_evenestTeam 105 = .ok (.iload 6, 2) := by decide +kernel
theorem dX9_evenestTeam_107 : decode cX9_evenestTeam 107 = .ok (.ireturn, 1) := by decide +kernel
theorem dX9_marksApart_0 : decode cX9_marksApart 0 = .ok (.iconst 0, 1) := by decide +kernel
theorem dX9_marksApart_1 : decode cX9_marksApart 1 = .ok (.istore_n 3, 1) := by decide +kernel
theorem dX9_marksApart_2 : decode cX9_marksApart 2 = .ok (.iconst 0, 1) := by decide +kernel
theorem dX9_marksApart_3 : decode cX9_marksApart 3 = .ok (.istore 4, 2) := by decide +kernel
theorem dX9_marksApart_5 : decode cX9_marksApart 5 = .ok (.iload 4, 2) := by decide +kernel
theorem dX9_marksApart_7 : decode cX9_marksApart 7 = .ok (.aload_n 0, 1) := by decide +kernel
theorem dX9_marksApart_8 : decode cX9_marksApart 8 = .ok (.getfield 62, 3) := by decide +kernel
theorem dX9_marksApart_11 : decode cX9_marksApart 11 = .ok (.if_icmp .ge 58, 3) := by decide +kernel
theorem dX9_marksApart_14 : decode cX9_marksApart 14 = .ok (.iload_n 1, 1) := by decide +kernel
theorem dX9_marksApart_15 : decode cX9_marksApart 15 = .ok (.iload 4, 2) := by decide +kernel
theorem dX9_marksApart_17 : decode cX9_marksApart 17 = .ok (.ishr, 1) := by decide +kernel
theorem dX9_marksApart_18 : decode cX9_marksApart 18 = .ok (.iconst 1, 1) := by decide +kernel
theorem dX9_marksApart_19 : decode cX9_marksApart 19 = .ok (.iand, 1) := by decide +kernel
theorem dX9_marksApart_20 : decode cX9_marksApart 20 = .ok (.iconst 1, 1) := by decide +kernel
theorem dX9_marksApart_21 : decode cX9_marksApart 21 = .ok (.if_icmp .ne 19, 3) := by decide +kernel
theorem dX9_marksApart_24 : decode cX9_marksApart 24 = .ok (.iload_n 3, 1) := by decide +kernel
theorem dX9_marksApart_25 : decode cX9_marksApart 25 = .ok (.aload_n 0, 1) := by decide +kernel
theorem dX9_marksApart_26 : decode cX9_marksApart 26 = .ok (.getfield 11, 3) := by decide +kernel
theorem dX9_marksApart_29 : decode cX9_marksApart 29 = .ok (.iload 4, 2) := by decide +kernel
theorem dX9_marksApart_31 : decode cX9_marksApart 31 = .ok (.aaload, 1) := by decide +kernel
theorem dX9_marksApart_32 : decode cX9_marksApart 32 = .ok (.getfield 243, 3) := by decide +kernel
theorem dX9_marksApart_35 : decode cX9_marksApart 35 = .ok (.iadd, 1) := by decide +kernel
theorem dX9_marksApart_36 : decode cX9_marksApart 36 = .ok (.istore_n 3, 1) := by decide +kernel
theorem dX9_marksApart_37 : decode cX9_marksApart 37 = .ok (.goto 26, 3) := by decide +kernel
theorem dX9_marksApart_40 : decode cX9_marksApart 40 = .ok (.iload_n 2, 1) := by decide +kernel
theorem dX9_marksApart_41 : decode cX9_marksApart 41 = .ok (.iload 4, 2) := by decide +kernel
theorem dX9_marksApart_43 : decode cX9_marksApart 43 = .ok (.ishr, 1) := by decide +kernel
theorem dX9_marksApart_44 : decode cX9_marksApart 44 = .ok (.iconst 1, 1) := by decide +kernel
theorem dX9_marksApart_45 : decode cX9_marksApart 45 = .ok (.iand, 1) := by decide +kernel
theorem dX9_marksApart_46 : decode cX9_marksApart 46 = .ok (.iconst 1, 1) := by decide +kernel
theorem dX9_marksApart_47 : decode cX9_marksApart 47 = .ok (.if_icmp .ne 16, 3) := by decide +kernel
theorem dX9_marksApart_50 : decode cX9_marksApart 50 = .ok (.iload_n 3, 1) := by decide +kernel
theorem dX9_marksApart_51 : decode cX9_marksApart 51 = .ok (.aload_n 0, 1) := by decide +kernel
theorem dX9_marksApart_52 : decode cX9_marksApart 52 = .ok (.getfield 11, 3) := by decide +kernel
theorem dX9_marksApart_55 : decode cX9_marksApart 55 = .ok (.iload 4, 2) := by decide +kernel
theorem dX9_marksApart_57 : decode cX9_marksApart 57 = .ok (.aaload, 1) := by decide +kernel
theorem dX9_marksApart_58 : decode cX9_marksApart 58 = .ok (.getfield 243, 3) := by decide +kernel
theorem dX9_marksApart_61 : decode cX9_marksApart 61 = .ok (.isub, 1) := by decide +kernel
theorem dX9_marksApart_62 : decode cX9_marksApart 62 = .ok (.istore_n 3, 1) := by decide +kernel
theorem dX9_marksApart_63 : decode cX9_marksApart 63 = .ok (.iinc 4 1, 3) := by decide +kernel
theorem dX9_marksApart_66 : decode cX9_marksApart 66 = .ok (.goto (-61), 3) := by decide +kernel
theorem dX9_marksApart_69 : decode cX9_marksApart 69 = .ok (.iload_n 3, 1) := by decide +kernel
theorem dX9_marksApart_70 : decode cX9_marksApart 70 = .ok (.invokestatic 259, 3) := by decide +kernel
theorem dX9_marksApart_73 : decode cX9_marksApart 73 = .ok (.ireturn, 1) := by decide +kernel
theorem dX9_best_0 : decode cX9_best 0 = .ok (.aload_n 0, 1) := by decide +kernel
theorem dX9_best_1 : decode cX9_best 1 = .ok (.getfield 32, 3) := by decide +kernel
theorem dX9_best_4 : decode cX9_best 4 = .ok (.invokevirtual 264, 3) := by decide +kernel
theorem dX9_best_7 : decode cX9_best 7 = .ok (.ireturn, 1) := by decide +kernel
theorem dX9_seed_0 : decode cX9_seed 0 = .ok (.iload_n 1, 1) := by decide +kernel
theorem dX9_seed_1 : decode cX9_seed 1 = .ok (.iconst 1, 1) := by decide +kernel
theorem dX9_seed_2 : decode cX9_seed 2 = .ok (.ldc_w 267, 3) := by decide +kernel
theorem dX9_seed_5 : decode cX9_seed 5 = .ok (.invokestatic 76, 3) := by decide +kernel
theorem dX9_seed_8 : decode cX9_seed 8 = .ok (.ifCond .ne 5, 3) := by decide +kernel
theorem dX9_seed_11 : decode cX9_seed 11 = .ok (.iconst (-1), 1) := by decide +kernel
theorem dX9_seed_12 : decode cX9_seed 12 = .ok (.ireturn, 1) := by decide +kernel
theorem dX9_seed_13 : decode cX9_seed 13 = .ok (.aload_n 0, 1) := by decide +kernel
theorem dX9_seed_14 : decode cX9_seed 14 = .ok (.getfield 39, 3) := by decide +kernel
theorem dX9_seed_17 : decode cX9_seed 17 = .ok (.iload_n 1, 1) := by decide +kernel
theorem dX9_seed_18 : decode cX9_seed 18 = .ok (.invokevirtual 268, 3) := by decide +kernel
theorem dX9_seed_21 : decode cX9_seed 21 = .ok (.aload_n 0, 1) := by decide +kernel
theorem dX9_seed_22 : decode cX9_seed 22 = .ok (.getfield 62, 3) := by decide +kernel
theorem dX9_seed_25 : decode cX9_seed 25 = .ok (.ireturn, 1) := by decide +kernel
theorem dX9_draw_0 : decode cX9_draw 0 = .ok (.aload_n 0, 1) := by decide +kernel
theorem dX9_draw_1 : decode cX9_draw 1 = .ok (.getfield 39, 3) := by decide +kernel
theorem dX9_draw_4 : decode cX9_draw 4 = .ok (.aload_n 0, 1) := by decide +kernel
theorem dX9_draw_5 : decode cX9_draw 5 = .ok (.getfield 62, 3) := by decide +kernel
theorem dX9_draw_8 : decode cX9_draw 8 = .ok (.invokevirtual 270, 3) := by decide +kernel
theorem dX9_draw_11 : decode cX9_draw 11 = .ok (.ireturn, 1) := by decide +kernel
theorem dX9_count_0 : decode cX9_count 0 = .ok (.iload_n 1, 1) := by decide +kernel
theorem dX9_count_1 : decode cX9_count 1 = .ok (.tableswitch 86 0 5 #[39, 44, 49, 57, 73, 81], 39) := by decide +kernel
theorem dX9_count_40 : decode cX9_count 40 = .ok (.aload_n 0, 1) := by decide +kernel
theorem dX9_count_41 : decode cX9_count 41 = .ok (.getfield 62, 3) := by decide +kernel
theorem dX9_count_44 : decode cX9_count 44 = .ok (.ireturn, 1) := by decide +kernel
theorem dX9_count_45 : decode cX9_count 45 = .ok (.aload_n 0, 1) := by decide +kernel
theorem dX9_count_46 : decode cX9_count 46 = .ok (.getfield 98, 3) := by decide +kernel
theorem dX9_count_49 : decode cX9_count 49 = .ok (.ireturn, 1) := by decide +kernel
theorem dX9_count_50 : decode cX9_count 50 = .ok (.aload_n 0, 1) := by decide +kernel
theorem dX9_count_51 : decode cX9_count 51 = .ok (.getfield 32, 3) := by decide +kernel
theorem dX9_count_54 : decode cX9_count 54 = .ok (.getfield 236, 3) := by decide +kernel
theorem dX9_count_57 : decode cX9_count 57 = .ok (.ireturn, 1) := by decide +kernel
theorem dX9_count_58 : decode cX9_count 58 = .ok (.aload_n 0, 1) := by decide +kernel
theorem dX9_count_59 : decode cX9_count 59 = .ok (.getfield 18, 3) := by decide +kernel
theorem dX9_count_62 : decode cX9_count 62 = .ok (.getfield 58, 3) := by decide +kernel
theorem dX9_count_65 : decode cX9_count 65 = .ok (.ifCond .eq 7, 3) := by decide +kernel
theorem dX9_count_68 : decode cX9_count 68 = .ok (.iconst 1, 1) := by decide +kernel
theorem dX9_count_69 : decode cX9_count 69 = .ok (.goto 4, 3) := by decide +kernel
theorem dX9_count_72 : decode cX9_count 72 = .ok (.iconst 0, 1) := by decide +kernel
theorem dX9_count_73 : decode cX9_count 73 = .ok (.ireturn, 1) := by decide +kernel
theorem dX9_count_74 : decode cX9_count 74 = .ok (.aload_n 0, 1) := by decide +kernel
theorem dX9_count_75 : decode cX9_count 75 = .ok (.getfield 25, 3) := by decide +kernel
theorem dX9_count_78 : decode cX9_count 78 = .ok (.getfield 123, 3) := by decide +kernel
theorem dX9_count_81 : decode cX9_count 81 = .ok (.ireturn, 1) := by decide +kernel
theorem dX9_count_82 : decode cX9_count 82 = .ok (.aload_n 0, 1) := by decide +kernel
theorem dX9_count_83 : decode cX9_count 83 = .ok (.getfield 150, 3) := by decide +kernel
theorem dX9_count_86 : decode cX9_count 86 = .ok (.ireturn, 1) := by decide +kernel
theorem dX9_count_87 : decode cX9_count 87 = .ok (.iconst (-1), 1) := by decide +kernel
theorem dX9_count_88 : decode cX9_count 88 = .ok (.ireturn, 1) := by decide +kernel
theorem dX9_isBox_0 : decode cX9_isBox 0 = .ok (.iload_n 1, 1) := by decide +kernel
theorem dX9_isBox_1 : decode cX9_isBox 1 = .ok (.ifCond .lt 15, 3) := by decide +kernel
theorem dX9_isBox_4 : decode cX9_isBox 4 = .ok (.iload_n 1, 1) := by decide +kernel
theorem dX9_isBox_5 : decode cX9_isBox 5 = .ok (.aload_n 0, 1) := by decide +kernel
theorem dX9_isBox_6 : decode cX9_isBox 6 = .ok (.getfield 62, 3) := by decide +kernel
theorem dX9_isBox_9 : decode cX9_isBox 9 = .ok (.if_icmp .ge 7, 3) := by decide +kernel
theorem dX9_isBox_12 : decode cX9_isBox 12 = .ok (.iconst 1, 1) := by decide +kernel
theorem dX9_isBox_13 : decode cX9_isBox 13 = .ok (.goto 4, 3) := by decide +kernel
theorem dX9_isBox_16 : decode cX9_isBox 16 = .ok (.iconst 0, 1) := by decide +kernel
theorem dX9_isBox_17 : decode cX9_isBox 17 = .ok (.ireturn, 1) := by decide +kernel
theorem dX9_isBase_0 : decode cX9_isBase 0 = .ok (.iload_n 0, 1) := by decide +kernel
theorem dX9_isBase_1 : decode cX9_isBase 1 = .ok (.ifCond .lt 12, 3) := by decide +kernel
theorem dX9_isBase_4 : decode cX9_isBase 4 = .ok (.iload_n 0, 1) := by decide +kernel
theorem dX9_isBase_5 : decode cX9_isBase 5 = .ok (.iconst 2, 1) := by decide +kernel
theorem dX9_isBase_6 : decode cX9_isBase 6 = .ok (.if_icmp .ge 7, 3) := by decide +kernel
theorem dX9_isBase_9 : decode cX9_isBase 9 = .ok (.iconst 1, 1) := by decide +kernel
theorem dX9_isBase_10 : decode cX9_isBase 10 = .ok (.goto 4, 3) := by decide +kernel
theorem dX9_isBase_13 : decode cX9_isBase 13 = .ok (.iconst 0, 1) := by decide +kernel
theorem dX9_isBase_14 : decode cX9_isBase 14 = .ok (.ireturn, 1) := by decide +kernel
theorem dX9_isWithin_0 : decode cX9_isWithin 0 = .ok (.iload_n 0, 1) := by decide +kernel
theorem dX9_isWithin_1 : decode cX9_isWithin 1 = .ok (.iload_n 1, 1) := by decide +kernel
theorem dX9_isWithin_2 : decode cX9_isWithin 2 = .ok (.if_icmp .lt 12, 3) := by decide +kernel
theorem dX9_isWithin_5 : decode cX9_isWithin 5 = .ok (.iload_n 0, 1) := by decide +kernel
theorem dX9_isWithin_6 : decode cX9_isWithin 6 = .ok (.iload_n 2, 1) := by decide +kernel
theorem dX9_isWithin_7 : decode cX9_isWithin 7 = .ok (.if_icmp .gt 7, 3) := by decide +kernel
theorem dX9_isWithin_10 : decode cX9_isWithin 10 = .ok (.iconst 1, 1) := by decide +kernel
theorem dX9_isWithin_11 : decode cX9_isWithin 11 = .ok (.goto 4, 3) := by decide +kernel
theorem dX9_isWithin_14 : decode cX9_isWithin 14 = .ok (.iconst 0, 1) := by decide +kernel
theorem dX9_isWithin_15 : decode cX9_isWithin 15 = .ok (.ireturn, 1) := by decide +kernel
theorem dX9_clearBit_0 : decode cX9_clearBit 0 = .ok (.iconst 0, 1) := by decide +kernel
theorem dX9_clearBit_1 : decode cX9_clearBit 1 = .ok (.istore_n 3, 1) := by decide +kernel
theorem dX9_clearBit_2 : decode cX9_clearBit 2 = .ok (.iconst 0, 1) := by decide +kernel
theorem dX9_clearBit_3 : decode cX9_clearBit 3 = .ok (.istore 4, 2) := by decide +kernel
theorem dX9_clearBit_5 : decode cX9_clearBit 5 = .ok (.iload 4, 2) := by decide +kernel
theorem dX9_clearBit_7 : decode cX9_clearBit 7 = .ok (.iload_n 2, 1) := by decide +kernel
theorem dX9_clearBit_8 : decode cX9_clearBit 8 = .ok (.if_icmp .ge 29, 3) := by decide +kernel
theorem dX9_clearBit_11 : decode cX9_clearBit 11 = .ok (.iload_n 0, 1) := by decide +kernel
theorem dX9_clearBit_12 : decode cX9_clearBit 12 = .ok (.iload 4, 2) := by decide +kernel
theorem dX9_clearBit_14 : decode cX9_clearBit 14 = .ok (.ishr, 1) := by decide +kernel
theorem dX9_clearBit_15 : decode cX9_clearBit 15 = .ok (.iconst 1, 1) := by decide +kernel
theorem dX9_clearBit_16 : decode cX9_clearBit 16 = .ok (.iand, 1) := by decide +kernel
theorem dX9_clearBit_17 : decode cX9_clearBit 17 = .ok (.ifCond .ne 14, 3) := by decide +kernel
theorem dX9_clearBit_20 : decode cX9_clearBit 20 = .ok (.iload_n 3, 1) := by decide +kernel
theorem dX9_clearBit_21 : decode cX9_clearBit 21 = .ok (.iload_n 1, 1) := by decide +kernel
theorem dX9_clearBit_22 : decode cX9_clearBit 22 = .ok (.if_icmp .ne 6, 3) := by decide +kernel
theorem dX9_clearBit_25 : decode cX9_clearBit 25 = .ok (.iload 4, 2) := by decide +kernel
theorem dX9_clearBit_27 : decode cX9_clearBit 27 = .ok (.ireturn, 1) := by decide +kernel
theorem dX9_clearBit_28 : decode cX9_clearBit 28 = .ok (.iinc 3 1, 3) := by decide +kernel
theorem dX9_clearBit_31 : decode cX9_clearBit 31 = .ok (.iinc 4 1, 3) := by decide +kernel
theorem dX9_clearBit_34 : decode cX9_clearBit 34 = .ok (.goto (-29), 3) := by decide +kernel
theorem dX9_clearBit_37 : decode cX9_clearBit 37 = .ok (.iconst 0, 1) := by decide +kernel
theorem dX9_clearBit_38 : decode cX9_clearBit 38 = .ok (.ireturn, 1) := by decide +kernel
theorem dX10_init_0 : decode cX10_init 0 = .ok (.aload_n 0, 1) := by decide +kernel
theorem dX10_init_1 : decode cX10_init 1 = .ok (.invokespecial 1, 3) := by decide +kernel
theorem dX10_init_4 : decode cX10_init 4 = .ok (.aload_n 0, 1) := by decide +kernel
theorem dX10_init_5 : decode cX10_init 5 = .ok (.bipush 32, 2) := by decide +kernel
theorem dX10_init_7 : decode cX10_init 7 = .ok (.newarray .int, 2) := by decide +kernel
theorem dX10_init_9 : decode cX10_init 9 = .ok (.putfield 7, 3) := by decide +kernel
theorem dX10_init_12 : decode cX10_init 12 = .ok (.aload_n 0, 1) := by decide +kernel
theorem dX10_init_13 : decode cX10_init 13 = .ok (.bipush 32, 2) := by decide +kernel
theorem dX10_init_15 : decode cX10_init 15 = .ok (.newarray .int, 2) := by decide +kernel
theorem dX10_init_17 : decode cX10_init 17 = .ok (.putfield 13, 3) := by decide +kernel
theorem dX10_init_20 : decode cX10_init 20 = .ok (.aload_n 0, 1) := by decide +kernel
theorem dX10_init_21 : decode cX10_init 21 = .ok (.bipush 32, 2) := by decide +kernel
theorem dX10_init_23 : decode cX10_init 23 = .ok (.newarray .int, 2) := by decide +kernel
theorem dX10_init_25 : decode cX10_init 25 = .ok (.putfield 16, 3) := by decide +kernel
theorem dX10_init_28 : decode cX10_init 28 = .ok (.aload_n 0, 1) := by decide +kernel
theorem dX10_init_29 : decode cX10_init 29 = .ok (.bipush 32, 2) := by decide +kernel
theorem dX10_init_31 : decode cX10_init 31 = .ok (.newarray .int, 2) := by decide +kernel
theorem dX10_init_33 : decode cX10_init 33 = .ok (.putfield 19, 3) := by decide +kernel
theorem dX10_init_36 : decode cX10_init 36 = .ok (.aload_n 0, 1) := by decide +kernel
theorem dX10_init_37 : decode cX10_init 37 = .ok (.bipush 16, 2) := by decide +kernel
theorem dX10_init_39 : decode cX10_init 39 = .ok (.newarray .int, 2) := by decide +kernel
theorem dX10_init_41 : decode cX10_init 41 = .ok (.putfield 22, 3) := by decide +kernel
theorem dX10_init_44 : decode cX10_init 44 = .ok (.aload_n 0, 1) := by decide +kernel
theorem dX10_init_45 : decode cX10_init 45 = .ok (.bipush 16, 2) := by decide +kernel
theorem dX10_init_47 : decode cX10_init 47 = .ok (.newarray .int, 2) := by decide +kernel
theorem dX10_init_49 : decode cX10_init 49 = .ok (.putfield 25, 3) := by decide +kernel
theorem dX10_init_52 : decode cX10_init 52 = .ok (.aload_n 0, 1) := by decide +kernel
theorem dX10_init_53 : decode cX10_init 53 = .ok (.bipush 16, 2) := by decide +kernel
theorem dX10_init_55 : decode cX10_init 55 = .ok (.newarray .int, 2) := by decide +kernel
theorem dX10_init_57 : decode cX10_init 57 = .ok (.putfield 28, 3) := by decide +kernel
theorem dX10_init_60 : decode cX10_init 60 = .ok (.aload_n 0, 1) := by decide +kernel
theorem dX10_init_61 : decode cX10_init 61 = .ok (.bipush 16, 2) := by decide +kernel
theorem dX10_init_63 : decode cX10_init 63 = .ok (.newarray .boolean, 2) := by decide +kernel
theorem dX10_init_65 : decode cX10_init 65 = .ok (.putfield 31, 3) := by decide +kernel
theorem dX10_init_68 : decode cX10_init 68 = .ok (.aload_n 0, 1) := by decide +kernel
theorem dX10_init_69 : decode cX10_init 69 = .ok (.bipush 32, 2) := by decide +kernel
theorem dX10_init_71 : decode cX10_init 71 = .ok (.newarray .int, 2) := by decide +kernel
theorem dX10_init_73 : decode cX10_init 73 = .ok (.putfield 35, 3) := by decide +kernel
theorem dX10_init_76 : decode cX10_init 76 = .ok (.aload_n 0, 1) := by decide +kernel
theorem dX10_init_77 : decode cX10_init 77 = .ok (.bipush 32, 2) := by decide +kernel
theorem dX10_init_79 : decode cX10_init 79 = .ok (.newarray .int, 2) := by decide +kernel
theorem dX10_init_81 : decode cX10_init 81 = .ok (.putfield 38, 3) := by decide +kernel
theorem dX10_init_84 : decode cX10_init 84 = .ok (.aload_n 0, 1) := by decide +kernel
theorem dX10_init_85 : decode cX10_init 85 = .ok (.bipush 32, 2) := by decide +kernel
theorem dX10_init_87 : decode cX10_init 87 = .ok (.newarray .int, 2) := by decide +kernel
theorem dX10_init_89 : decode cX10_init 89 = .ok (.putfield 41, 3) := by decide +kernel
theorem dX10_init_92 : decode cX10_init 92 = .ok (.aload_n 0, 1) := by decide +kernel
theorem dX10_init_93 : decode cX10_init 93 = .ok (.bipush 32, 2) := by decide +kernel
theorem dX10_init_95 : decode cX10_init 95 = .ok (.newarray .int, 2) := by decide +kernel
theorem dX10_init_97 : decode cX10_init 97 = .ok (.putfield 44, 3) := by decide +kernel
theorem dX10_init_100 : decode cX10_init 100 = .ok (.aload_n 0, 1) := by decide +kernel
theorem dX10_init_101 : decode cX10_init 101 = .ok (.sipush 400, 3) := by decide +kernel
theorem dX10_init_104 : decode cX10_init 104 = .ok (.newarray .int, 2) := by decide +kernel
theorem dX10_init_106 : decode cX10_init 106 = .ok (.putfield 47, 3) := by decide +kernel
theorem dX10_init_109 : decode cX10_init 109 = .ok (.aload_n 0, 1) := by decide +kernel
theorem dX10_init_110 : decode cX10_init 110 = .ok (.sipush 400, 3) := by decide +kernel
theorem dX10_init_113 : decode cX10_init 113 = .ok (.newarray .int, 2) := by decide +kernel
theorem dX10_init_115 : decode cX10_init 115 = .ok (.putfield 50, 3) := by decide +kernel
theorem dX10_init_118 : decode cX10_init 118 = .ok (.aload_n 0, 1) := by decide +kernel
theorem dX10_init_119 : decode cX10_init 119 = .ok (.sipush 400, 3) := by decide +kernel
theorem dX10_init_122 : decode cX10_init 122 = .ok (.newarray .int, 2) := by decide +kernel
theorem dX10_init_124 : decode cX10_init 124 = .ok (.putfield 53, 3) := by decide +kernel
theorem dX10_init_127 : decode cX10_init 127 = .ok (.aload_n 0, 1) := by decide +kernel
theorem dX10_init_128 : decode cX10_init 128 = .ok (.sipush 400, 3) := by decide +kernel
theorem dX10_init_131 : decode cX10_init 131 = .ok (.newarray .int, 2) := by decide +kernel
theorem dX10_init_133 : decode cX10_init 133 = .ok (.putfield 56, 3) := by decide +kernel
theorem dX10_init_136 : decode cX10_init 136 = .ok (.aload_n 0, 1) := by decide +kernel
theorem dX10_init_137 : decode cX10_init 137 = .ok (.sipush 400, 3) := by decide +kernel
theorem dX10_init_140 : decode cX10_init 140 = .ok (.newarray .int, 2) := by decide +kernel
theorem dX10_init_142 : decode cX10_init 142 = .ok (.putfield 59, 3) := by decide +kernel
theorem dX10_init_145 : decode cX10_init 145 = .ok (.aload_n 0, 1) := by decide +kernel
theorem dX10_init_146 : decode cX10_init 146 = .ok (.sipush 320, 3) := by decide +kernel
theorem dX10_init_149 : decode cX10_init 149 = .ok (.newarray .int, 2) := by decide +kernel
theorem dX10_init_151 : decode cX10_init 151 = .ok (.putfield 62, 3) := by decide +kernel
theorem dX10_init_154 : decode cX10_init 154 = .ok (.aload_n 0, 1) := by decide +kernel
theorem dX10_init_155 : decode cX10_init 155 = .ok (.bipush 16, 2) := by decide +kernel
theorem dX10_init_157 : decode cX10_init 157 = .ok (.newarray .int, 2) := by decide +kernel
theorem dX10_init_159 : decode cX10_init 159 = .ok (.putfield 65, 3) := by decide +kernel
theorem dX10_init_162 : decode cX10_init 162 = .ok (.return_, 1) := by decide +kernel
theorem dX10_in_0 : decode cX10_in 0 = .ok (.iload_n 0, 1) := by decide +kernel
theorem dX10_in_1 : decode cX10_in 1 = .ok (.iload_n 1, 1) := by decide +kernel
theorem dX10_in_2 : decode cX10_in 2 = .ok (.if_icmp .lt 12, 3) := by decide +kernel
theorem dX10_in_5 : decode cX10_in 5 = .ok (.iload_n 0, 1) := by decide +kernel
theorem dX10_in_6 : decode cX10_in 6 = .ok (.iload_n 2, 1) := by decide +kernel
theorem dX10_in_7 : decode cX10_in 7 = .ok (.if_icmp .gt 7, 3) := by decide +kernel
theorem dX10_in_10 : decode cX10_in 10 = .ok (.iconst 1, 1) := by decide +kernel
theorem dX10_in_11 : decode cX10_in 11 = .ok (.goto 4, 3) := by decide +kernel
theorem dX10_in_14 : decode cX10_in 14 = .ok (.iconst 0, 1) := by decide +kernel
theorem dX10_in_15 : decode cX10_in 15 = .ok (.ireturn, 1) := by decide +kernel
theorem dX10_isBox_0 : decode cX10_isBox 0 = .ok (.iload_n 1, 1) := by decide +kernel
theorem dX10_isBox_1 : decode cX10_isBox 1 = .ok (.iconst 0, 1) := by decide +kernel
theorem dX10_isBox_2 : decode cX10_isBox 2 = .ok (.aload_n 0, 1) := by decide +kernel
theorem dX10_isBox_3 : decode cX10_isBox 3 = .ok (.getfield 68, 3) := by decide +kernel
theorem dX10_isBox_6 : decode cX10_isBox 6 = .ok (.iconst 1, 1) := by decide +kernel
theorem dX10_isBox_7 : decode cX10_isBox 7 = .ok (.isub, 1) := by decide +kernel
theorem dX10_isBox_8 : decode cX10_isBox 8 = .ok (.invokestatic 72, 3) := by decide +kernel
theorem dX10_isBox_11 : decode cX10_isBox 11 = .ok (.ireturn, 1) := by decide +kernel
theorem dX10_isBase_0 : decode cX10_isBase 0 = .ok (.iload_n 0, 1) := by decide +kernel
theorem dX10_isBase_1 : decode cX10_isBase 1 = .ok (.iconst 0, 1) := by decide +kernel
theorem dX10_isBase_2 : decode cX10_isBase 2 = .ok (.iconst 1, 1) := by decide +kernel
theorem dX10_isBase_3 : decode cX10_isBase 3 = .ok (.invokestatic 72, 3) := by decide +kernel
theorem dX10_isBase_6 : decode cX10_isBase 6 = .ok (.ireturn, 1) := by decide +kernel
theorem dX10_box_0 : decode cX10_box 0 = .ok (.aload_n 0, 1) := by decide +kernel
theorem dX10_box_1 : decode cX10_box 1 = .ok (.getfield 76, 3) := by decide +kernel
theorem dX10_box_4 : decode cX10_box 4 = .ok (.ifCond .eq 6, 3) := by decide +kernel
theorem dX10_box_7 : decode cX10_box 7 = .ok (.bipush (-2), 2) := by decide +kernel
theorem dX10_box_9 : decode cX10_box 9 = .ok (.ireturn, 1) := by decide +kernel
theorem dX10_box_10 : decode cX10_box 10 = .ok (.aload_n 0, 1) := by decide +kernel
theorem dX10_box_11 : decode cX10_box 11 = .ok (.getfield 68, 3) := by decide +kernel
theorem dX10_box_14 : decode cX10_box 14 = .ok (.bipush 16, 2) := by decide +kernel
theorem dX10_box_16 : decode cX10_box 16 = .ok (.if_icmp .ne 6, 3) := by decide +kernel
theorem dX10_box_19 : decode cX10_box 19 = .ok (.bipush (-3), 2) := by decide +kernel
theorem dX10_box_21 : decode cX10_box 21 = .ok (.ireturn, 1) := by decide +kernel
theorem dX10_box_22 : decode cX10_box 22 = .ok (.aload_n 0, 1) := by decide +kernel
theorem dX10_box_23 : decode cX10_box 23 = .ok (.dup, 1) := by decide +kernel
theorem dX10_box_24 : decode cX10_box 24 = .ok (.getfield 68, 3) := by decide +kernel
theorem dX10_box_27 : decode cX10_box 27 = .ok (.iconst 1, 1) := by decide +kernel
theorem dX10_box_28 : decode cX10_box 28 = .ok (.iadd, 1) := by decide +kernel
theorem dX10_box_29 : decode cX10_box 29 = .ok (.putfield 68, 3) := by decide +kernel
theorem dX10_box_32 : decode cX10_box 32 = .ok (.aload_n 0, 1) := by decide +kernel
theorem dX10_box_33 : decode cX10_box 33 = .ok (.getfield 68, 3) := by decide +kernel
theorem dX10_box_36 : decode cX10_box 36 = .ok (.iconst 1, 1) := by decide +kernel
theorem dX10_box_37 : decode cX10_box 37 = .ok (.isub, 1) := by decide +kernel
theorem dX10_box_38 : decode cX10_box 38 = .ok (.ireturn, 1) := by decide +kernel
theorem dX10_road_0 : decode cX10_road 0 = .ok (.aload_n 0, 1) := by decide +kernel
theorem dX10_road_1 : decode cX10_road 1 = .ok (.iload_n 1, 1) := by decide +kernel
theorem dX10_road_2 : decode cX10_road 2 = .ok (.invokevirtual 80, 3) := by decide +kernel
theorem dX10_road_5 : decode cX10_road 5 = .ok (.ifCond .eq 31, 3) := by decide +kernel
theorem dX10_road_8 : decode cX10_road 8 = .ok (.iload_n 2, 1) := by decide +kernel
theorem dX10_road_9 : decode cX10_road 9 = .ok (.invokestatic 84, 3) := by decide +kernel
theorem dX10_road_12 : decode cX10_road 12 = .ok (.ifCond .eq 24, 3) := by decide +kernel
theorem dX10_road_15 : decode cX10_road 15 = .ok (.iload_n 3, 1) := by decide +kernel
theorem dX10_road_16 : decode cX10_road 16 = .ok (.iconst 0, 1) := by decide +kernel
theorem dX10_road_17 : decode cX10_road 17 = .ok (.ldc 87, 2) := by decide +kernel
theorem dX10_road_19 : decode cX10_road 19 = .ok (.invokestatic 72, 3) := by decide +kernel
theorem dX10_road_22 : decode cX10_road 22 = .ok (.ifCond .eq 14, 3) := by decide +kernel
theorem dX10_road_25 : decode cX10_road 25 = .ok (.iload 4, 2) := by decide +kernel
theorem dX10_road_27 : decode cX10_road 27 = .ok (.iconst 0, 1) := by decide +kernel
theorem dX10_road_28 : decode cX10_road 28 = .ok (.bipush 9, 2) := by decide +kernel
theorem dX10_road_30 : decode cX10_road 30 = .ok (.invokestatic 72, 3) := by decide +kernel
theorem dX10_road_33 : decode cX10_road 33 = .ok (.ifCond .ne 5, 3) := by decide +kernel
theorem dX10_road_36 : decode cX10_road 36 = .ok (.iconst (-1), 1) := by decide +kernel
theorem dX10_road_37 : decode cX10_road 37 = .ok (.ireturn, 1) := by decide +kernel
theorem dX10_road_38 : decode cX10_road 38 = .ok (.aload_n 0, 1) := by decide +kernel
theorem dX10_road_39 : decode cX10_road 39 = .ok (.getfield 7, 3) := by decide +kernel
theorem dX10_road_42 : decode cX10_road 42 = .ok (.iconst 2, 1) := by decide +kernel
theorem dX10_road_43 : decode cX10_road 43 = .ok (.iload_n 1, 1) := by decide +kernel
theorem dX10_road_44 : decode cX10_road 44 = .ok (.imul, 1) := by decide +kernel
theorem dX10_road_45 : decode cX10_road 45 = .ok (.iload_n 2, 1) := by decide +kernel
theorem dX10_road_46 : decode cX10_road 46 = .ok (.iadd, 1) := by decide +kernel
theorem dX10_road_47 : decode cX10_road 47 = .ok (.iload_n 3, 1) := by decide +kernel
theorem dX10_road_48 : decode cX10_road 48 = .ok (.iastore, 1) := by decide +kernel
theorem dX10_road_49 : decode cX10_road 49 = .ok (.aload_n 0, 1) := by decide +kernel
theorem dX10_road_50 : decode cX10_road 50 = .ok (.getfield 13, 3) := by decide +kernel
theorem dX10_road_53 : decode cX10_road 53 = .ok (.iconst 2, 1) := by decide +kernel
theorem dX10_road_54 : decode cX10_road 54 = .ok (.iload_n 1, 1) := by decide +kernel
theorem dX10_road_55 : decode cX10_road 55 = .ok (.imul, 1) := by decide +kernel
theorem dX10_road_56 : decode cX10_road 56 = .ok (.iload_n 2, 1) := by decide +kernel
theorem dX10_road_57 : decode cX10_road 57 = .ok (.iadd, 1) := by decide +kernel
theorem dX10_road_58 : decode cX10_road 58 = .ok (.iload 4, 2) := by decide +kernel
theorem dX10_road_60 : decode cX10_road 60 = .ok (.iastore, 1) := by decide +kernel
theorem dX10_road_61 : decode cX10_road 61 = .ok (.aload_n 0, 1) := by decide +kernel
theorem dX10_road_62 : decode cX10_road 62 = .ok (.getfield 16, 3) := by decide +kernel
theorem dX10_road_65 : decode cX10_road 65 = .ok (.iconst 2, 1) := by decide +kernel
theorem dX10_road_66 : decode cX10_road 66 = .ok (.iload_n 1, 1) := by decide +kernel
theorem dX10_road_67 : decode cX10_road 67 = .ok (.imul, 1) := by decide +kernel
theorem dX10_road_68 : decode cX10_road 68 = .ok (.iload_n 2, 1) := by decide +kernel
theorem dX10_road_69 : decode cX10_road 69 = .ok (.iadd, 1) := by decide +kernel
theorem dX10_road_70 : decode cX10_road 70 = .ok (.iconst 0, 1) := by decide +kernel
theorem dX10_road_71 : decode cX10_road 71 = .ok (.iastore, 1) := by decide +kernel
theorem dX10_road_72 : decode cX10_road 72 = .ok (.iconst 0, 1) := by decide +kernel
theorem dX10_road_73 : decode cX10_road 73 = .ok (.ireturn, 1) := by decide +kernel
theorem dX10_rule_0 : decode cX10_rule 0 = .ok (.iload_n 1, 1) := by decide +kernel
theorem dX10_rule_1 : decode cX10_rule 1 = .ok (.iconst 0, 1) := by decide +kernel
theorem dX10_rule_2 : decode cX10_rule 2 = .ok (.iconst 1, 1) := by decide +kernel
theorem dX10_rule_3 : decode cX10_rule 3 = .ok (.invokestatic 72, 3) := by decide +kernel
theorem dX10_rule_6 : decode cX10_rule 6 = .ok (.ifCond .eq 21, 3) := by decide +kernel
theorem dX10_rule_9 : decode cX10_rule 9 = .ok (.iload_n 2, 1) := by decide +kernel
theorem dX10_rule_10 : decode cX10_rule 10 = .ok (.iconst 0, 1) := by decide +kernel
theorem dX10_rule_11 : decode cX10_rule 11 = .ok (.iload_n 1, 1) := by decide +kernel
theorem dX10_rule_12 : decode cX10_rule 12 = .ok (.ifCond .ne 7, 3) := by decide +kernel
theorem dX10_rule_15 : decode cX10_rule 15 = .ok (.iconst 1, 1) := by decide +kernel
theorem dX10_rule_16 : decode cX10_rule 16 = .ok (.goto 5, 3) := by decide +kernel
theorem dX10_rule_19 : decode cX10_rule 19 = .ok (.bipush 16, 2) := by decide +kernel
theorem dX10_rule_21 : decode cX10_rule 21 = .ok (.invokestatic 72, 3) := by decide +kernel
theorem dX10_rule_24 : decode cX10_rule 24 = .ok (.ifCond .ne 5, 3) := by decide +kernel
theorem dX10_rule_27 : decode cX10_rule 27 = .ok (.iconst (-1), 1) := by decide +kernel
theorem dX10_rule_28 : decode cX10_rule 28 = .ok (.ireturn, 1) := by decide +kernel
theorem dX10_rule_29 : decode cX10_rule 29 = .ok (.iload_n 1, 1) := by decide +kernel
theorem dX10_rule_30 : decode cX10_rule 30 = .ok (.iconst 1, 1) := by decide +kernel
theorem dX10_rule_31 : decode cX10_rule 31 = .ok (.if_icmp .ne 10, 3) := by decide +kernel
theorem dX10_rule_34 : decode cX10_rule 34 = .ok (.aload_n 0, 1) := by decide +kernel
theorem dX10_rule_35 : decode cX10_rule 35 = .ok (.getfield 88, 3) := by decide +kernel
theorem dX10_rule_38 : decode cX10_rule 38 = .ok (.goto 15, 3) := by decide +kernel
theorem dX10_rule_41 : decode cX10_rule 41 = .ok (.aload_n 0, 1) := by decide +kernel
theorem dX10_rule_42 : decode cX10_rule 42 = .ok (.getfield 91, 3) := by decide +kernel
theorem dX10_rule_45 : decode cX10_rule 45 = .ok (.ifCond .eq 7, 3) := by decide +kernel
theorem dX10_rule_48 : decode cX10_rule 48 = .ok (.iconst 1, 1) := by decide +kernel
theorem dX10_rule_49 : decode cX10_rule 49 = .ok (.goto 4, 3) := by decide +kernel
theorem dX10_rule_52 : decode cX10_rule 52 = .ok (.iconst 0, 1) := by decide +kernel
theorem dX10_rule_53 : decode cX10_rule 53 = .ok (.istore_n 3, 1) := by decide +kernel
theorem dX10_rule_54 : decode cX10_rule 54 = .ok (.aload_n 0, 1) := by decide +kernel
theorem dX10_rule_55 : decode cX10_rule 55 = .ok (.iload_n 1, 1) := by decide +kernel
theorem dX10_rule_56 : decode cX10_rule 56 = .ok (.ifCond .ne 16, 3) := by decide +kernel
theorem dX10_rule_59 : decode cX10_rule 59 = .ok (.iload_n 2, 1) := by decide +kernel
theorem dX10_rule_60 : decode cX10_rule 60 = .ok (.iconst 1, 1) := by decide +kernel
theorem dX10_rule_61 : decode cX10_rule 61 = .ok (.if_icmp .ne 7, 3) := by decide +kernel
theorem dX10_rule_64 : decode cX10_rule 64 = .ok (.iconst 1, 1) := by decide +kernel
theorem dX10_rule_65 : decode cX10_rule 65 = .ok (.goto 11, 3) := by decide +kernel
theorem dX10_rule_68 : decode cX10_rule 68 = .ok (.iconst 0, 1) := by decide +kernel
theorem dX10_rule_69 : decode cX10_rule 69 = .ok (.goto 7, 3) := by decide +kernel
theorem dX10_rule_72 : decode cX10_rule 72 = .ok (.aload_n 0, 1) := by decide +kernel
theorem dX10_rule_73 : decode cX10_rule 73 = .ok (.getfield 91, 3) := by decide +kernel
theorem dX10_rule_76 : decode cX10_rule 76 = .ok (.putfield 91, 3) := by decide +kernel
theorem dX10_rule_79 : decode cX10_rule 79 = .ok (.aload_n 0, 1) := by decide +kernel
theorem dX10_rule_80 : decode cX10_rule 80 = .ok (.iload_n 1, 1) := by decide +kernel
theorem dX10_rule_81 : decode cX10_rule 81 = .ok (.iconst 1, 1) := by decide +kernel
theorem dX10_rule_82 : decode cX10_rule 82 = .ok (.if_icmp .ne 7, 3) := by decide +kernel
theorem dX10_rule_85 : decode cX10_rule 85 = .ok (.iload_n 2, 1) := by decide +kernel
theorem dX10_rule_86 : decode cX10_rule 86 = .ok (.goto 7, 3) := by decide +kernel
theorem dX10_rule_89 : decode cX10_rule 89 = .ok (.aload_n 0, 1) := by decide +kernel
theorem dX10_rule_90 : decode cX10_rule 90 = .ok (.getfield 88, 3) := by decide +kernel
theorem dX10_rule_93 : decode cX10_rule 93 = .ok (.putfield 88, 3) := by decide +kernel
theorem dX10_rule_96 : decode cX10_rule 96 = .ok (.iload_n 3, 1) := by decide +kernel
theorem dX10_rule_97 : decode cX10_rule 97 = .ok (.ireturn, 1) := by decide +kernel
theorem dX10_ask_0 : decode cX10_ask 0 = .ok (.iload_n 1, 1) := by decide +kernel
theorem dX10_ask_1 : decode cX10_ask 1 = .ok (.iconst 0, 1) := by decide +kernel
theorem dX10_ask_2 : decode cX10_ask 2 = .ok (.iconst 2, 1) := by decide +kernel
theorem dX10_ask_3 : decode cX10_ask 3 = .ok (.invokestatic 72, 3) := by decide +kernel
theorem dX10_ask_6 : decode cX10_ask 6 = .ok (.ifCond .eq 31, 3) := by decide +kernel
theorem dX10_ask_9 : decode cX10_ask 9 = .ok (.iload_n 1, 1) := by decide +kernel
theorem dX10_ask_10 : decode cX10_ask 10 = .ok (.iconst 2, 1) := by decide +kernel
theorem dX10_ask_11 : decode cX10_ask 11 = .ok (.if_icmp .ne 12, 3) := by decide +kernel
theorem dX10_ask_14 : decode cX10_ask 14 = .ok (.iload_n 2, 1) := by decide +kernel
theorem dX10_ask_15 : decode cX10_ask 15 = .ok (.iconst 2, 1) := by decide +kernel
theorem dX10_ask_16 : decode cX10_ask 16 = .ok (.iconst 5, 1) := by decide +kernel
theorem dX10_ask_17 : decode cX10_ask 17 = .ok (.invokestatic 72, 3) := by decide +kernel
theorem dX10_ask_20 : decode cX10_ask 20 = .ok (.ifCond .eq 17, 3) := by decide +kernel
theorem dX10_ask_23 : decode cX10_ask 23 = .ok (.iload_n 3, 1) := by decide +kernel
theorem dX10_ask_24 : decode cX10_ask 24 = .ok (.aload_n 0, 1) := by decide +kernel
theorem dX10_ask_25 : decode cX10_ask 25 = .ok (.getfield 94, 3) := by decide +kernel
theorem dX10_ask_28 : decode cX10_ask 28 = .ok (.if_icmp .le 9, 3) := by decide +kernel
theorem dX10_ask_31 : decode cX10_ask 31 = .ok (.iload_n 3, 1) := by decide +kernel
theorem dX10_ask_32 : decode cX10_ask 32 = .ok (.ldc 97, 2) := by decide +kernel
theorem dX10_ask_34 : decode cX10_ask 34 = .ok (.if_icmp .le 5, 3) := by decide +kernel
theorem dX10_ask_37 : decode cX10_ask 37 = .ok (.iconst (-1), 1) := by decide +kernel
theorem dX10_ask_38 : decode cX10_ask 38 = .ok (.ireturn, 1) := by decide +kernel
theorem dX10_ask_39 : decode cX10_ask 39 = .ok (.aload_n 0, 1) := by decide +kernel
theorem dX10_ask_40 : decode cX10_ask 40 = .ok (.getfield 76, 3) := by decide +kernel
theorem dX10_ask_43 : decode cX10_ask 43 = .ok (.ifCond .eq 6, 3) := by decide +kernel
theorem dX10_ask_46 : decode cX10_ask 46 = .ok (.bipush (-2), 2) := by decide +kernel
theorem dX10_ask_48 : decode cX10_ask 48 = .ok (.ireturn, 1) := by decide +kernel
theorem dX10_ask_49 : decode cX10_ask 49 = .ok (.aload_n 0, 1) := by decide +kernel
theorem dX10_ask_50 : decode cX10_ask 50 = .ok (.iconst 1, 1) := by decide +kernel
theorem dX10_ask_51 : decode cX10_ask 51 = .ok (.putfield 76, 3) := by decide +kernel
theorem dX10_ask_54 : decode cX10_ask 54 = .ok (.aload_n 0, 1) := by decide +kernel
theorem dX10_ask_55 : decode cX10_ask 55 = .ok (.iload_n 1, 1) := by decide +kernel
theorem dX10_ask_56 : decode cX10_ask 56 = .ok (.putfield 98, 3) := by decide +kernel
theorem dX10_ask_59 : decode cX10_ask 59 = .ok (.aload_n 0, 1) := by decide +kernel
theorem dX10_ask_60 : decode cX10_ask 60 = .ok (.iload_n 2, 1) := by decide +kernel
theorem dX10_ask_61 : decode cX10_ask 61 = .ok (.putfield 101, 3) := by decide +kernel
theorem dX10_ask_64 : decode cX10_ask 64 = .ok (.aload_n 0, 1) := by decide +kernel
theorem dX10_ask_65 : decode cX10_ask 65 = .ok (.iload_n 3, 1) := by decide +kernel
theorem dX10_ask_66 : decode cX10_ask 66 = .ok (.putfield 104, 3) := by decide +kernel
theorem dX10_ask_69 : decode cX10_ask 69 = .ok (.aload_n 0, 1) := by decide +kernel
theorem dX10_ask_70 : decode cX10_ask 70 = .ok (.iconst 0, 1) := by decide +kernel
theorem dX10_ask_71 : decode cX10_ask 71 = .ok (.putfield 107, 3) := by decide +kernel
theorem dX10_ask_74 : decode cX10_ask 74 = .ok (.iconst 0, 1) := by decide +kernel
theorem dX10_ask_75 : decode cX10_ask 75 = .ok (.istore 4, 2) := by decide +kernel
theorem dX10_ask_77 : decode cX10_ask 77 = .ok (.iload 4, 2) := by decide +kernel
theorem dX10_ask_79 : decode cX10_ask 79 = .ok (.bipush 16, 2) := by decide +kernel
theorem dX10_ask_81 : decode cX10_ask 81 = .ok (.if_icmp .ge 25, 3) := by decide +kernel
theorem dX10_ask_84 : decode cX10_ask 84 = .ok (.aload_n 0, 1) := by decide +kernel
theorem dX10_ask_85 : decode cX10_ask 85 = .ok (.getfield 22, 3) := by decide +kernel
theorem dX10_ask_88 : decode cX10_ask 88 = .ok (.iload 4, 2) := by decide +kernel
theorem dX10_ask_90 : decode cX10_ask 90 = .ok (.iconst 0, 1) := by decide +kernel
theorem dX10_ask_91 : decode cX10_ask 91 = .ok (.iastore, 1) := by decide +kernel
theorem dX10_ask_92 : decode cX10_ask 92 = .ok (.aload_n 0, 1) := by decide +kernel
theorem dX10_ask_93 : decode cX10_ask 93 = .ok (.getfield 31, 3) := by decide +kernel
theorem dX10_ask_96 : decode cX10_ask 96 = .ok (.iload 4, 2) := by decide +kernel
theorem dX10_ask_98 : decode cX10_ask 98 = .ok (.iconst 1, 1) := by decide +kernel
theorem dX10_ask_99 : decode cX10_ask 99 = .ok (.bastore, 1) := by decide +kernel
theorem dX10_ask_100 : decode cX10_ask 100 = .ok (.iinc 4 1, 3) := by decide +kernel
theorem dX10_ask_103 : decode cX10_ask 103 = .ok (.goto (-26), 3) := by decide +kernel
theorem dX10_ask_106 : decode cX10_ask 106 = .ok (.iconst 0, 1) := by decide +kernel
theorem dX10_ask_107 : decode cX10_ask 107 = .ok (.istore 4, 2) := by decide +kernel
theorem dX10_ask_109 : decode cX10_ask 109 = .ok (.iload 4, 2) := by decide +kernel
theorem dX10_ask_111 : decode cX10_ask 111 = .ok (.bipush 32, 2) := by decide +kernel
theorem dX10_ask_113 : decode cX10_ask 113 = .ok (.if_icmp .ge 41, 3) := by decide +kernel
theorem dX10_ask_116 : decode cX10_ask 116 = .ok (.aload_n 0, 1) := by decide +kernel
theorem dX10_ask_117 : decode cX10_ask 117 = .ok (.getfield 19, 3) := by decide +kernel
theorem dX10_ask_120 : decode cX10_ask 120 = .ok (.iload 4, 2) := by decide +kernel
theorem dX10_ask_122 : decode cX10_ask 122 = .ok (.iconst 0, 1) := by decide +kernel
theorem dX10_ask_123 : decode cX10_ask 123 = .ok (.iastore, 1) := by decide +kernel
theorem dX10_ask_124 : decode cX10_ask 124 = .ok (.aload_n 0, 1) := by decide +kernel
theorem dX10_ask_125 : decode cX10_ask 125 = .ok (.getfield 38, 3) := by decide +kernel
theorem dX10_ask_128 : decode cX10_ask 128 = .ok (.iload 4, 2) := by decide +kernel
theorem dX10_ask_130 : decode cX10_ask 130 = .ok (.iconst 0, 1) := by decide +kernel
theorem dX10_ask_131 : decode cX10_ask 131 = .ok (.iastore, 1) := by decide +kernel
theorem dX10_ask_132 : decode cX10_ask 132 = .ok (.aload_n 0, 1) := by decide +kernel
theorem dX10_ask_133 : decode cX10_ask 133 = .ok (.getfield 41, 3) := by decide +kernel
theorem dX10_ask_136 : decode cX10_ask 136 = .ok (.iload 4, 2) := by decide +kernel
theorem dX10_ask_138 : decode cX10_ask 138 = .ok (.iconst 0, 1) := by decide +kernel
theorem dX10_ask_139 : decode cX10_ask 139 = .ok (.iastore, 1) := by decide +kernel
theorem dX10_ask_140 : decode cX10_ask 140 = .ok (.aload_n 0, 1) := by decide +kernel
theorem dX10_ask_141 : decode cX10_ask 141 = .ok (.getfield 44, 3) := by decide +kernel
theorem dX10_ask_144 : decode cX10_ask 144 = .ok (.iload 4, 2) := by decide +kernel
theorem dX10_ask_146 : decode cX10_ask 146 = .ok (.iconst 0, 1) := by decide +kernel
theorem dX10_ask_147 : decode cX10_ask 147 = .ok (.iastore, 1) := by decide +kernel
theorem dX10_ask_148 : decode cX10_ask 148 = .ok (.iinc 4 1, 3) := by decide +kernel
theorem dX10_ask_151 : decode cX10_ask 151 = .ok (.goto (-42), 3) := by decide +kernel
theorem dX10_ask_154 : decode cX10_ask 154 = .ok (.iconst 0, 1) := by decide +kernel
theorem dX10_ask_155 : decode cX10_ask 155 = .ok (.ireturn, 1) := by decide +kernel
theorem dX10_isAnswer_0 : decode cX10_isAnswer 0 = .ok (.aload_n 0, 1) := by decide +kernel
theorem dX10_isAnswer_1 : decode cX10_isAnswer 1 = .ok (.getfield 98, 3) := by decide +kernel
theorem dX10_isAnswer_4 : decode cX10_isAnswer 4 = .ok (.iconst 2, 1) := by decide +kernel
theorem dX10_isAnswer_5 : decode cX10_isAnswer 5 = .ok (.if_icmp .ge 23, 3) := by decide +kernel
theorem dX10_isAnswer_8 : decode cX10_isAnswer 8 = .ok (.iload_n 1, 1) := by decide +kernel
theorem dX10_isAnswer_9 : decode cX10_isAnswer 9 = .ok (.iconst 0, 1) := by decide +kernel
theorem dX10_isAnswer_10 : decode cX10_isAnswer 10 = .ok (.aload_n 0, 1) := by decide +kernel
theorem dX10_isAnswer_11 : decode cX10_isAnswer 11 = .ok (.getfield 98, 3) := by decide +kernel
theorem dX10_isAnswer_14 : decode cX10_isAnswer 14 = .ok (.ifCond .ne 8, 3) := by decide +kernel
theorem dX10_isAnswer_17 : decode cX10_isAnswer 17 = .ok (.bipush 7, 2) := by decide +kernel
theorem dX10_isAnswer_19 : decode cX10_isAnswer 19 = .ok (.goto 5, 3) := by decide +kernel
theorem dX10_isAnswer_22 : decode cX10_isAnswer 22 = .ok (.ldc 97, 2) := by decide +kernel
theorem dX10_isAnswer_24 : decode cX10_isAnswer 24 = .ok (.invokestatic 72, 3) := by decide +kernel
theorem dX10_isAnswer_27 : decode cX10_isAnswer 27 = .ok (.ireturn, 1) := by decide +kernel
theorem dX10_isAnswer_28 : decode cX10_isAnswer 28 = .ok (.iconst 0, 1) := by decide +kernel
theorem dX10_isAnswer_29 : decode cX10_isAnswer 29 = .ok (.istore_n 2, 1) := by decide +kernel
theorem dX10_isAnswer_30 : decode cX10_isAnswer 30 = .ok (.iconst 0, 1) := by decide +kernel
theorem dX10_isAnswer_31 : decode cX10_isAnswer 31 = .ok (.istore_n 3, 1) := by decide +kernel
theorem dX10_isAnswer_32 : decode cX10_isAnswer 32 = .ok (.iload_n 3, 1) := by decide +kernel
theorem dX10_isAnswer_33 : decode cX10_isAnswer 33 = .ok (.aload_n 0, 1) := by decide +kernel
theorem dX10_isAnswer_34 : decode cX10_isAnswer 34 = .ok (.getfield 101, 3) := by decide +kernel
theorem dX10_isAnswer_37 : decode cX10_isAnswer 37 = .ok (.if_icmp .ge 22, 3) := by decide +kernel
theorem dX10_isAnswer_40 : decode cX10_isAnswer 40 = .ok (.iload_n 2, 1) := by decide +kernel
theorem dX10_isAnswer_41 : decode cX10_isAnswer 41 = .ok (.iconst 1, 1) := by decide +kernel
theorem dX10_isAnswer_42 : decode cX10_isAnswer 42 = .ok (.iload_n 1, 1) := by decide +kernel
theorem dX10_isAnswer_43 : decode cX10_isAnswer 43 = .ok (.iconst 3, 1) := by decide +kernel
theorem dX10_isAnswer_44 : decode cX10_isAnswer 44 = .ok (.iload_n 3, 1) := by decide +kernel
theorem dX10_isAnswer_45 : decode cX10_isAnswer 45 = .ok (.imul, 1) := by decide +kernel
theorem dX10_isAnswer_46 : decode cX10_isAnswer 46 = .ok (.ishr, 1) := by decide +kernel
theorem dX10_isAnswer_47 : decode cX10_isAnswer 47 = .ok (.bipush 7, 2) := by decide +kernel
theorem dX10_isAnswer_49 : decode cX10_isAnswer 49 = .ok (.iand, 1) := by decide +kernel
theorem dX10_isAnswer_50 : decode cX10_isAnswer 50 = .ok (.ishl, 1) := by decide +kernel
theorem dX10_isAnswer_51 : decode cX10_isAnswer 51 = .ok (.ior, 1) := by decide +kernel
theorem dX10_isAnswer_52 : decode cX10_isAnswer 52 = .ok (.istore_n 2, 1) := by decide +kernel
theorem dX10_isAnswer_53 : decode cX10_isAnswer 53 = .ok (.iinc 3 1, 3) := by decide +kernel
theorem dX10_isAnswer_56 : decode cX10_isAnswer 56 = .ok (.goto (-24), 3) := by decide +kernel
theorem dX10_isAnswer_59 : decode cX10_isAnswer 59 = .ok (.iload_n 1, 1) := by decide +kernel
theorem dX10_isAnswer_60 : decode cX10_isAnswer 60 = .ok (.ifCond .lt 30, 3) := by decide +kernel
theorem dX10_isAnswer_63 : decode cX10_isAnswer 63 = .ok (.iload_n 1, 1) := by decide +kernel
theorem dX10_isAnswer_64 : decode cX10_isAnswer 64 = .ok (.iconst 3, 1) := by decide +kernel
theorem dX10_isAnswer_65 : decode cX10_isAnswer 65 = .ok (.aload_n 0, 1) := by decide +kernel
theorem dX10_isAnswer_66 : decode cX10_isAnswer 66 = .ok (.getfield 101, 3) := by decide +kernel
theorem dX10_isAnswer_69 : decode cX10_isAnswer 69 = .ok (.imul, 1) := by decide +kernel
theorem dX10_isAnswer_70 : decode cX10_isAnswer 70 = .ok (.ishr, 1) := by decide +kernel
theorem dX10_isAnswer_71 : decode cX10_isAnswer 71 = .ok (.ifCond .ne 19, 3) := by decide +kernel
theorem dX10_isAnswer_74 : decode cX10_isAnswer 74 = .ok (.iload_n 2, 1) := by decide +kernel
theorem dX10_isAnswer_75 : decode cX10_isAnswer 75 = .ok (.iconst 1, 1) := by decide +kernel
theorem dX10_isAnswer_76 : decode cX10_isAnswer 76 = .ok (.aload_n 0, 1) := by decide +kernel
theorem dX10_isAnswer_77 : decode cX10_isAnswer 77 = .ok (.getfield 101, 3) := by decide +kernel
theorem dX10_isAnswer_80 : decode cX10_isAnswer 80 = .ok (.ishl, 1) := by decide +kernel
theorem dX10_isAnswer_81 : decode cX10_isAnswer 81 = .ok (.iconst 1, 1) := by decide +kernel
theorem dX10_isAnswer_82 : decode cX10_isAnswer 82 = .ok (.isub, 1) := by decide +kernel
theorem dX10_isAnswer_83 : decode cX10_isAnswer 83 = .ok (.if_icmp .ne 7, 3) := by decide +kernel
theorem dX10_isAnswer_86 : decode cX10_isAnswer 86 = .ok (.iconst 1, 1) := by decide +kernel
theorem dX10_isAnswer_87 : decode cX10_isAnswer 87 = .ok (.goto 4, 3) := by decide +kernel
theorem dX10_isAnswer_90 : decode cX10_isAnswer 90 = .ok (.iconst 0, 1) := by decide +kernel
theorem dX10_isAnswer_91 : decode cX10_isAnswer 91 = .ok (.ireturn, 1) := by decide +kernel
theorem dX10_send_0 : decode cX10_send 0 = .ok (.aload_n 0, 1) := by decide +kernel
theorem dX10_send_1 : decode cX10_send 1 = .ok (.iload_n 1, 1) := by decide +kernel
theorem dX10_send_2 : decode cX10_send 2 = .ok (.invokevirtual 80, 3) := by decide +kernel
theorem dX10_send_5 : decode cX10_send 5 = .ok (.ifCond .ne 5, 3) := by decide +kernel
theorem dX10_send_8 : decode cX10_send 8 = .ok (.iconst (-1), 1) := by decide +kernel
theorem dX10_send_9 : decode cX10_send 9 = .ok (.ireturn, 1) := by decide +kernel
theorem dX10_send_10 : decode cX10_send 10 = .ok (.aload_n 0, 1) := by decide +kernel
theorem dX10_send_11 : decode cX10_send 11 = .ok (.getfield 76, 3) := by decide +kernel
theorem dX10_send_14 : decode cX10_send 14 = .ok (.ifCond .ne 6, 3) := by decide +kernel
theorem dX10_send_17 : decode cX10_send 17 = .ok (.bipush (-2), 2) := by decide +kernel
theorem dX10_send_19 : decode cX10_send 19 = .ok (.ireturn, 1) := by decide +kernel
theorem dX10_send_20 : decode cX10_send 20 = .ok (.aload_n 0, 1) := by decide +kernel
theorem dX10_send_21 : decode cX10_send 21 = .ok (.iload_n 2, 1) := by decide +kernel
theorem dX10_send_22 : decode cX10_send 22 = .ok (.invokevirtual 110, 3) := by decide +kernel
theorem dX10_send_25 : decode cX10_send 25 = .ok (.ifCond .ne 5, 3) := by decide +kernel
theorem dX10_send_28 : decode cX10_send 28 = .ok (.iconst (-1), 1) := by decide +kernel
theorem dX10_send_29 : decode cX10_send 29 = .ok (.ireturn, 1) := by decide +kernel
theorem dX10_send_30 : decode cX10_send 30 = .ok (.aload_n 0, 1) := by decide +kernel
theorem dX10_send_31 : decode cX10_send 31 = .ok (.getfield 22, 3) := by decide +kernel
theorem dX10_send_34 : decode cX10_send 34 = .ok (.iload_n 1, 1) := by decide +kernel
theorem dX10_send_35 : decode cX10_send 35 = .ok (.dup2, 1) := by decide +kernel
theorem dX10_send_36 : decode cX10_send 36 = .ok (.iaload, 1) := by decide +kernel
theorem dX10_send_37 : decode cX10_send 37 = .ok (.iconst 1, 1) := by decide +kernel
theorem dX10_send_38 : decode cX10_send 38 = .ok (.iadd, 1) := by decide +kernel
theorem dX10_send_39 : decode cX10_send 39 = .ok (.iastore, 1) := by decide +kernel
theorem dX10_send_40 : decode cX10_send 40 = .ok (.aload_n 0, 1) := by decide +kernel
theorem dX10_send_41 : decode cX10_send 41 = .ok (.getfield 25, 3) := by decide +kernel
theorem dX10_send_44 : decode cX10_send 44 = .ok (.iload_n 1, 1) := by decide +kernel
theorem dX10_send_45 : decode cX10_send 45 = .ok (.iload_n 2, 1) := by decide +kernel
theorem dX10_send_46 : decode cX10_send 46 = .ok (.iastore, 1) := by decide +kernel
theorem dX10_send_47 : decode cX10_send 47 = .ok (.aload_n 0, 1) := by decide +kernel
theorem dX10_send_48 : decode cX10_send 48 = .ok (.getfield 28, 3) := by decide +kernel
theorem dX10_send_51 : decode cX10_send 51 = .ok (.iload_n 1, 1) := by decide +kernel
theorem dX10_send_52 : decode cX10_send 52 = .ok (.aload_n 0, 1) := by decide +kernel
theorem dX10_send_53 : decode cX10_send 53 = .ok (.getfield 94, 3) := by decide +kernel
theorem dX10_send_56 : decode cX10_send 56 = .ok (.iastore, 1) := by decide +kernel
theorem dX10_send_57 : decode cX10_send 57 = .ok (.aload_n 0, 1) := by decide +kernel
theorem dX10_send_58 : decode cX10_send 58 = .ok (.getfield 31, 3) := by decide +kernel
theorem dX10_send_61 : decode cX10_send 61 = .ok (.iload_n 1, 1) := by decide +kernel
theorem dX10_send_62 : decode cX10_send 62 = .ok (.iconst 0, 1) := by decide +kernel
theorem dX10_send_63 : decode cX10_send 63 = .ok (.bastore, 1) := by decide +kernel
theorem dX10_send_64 : decode cX10_send 64 = .ok (.aload_n 0, 1) := by decide +kernel
theorem dX10_send_65 : decode cX10_send 65 = .ok (.getfield 19, 3) := by decide +kernel
theorem dX10_send_68 : decode cX10_send 68 = .ok (.iconst 2, 1) := by decide +kernel
theorem dX10_send_69 : decode cX10_send 69 = .ok (.iload_n 1, 1) := by decide +kernel
theorem dX10_send_70 : decode cX10_send 70 = .ok (.imul, 1) := by decide +kernel
theorem dX10_send_71 : decode cX10_send 71 = .ok (.iconst 0, 1) := by decide +kernel
theorem dX10_send_72 : decode cX10_send 72 = .ok (.iastore, 1) := by decide +kernel
theorem dX10_send_73 : decode cX10_send 73 = .ok (.aload_n 0, 1) := by decide +kernel
theorem dX10_send_74 : decode cX10_send 74 = .ok (.getfield 19, 3) := by decide +kernel
theorem dX10_send_77 : decode cX10_send 77 = .ok (.iconst 2, 1) := by decide +kernel
theorem dX10_send_78 : decode cX10_send 78 = .ok (.iload_n 1, 1) := by decide +kernel
theorem dX10_send_79 : decode cX10_send 79 = .ok (.imul, 1) := by decide +kernel
theorem dX10_send_80 : decode cX10_send 80 = .ok (.iconst 1, 1) := by decide +kernel
theorem dX10_send_81 : decode cX10_send 81 = .ok (.iadd, 1) := by decide +kernel
theorem dX10_send_82 : decode cX10_send 82 = .ok (.iconst 0, 1) := by decide +kernel
theorem dX10_send_83 : decode cX10_send 83 = .ok (.iastore, 1) := by decide +kernel
theorem dX10_send_84 : decode cX10_send 84 = .ok (.aload_n 0, 1) := by decide +kernel
theorem dX10_send_85 : decode cX10_send 85 = .ok (.getfield 22, 3) := by decide +kernel
theorem dX10_send_88 : decode cX10_send 88 = .ok (.iload_n 1, 1) := by decide +kernel
theorem dX10_send_89 : decode cX10_send 89 = .ok (.iaload, 1) := by decide +kernel
theorem dX10_send_90 : decode cX10_send 90 = .ok (.ireturn, 1) := by decide +kernel
theorem dX10_tryBy_0 : decode cX10_tryBy 0 = .ok (.aload_n 0, 1) := by decide +kernel
theorem dX10_tryBy_1 : decode cX10_tryBy 1 = .ok (.getfield 19, 3) := by decide +kernel
theorem dX10_tryBy_4 : decode cX10_tryBy 4 = .ok (.iload_n 1, 1) := by decide +kernel
theorem dX10_tryBy_5 : decode cX10_tryBy 5 = .ok (.iaload, 1) := by decide +kernel
theorem dX10_tryBy_6 : decode cX10_tryBy 6 = .ok (.iconst 5, 1) := by decide +kernel
theorem dX10_tryBy_7 : decode cX10_tryBy 7 = .ok (.if_icmp .ne 4, 3) := by decide +kernel
theorem dX10_tryBy_10 : decode cX10_tryBy 10 = .ok (.return_, 1) := by decide +kernel
theorem dX10_tryBy_11 : decode cX10_tryBy 11 = .ok (.aload_n 0, 1) := by decide +kernel
theorem dX10_tryBy_12 : decode cX10_tryBy 12 = .ok (.getfield 19, 3) := by decide +kernel
theorem dX10_tryBy_15 : decode cX10_tryBy 15 = .ok (.iload_n 1, 1) := by decide +kernel
theorem dX10_tryBy_16 : decode cX10_tryBy 16 = .ok (.dup2, 1) := by decide +kernel
theorem dX10_tryBy_17 : decode cX10_tryBy 17 = .ok (.iaload, 1) := by decide +kernel
theorem dX10_tryBy_18 : decode cX10_tryBy 18 = .ok (.iconst 1, 1) := by decide +kernel
theorem dX10_tryBy_19 : decode cX10_tryBy 19 = .ok (.iadd, 1) := by decide +kernel
theorem dX10_tryBy_20 : decode cX10_tryBy 20 = .ok (.iastore, 1) := by decide +kernel
theorem dX10_tryBy_21 : decode cX10_tryBy 21 = .ok (.aload_n 0, 1) := by decide +kernel
theorem dX10_tryBy_22 : decode cX10_tryBy 22 = .ok (.dup, 1) := by decide +kernel
theorem dX10_tryBy_23 : decode cX10_tryBy 23 = .ok (.getfield 113, 3) := by decide +kernel
theorem dX10_tryBy_26 : decode cX10_tryBy 26 = .ok (.iconst 1, 1) := by decide +kernel
theorem dX10_tryBy_27 : decode cX10_tryBy 27 = .ok (.iadd, 1) := by decide +kernel
theorem dX10_tryBy_28 : decode cX10_tryBy 28 = .ok (.putfield 113, 3) := by decide +kernel
theorem dX10_tryBy_31 : decode cX10_tryBy 31 = .ok (.aload_n 0, 1) := by decide +kernel
theorem dX10_tryBy_32 : decode cX10_tryBy 32 = .ok (.getfield 7, 3) := by decide +kernel
theorem dX10_tryBy_35 : decode cX10_tryBy 35 = .ok (.iload_n 1, 1) := by decide +kernel
theorem dX10_tryBy_36 : decode cX10_tryBy 36 = .ok (.iaload, 1) := by decide +kernel
theorem dX10_tryBy_37 : decode cX10_tryBy 37 = .ok (.aload_n 0, 1) := by decide +kernel
theorem dX10_tryBy_38 : decode cX10_tryBy 38 = .ok (.getfield 16, 3) := by decide +kernel
theorem dX10_tryBy_41 : decode cX10_tryBy 41 = .ok (.iload_n 1, 1) := by decide +kernel
theorem dX10_tryBy_42 : decode cX10_tryBy 42 = .ok (.iaload, 1) := by decide +kernel
theorem dX10_tryBy_43 : decode cX10_tryBy 43 = .ok (.ishr, 1) := by decide +kernel
theorem dX10_tryBy_44 : decode cX10_tryBy 44 = .ok (.iconst 1, 1) := by decide +kernel
theorem dX10_tryBy_45 : decode cX10_tryBy 45 = .ok (.iand, 1) := by decide +kernel
theorem dX10_tryBy_46 : decode cX10_tryBy 46 = .ok (.iconst 1, 1) := by decide +kernel
theorem dX10_tryBy_47 : decode cX10_tryBy 47 = .ok (.if_icmp .ne 7, 3) := by decide +kernel
theorem dX10_tryBy_50 : decode cX10_tryBy 50 = .ok (.iconst 1, 1) := by decide +kernel
theorem dX10_tryBy_51 : decode cX10_tryBy 51 = .ok (.goto 4, 3) := by decide +kernel
theorem dX10_tryBy_54 : decode cX10_tryBy 54 = .ok (.iconst 0, 1) := by decide +kernel
theorem dX10_tryBy_55 : decode cX10_tryBy 55 = .ok (.istore_n 2, 1) := by decide +kernel
theorem dX10_tryBy_56 : decode cX10_tryBy 56 = .ok (.aload_n 0, 1) := by decide +kernel
theorem dX10_tryBy_57 : decode cX10_tryBy 57 = .ok (.getfield 16, 3) := by decide +kernel
theorem dX10_tryBy_60 : decode cX10_tryBy 60 = .ok (.iload_n 1, 1) := by decide +kernel
theorem dX10_tryBy_61 : decode cX10_tryBy 61 = .ok (.aload_n 0, 1) := by decide +kernel
theorem dX10_tryBy_62 : decode cX10_tryBy 62 = .ok (.getfield 16, 3) := by decide +kernel
theorem dX10_tryBy_65 : decode cX10_tryBy 65 = .ok (.iload_n 1, 1) := by decide +kernel
theorem dX10_tryBy_66 : decode cX10_tryBy 66 = .ok (.iaload, 1) := by decide +kernel
theorem dX10_tryBy_67 : decode cX10_tryBy 67 = .ok (.iconst 1, 1) := by decide +kernel
theorem dX10_tryBy_68 : decode cX10_tryBy 68 = .ok (.iadd, 1) := by decide +kernel
theorem dX10_tryBy_69 : decode cX10_tryBy 69 = .ok (.bipush 16, 2) := by decide +kernel
theorem dX10_tryBy_71 : decode cX10_tryBy 71 = .ok (.irem, 1) := by decide +kernel
theorem dX10_tryBy_72 : decode cX10_tryBy 72 = .ok (.iastore, 1) := by decide +kernel
theorem dX10_tryBy_73 : decode cX10_tryBy 73 = .ok (.iload_n 2, 1) := by decide +kernel
theorem dX10_tryBy_74 : decode cX10_tryBy 74 = .ok (.ifCond .ne 94, 3) := by decide +kernel
theorem dX10_tryBy_77 : decode cX10_tryBy 77 = .ok (.aload_n 0, 1) := by decide +kernel
theorem dX10_tryBy_78 : decode cX10_tryBy 78 = .ok (.getfield 47, 3) := by decide +kernel
theorem dX10_tryBy_81 : decode cX10_tryBy 81 = .ok (.aload_n 0, 1) := by decide +kernel
theorem dX10_tryBy_82 : decode cX10_tryBy 82 = .ok (.getfield 107, 3) := by decide +kernel
theorem dX10_tryBy_85 : decode cX10_tryBy 85 = .ok (.aload_n 0, 1) := by decide +kernel
theorem dX10_tryBy_86 : decode cX10_tryBy 86 = .ok (.getfield 94, 3) := by decide +kernel
theorem dX10_tryBy_89 : decode cX10_tryBy 89 = .ok (.aload_n 0, 1) := by decide +kernel
theorem dX10_tryBy_90 : decode cX10_tryBy 90 = .ok (.getfield 13, 3) := by decide +kernel
theorem dX10_tryBy_93 : decode cX10_tryBy 93 = .ok (.iload_n 1, 1) := by decide +kernel
theorem dX10_tryBy_94 : decode cX10_tryBy 94 = .ok (.iaload, 1) := by decide +kernel
theorem dX10_tryBy_95 : decode cX10_tryBy 95 = .ok (.iadd, 1) := by decide +kernel
theorem dX10_tryBy_96 : decode cX10_tryBy 96 = .ok (.iastore, 1) := by decide +kernel
theorem dX10_tryBy_97 : decode cX10_tryBy 97 = .ok (.aload_n 0, 1) := by decide +kernel
theorem dX10_tryBy_98 : decode cX10_tryBy 98 = .ok (.getfield 50, 3) := by decide +kernel
theorem dX10_tryBy_101 : decode cX10_tryBy 101 = .ok (.aload_n 0, 1) := by decide +kernel
theorem dX10_tryBy_102 : decode cX10_tryBy 102 = .ok (.getfield 107, 3) := by decide +kernel
theorem dX10_tryBy_105 : decode cX10_tryBy 105 = .ok (.iload_n 1, 1) := by decide +kernel
theorem dX10_tryBy_106 : decode cX10_tryBy 106 = .ok (.iastore, 1) := by decide +kernel
theorem dX10_tryBy_107 : decode cX10_tryBy 107 = .ok (.aload_n 0, 1) := by decide +kernel
theorem dX10_tryBy_108 : decode cX10_tryBy 108 = .ok (.getfield 53, 3) := by decide +kernel
theorem dX10_tryBy_111 : decode cX10_tryBy 111 = .ok (.aload_n 0, 1) := by decide +kernel
theorem dX10_tryBy_112 : decode cX10_tryBy 112 = .ok (.getfield 107, 3) := by decide +kernel
theorem dX10_tryBy_115 : decode cX10_tryBy 115 = .ok (.aload_n 0, 1) := by decide +kernel
theorem dX10_tryBy_116 : decode cX10_tryBy 116 = .ok (.getfield 22, 3) := by decide +kernel
theorem dX10_tryBy_119 : decode cX10_tryBy 119 = .ok (.iload_n 1, 1) := by decide +kernel
theorem dX10_tryBy_120 : decode cX10_tryBy 120 = .ok (.iconst 2, 1) := by decide +kernel
theorem dX10_tryBy_121 : decode cX10_tryBy 121 = .ok (.idiv, 1) := by decide +kernel
theorem dX10_tryBy_122 : decode cX10_tryBy 122 = .ok (.iaload, 1) := by decide +kernel
theorem dX10_tryBy_123 : decode cX10_tryBy 123 = .ok (.iastore, 1) := by decide +kernel
theorem dX10_tryBy_124 : decode cX10_tryBy 124 = .ok (.aload_n 0, 1) := by decide +kernel
theorem dX10_tryBy_125 : decode cX10_tryBy 125 = .ok (.getfield 56, 3) := by decide +kernel
theorem dX10_tryBy_128 : decode cX10_tryBy 128 = .ok (.aload_n 0, 1) := by decide +kernel
theorem dX10_tryBy_129 : decode cX10_tryBy 129 = .ok (.getfield 107, 3) := by decide +kernel
theorem dX10_tryBy_132 : decode cX10_tryBy 132 = .ok (.aload_n 0, 1) := by decide +kernel
theorem dX10_tryBy_133 : decode cX10_tryBy 133 = .ok (.getfield 25, 3) := by decide +kernel
theorem dX10_tryBy_136 : decode cX10_tryBy 136 = .ok (.iload_n 1, 1) := by decide +kernel
theorem dX10_tryBy_137 : decode cX10_tryBy 137 = .ok (.iconst 2, 1) := by decide +kernel
theorem dX10_tryBy_138 : decode cX10_tryBy 138 = .ok (.idiv, 1) := by decide +kernel
theorem dX10_tryBy_139 : decode cX10_tryBy 139 = .ok (.iaload, 1) := by decide +kernel
theorem dX10_tryBy_140 : decode cX10_tryBy 140 = .ok (.iastore, 1) := by decide +kernel
theorem dX10_tryBy_141 : decode cX10_tryBy 141 = .ok (.aload_n 0, 1) := by decide +kernel
theorem dX10_tryBy_142 : decode cX10_tryBy 142 = .ok (.getfield 59, 3) := by decide +kernel
theorem dX10_tryBy_145 : decode cX10_tryBy 145 = .ok (.aload_n 0, 1) := by decide +kernel
theorem dX10_tryBy_146 : decode cX10_tryBy 146 = .ok (.getfield 107, 3) := by decide +kernel
theorem dX10_tryBy_149 : decode cX10_tryBy 149 = .ok (.aload_n 0, 1) := by decide +kernel
theorem dX10_tryBy_150 : decode cX10_tryBy 150 = .ok (.getfield 28, 3) := by decide +kernel
theorem dX10_tryBy_153 : decode cX10_tryBy 153 = .ok (.iload_n 1, 1) := by decide +kernel
theorem dX10_tryBy_154 : decode cX10_tryBy 154 = .ok (.iconst 2, 1) := by decide +kernel
theorem dX10_tryBy_155 : decode cX10_tryBy 155 = .ok (.idiv, 1) := by decide +kernel
theorem dX10_tryBy_156 : decode cX10_tryBy 156 = .ok (.iaload, 1) := by decide +kernel
theorem dX10_tryBy_157 : decode cX10_tryBy 157 = .ok (.iastore, 1) := by decide +kernel
theorem dX10_tryBy_158 : decode cX10_tryBy 158 = .ok (.aload_n 0, 1) := by decide +kernel
theorem dX10_tryBy_159 : decode cX10_tryBy 159 = .ok (.dup, 1) := by decide +kernel
theorem dX10_tryBy_160 : decode cX10_tryBy 160 = .ok (.getfield 107, 3) := by decide +kernel
theorem dX10_tryBy_163 : decode cX10_tryBy 163 = .ok (.iconst 1, 1) := by decide +kernel
theorem dX10_tryBy_164 : decode cX10_tryBy 164 = .ok (.iadd, 1) := by decide +kernel
theorem dX10_tryBy_165 : decode cX10_tryBy 165 = .ok (.putfield 107, 3) := by decide +kernel
theorem dX10_tryBy_168 : decode cX10_tryBy 168 = .ok (.return_, 1) := by decide +kernel
theorem dX10_comes_0 : decode cX10_comes 0 = .ok (.aload_n 0, 1) := by decide +kernel
theorem dX10_comes_1 : decode cX10_comes 1 = .ok (.getfield 50, 3) := by decide +kernel
theorem dX10_comes_4 : decode cX10_comes 4 = .ok (.iload_n 1, 1) := by decide +kernel
theorem dX10_comes_5 : decode cX10_comes 5 = .ok (.iaload, 1) := by decide +kernel
theorem dX10_comes_6 : decode cX10_comes 6 = .ok (.istore_n 2, 1) := by decide +kernel
theorem dX10_comes_7 : decode cX10_comes 7 = .ok (.aload_n 0, 1) := by decide +kernel
theorem dX10_comes_8 : decode cX10_comes 8 = .ok (.getfield 53, 3) := by decide +kernel
theorem dX10_comes_11 : decode cX10_comes 11 = .ok (.iload_n 1, 1) := by decide +kernel
theorem dX10_comes_12 : decode cX10_comes 12 = .ok (.iaload, 1) := by decide +kernel
theorem dX10_comes_13 : decode cX10_comes 13 = .ok (.istore_n 3, 1) := by decide +kernel
theorem dX10_comes_14 : decode cX10_comes 14 = .ok (.aload_n 0, 1) := by decide +kernel
theorem dX10_comes_15 : decode cX10_comes 15 = .ok (.getfield 44, 3) := by decide +kernel
theorem dX10_comes_18 : decode cX10_comes 18 = .ok (.iload_n 2, 1) := by decide +kernel
theorem dX10_comes_19 : decode cX10_comes 19 = .ok (.iload_n 3, 1) := by decide +kernel
theorem dX10_comes_20 : decode cX10_comes 20 = .ok (.aload_n 0, 1) := by decide +kernel
theorem dX10_comes_21 : decode cX10_comes 21 = .ok (.getfield 44, 3) := by decide +kernel
theorem dX10_comes_24 : decode cX10_comes 24 = .ok (.iload_n 2, 1) := by decide +kernel
theorem dX10_comes_25 : decode cX10_comes 25 = .ok (.iaload, 1) := by decide +kernel
theorem dX10_comes_26 : decode cX10_comes 26 = .ok (.if_icmp .le 7, 3) := by decide +kernel
theorem dX10_comes_29 : decode cX10_comes 29 = .ok (.iload_n 3, 1) := by decide +kernel
theorem dX10_comes_30 : decode cX10_comes 30 = .ok (.goto 9, 3) := by decide +kernel
theorem dX10_comes_33 : decode cX10_comes 33 = .ok (.aload_n 0, 1) := by decide +kernel
theorem dX10_comes_34 : decode cX10_comes 34 = .ok (.getfield 44, 3) := by decide +kernel
theorem dX10_comes_37 : decode cX10_comes 37 = .ok (.iload_n 2, 1) := by decide +kernel
theorem dX10_comes_38 : decode cX10_comes 38 = .ok (.iaload, 1) := by decide +kernel
theorem dX10_comes_39 : decode cX10_comes 39 = .ok (.iastore, 1) := by decide +kernel
theorem dX10_comes_40 : decode cX10_comes 40 = .ok (.aload_n 0, 1) := by decide +kernel
theorem dX10_comes_41 : decode cX10_comes 41 = .ok (.getfield 59, 3) := by decide +kernel
theorem dX10_comes_44 : decode cX10_comes 44 = .ok (.iload_n 1, 1) := by decide +kernel
theorem dX10_comes_45 : decode cX10_comes 45 = .ok (.iaload, 1) := by decide +kernel
theorem dX10_comes_46 : decode cX10_comes 46 = .ok (.aload_n 0, 1) := by decide +kernel
theorem dX10_comes_47 : decode cX10_comes 47 = .ok (.getfield 104, 3) := by decide +kernel
theorem dX10_comes_50 : decode cX10_comes 50 = .ok (.if_icmp .ge 35, 3) := by decide +kernel
theorem dX10_comes_53 : decode cX10_comes 53 = .ok (.iload_n 3, 1) := by decide +kernel
theorem dX10_comes_54 : decode cX10_comes 54 = .ok (.aload_n 0, 1) := by decide +kernel
theorem dX10_comes_55 : decode cX10_comes 55 = .ok (.getfield 38, 3) := by decide +kernel
theorem dX10_comes_58 : decode cX10_comes 58 = .ok (.iload_n 2, 1) := by decide +kernel
theorem dX10_comes_59 : decode cX10_comes 59 = .ok (.iaload, 1) := by decide +kernel
theorem dX10_comes_60 : decode cX10_comes 60 = .ok (.if_icmp .le 51, 3) := by decide +kernel
theorem dX10_comes_63 : decode cX10_comes 63 = .ok (.aload_n 0, 1) := by decide +kernel
theorem dX10_comes_64 : decode cX10_comes 64 = .ok (.getfield 38, 3) := by decide +kernel
theorem dX10_comes_67 : decode cX10_comes 67 = .ok (.iload_n 2, 1) := by decide +kernel
theorem dX10_comes_68 : decode cX10_comes 68 = .ok (.iload_n 3, 1) := by decide +kernel
theorem dX10_comes_69 : decode cX10_comes 69 = .ok (.iastore, 1) := by decide +kernel
theorem dX10_comes_70 : decode cX10_comes 70 = .ok (.aload_n 0, 1) := by decide +kernel
theorem dX10_comes_71 : decode cX10_comes 71 = .ok (.getfield 35, 3) := by decide +kernel
theorem dX10_comes_74 : decode cX10_comes 74 = .ok (.iload_n 2, 1) := by decide +kernel
theorem dX10_comes_75 : decode cX10_comes 75 = .ok (.aload_n 0, 1) := by decide +kernel
theorem dX10_comes_76 : decode cX10_comes 76 = .ok (.getfield 56, 3) := by decide +kernel
theorem dX10_comes_79 : decode cX10_comes 79 = .ok (.iload_n 1, 1) := by decide +kernel
theorem dX10_comes_80 : decode cX10_comes 80 = .ok (.iaload, 1) := by decide +kernel
theorem dX10_comes_81 : decode cX10_comes 81 = .ok (.iastore, 1) := by decide +kernel
theorem dX10_comes_82 : decode cX10_comes 82 = .ok (.goto 29, 3) := by decide +kernel
theorem dX10_comes_85 : decode cX10_comes 85 = .ok (.aload_n 0, 1) := by decide +kernel
theorem dX10_comes_86 : decode cX10_comes 86 = .ok (.getfield 41, 3) := by decide +kernel
theorem dX10_comes_89 : decode cX10_comes 89 = .ok (.iload_n 2, 1) := by decide +kernel
theorem dX10_comes_90 : decode cX10_comes 90 = .ok (.iload_n 3, 1) := by decide +kernel
theorem dX10_comes_91 : decode cX10_comes 91 = .ok (.aload_n 0, 1) := by decide +kernel
theorem dX10_comes_92 : decode cX10_comes 92 = .ok (.getfield 41, 3) := by decide +kernel
theorem dX10_comes_95 : decode cX10_comes 95 = .ok (.iload_n 2, 1) := by decide +kernel
theorem dX10_comes_96 : decode cX10_comes 96 = .ok (.iaload, 1) := by decide +kernel
theorem dX10_comes_97 : decode cX10_comes 97 = .ok (.if_icmp .le 7, 3) := by decide +kernel
theorem dX10_comes_100 : decode cX10_comes 100 = .ok (.iload_n 3, 1) := by decide +kernel
theorem dX10_comes_101 : decode cX10_comes 101 = .ok (.goto 9, 3) := by decide +kernel
theorem dX10_comes_104 : decode cX10_comes 104 = .ok (.aload_n 0, 1) := by decide +kernel
theorem dX10_comes_105 : decode cX10_comes 105 = .ok (.getfield 41, 3) := by decide +kernel
theorem dX10_comes_108 : decode cX10_comes 108 = .ok (.iload_n 2, 1) := by decide +kernel
theorem dX10_comes_109 : decode cX10_comes 109 = .ok (.iaload, 1) := by decide +kernel
theorem dX10_comes_110 : decode cX10_comes 110 = .ok (.iastore, 1) := by decide +kernel
theorem dX10_comes_111 : decode cX10_comes 111 = .ok (.iload_n 3, 1) := by decide +kernel
theorem dX10_comes_112 : decode cX10_comes 112 = .ok (.aload_n 0, 1) := by decide +kernel
theorem dX10_comes_113 : decode cX10_comes 113 = .ok (.getfield 22, 3) := by decide +kernel
theorem dX10_comes_116 : decode cX10_comes 116 = .ok (.iload_n 2, 1) := by decide +kernel
theorem dX10_comes_117 : decode cX10_comes 117 = .ok (.iconst 2, 1) := by decide +kernel
theorem dX10_comes_118 : decode cX10_comes 118 = .ok (.idiv, 1) := by decide +kernel
theorem dX10_comes_119 : decode cX10_comes 119 = .ok (.iaload, 1) := by decide +kernel
theorem dX10_comes_120 : decode cX10_comes 120 = .ok (.if_icmp .ne 12, 3) := by decide +kernel
theorem dX10_comes_123 : decode cX10_comes 123 = .ok (.aload_n 0, 1) := by decide +kernel
theorem dX10_comes_124 : decode cX10_comes 124 = .ok (.getfield 31, 3) := by decide +kernel
theorem dX10_comes_127 : decode cX10_comes 127 = .ok (.iload_n 2, 1) := by decide +kernel
theorem dX10_comes_128 : decode cX10_comes 128 = .ok (.iconst 2, 1) := by decide +kernel
theorem dX10_comes_129 : decode cX10_comes 129 = .ok (.idiv, 1) := by decide +kernel
theorem dX10_comes_130 : decode cX10_comes 130 = .ok (.iconst 1, 1) := by decide +kernel
theorem dX10_comes_131 : decode cX10_comes 131 = .ok (.bastore, 1) := by decide +kernel
theorem dX10_comes_132 : decode cX10_comes 132 = .ok (.return_, 1) := by decide +kernel
theorem dX10_passes_0 : decode cX10_passes 0 = .ok (.iconst 0, 1) := by decide +kernel
theorem dX10_passes_1 : decode cX10_passes 1 = .ok (.istore_n 1, 1) := by decide +kernel
theorem dX10_passes_2 : decode cX10_passes 2 = .ok (.iload_n 1, 1) := by decide +kernel
theorem dX10_passes_3 : decode cX10_passes 3 = .ok (.aload_n 0, 1) := by decide +kernel
theorem dX10_passes_4 : decode cX10_passes 4 = .ok (.getfield 68, 3) := by decide +kernel
theorem dX10_passes_7 : decode cX10_passes 7 = .ok (.if_icmp .ge 41, 3) := by decide +kernel
theorem dX10_passes_10 : decode cX10_passes 10 = .ok (.aload_n 0, 1) := by decide +kernel
theorem dX10_passes_11 : decode cX10_passes 11 = .ok (.getfield 76, 3) := by decide +kernel
theorem dX10_passes_14 : decode cX10_passes 14 = .ok (.ifCond .eq 34, 3) := by decide +kernel
theorem dX10_passes_17 : decode cX10_passes 17 = .ok (.aload_n 0, 1) := by decide +kernel
theorem dX10_passes_18 : decode cX10_passes 18 = .ok (.getfield 31, 3) := by decide +kernel
theorem dX10_passes_21 : decode cX10_passes 21 = .ok (.iload_n 1, 1) := by decide +kernel
theorem dX10_passes_22 : decode cX10_passes 22 = .ok (.baload, 1) := by decide +kernel
theorem dX10_passes_23 : decode cX10_passes 23 = .ok (.ifCond .ne 19, 3) := by decide +kernel
theorem dX10_passes_26 : decode cX10_passes 26 = .ok (.aload_n 0, 1) := by decide +kernel
theorem dX10_passes_27 : decode cX10_passes 27 = .ok (.iconst 2, 1) := by decide +kernel
theorem dX10_passes_28 : decode cX10_passes 28 = .ok (.iload_n 1, 1) := by decide +kernel
theorem dX10_passes_29 : decode cX10_passes 29 = .ok (.imul, 1) := by decide +kernel
theorem dX10_passes_30 : decode cX10_passes 30 = .ok (.invokevirtual 116, 3) := by decide +kernel
theorem dX10_passes_33 : decode cX10_passes 33 = .ok (.aload_n 0, 1) := by decide +kernel
theorem dX10_passes_34 : decode cX10_passes 34 = .ok (.iconst 2, 1) := by decide +kernel
theorem dX10_passes_35 : decode cX10_passes 35 = .ok (.iload_n 1, 1) := by decide +kernel
theorem dX10_passes_36 : decode cX10_passes 36 = .ok (.imul, 1) := by decide +kernel
theorem dX10_passes_37 : decode cX10_passes 37 = .ok (.iconst 1, 1) := by decide +kernel
theorem dX10_passes_38 : decode cX10_passes 38 = .ok (.iadd, 1) := by decide +kernel
theorem dX10_passes_39 : decode cX10_passes 39 = .ok (.invokevirtual 116, 3) := by decide +kernel
theorem dX10_passes_42 : decode cX10_passes 42 = .ok (.iinc 1 1, 3) := by decide +kernel
theorem dX10_passes_45 : decode cX10_passes 45 = .ok (.goto (-43), 3) := by decide +kernel
theorem dX10_passes_48 : decode cX10_passes 48 = .ok (.iconst 0, 1) := by decide +kernel
theorem dX10_passes_49 : decode cX10_passes 49 = .ok (.istore_n 1, 1) := by decide +kernel
theorem dX10_passes_50 : decode cX10_passes 50 = .ok (.iconst 0, 1) := by decide +kernel
theorem dX10_passes_51 : decode cX10_passes 51 = .ok (.istore_n 2, 1) := by decide +kernel
theorem dX10_passes_52 : decode cX10_passes 52 = .ok (.iload_n 2, 1) := by decide +kernel
theorem dX10_passes_53 : decode cX10_passes 53 = .ok (.aload_n 0, 1) := by decide +kernel
theorem dX10_passes_54 : decode cX10_passes 54 = .ok (.getfield 107, 3) := by decide +kernel
theorem dX10_passes_57 : decode cX10_passes 57 = .ok (.if_icmp .ge 93, 3) := by decide +kernel
theorem dX10_passes_60 : decode cX10_passes 60 = .ok (.aload_n 0, 1) := by decide +kernel
theorem dX10_passes_61 : decode cX10_passes 61 = .ok (.getfield 47, 3) := by decide +kernel
theorem dX10_passes_64 : decode cX10_passes 64 = .ok (.iload_n 2, 1) := by decide +kernel
theorem dX10_passes_65 : decode cX10_passes 65 = .ok (.iaload, 1) := by decide +kernel
theorem dX10_passes_66 : decode cX10_passes 66 = .ok (.aload_n 0, 1) := by decide +kernel
theorem dX10_passes_67 : decode cX10_passes 67 = .ok (.getfield 94, 3) := by decide +kernel
theorem dX10_passes_70 : decode cX10_passes 70 = .ok (.if_icmp .ne 11, 3) := by decide +kernel
theorem dX10_passes_73 : decode cX10_passes 73 = .ok (.aload_n 0, 1) := by decide +kernel
theorem dX10_passes_74 : decode cX10_passes 74 = .ok (.iload_n 2, 1) := by decide +kernel
theorem dX10_passes_75 : decode cX10_passes 75 = .ok (.invokevirtual 120, 3) := by decide +kernel
theorem dX10_passes_78 : decode cX10_passes 78 = .ok (.goto 66, 3) := by decide +kernel
theorem dX10_passes_81 : decode cX10_passes 81 = .ok (.aload_n 0, 1) := by decide +kernel
theorem dX10_passes_82 : decode cX10_passes 82 = .ok (.getfield 47, 3) := by decide +kernel
theorem dX10_passes_85 : decode cX10_passes 85 = .ok (.iload_n 1, 1) := by decide +kernel
theorem dX10_passes_86 : decode cX10_passes 86 = .ok (.aload_n 0, 1) := by decide +kernel
theorem dX10_passes_87 : decode cX10_passes 87 = .ok (.getfield 47, 3) := by decide +kernel
theorem dX10_passes_90 : decode cX10_passes 90 = .ok (.iload_n 2, 1) := by decide +kernel
theorem dX10_passes_91 : decode cX10_passes 91 = .ok (.iaload, 1) := by decide +kernel
theorem dX10_passes_92 : decode cX10_passes 92 = .ok (.iastore, 1) := by decide +kernel
theorem dX10_passes_93 : decode cX10_passes 93 = .ok (.aload_n 0, 1) := by decide +kernel
theorem dX10_passes_94 : decode cX10_passes 94 = .ok (.getfield 50, 3) := by decide +kernel
theorem dX10_passes_97 : decode cX10_passes 97 = .ok (.iload_n 1, 1) := by decide +kernel
theorem dX10_passes_98 : decode cX10_passes 98 = .ok (.aload_n 0, 1) := by decide +kernel
theorem dX10_passes_99 : decode cX10_passes 99 = .ok (.getfield 50, 3) := by decide +kernel
theorem dX10_passes_102 : decode cX10_passes 102 = .ok (.iload_n 2, 1) := by decide +kernel
theorem dX10_passes_103 : decode cX10_passes 103 = .ok (.iaload, 1) := by decide +kernel
theorem dX10_passes_104 : decode cX10_passes 104 = .ok (.iastore, 1) := by decide +kernel
theorem dX10_passes_105 : decode cX10_passes 105 = .ok (.aload_n 0, 1) := by decide +kernel
theorem dX10_passes_106 : decode cX10_passes 106 = .ok (.getfield 53, 3) := by decide +kernel
theorem dX10_passes_109 : decode cX10_passes 109 = .ok (.iload_n 1, 1) := by decide +kernel
theorem dX10_passes_110 : decode cX10_passes 110 = .ok (.aload_n 0, 1) := by decide +kernel
theorem dX10_passes_111 : decode cX10_passes 111 = .ok (.getfield 53, 3) := by decide +kernel
theorem dX10_passes_114 : decode cX10_passes 114 = .ok (.iload_n 2, 1) := by decide +kernel
theorem dX10_passes_115 : decode cX10_passes 115 = .ok (.iaload, 1) := by decide +kernel
theorem dX10_passes_116 : decode cX10_passes 116 = .ok (.iastore, 1) := by decide +kernel
theorem dX10_passes_117 : decode cX10_passes 117 = .ok (.aload_n 0, 1) := by decide +kernel
theorem dX10_passes_118 : decode cX10_passes 118 = .ok (.getfield 56, 3) := by decide +kernel
theorem dX10_passes_121 : decode cX10_passes 121 = .ok (.iload_n 1, 1) := by decide +kernel
theorem dX10_passes_122 : decode cX10_passes 122 = .ok (.aload_n 0, 1) := by decide +kernel
theorem dX10_passes_123 : decode cX10_passes 123 = .ok (.getfield 56, 3) := by decide +kernel
theorem dX10_passes_126 : decode cX10_passes 126 = .ok (.iload_n 2, 1) := by decide +kernel
theorem dX10_passes_127 : decode cX10_passes 127 = .ok (.iaload, 1) := by decide +kernel
theorem dX10_passes_128 : decode cX10_passes 128 = .ok (.iastore, 1) := by decide +kernel
theorem dX10_passes_129 : decode cX10_passes 129 = .ok (.aload_n 0, 1) := by decide +kernel
theorem dX10_passes_130 : decode cX10_passes 130 = .ok (.getfield 59, 3) := by decide +kernel
theorem dX10_passes_133 : decode cX10_passes 133 = .ok (.iload_n 1, 1) := by decide +kernel
theorem dX10_passes_134 : decode cX10_passes 134 = .ok (.aload_n 0, 1) := by decide +kernel
theorem dX10_passes_135 : decode cX10_passes 135 = .ok (.getfield 59, 3) := by decide +kernel
theorem dX10_passes_138 : decode cX10_passes 138 = .ok (.iload_n 2, 1) := by decide +kernel
theorem dX10_passes_139 : decode cX10_passes 139 = .ok (.iaload, 1) := by decide +kernel
theorem dX10_passes_140 : decode cX10_passes 140 = .ok (.iastore, 1) := by decide +kernel
theorem dX10_passes_141 : decode cX10_passes 141 = .ok (.iinc 1 1, 3) := by decide +kernel
theorem dX10_passes_144 : decode cX10_passes 144 = .ok (.iinc 2 1, 3) := by decide +kernel
theorem dX10_passes_147 : decode cX10_passes 147 = .ok (.goto (-95), 3) := by decide +kernel
theorem dX10_passes_150 : decode cX10_passes 150 = .ok (.aload_n 0, 1) := by decide +kernel
theorem dX10_passes_151 : decode cX10_passes 151 = .ok (.iload_n 1, 1) := by decide +kernel
theorem dX10_passes_152 : decode cX10_passes 152 = .ok (.putfield 107, 3) := by decide +kernel
theorem dX10_passes_155 : decode cX10_passes 155 = .ok (.aload_n 0, 1) := by decide +kernel
theorem dX10_passes_156 : decode cX10_passes 156 = .ok (.dup, 1) := by decide +kernel
theorem dX10_passes_157 : decode cX10_passes 157 = .ok (.getfield 94, 3) := by decide +kernel
theorem dX10_passes_160 : decode cX10_passes 160 = .ok (.iconst 1, 1) := by decide +kernel
theorem dX10_passes_161 : decode cX10_passes 161 = .ok (.iadd, 1) := by decide +kernel
theorem dX10_passes_162 : decode cX10_passes 162 = .ok (.putfield 94, 3) := by decide +kernel
theorem dX10_passes_165 : decode cX10_passes 165 = .ok (.return_, 1) := by decide +kernel
theorem dX10_ticks_0 : decode cX10_ticks 0 = .ok (.iload_n 1, 1) := by decide +kernel
theorem dX10_ticks_1 : decode cX10_ticks 1 = .ok (.iconst 1, 1) := by decide +kernel
theorem dX10_ticks_2 : decode cX10_ticks 2 = .ok (.sipush 200, 3) := by decide +kernel
theorem dX10_ticks_5 : decode cX10_ticks 5 = .ok (.invokestatic 72, 3) := by decide +kernel
theorem dX10_ticks_8 : decode cX10_ticks 8 = .ok (.ifCond .ne 5, 3) := by decide +kernel
theorem dX10_ticks_11 : decode cX10_ticks 11 = .ok (.iconst (-1), 1) := by decide +kernel
theorem dX10_ticks_12 : decode cX10_ticks 12 = .ok (.ireturn, 1) := by decide +kernel
theorem dX10_ticks_13 : decode cX10_ticks 13 = .ok (.aload_n 0, 1) := by decide +kernel
theorem dX10_ticks_14 : decode cX10_ticks 14 = .ok (.getfield 94, 3) := by decide +kernel
theorem dX10_ticks_17 : decode cX10_ticks 17 = .ok (.iload_n 1, 1) := by decide +kernel
theorem dX10_ticks_18 : decode cX10_ticks 18 = .ok (.iadd, 1) := by decide +kernel
theorem dX10_ticks_19 : decode cX10_ticks 19 = .ok (.ldc 97, 2) := by decide +kernel
theorem dX10_ticks_21 : decode cX10_ticks 21 = .ok (.if_icmp .le 6, 3) := by decide +kernel
theorem dX10_ticks_24 : decode cX10_ticks 24 = .ok (.bipush (-3), 2) := by decide +kernel
theorem dX10_ticks_26 : decode cX10_ticks 26 = .ok (.ireturn, 1) := by decide +kernel
theorem dX10_ticks_27 : decode cX10_ticks 27 = .ok (.iconst 0, 1) := by decide +kernel
theorem dX10_ticks_28 : decode cX10_ticks 28 = .ok (.istore_n 2, 1) := by decide +kernel
theorem dX10_ticks_29 : decode cX10_ticks 29 = .ok (.iload_n 2, 1) := by decide +kernel
theorem dX10_ticks_30 : decode cX10_ticks 30 = .ok (.iload_n 1, 1) := by decide +kernel
theorem dX10_ticks_31 : decode cX10_ticks 31 = .ok (.if_icmp .ge 13, 3) := by decide +kernel
theorem dX10_ticks_34 : decode cX10_ticks 34 = .ok (.aload_n 0, 1) := by decide +kernel
theorem dX10_ticks_35 : decode cX10_ticks 35 = .ok (.invokevirtual 123, 3) := by decide +kernel
theorem dX10_ticks_38 : decode cX10_ticks 38 = .ok (.iinc 2 1, 3) := by decide +kernel
theorem dX10_ticks_41 : decode cX10_ticks 41 = .ok (.goto (-12), 3) := by decide +kernel
theorem dX10_ticks_44 : decode cX10_ticks 44 = .ok (.aload_n 0, 1) := by decide +kernel
theorem dX10_ticks_45 : decode cX10_ticks 45 = .ok (.getfield 94, 3) := by decide +kernel
theorem dX10_ticks_48 : decode cX10_ticks 48 = .ok (.ireturn, 1) := by decide +kernel
theorem dX10_base_0 : decode cX10_base 0 = .ok (.iload_n 1, 1) := by decide +kernel
theorem dX10_base_1 : decode cX10_base 1 = .ok (.invokestatic 84, 3) := by decide +kernel
theorem dX10_base_4 : decode cX10_base 4 = .ok (.ifCond .eq 20, 3) := by decide +kernel
theorem dX10_base_7 : decode cX10_base 7 = .ok (.aload_n 0, 1) := by decide +kernel
theorem dX10_base_8 : decode cX10_base 8 = .ok (.iload_n 2, 1) := by decide +kernel
theorem dX10_base_9 : decode cX10_base 9 = .ok (.invokevirtual 80, 3) := by decide +kernel
theorem dX10_base_12 : decode cX10_base 12 = .ok (.ifCond .eq 12, 3) := by decide +kernel
theorem dX10_base_15 : decode cX10_base 15 = .ok (.iload_n 3, 1) := by decide +kernel
theorem dX10_base_16 : decode cX10_base 16 = .ok (.iconst 0, 1) := by decide +kernel
theorem dX10_base_17 : decode cX10_base 17 = .ok (.iconst 3, 1) := by decide +kernel
theorem dX10_base_18 : decode cX10_base 18 = .ok (.invokestatic 72, 3) := by decide +kernel
theorem dX10_base_21 : decode cX10_base 21 = .ok (.ifCond .ne 5, 3) := by decide +kernel
theorem dX10_base_24 : decode cX10_base 24 = .ok (.iconst (-1), 1) := by decide +kernel
theorem dX10_base_25 : decode cX10_base 25 = .ok (.ireturn, 1) := by decide +kernel
theorem dX10_base_26 : decode cX10_base 26 = .ok (.iconst 2, 1) := by decide +kernel
theorem dX10_base_27 : decode cX10_base 27 = .ok (.iload_n 2, 1) := by decide +kernel
theorem dX10_base_28 : decode cX10_base 28 = .ok (.imul, 1) := by decide +kernel
theorem dX10_base_29 : decode cX10_base 29 = .ok (.iload_n 1, 1) := by decide +kernel
theorem dX10_base_30 : decode cX10_base 30 = .ok (.iadd, 1) := by decide +kernel
theorem dX10_base_31 : decode cX10_base 31 = .ok (.istore 4, 2) := by decide +kernel
theorem dX10_base_33 : decode cX10_base 33 = .ok (.iload_n 3, 1) := by decide +kernel
theorem dX10_base_34 : decode cX10_base 34 = .ok (.iconst 2, 1) := by decide +kernel
theorem dX10_base_35 : decode cX10_base 35 = .ok (.if_icmp .ge 40, 3) := by decide +kernel
theorem dX10_base_38 : decode cX10_base 38 = .ok (.aload_n 0, 1) := by decide +kernel
theorem dX10_base_39 : decode cX10_base 39 = .ok (.getfield 38, 3) := by decide +kernel
theorem dX10_base_42 : decode cX10_base 42 = .ok (.iload 4, 2) := by decide +kernel
theorem dX10_base_44 : decode cX10_base 44 = .ok (.iaload, 1) := by decide +kernel
theorem dX10_base_45 : decode cX10_base 45 = .ok (.ifCond .ne 8, 3) := by decide +kernel
theorem dX10_base_48 : decode cX10_base 48 = .ok (.bipush (-4), 2) := by decide +kernel
theorem dX10_base_50 : decode cX10_base 50 = .ok (.goto 24, 3) := by decide +kernel
theorem dX10_base_53 : decode cX10_base 53 = .ok (.iload_n 3, 1) := by decide +kernel
theorem dX10_base_54 : decode cX10_base 54 = .ok (.ifCond .ne 13, 3) := by decide +kernel
theorem dX10_base_57 : decode cX10_base 57 = .ok (.aload_n 0, 1) := by decide +kernel
theorem dX10_base_58 : decode cX10_base 58 = .ok (.getfield 35, 3) := by decide +kernel
theorem dX10_base_61 : decode cX10_base 61 = .ok (.iload 4, 2) := by decide +kernel
theorem dX10_base_63 : decode cX10_base 63 = .ok (.iaload, 1) := by decide +kernel
theorem dX10_base_64 : decode cX10_base 64 = .ok (.goto 10, 3) := by decide +kernel
theorem dX10_base_67 : decode cX10_base 67 = .ok (.aload_n 0, 1) := by decide +kernel
theorem dX10_base_68 : decode cX10_base 68 = .ok (.getfield 38, 3) := by decide +kernel
theorem dX10_base_71 : decode cX10_base 71 = .ok (.iload 4, 2) := by decide +kernel
theorem dX10_base_73 : decode cX10_base 73 = .ok (.iaload, 1) := by decide +kernel
theorem dX10_base_74 : decode cX10_base 74 = .ok (.ireturn, 1) := by decide +kernel
theorem dX10_base_75 : decode cX10_base 75 = .ok (.iload_n 3, 1) := by decide +kernel
theorem dX10_base_76 : decode cX10_base 76 = .ok (.iconst 2, 1) := by decide +kernel
theorem dX10_base_77 : decode cX10_base 77 = .ok (.if_icmp .ne 13, 3) := by decide +kernel
theorem dX10_base_80 : decode cX10_base 80 = .ok (.aload_n 0, 1) := by decide +kernel
theorem dX10_base_81 : decode cX10_base 81 = .ok (.getfield 41, 3) := by decide +kernel
theorem dX10_base_84 : decode cX10_base 84 = .ok (.iload 4, 2) := by decide +kernel
theorem dX10_base_86 : decode cX10_base 86 = .ok (.iaload, 1) := by decide +kernel
theorem dX10_base_87 : decode cX10_base 87 = .ok (.goto 10, 3) := by decide +kernel
theorem dX10_base_90 : decode cX10_base 90 = .ok (.aload_n 0, 1) := by decide +kernel
theorem dX10_base_91 : decode cX10_base 91 = .ok (.getfield 44, 3) := by decide +kernel
theorem dX10_base_94 : decode cX10_base 94 = .ok (.iload 4, 2) := by decide +kernel
theorem dX10_base_96 : decode cX10_base 96 = .ok (.iaload, 1) := by decide +kernel
theorem dX10_base_97 : decode cX10_base 97 = .ok (.istore 5, 2) := by decide +kernel
theorem dX10_base_99 : decode cX10_base 99 = .ok (.iload 5, 2) := by decide +kernel
theorem dX10_base_101 : decode cX10_base 101 = .ok (.ifCond .ne 8, 3) := by decide +kernel
theorem dX10_base_104 : decode cX10_base 104 = .ok (.bipush (-4), 2) := by decide +kernel
theorem dX10_base_106 : decode cX10_base 106 = .ok (.goto 5, 3) := by decide +kernel
theorem dX10_base_109 : decode cX10_base 109 = .ok (.iload 5, 2) := by decide +kernel
theorem dX10_base_111 : decode cX10_base 111 = .ok (.ireturn, 1) := by decide +kernel
theorem dX10_answerOf_0 : decode cX10_answerOf 0 = .ok (.iconst 2, 1) := by decide +kernel
theorem dX10_answerOf_1 : decode cX10_answerOf 1 = .ok (.iload_n 1, 1) := by decide +kernel
theorem dX10_answerOf_2 : decode cX10_answerOf 2 = .ok (.imul, 1) := by decide +kernel
theorem dX10_answerOf_3 : decode cX10_answerOf 3 = .ok (.istore_n 2, 1) := by decide +kernel
theorem dX10_answerOf_4 : decode cX10_answerOf 4 = .ok (.aload_n 0, 1) := by decide +kernel
theorem dX10_answerOf_5 : decode cX10_answerOf 5 = .ok (.getfield 38, 3) := by decide +kernel
theorem dX10_answerOf_8 : decode cX10_answerOf 8 = .ok (.iload_n 2, 1) := by decide +kernel
theorem dX10_answerOf_9 : decode cX10_answerOf 9 = .ok (.iconst 1, 1) := by decide +kernel
theorem dX10_answerOf_10 : decode cX10_answerOf 10 = .ok (.iadd, 1) := by decide +kernel
theorem dX10_answerOf_11 : decode cX10_answerOf 11 = .ok (.iaload, 1) := by decide +kernel
theorem dX10_answerOf_12 : decode cX10_answerOf 12 = .ok (.aload_n 0, 1) := by decide +kernel
theorem dX10_answerOf_13 : decode cX10_answerOf 13 = .ok (.getfield 38, 3) := by decide +kernel
theorem dX10_answerOf_16 : decode cX10_answerOf 16 = .ok (.iload_n 2, 1) := by decide +kernel
theorem dX10_answerOf_17 : decode cX10_answerOf 17 = .ok (.iaload, 1) := by decide +kernel
theorem dX10_answerOf_18 : decode cX10_answerOf 18 = .ok (.if_icmp .le 9, 3) := by decide +kernel
theorem dX10_answerOf_21 : decode cX10_answerOf 21 = .ok (.iload_n 2, 1) := by decide +kernel
theorem dX10_answerOf_22 : decode cX10_answerOf 22 = .ok (.iconst 1, 1) := by decide +kernel
theorem dX10_answerOf_23 : decode cX10_answerOf 23 = .ok (.iadd, 1) := by decide +kernel
theorem dX10_answerOf_24 : decode cX10_answerOf 24 = .ok (.goto 4, 3) := by decide +kernel
theorem dX10_answerOf_27 : decode cX10_answerOf 27 = .ok (.iload_n 2, 1) := by decide +kernel
theorem dX10_answerOf_28 : decode cX10_answerOf 28 = .ok (.istore_n 3, 1) := by decide +kernel
theorem dX10_answerOf_29 : decode cX10_answerOf 29 = .ok (.aload_n 0, 1) := by decide +kernel
theorem dX10_answerOf_30 : decode cX10_answerOf 30 = .ok (.getfield 38, 3) := by decide +kernel
theorem dX10_answerOf_33 : decode cX10_answerOf 33 = .ok (.iload_n 3, 1) := by decide +kernel
theorem dX10_answerOf_34 : decode cX10_answerOf 34 = .ok (.iaload, 1) := by decide +kernel
theorem dX10_answerOf_35 : decode cX10_answerOf 35 = .ok (.ifCond .ne 8, 3) := by decide +kernel
theorem dX10_answerOf_38 : decode cX10_answerOf 38 = .ok (.bipush (-4), 2) := by decide +kernel
theorem dX10_answerOf_40 : decode cX10_answerOf 40 = .ok (.goto 9, 3) := by decide +kernel
theorem dX10_answerOf_43 : decode cX10_answerOf 43 = .ok (.aload_n 0, 1) := by decide +kernel
theorem dX10_answerOf_44 : decode cX10_answerOf 44 = .ok (.getfield 35, 3) := by decide +kernel
theorem dX10_answerOf_47 : decode cX10_answerOf 47 = .ok (.iload_n 3, 1) := by decide +kernel
theorem dX10_answerOf_48 : decode cX10_answerOf 48 = .ok (.iaload, 1) := by decide +kernel
theorem dX10_answerOf_49 : decode cX10_answerOf 49 = .ok (.ireturn, 1) := by decide +kernel
theorem dX10_about_0 : decode cX10_about 0 = .ok (.aload_n 0, 1) := by decide +kernel
theorem dX10_about_1 : decode cX10_about 1 = .ok (.iload_n 1, 1) := by decide +kernel
theorem dX10_about_2 : decode cX10_about 2 = .ok (.invokevirtual 80, 3) := by decide +kernel
theorem dX10_about_5 : decode cX10_about 5 = .ok (.ifCond .eq 12, 3) := by decide +kernel
theorem dX10_about_8 : decode cX10_about 8 = .ok (.iload_n 2, 1) := by decide +kernel
theorem dX10_about_9 : decode cX10_about 9 = .ok (.iconst 0, 1) := by decide +kernel
theorem dX10_about_10 : decode cX10_about 10 = .ok (.iconst 3, 1) := by decide +kernel
theorem dX10_about_11 : decode cX10_about 11 = .ok (.invokestatic 72, 3) := by decide +kernel
theorem dX10_about_14 : decode cX10_about 14 = .ok (.ifCond .ne 5, 3) := by decide +kernel
theorem dX10_about_17 : decode cX10_about 17 = .ok (.iconst (-1), 1) := by decide +kernel
theorem dX10_about_18 : decode cX10_about 18 = .ok (.ireturn, 1) := by decide +kernel
theorem dX10_about_19 : decode cX10_about 19 = .ok (.iload_n 2, 1) := by decide +kernel
theorem dX10_about_20 : decode cX10_about 20 = .ok (.tableswitch 79 0 2 #[28, 35, 55], 28) := by decide +kernel
theorem dX10_about_48 : decode cX10_about 48 = .ok (.aload_n 0, 1) := by decide +kernel
theorem dX10_about_49 : decode cX10_about 49 = .ok (.getfield 22, 3) := by decide +kernel
theorem dX10_about_52 : decode cX10_about 52 = .ok (.iload_n 1, 1) := by decide +kernel
theorem dX10_about_53 : decode cX10_about 53 = .ok (.iaload, 1) := by decide +kernel
theorem dX10_about_54 : decode cX10_about 54 = .ok (.ireturn, 1) := by decide +kernel
theorem dX10_about_55 : decode cX10_about 55 = .ok (.aload_n 0, 1) := by decide +kernel
theorem dX10_about_56 : decode cX10_about 56 = .ok (.getfield 19, 3) := by decide +kernel
theorem dX10_about_59 : decode cX10_about 59 = .ok (.iconst 2, 1) := by decide +kernel
theorem dX10_about_60 : decode cX10_about 60 = .ok (.iload_n 1, 1) := by decide +kernel
theorem dX10_about_61 : decode cX10_about 61 = .ok (.imul, 1) := by decide +kernel
theorem dX10_about_62 : decode cX10_about 62 = .ok (.iaload, 1) := by decide +kernel
theorem dX10_about_63 : decode cX10_about 63 = .ok (.aload_n 0, 1) := by decide +kernel
theorem dX10_about_64 : decode cX10_about 64 = .ok (.getfield 19, 3) := by decide +kernel
theorem dX10_about_67 : decode cX10_about 67 = .ok (.iconst 2, 1) := by decide +kernel
theorem dX10_about_68 : decode cX10_about 68 = .ok (.iload_n 1, 1) := by decide +kernel
theorem dX10_about_69 : decode cX10_about 69 = .ok (.imul, 1) := by decide +kernel
theorem dX10_about_70 : decode cX10_about 70 = .ok (.iconst 1, 1) := by decide +kernel
theorem dX10_about_71 : decode cX10_about 71 = .ok (.iadd, 1) := by decide +kernel
theorem dX10_about_72 : decode cX10_about 72 = .ok (.iaload, 1) := by decide +kernel
theorem dX10_about_73 : decode cX10_about 73 = .ok (.iadd, 1) := by decide +kernel
theorem dX10_about_74 : decode cX10_about 74 = .ok (.ireturn, 1) := by decide +kernel
theorem dX10_about_75 : decode cX10_about 75 = .ok (.aload_n 0, 1) := by decide +kernel
theorem dX10_about_76 : decode cX10_about 76 = .ok (.getfield 22, 3) := by decide +kernel
theorem dX10_about_79 : decode cX10_about 79 = .ok (.iload_n 1, 1) := by decide +kernel
theorem dX10_about_80 : decode cX10_about 80 = .ok (.iaload, 1) := by decide +kernel
theorem dX10_about_81 : decode cX10_about 81 = .ok (.ifCond .le 16, 3) := by decide +kernel
theorem dX10_about_84 : decode cX10_about 84 = .ok (.aload_n 0, 1) := by decide +kernel
theorem dX10_about_85 : decode cX10_about 85 = .ok (.getfield 31, 3) := by decide +kernel
theorem dX10_about_88 : decode cX10_about 88 = .ok (.iload_n 1, 1) := by decide +kernel
theorem dX10_about_89 : decode cX10_about 89 = .ok (.baload, 1) := by decide +kernel
theorem dX10_about_90 : decode cX10_about 90 = .ok (.ifCond .eq 7, 3) := by decide +kernel
theorem dX10_about_93 : decode cX10_about 93 = .ok (.iconst 1, 1) := by decide +kernel
theorem dX10_about_94 : decode cX10_about 94 = .ok (.goto 4, 3) := by decide +kernel
theorem dX10_about_97 : decode cX10_about 97 = .ok (.iconst 0, 1) := by decide +kernel
theorem dX10_about_98 : decode cX10_about 98 = .ok (.ireturn, 1) := by decide +kernel
