theorem dX10_about_99 : decode cX10_about 99 = .ok (.aload_n 0, 1) := by decide +kernel
theorem dX10_about_100 : decode cX10_about 100 = .ok (.iload_n 1, 1) := by decide +kernel
theorem dX10_about_101 : decode cX10_about 101 = .ok (.invokevirtual 126, 3) := by decide +kernel
theorem dX10_about_104 : decode cX10_about 104 = .ok (.ireturn, 1) := by decide +kernel
theorem dX10_many_0 : decode cX10_many 0 = .ok (.iconst 0, 1) := by decide +kernel
theorem dX10_many_1 : decode cX10_many 1 = .ok (.istore_n 1, 1) := by decide +kernel
theorem dX10_many_2 : decode cX10_many 2 = .ok (.iconst 0, 1) := by decide +kernel
theorem dX10_many_3 : decode cX10_many 3 = .ok (.istore_n 2, 1) := by decide +kernel
theorem dX10_many_4 : decode cX10_many 4 = .ok (.iload_n 2, 1) := by decide +kernel
theorem dX10_many_5 : decode cX10_many 5 = .ok (.aload_n 0, 1) := by decide +kernel
theorem dX10_many_6 : decode cX10_many 6 = .ok (.getfield 68, 3) := by decide +kernel
theorem dX10_many_9 : decode cX10_many 9 = .ok (.if_icmp .ge 25, 3) := by decide +kernel
theorem dX10_many_12 : decode cX10_many 12 = .ok (.iload_n 1, 1) := by decide +kernel
theorem dX10_many_13 : decode cX10_many 13 = .ok (.aload_n 0, 1) := by decide +kernel
theorem dX10_many_14 : decode cX10_many 14 = .ok (.iload_n 2, 1) := by decide +kernel
theorem dX10_many_15 : decode cX10_many 15 = .ok (.invokevirtual 126, 3) := by decide +kernel
theorem dX10_many_18 : decode cX10_many 18 = .ok (.ifCond .lt 7, 3) := by decide +kernel
theorem dX10_many_21 : decode cX10_many 21 = .ok (.iconst 1, 1) := by decide +kernel
theorem dX10_many_22 : decode cX10_many 22 = .ok (.goto 4, 3) := by decide +kernel
theorem dX10_many_25 : decode cX10_many 25 = .ok (.iconst 0, 1) := by decide +kernel
theorem dX10_many_26 : decode cX10_many 26 = .ok (.iadd, 1) := by decide +kernel
theorem dX10_many_27 : decode cX10_many 27 = .ok (.istore_n 1, 1) := by decide +kernel
theorem dX10_many_28 : decode cX10_many 28 = .ok (.iinc 2 1, 3) := by decide +kernel
theorem dX10_many_31 : decode cX10_many 31 = .ok (.goto (-27), 3) := by decide +kernel
theorem dX10_many_34 : decode cX10_many 34 = .ok (.iload_n 1, 1) := by decide +kernel
theorem dX10_many_35 : decode cX10_many 35 = .ok (.ireturn, 1) := by decide +kernel
theorem dX10_isShown_0 : decode cX10_isShown 0 = .ok (.aload_n 0, 1) := by decide +kernel
theorem dX10_isShown_1 : decode cX10_isShown 1 = .ok (.getfield 76, 3) := by decide +kernel
theorem dX10_isShown_4 : decode cX10_isShown 4 = .ok (.ifCond .eq 25, 3) := by decide +kernel
theorem dX10_isShown_7 : decode cX10_isShown 7 = .ok (.aload_n 0, 1) := by decide +kernel
theorem dX10_isShown_8 : decode cX10_isShown 8 = .ok (.getfield 91, 3) := by decide +kernel
theorem dX10_isShown_11 : decode cX10_isShown 11 = .ok (.ifCond .eq 14, 3) := by decide +kernel
theorem dX10_isShown_14 : decode cX10_isShown 14 = .ok (.aload_n 0, 1) := by decide +kernel
theorem dX10_isShown_15 : decode cX10_isShown 15 = .ok (.getfield 94, 3) := by decide +kernel
theorem dX10_isShown_18 : decode cX10_isShown 18 = .ok (.aload_n 0, 1) := by decide +kernel
theorem dX10_isShown_19 : decode cX10_isShown 19 = .ok (.getfield 104, 3) := by decide +kernel
theorem dX10_isShown_22 : decode cX10_isShown 22 = .ok (.if_icmp .lt 7, 3) := by decide +kernel
theorem dX10_isShown_25 : decode cX10_isShown 25 = .ok (.iconst 1, 1) := by decide +kernel
theorem dX10_isShown_26 : decode cX10_isShown 26 = .ok (.goto 4, 3) := by decide +kernel
theorem dX10_isShown_29 : decode cX10_isShown 29 = .ok (.iconst 0, 1) := by decide +kernel
theorem dX10_isShown_30 : decode cX10_isShown 30 = .ok (.ireturn, 1) := by decide +kernel
theorem dX10_answers_0 : decode cX10_answers 0 = .ok (.aload_n 0, 1) := by decide +kernel
theorem dX10_answers_1 : decode cX10_answers 1 = .ok (.invokevirtual 130, 3) := by decide +kernel
theorem dX10_answers_4 : decode cX10_answers 4 = .ok (.ifCond .eq 10, 3) := by decide +kernel
theorem dX10_answers_7 : decode cX10_answers 7 = .ok (.aload_n 0, 1) := by decide +kernel
theorem dX10_answers_8 : decode cX10_answers 8 = .ok (.invokevirtual 134, 3) := by decide +kernel
theorem dX10_answers_11 : decode cX10_answers 11 = .ok (.goto 5, 3) := by decide +kernel
theorem dX10_answers_14 : decode cX10_answers 14 = .ok (.bipush (-2), 2) := by decide +kernel
theorem dX10_answers_16 : decode cX10_answers 16 = .ok (.ireturn, 1) := by decide +kernel
theorem dX10_isShownOf_0 : decode cX10_isShownOf 0 = .ok (.aload_n 0, 1) := by decide +kernel
theorem dX10_isShownOf_1 : decode cX10_isShownOf 1 = .ok (.invokevirtual 130, 3) := by decide +kernel
theorem dX10_isShownOf_4 : decode cX10_isShownOf 4 = .ok (.ifCond .eq 26, 3) := by decide +kernel
theorem dX10_isShownOf_7 : decode cX10_isShownOf 7 = .ok (.aload_n 0, 1) := by decide +kernel
theorem dX10_isShownOf_8 : decode cX10_isShownOf 8 = .ok (.getfield 98, 3) := by decide +kernel
theorem dX10_isShownOf_11 : decode cX10_isShownOf 11 = .ok (.iload_n 1, 1) := by decide +kernel
theorem dX10_isShownOf_12 : decode cX10_isShownOf 12 = .ok (.if_icmp .ne 18, 3) := by decide +kernel
theorem dX10_isShownOf_15 : decode cX10_isShownOf 15 = .ok (.aload_n 0, 1) := by decide +kernel
theorem dX10_isShownOf_16 : decode cX10_isShownOf 16 = .ok (.invokevirtual 134, 3) := by decide +kernel
theorem dX10_isShownOf_19 : decode cX10_isShownOf 19 = .ok (.aload_n 0, 1) := by decide +kernel
theorem dX10_isShownOf_20 : decode cX10_isShownOf 20 = .ok (.getfield 88, 3) := by decide +kernel
theorem dX10_isShownOf_23 : decode cX10_isShownOf 23 = .ok (.if_icmp .lt 7, 3) := by decide +kernel
theorem dX10_isShownOf_26 : decode cX10_isShownOf 26 = .ok (.iconst 1, 1) := by decide +kernel
theorem dX10_isShownOf_27 : decode cX10_isShownOf 27 = .ok (.goto 4, 3) := by decide +kernel
theorem dX10_isShownOf_30 : decode cX10_isShownOf 30 = .ok (.iconst 0, 1) := by decide +kernel
theorem dX10_isShownOf_31 : decode cX10_isShownOf 31 = .ok (.ireturn, 1) := by decide +kernel
theorem dX10_share_0 : decode cX10_share 0 = .ok (.iload_n 1, 1) := by decide +kernel
theorem dX10_share_1 : decode cX10_share 1 = .ok (.iconst 0, 1) := by decide +kernel
theorem dX10_share_2 : decode cX10_share 2 = .ok (.bipush 7, 2) := by decide +kernel
theorem dX10_share_4 : decode cX10_share 4 = .ok (.invokestatic 72, 3) := by decide +kernel
theorem dX10_share_7 : decode cX10_share 7 = .ok (.ifCond .ne 5, 3) := by decide +kernel
theorem dX10_share_10 : decode cX10_share 10 = .ok (.iconst (-1), 1) := by decide +kernel
theorem dX10_share_11 : decode cX10_share 11 = .ok (.ireturn, 1) := by decide +kernel
theorem dX10_share_12 : decode cX10_share 12 = .ok (.aload_n 0, 1) := by decide +kernel
theorem dX10_share_13 : decode cX10_share 13 = .ok (.iconst 0, 1) := by decide +kernel
theorem dX10_share_14 : decode cX10_share 14 = .ok (.invokevirtual 138, 3) := by decide +kernel
theorem dX10_share_17 : decode cX10_share 17 = .ok (.ifCond .ne 6, 3) := by decide +kernel
theorem dX10_share_20 : decode cX10_share 20 = .ok (.bipush (-2), 2) := by decide +kernel
theorem dX10_share_22 : decode cX10_share 22 = .ok (.ireturn, 1) := by decide +kernel
theorem dX10_share_23 : decode cX10_share 23 = .ok (.iconst 0, 1) := by decide +kernel
theorem dX10_share_24 : decode cX10_share 24 = .ok (.istore_n 2, 1) := by decide +kernel
theorem dX10_share_25 : decode cX10_share 25 = .ok (.iconst 0, 1) := by decide +kernel
theorem dX10_share_26 : decode cX10_share 26 = .ok (.istore_n 3, 1) := by decide +kernel
theorem dX10_share_27 : decode cX10_share 27 = .ok (.iload_n 3, 1) := by decide +kernel
theorem dX10_share_28 : decode cX10_share 28 = .ok (.aload_n 0, 1) := by decide +kernel
theorem dX10_share_29 : decode cX10_share 29 = .ok (.getfield 68, 3) := by decide +kernel
theorem dX10_share_32 : decode cX10_share 32 = .ok (.if_icmp .ge 26, 3) := by decide +kernel
theorem dX10_share_35 : decode cX10_share 35 = .ok (.iload_n 2, 1) := by decide +kernel
theorem dX10_share_36 : decode cX10_share 36 = .ok (.aload_n 0, 1) := by decide +kernel
theorem dX10_share_37 : decode cX10_share 37 = .ok (.iload_n 3, 1) := by decide +kernel
theorem dX10_share_38 : decode cX10_share 38 = .ok (.invokevirtual 126, 3) := by decide +kernel
theorem dX10_share_41 : decode cX10_share 41 = .ok (.iload_n 1, 1) := by decide +kernel
theorem dX10_share_42 : decode cX10_share 42 = .ok (.if_icmp .ne 7, 3) := by decide +kernel
theorem dX10_share_45 : decode cX10_share 45 = .ok (.iconst 1, 1) := by decide +kernel
theorem dX10_share_46 : decode cX10_share 46 = .ok (.goto 4, 3) := by decide +kernel
theorem dX10_share_49 : decode cX10_share 49 = .ok (.iconst 0, 1) := by decide +kernel
theorem dX10_share_50 : decode cX10_share 50 = .ok (.iadd, 1) := by decide +kernel
theorem dX10_share_51 : decode cX10_share 51 = .ok (.istore_n 2, 1) := by decide +kernel
theorem dX10_share_52 : decode cX10_share 52 = .ok (.iinc 3 1, 3) := by decide +kernel
theorem dX10_share_55 : decode cX10_share 55 = .ok (.goto (-28), 3) := by decide +kernel
theorem dX10_share_58 : decode cX10_share 58 = .ok (.iload_n 2, 1) := by decide +kernel
theorem dX10_share_59 : decode cX10_share 59 = .ok (.ireturn, 1) := by decide +kernel
theorem dX10_middle_0 : decode cX10_middle 0 = .ok (.iconst 0, 1) := by decide +kernel
theorem dX10_middle_1 : decode cX10_middle 1 = .ok (.istore_n 2, 1) := by decide +kernel
theorem dX10_middle_2 : decode cX10_middle 2 = .ok (.iload_n 2, 1) := by decide +kernel
theorem dX10_middle_3 : decode cX10_middle 3 = .ok (.iload_n 1, 1) := by decide +kernel
theorem dX10_middle_4 : decode cX10_middle 4 = .ok (.if_icmp .ge 107, 3) := by decide +kernel
theorem dX10_middle_7 : decode cX10_middle 7 = .ok (.iconst 0, 1) := by decide +kernel
theorem dX10_middle_8 : decode cX10_middle 8 = .ok (.istore_n 3, 1) := by decide +kernel
theorem dX10_middle_9 : decode cX10_middle 9 = .ok (.iconst 0, 1) := by decide +kernel
theorem dX10_middle_10 : decode cX10_middle 10 = .ok (.istore 4, 2) := by decide +kernel
theorem dX10_middle_12 : decode cX10_middle 12 = .ok (.iconst 0, 1) := by decide +kernel
theorem dX10_middle_13 : decode cX10_middle 13 = .ok (.istore 5, 2) := by decide +kernel
theorem dX10_middle_15 : decode cX10_middle 15 = .ok (.iload 5, 2) := by decide +kernel
theorem dX10_middle_17 : decode cX10_middle 17 = .ok (.iload_n 1, 1) := by decide +kernel
theorem dX10_middle_18 : decode cX10_middle 18 = .ok (.if_icmp .ge 59, 3) := by decide +kernel
theorem dX10_middle_21 : decode cX10_middle 21 = .ok (.iload_n 3, 1) := by decide +kernel
theorem dX10_middle_22 : decode cX10_middle 22 = .ok (.aload_n 0, 1) := by decide +kernel
theorem dX10_middle_23 : decode cX10_middle 23 = .ok (.getfield 65, 3) := by decide +kernel
theorem dX10_middle_26 : decode cX10_middle 26 = .ok (.iload 5, 2) := by decide +kernel
theorem dX10_middle_28 : decode cX10_middle 28 = .ok (.iaload, 1) := by decide +kernel
theorem dX10_middle_29 : decode cX10_middle 29 = .ok (.aload_n 0, 1) := by decide +kernel
theorem dX10_middle_30 : decode cX10_middle 30 = .ok (.getfield 65, 3) := by decide +kernel
theorem dX10_middle_33 : decode cX10_middle 33 = .ok (.iload_n 2, 1) := by decide +kernel
theorem dX10_middle_34 : decode cX10_middle 34 = .ok (.iaload, 1) := by decide +kernel
theorem dX10_middle_35 : decode cX10_middle 35 = .ok (.if_icmp .ge 7, 3) := by decide +kernel
theorem dX10_middle_38 : decode cX10_middle 38 = .ok (.iconst 1, 1) := by decide +kernel
theorem dX10_middle_39 : decode cX10_middle 39 = .ok (.goto 4, 3) := by decide +kernel
theorem dX10_middle_42 : decode cX10_middle 42 = .ok (.iconst 0, 1) := by decide +kernel
theorem dX10_middle_43 : decode cX10_middle 43 = .ok (.iadd, 1) := by decide +kernel
theorem dX10_middle_44 : decode cX10_middle 44 = .ok (.istore_n 3, 1) := by decide +kernel
theorem dX10_middle_45 : decode cX10_middle 45 = .ok (.iload 4, 2) := by decide +kernel
theorem dX10_middle_47 : decode cX10_middle 47 = .ok (.aload_n 0, 1) := by decide +kernel
theorem dX10_middle_48 : decode cX10_middle 48 = .ok (.getfield 65, 3) := by decide +kernel
theorem dX10_middle_51 : decode cX10_middle 51 = .ok (.iload 5, 2) := by decide +kernel
theorem dX10_middle_53 : decode cX10_middle 53 = .ok (.iaload, 1) := by decide +kernel
theorem dX10_middle_54 : decode cX10_middle 54 = .ok (.aload_n 0, 1) := by decide +kernel
theorem dX10_middle_55 : decode cX10_middle 55 = .ok (.getfield 65, 3) := by decide +kernel
theorem dX10_middle_58 : decode cX10_middle 58 = .ok (.iload_n 2, 1) := by decide +kernel
theorem dX10_middle_59 : decode cX10_middle 59 = .ok (.iaload, 1) := by decide +kernel
theorem dX10_middle_60 : decode cX10_middle 60 = .ok (.if_icmp .ne 7, 3) := by decide +kernel
theorem dX10_middle_63 : decode cX10_middle 63 = .ok (.iconst 1, 1) := by decide +kernel
theorem dX10_middle_64 : decode cX10_middle 64 = .ok (.goto 4, 3) := by decide +kernel
theorem dX10_middle_67 : decode cX10_middle 67 = .ok (.iconst 0, 1) := by decide +kernel
theorem dX10_middle_68 : decode cX10_middle 68 = .ok (.iadd, 1) := by decide +kernel
theorem dX10_middle_69 : decode cX10_middle 69 = .ok (.istore 4, 2) := by decide +kernel
theorem dX10_middle_71 : decode cX10_middle 71 = .ok (.iinc 5 1, 3) := by decide +kernel
theorem dX10_middle_74 : decode cX10_middle 74 = .ok (.goto (-59), 3) := by decide +kernel
theorem dX10_middle_77 : decode cX10_middle 77 = .ok (.iload_n 3, 1) := by decide +kernel
theorem dX10_middle_78 : decode cX10_middle 78 = .ok (.iload_n 1, 1) := by decide +kernel
theorem dX10_middle_79 : decode cX10_middle 79 = .ok (.iconst 1, 1) := by decide +kernel
theorem dX10_middle_80 : decode cX10_middle 80 = .ok (.isub, 1) := by decide +kernel
theorem dX10_middle_81 : decode cX10_middle 81 = .ok (.iconst 2, 1) := by decide +kernel
theorem dX10_middle_82 : decode cX10_middle 82 = .ok (.idiv, 1) := by decide +kernel
theorem dX10_middle_83 : decode cX10_middle 83 = .ok (.if_icmp .gt 22, 3) := by decide +kernel
theorem dX10_middle_86 : decode cX10_middle 86 = .ok (.iload_n 3, 1) := by decide +kernel
theorem dX10_middle_87 : decode cX10_middle 87 = .ok (.iload 4, 2) := by decide +kernel
theorem dX10_middle_89 : decode cX10_middle 89 = .ok (.iadd, 1) := by decide +kernel
theorem dX10_middle_90 : decode cX10_middle 90 = .ok (.iload_n 1, 1) := by decide +kernel
theorem dX10_middle_91 : decode cX10_middle 91 = .ok (.iconst 1, 1) := by decide +kernel
theorem dX10_middle_92 : decode cX10_middle 92 = .ok (.isub, 1) := by decide +kernel
theorem dX10_middle_93 : decode cX10_middle 93 = .ok (.iconst 2, 1) := by decide +kernel
theorem dX10_middle_94 : decode cX10_middle 94 = .ok (.idiv, 1) := by decide +kernel
theorem dX10_middle_95 : decode cX10_middle 95 = .ok (.if_icmp .le 10, 3) := by decide +kernel
theorem dX10_middle_98 : decode cX10_middle 98 = .ok (.aload_n 0, 1) := by decide +kernel
theorem dX10_middle_99 : decode cX10_middle 99 = .ok (.getfield 65, 3) := by decide +kernel
theorem dX10_middle_102 : decode cX10_middle 102 = .ok (.iload_n 2, 1) := by decide +kernel
theorem dX10_middle_103 : decode cX10_middle 103 = .ok (.iaload, 1) := by decide +kernel
theorem dX10_middle_104 : decode cX10_middle 104 = .ok (.ireturn, 1) := by decide +kernel
theorem dX10_middle_105 : decode cX10_middle 105 = .ok (.iinc 2 1, 3) := by decide +kernel
theorem dX10_middle_108 : decode cX10_middle 108 = .ok (.goto (-106), 3) := by decide +kernel
theorem dX10_middle_111 : decode cX10_middle 111 = .ok (.iconst 0, 1) := by decide +kernel
theorem dX10_middle_112 : decode cX10_middle 112 = .ok (.ireturn, 1) := by decide +kernel
theorem dX10_size_0 : decode cX10_size 0 = .ok (.iload_n 0, 1) := by decide +kernel
theorem dX10_size_1 : decode cX10_size 1 = .ok (.ifCond .ge 8, 3) := by decide +kernel
theorem dX10_size_4 : decode cX10_size 4 = .ok (.iload_n 0, 1) := by decide +kernel
theorem dX10_size_5 : decode cX10_size 5 = .ok (.ineg, 1) := by decide +kernel
theorem dX10_size_6 : decode cX10_size 6 = .ok (.goto 4, 3) := by decide +kernel
theorem dX10_size_9 : decode cX10_size 9 = .ok (.iload_n 0, 1) := by decide +kernel
theorem dX10_size_10 : decode cX10_size 10 = .ok (.ireturn, 1) := by decide +kernel
theorem dX10_number_0 : decode cX10_number 0 = .ok (.iload_n 1, 1) := by decide +kernel
theorem dX10_number_1 : decode cX10_number 1 = .ok (.iconst 0, 1) := by decide +kernel
theorem dX10_number_2 : decode cX10_number 2 = .ok (.iconst 2, 1) := by decide +kernel
theorem dX10_number_3 : decode cX10_number 3 = .ok (.invokestatic 72, 3) := by decide +kernel
theorem dX10_number_6 : decode cX10_number 6 = .ok (.ifCond .ne 5, 3) := by decide +kernel
theorem dX10_number_9 : decode cX10_number 9 = .ok (.iconst (-1), 1) := by decide +kernel
theorem dX10_number_10 : decode cX10_number 10 = .ok (.ireturn, 1) := by decide +kernel
theorem dX10_number_11 : decode cX10_number 11 = .ok (.aload_n 0, 1) := by decide +kernel
theorem dX10_number_12 : decode cX10_number 12 = .ok (.iconst 1, 1) := by decide +kernel
theorem dX10_number_13 : decode cX10_number 13 = .ok (.invokevirtual 138, 3) := by decide +kernel
theorem dX10_number_16 : decode cX10_number 16 = .ok (.ifCond .eq 10, 3) := by decide +kernel
theorem dX10_number_19 : decode cX10_number 19 = .ok (.aload_n 0, 1) := by decide +kernel
theorem dX10_number_20 : decode cX10_number 20 = .ok (.invokevirtual 134, 3) := by decide +kernel
theorem dX10_number_23 : decode cX10_number 23 = .ok (.ifCond .ne 6, 3) := by decide +kernel
theorem dX10_number_26 : decode cX10_number 26 = .ok (.bipush (-2), 2) := by decide +kernel
theorem dX10_number_28 : decode cX10_number 28 = .ok (.ireturn, 1) := by decide +kernel
theorem dX10_number_29 : decode cX10_number 29 = .ok (.iconst 0, 1) := by decide +kernel
theorem dX10_number_30 : decode cX10_number 30 = .ok (.istore_n 2, 1) := by decide +kernel
theorem dX10_number_31 : decode cX10_number 31 = .ok (.iconst 0, 1) := by decide +kernel
theorem dX10_number_32 : decode cX10_number 32 = .ok (.istore_n 3, 1) := by decide +kernel
theorem dX10_number_33 : decode cX10_number 33 = .ok (.iload_n 3, 1) := by decide +kernel
theorem dX10_number_34 : decode cX10_number 34 = .ok (.aload_n 0, 1) := by decide +kernel
theorem dX10_number_35 : decode cX10_number 35 = .ok (.getfield 68, 3) := by decide +kernel
theorem dX10_number_38 : decode cX10_number 38 = .ok (.if_icmp .ge 31, 3) := by decide +kernel
theorem dX10_number_41 : decode cX10_number 41 = .ok (.aload_n 0, 1) := by decide +kernel
theorem dX10_number_42 : decode cX10_number 42 = .ok (.iload_n 3, 1) := by decide +kernel
theorem dX10_number_43 : decode cX10_number 43 = .ok (.invokevirtual 126, 3) := by decide +kernel
theorem dX10_number_46 : decode cX10_number 46 = .ok (.ifCond .lt 17, 3) := by decide +kernel
theorem dX10_number_49 : decode cX10_number 49 = .ok (.aload_n 0, 1) := by decide +kernel
theorem dX10_number_50 : decode cX10_number 50 = .ok (.getfield 65, 3) := by decide +kernel
theorem dX10_number_53 : decode cX10_number 53 = .ok (.iload_n 2, 1) := by decide +kernel
theorem dX10_number_54 : decode cX10_number 54 = .ok (.aload_n 0, 1) := by decide +kernel
theorem dX10_number_55 : decode cX10_number 55 = .ok (.iload_n 3, 1) := by decide +kernel
theorem dX10_number_56 : decode cX10_number 56 = .ok (.invokevirtual 126, 3) := by decide +kernel
theorem dX10_number_59 : decode cX10_number 59 = .ok (.iastore, 1) := by decide +kernel
theorem dX10_number_60 : decode cX10_number 60 = .ok (.iinc 2 1, 3) := by decide +kernel
theorem dX10_number_63 : decode cX10_number 63 = .ok (.iinc 3 1, 3) := by decide +kernel
theorem dX10_number_66 : decode cX10_number 66 = .ok (.goto (-33), 3) := by decide +kernel
theorem dX10_number_69 : decode cX10_number 69 = .ok (.aload_n 0, 1) := by decide +kernel
theorem dX10_number_70 : decode cX10_number 70 = .ok (.iload_n 2, 1) := by decide +kernel
theorem dX10_number_71 : decode cX10_number 71 = .ok (.invokevirtual 141, 3) := by decide +kernel
theorem dX10_number_74 : decode cX10_number 74 = .ok (.istore_n 3, 1) := by decide +kernel
theorem dX10_number_75 : decode cX10_number 75 = .ok (.iconst 0, 1) := by decide +kernel
theorem dX10_number_76 : decode cX10_number 76 = .ok (.istore 4, 2) := by decide +kernel
theorem dX10_number_78 : decode cX10_number 78 = .ok (.iload 4, 2) := by decide +kernel
theorem dX10_number_80 : decode cX10_number 80 = .ok (.iload_n 2, 1) := by decide +kernel
theorem dX10_number_81 : decode cX10_number 81 = .ok (.if_icmp .ge 28, 3) := by decide +kernel
theorem dX10_number_84 : decode cX10_number 84 = .ok (.aload_n 0, 1) := by decide +kernel
theorem dX10_number_85 : decode cX10_number 85 = .ok (.getfield 65, 3) := by decide +kernel
theorem dX10_number_88 : decode cX10_number 88 = .ok (.iload 4, 2) := by decide +kernel
theorem dX10_number_90 : decode cX10_number 90 = .ok (.aload_n 0, 1) := by decide +kernel
theorem dX10_number_91 : decode cX10_number 91 = .ok (.getfield 65, 3) := by decide +kernel
theorem dX10_number_94 : decode cX10_number 94 = .ok (.iload 4, 2) := by decide +kernel
theorem dX10_number_96 : decode cX10_number 96 = .ok (.iaload, 1) := by decide +kernel
theorem dX10_number_97 : decode cX10_number 97 = .ok (.iload_n 3, 1) := by decide +kernel
theorem dX10_number_98 : decode cX10_number 98 = .ok (.isub, 1) := by decide +kernel
theorem dX10_number_99 : decode cX10_number 99 = .ok (.invokestatic 144, 3) := by decide +kernel
theorem dX10_number_102 : decode cX10_number 102 = .ok (.iastore, 1) := by decide +kernel
theorem dX10_number_103 : decode cX10_number 103 = .ok (.iinc 4 1, 3) := by decide +kernel
theorem dX10_number_106 : decode cX10_number 106 = .ok (.goto (-28), 3) := by decide +kernel
theorem dX10_number_109 : decode cX10_number 109 = .ok (.aload_n 0, 1) := by decide +kernel
theorem dX10_number_110 : decode cX10_number 110 = .ok (.iload_n 2, 1) := by decide +kernel
theorem dX10_number_111 : decode cX10_number 111 = .ok (.invokevirtual 141, 3) := by decide +kernel
theorem dX10_number_114 : decode cX10_number 114 = .ok (.istore 4, 2) := by decide +kernel
theorem dX10_number_116 : decode cX10_number 116 = .ok (.iconst 0, 1) := by decide +kernel
theorem dX10_number_117 : decode cX10_number 117 = .ok (.istore 5, 2) := by decide +kernel
theorem dX10_number_119 : decode cX10_number 119 = .ok (.iconst 0, 1) := by decide +kernel
theorem dX10_number_120 : decode cX10_number 120 = .ok (.istore 6, 2) := by decide +kernel
theorem dX10_number_122 : decode cX10_number 122 = .ok (.iconst 0, 1) := by decide +kernel
theorem dX10_number_123 : decode cX10_number 123 = .ok (.istore 7, 2) := by decide +kernel
theorem dX10_number_125 : decode cX10_number 125 = .ok (.iload 7, 2) := by decide +kernel
theorem dX10_number_127 : decode cX10_number 127 = .ok (.aload_n 0, 1) := by decide +kernel
theorem dX10_number_128 : decode cX10_number 128 = .ok (.getfield 68, 3) := by decide +kernel
theorem dX10_number_131 : decode cX10_number 131 = .ok (.if_icmp .ge 76, 3) := by decide +kernel
theorem dX10_number_134 : decode cX10_number 134 = .ok (.aload_n 0, 1) := by decide +kernel
theorem dX10_number_135 : decode cX10_number 135 = .ok (.iload 7, 2) := by decide +kernel
theorem dX10_number_137 : decode cX10_number 137 = .ok (.invokevirtual 126, 3) := by decide +kernel
theorem dX10_number_140 : decode cX10_number 140 = .ok (.ifCond .lt 25, 3) := by decide +kernel
theorem dX10_number_143 : decode cX10_number 143 = .ok (.aload_n 0, 1) := by decide +kernel
theorem dX10_number_144 : decode cX10_number 144 = .ok (.iload 7, 2) := by decide +kernel
theorem dX10_number_146 : decode cX10_number 146 = .ok (.invokevirtual 126, 3) := by decide +kernel
theorem dX10_number_149 : decode cX10_number 149 = .ok (.iload_n 3, 1) := by decide +kernel
theorem dX10_number_150 : decode cX10_number 150 = .ok (.isub, 1) := by decide +kernel
theorem dX10_number_151 : decode cX10_number 151 = .ok (.invokestatic 144, 3) := by decide +kernel
theorem dX10_number_154 : decode cX10_number 154 = .ok (.iconst 3, 1) := by decide +kernel
theorem dX10_number_155 : decode cX10_number 155 = .ok (.iload 4, 2) := by decide +kernel
theorem dX10_number_157 : decode cX10_number 157 = .ok (.imul, 1) := by decide +kernel
theorem dX10_number_158 : decode cX10_number 158 = .ok (.if_icmp .le 7, 3) := by decide +kernel
theorem dX10_number_161 : decode cX10_number 161 = .ok (.iconst 1, 1) := by decide +kernel
theorem dX10_number_162 : decode cX10_number 162 = .ok (.goto 4, 3) := by decide +kernel
theorem dX10_number_165 : decode cX10_number 165 = .ok (.iconst 0, 1) := by decide +kernel
theorem dX10_number_166 : decode cX10_number 166 = .ok (.istore 8, 2) := by decide +kernel
theorem dX10_number_168 : decode cX10_number 168 = .ok (.iload 5, 2) := by decide +kernel
theorem dX10_number_170 : decode cX10_number 170 = .ok (.iload 8, 2) := by decide +kernel
theorem dX10_number_172 : decode cX10_number 172 = .ok (.ifCond .eq 10, 3) := by decide +kernel
theorem dX10_number_175 : decode cX10_number 175 = .ok (.iconst 1, 1) := by decide +kernel
theorem dX10_number_176 : decode cX10_number 176 = .ok (.iload 7, 2) := by decide +kernel
theorem dX10_number_178 : decode cX10_number 178 = .ok (.ishl, 1) := by decide +kernel
theorem dX10_number_179 : decode cX10_number 179 = .ok (.goto 4, 3) := by decide +kernel
theorem dX10_number_182 : decode cX10_number 182 = .ok (.iconst 0, 1) := by decide +kernel
theorem dX10_number_183 : decode cX10_number 183 = .ok (.ior, 1) := by decide +kernel
theorem dX10_number_184 : decode cX10_number 184 = .ok (.istore 5, 2) := by decide +kernel
theorem dX10_number_186 : decode cX10_number 186 = .ok (.iload 6, 2) := by decide +kernel
theorem dX10_number_188 : decode cX10_number 188 = .ok (.iload 8, 2) := by decide +kernel
theorem dX10_number_190 : decode cX10_number 190 = .ok (.ifCond .eq 7, 3) := by decide +kernel
theorem dX10_number_193 : decode cX10_number 193 = .ok (.iconst 1, 1) := by decide +kernel
theorem dX10_number_194 : decode cX10_number 194 = .ok (.goto 4, 3) := by decide +kernel
theorem dX10_number_197 : decode cX10_number 197 = .ok (.iconst 0, 1) := by decide +kernel
theorem dX10_number_198 : decode cX10_number 198 = .ok (.iadd, 1) := by decide +kernel
theorem dX10_number_199 : decode cX10_number 199 = .ok (.istore 6, 2) := by decide +kernel
theorem dX10_number_201 : decode cX10_number 201 = .ok (.iinc 7 1, 3) := by decide +kernel
theorem dX10_number_204 : decode cX10_number 204 = .ok (.goto (-79), 3) := by decide +kernel
theorem dX10_number_207 : decode cX10_number 207 = .ok (.iload_n 1, 1) := by decide +kernel
theorem dX10_number_208 : decode cX10_number 208 = .ok (.ifCond .ne 7, 3) := by decide +kernel
theorem dX10_number_211 : decode cX10_number 211 = .ok (.iload_n 3, 1) := by decide +kernel
theorem dX10_number_212 : decode cX10_number 212 = .ok (.goto 15, 3) := by decide +kernel
theorem dX10_number_215 : decode cX10_number 215 = .ok (.iload_n 1, 1) := by decide +kernel
theorem dX10_number_216 : decode cX10_number 216 = .ok (.iconst 1, 1) := by decide +kernel
theorem dX10_number_217 : decode cX10_number 217 = .ok (.if_icmp .ne 8, 3) := by decide +kernel
theorem dX10_number_220 : decode cX10_number 220 = .ok (.iload 6, 2) := by decide +kernel
theorem dX10_number_222 : decode cX10_number 222 = .ok (.goto 5, 3) := by decide +kernel
theorem dX10_number_225 : decode cX10_number 225 = .ok (.iload 5, 2) := by decide +kernel
theorem dX10_number_227 : decode cX10_number 227 = .ok (.ireturn, 1) := by decide +kernel
theorem dX10_place_0 : decode cX10_place 0 = .ok (.iconst 0, 1) := by decide +kernel
theorem dX10_place_1 : decode cX10_place 1 = .ok (.istore_n 3, 1) := by decide +kernel
theorem dX10_place_2 : decode cX10_place 2 = .ok (.iload_n 1, 1) := by decide +kernel
theorem dX10_place_3 : decode cX10_place 3 = .ok (.iconst 3, 1) := by decide +kernel
theorem dX10_place_4 : decode cX10_place 4 = .ok (.iload_n 3, 1) := by decide +kernel
theorem dX10_place_5 : decode cX10_place 5 = .ok (.imul, 1) := by decide +kernel
theorem dX10_place_6 : decode cX10_place 6 = .ok (.ishr, 1) := by decide +kernel
theorem dX10_place_7 : decode cX10_place 7 = .ok (.bipush 7, 2) := by decide +kernel
theorem dX10_place_9 : decode cX10_place 9 = .ok (.iand, 1) := by decide +kernel
theorem dX10_place_10 : decode cX10_place 10 = .ok (.iload_n 2, 1) := by decide +kernel
theorem dX10_place_11 : decode cX10_place 11 = .ok (.if_icmp .eq 9, 3) := by decide +kernel
theorem dX10_place_14 : decode cX10_place 14 = .ok (.iinc 3 1, 3) := by decide +kernel
theorem dX10_place_17 : decode cX10_place 17 = .ok (.goto (-15), 3) := by decide +kernel
theorem dX10_place_20 : decode cX10_place 20 = .ok (.iload_n 3, 1) := by decide +kernel
theorem dX10_place_21 : decode cX10_place 21 = .ok (.ireturn, 1) := by decide +kernel
theorem dX10_turned_0 : decode cX10_turned 0 = .ok (.iconst 0, 1) := by decide +kernel
theorem dX10_turned_1 : decode cX10_turned 1 = .ok (.istore_n 2, 1) := by decide +kernel
theorem dX10_turned_2 : decode cX10_turned 2 = .ok (.iconst 0, 1) := by decide +kernel
theorem dX10_turned_3 : decode cX10_turned 3 = .ok (.istore_n 3, 1) := by decide +kernel
theorem dX10_turned_4 : decode cX10_turned 4 = .ok (.iload_n 3, 1) := by decide +kernel
theorem dX10_turned_5 : decode cX10_turned 5 = .ok (.aload_n 0, 1) := by decide +kernel
theorem dX10_turned_6 : decode cX10_turned 6 = .ok (.getfield 68, 3) := by decide +kernel
theorem dX10_turned_9 : decode cX10_turned 9 = .ok (.if_icmp .ge 117, 3) := by decide +kernel
theorem dX10_turned_12 : decode cX10_turned 12 = .ok (.aload_n 0, 1) := by decide +kernel
theorem dX10_turned_13 : decode cX10_turned 13 = .ok (.iload_n 3, 1) := by decide +kernel
theorem dX10_turned_14 : decode cX10_turned 14 = .ok (.invokevirtual 126, 3) := by decide +kernel
theorem dX10_turned_17 : decode cX10_turned 17 = .ok (.istore 4, 2) := by decide +kernel
theorem dX10_turned_19 : decode cX10_turned 19 = .ok (.iconst 0, 1) := by decide +kernel
theorem dX10_turned_20 : decode cX10_turned 20 = .ok (.istore 5, 2) := by decide +kernel
theorem dX10_turned_22 : decode cX10_turned 22 = .ok (.iload 5, 2) := by decide +kernel
theorem dX10_turned_24 : decode cX10_turned 24 = .ok (.aload_n 0, 1) := by decide +kernel
theorem dX10_turned_25 : decode cX10_turned 25 = .ok (.getfield 101, 3) := by decide +kernel
theorem dX10_turned_28 : decode cX10_turned 28 = .ok (.if_icmp .ge 92, 3) := by decide +kernel
theorem dX10_turned_31 : decode cX10_turned 31 = .ok (.iload 4, 2) := by decide +kernel
theorem dX10_turned_33 : decode cX10_turned 33 = .ok (.ifCond .lt 87, 3) := by decide +kernel
theorem dX10_turned_36 : decode cX10_turned 36 = .ok (.iload 5, 2) := by decide +kernel
theorem dX10_turned_38 : decode cX10_turned 38 = .ok (.iconst 1, 1) := by decide +kernel
theorem dX10_turned_39 : decode cX10_turned 39 = .ok (.iadd, 1) := by decide +kernel
theorem dX10_turned_40 : decode cX10_turned 40 = .ok (.istore 6, 2) := by decide +kernel
theorem dX10_turned_42 : decode cX10_turned 42 = .ok (.iload 6, 2) := by decide +kernel
theorem dX10_turned_44 : decode cX10_turned 44 = .ok (.aload_n 0, 1) := by decide +kernel
theorem dX10_turned_45 : decode cX10_turned 45 = .ok (.getfield 101, 3) := by decide +kernel
theorem dX10_turned_48 : decode cX10_turned 48 = .ok (.if_icmp .ge 66, 3) := by decide +kernel
theorem dX10_turned_51 : decode cX10_turned 51 = .ok (.iload_n 2, 1) := by decide +kernel
theorem dX10_turned_52 : decode cX10_turned 52 = .ok (.aload_n 0, 1) := by decide +kernel
theorem dX10_turned_53 : decode cX10_turned 53 = .ok (.iload_n 1, 1) := by decide +kernel
theorem dX10_turned_54 : decode cX10_turned 54 = .ok (.iload 5, 2) := by decide +kernel
theorem dX10_turned_56 : decode cX10_turned 56 = .ok (.invokevirtual 147, 3) := by decide +kernel
theorem dX10_turned_59 : decode cX10_turned 59 = .ok (.aload_n 0, 1) := by decide +kernel
theorem dX10_turned_60 : decode cX10_turned 60 = .ok (.iload_n 1, 1) := by decide +kernel
theorem dX10_turned_61 : decode cX10_turned 61 = .ok (.iload 6, 2) := by decide +kernel
theorem dX10_turned_63 : decode cX10_turned 63 = .ok (.invokevirtual 147, 3) := by decide +kernel
theorem dX10_turned_66 : decode cX10_turned 66 = .ok (.if_icmp .ge 7, 3) := by decide +kernel
theorem dX10_turned_69 : decode cX10_turned 69 = .ok (.iconst 1, 1) := by decide +kernel
theorem dX10_turned_70 : decode cX10_turned 70 = .ok (.goto 4, 3) := by decide +kernel
theorem dX10_turned_73 : decode cX10_turned 73 = .ok (.iconst 0, 1) := by decide +kernel
theorem dX10_turned_74 : decode cX10_turned 74 = .ok (.aload_n 0, 1) := by decide +kernel
theorem dX10_turned_75 : decode cX10_turned 75 = .ok (.iload 4, 2) := by decide +kernel
theorem dX10_turned_77 : decode cX10_turned 77 = .ok (.iload 5, 2) := by decide +kernel
theorem dX10_turned_79 : decode cX10_turned 79 = .ok (.invokevirtual 147, 3) := by decide +kernel
theorem dX10_turned_82 : decode cX10_turned 82 = .ok (.aload_n 0, 1) := by decide +kernel
theorem dX10_turned_83 : decode cX10_turned 83 = .ok (.iload 4, 2) := by decide +kernel
theorem dX10_turned_85 : decode cX10_turned 85 = .ok (.iload 6, 2) := by decide +kernel
theorem dX10_turned_87 : decode cX10_turned 87 = .ok (.invokevirtual 147, 3) := by decide +kernel
theorem dX10_turned_90 : decode cX10_turned 90 = .ok (.if_icmp .ge 7, 3) := by decide +kernel
theorem dX10_turned_93 : decode cX10_turned 93 = .ok (.iconst 1, 1) := by decide +kernel
theorem dX10_turned_94 : decode cX10_turned 94 = .ok (.goto 4, 3) := by decide +kernel
theorem dX10_turned_97 : decode cX10_turned 97 = .ok (.iconst 0, 1) := by decide +kernel
theorem dX10_turned_98 : decode cX10_turned 98 = .ok (.if_icmp .eq 7, 3) := by decide +kernel
theorem dX10_turned_101 : decode cX10_turned 101 = .ok (.iconst 1, 1) := by decide +kernel
theorem dX10_turned_102 : decode cX10_turned 102 = .ok (.goto 4, 3) := by decide +kernel
theorem dX10_turned_105 : decode cX10_turned 105 = .ok (.iconst 0, 1) := by decide +kernel
theorem dX10_turned_106 : decode cX10_turned 106 = .ok (.iadd, 1) := by decide +kernel
theorem dX10_turned_107 : decode cX10_turned 107 = .ok (.istore_n 2, 1) := by decide +kernel
theorem dX10_turned_108 : decode cX10_turned 108 = .ok (.iinc 6 1, 3) := by decide +kernel
theorem dX10_turned_111 : decode cX10_turned 111 = .ok (.goto (-69), 3) := by decide +kernel
theorem dX10_turned_114 : decode cX10_turned 114 = .ok (.iinc 5 1, 3) := by decide +kernel
theorem dX10_turned_117 : decode cX10_turned 117 = .ok (.goto (-95), 3) := by decide +kernel
theorem dX10_turned_120 : decode cX10_turned 120 = .ok (.iinc 3 1, 3) := by decide +kernel
theorem dX10_turned_123 : decode cX10_turned 123 = .ok (.goto (-119), 3) := by decide +kernel
theorem dX10_turned_126 : decode cX10_turned 126 = .ok (.iload_n 2, 1) := by decide +kernel
theorem dX10_turned_127 : decode cX10_turned 127 = .ok (.ireturn, 1) := by decide +kernel
theorem dX10_isLower_0 : decode cX10_isLower 0 = .ok (.iconst 0, 1) := by decide +kernel
theorem dX10_isLower_1 : decode cX10_isLower 1 = .ok (.istore_n 2, 1) := by decide +kernel
theorem dX10_isLower_2 : decode cX10_isLower 2 = .ok (.iload_n 0, 1) := by decide +kernel
theorem dX10_isLower_3 : decode cX10_isLower 3 = .ok (.iconst 3, 1) := by decide +kernel
theorem dX10_isLower_4 : decode cX10_isLower 4 = .ok (.iload_n 2, 1) := by decide +kernel
theorem dX10_isLower_5 : decode cX10_isLower 5 = .ok (.imul, 1) := by decide +kernel
theorem dX10_isLower_6 : decode cX10_isLower 6 = .ok (.ishr, 1) := by decide +kernel
theorem dX10_isLower_7 : decode cX10_isLower 7 = .ok (.bipush 7, 2) := by decide +kernel
theorem dX10_isLower_9 : decode cX10_isLower 9 = .ok (.iand, 1) := by decide +kernel
theorem dX10_isLower_10 : decode cX10_isLower 10 = .ok (.iload_n 1, 1) := by decide +kernel
theorem dX10_isLower_11 : decode cX10_isLower 11 = .ok (.iconst 3, 1) := by decide +kernel
theorem dX10_isLower_12 : decode cX10_isLower 12 = .ok (.iload_n 2, 1) := by decide +kernel
theorem dX10_isLower_13 : decode cX10_isLower 13 = .ok (.imul, 1) := by decide +kernel
theorem dX10_isLower_14 : decode cX10_isLower 14 = .ok (.ishr, 1) := by decide +kernel
theorem dX10_isLower_15 : decode cX10_isLower 15 = .ok (.bipush 7, 2) := by decide +kernel
theorem dX10_isLower_17 : decode cX10_isLower 17 = .ok (.iand, 1) := by decide +kernel
theorem dX10_isLower_18 : decode cX10_isLower 18 = .ok (.if_icmp .ne 9, 3) := by decide +kernel
theorem dX10_isLower_21 : decode cX10_isLower 21 = .ok (.iinc 2 1, 3) := by decide +kernel
theorem dX10_isLower_24 : decode cX10_isLower 24 = .ok (.goto (-22), 3) := by decide +kernel
theorem dX10_isLower_27 : decode cX10_isLower 27 = .ok (.iload_n 0, 1) := by decide +kernel
theorem dX10_isLower_28 : decode cX10_isLower 28 = .ok (.iconst 3, 1) := by decide +kernel
theorem dX10_isLower_29 : decode cX10_isLower 29 = .ok (.iload_n 2, 1) := by decide +kernel
theorem dX10_isLower_30 : decode cX10_isLower 30 = .ok (.imul, 1) := by decide +kernel
theorem dX10_isLower_31 : decode cX10_isLower 31 = .ok (.ishr, 1) := by decide +kernel
theorem dX10_isLower_32 : decode cX10_isLower 32 = .ok (.bipush 7, 2) := by decide +kernel
theorem dX10_isLower_34 : decode cX10_isLower 34 = .ok (.iand, 1) := by decide +kernel
theorem dX10_isLower_35 : decode cX10_isLower 35 = .ok (.iload_n 1, 1) := by decide +kernel
theorem dX10_isLower_36 : decode cX10_isLower 36 = .ok (.iconst 3, 1) := by decide +kernel
theorem dX10_isLower_37 : decode cX10_isLower 37 = .ok (.iload_n 2, 1) := by decide +kernel
theorem dX10_isLower_38 : decode cX10_isLower 38 = .ok (.imul, 1) := by decide +kernel
theorem dX10_isLower_39 : decode cX10_isLower 39 = .ok (.ishr, 1) := by decide +kernel
theorem dX10_isLower_40 : decode cX10_isLower 40 = .ok (.bipush 7, 2) := by decide +kernel
theorem dX10_isLower_42 : decode cX10_isLower 42 = .ok (.iand, 1) := by decide +kernel
theorem dX10_isLower_43 : decode cX10_isLower 43 = .ok (.if_icmp .ge 7, 3) := by decide +kernel
theorem dX10_isLower_46 : decode cX10_isLower 46 = .ok (.iconst 1, 1) := by decide +kernel
theorem dX10_isLower_47 : decode cX10_isLower 47 = .ok (.goto 4, 3) := by decide +kernel
theorem dX10_isLower_50 : decode cX10_isLower 50 = .ok (.iconst 0, 1) := by decide +kernel
theorem dX10_isLower_51 : decode cX10_isLower 51 = .ok (.ireturn, 1) := by decide +kernel
theorem dX10_order_0 : decode cX10_order 0 = .ok (.iload_n 1, 1) := by decide +kernel
theorem dX10_order_1 : decode cX10_order 1 = .ok (.iconst 0, 1) := by decide +kernel
theorem dX10_order_2 : decode cX10_order 2 = .ok (.iconst 1, 1) := by decide +kernel
theorem dX10_order_3 : decode cX10_order 3 = .ok (.invokestatic 72, 3) := by decide +kernel
theorem dX10_order_6 : decode cX10_order 6 = .ok (.ifCond .ne 5, 3) := by decide +kernel
theorem dX10_order_9 : decode cX10_order 9 = .ok (.iconst (-1), 1) := by decide +kernel
theorem dX10_order_10 : decode cX10_order 10 = .ok (.ireturn, 1) := by decide +kernel
theorem dX10_order_11 : decode cX10_order 11 = .ok (.aload_n 0, 1) := by decide +kernel
theorem dX10_order_12 : decode cX10_order 12 = .ok (.iconst 2, 1) := by decide +kernel
theorem dX10_order_13 : decode cX10_order 13 = .ok (.invokevirtual 138, 3) := by decide +kernel
theorem dX10_order_16 : decode cX10_order 16 = .ok (.ifCond .eq 10, 3) := by decide +kernel
theorem dX10_order_19 : decode cX10_order 19 = .ok (.aload_n 0, 1) := by decide +kernel
theorem dX10_order_20 : decode cX10_order 20 = .ok (.invokevirtual 134, 3) := by decide +kernel
theorem dX10_order_23 : decode cX10_order 23 = .ok (.ifCond .ne 6, 3) := by decide +kernel
theorem dX10_order_26 : decode cX10_order 26 = .ok (.bipush (-2), 2) := by decide +kernel
theorem dX10_order_28 : decode cX10_order 28 = .ok (.ireturn, 1) := by decide +kernel
theorem dX10_order_29 : decode cX10_order 29 = .ok (.iconst (-1), 1) := by decide +kernel
theorem dX10_order_30 : decode cX10_order 30 = .ok (.istore_n 2, 1) := by decide +kernel
theorem dX10_order_31 : decode cX10_order 31 = .ok (.iconst 0, 1) := by decide +kernel
theorem dX10_order_32 : decode cX10_order 32 = .ok (.istore_n 3, 1) := by decide +kernel
theorem dX10_order_33 : decode cX10_order 33 = .ok (.iconst 0, 1) := by decide +kernel
theorem dX10_order_34 : decode cX10_order 34 = .ok (.istore 4, 2) := by decide +kernel
theorem dX10_order_36 : decode cX10_order 36 = .ok (.iload 4, 2) := by decide +kernel
theorem dX10_order_38 : decode cX10_order 38 = .ok (.iconst 1, 1) := by decide +kernel
theorem dX10_order_39 : decode cX10_order 39 = .ok (.iconst 3, 1) := by decide +kernel
theorem dX10_order_40 : decode cX10_order 40 = .ok (.aload_n 0, 1) := by decide +kernel
theorem dX10_order_41 : decode cX10_order 41 = .ok (.getfield 101, 3) := by decide +kernel
theorem dX10_order_44 : decode cX10_order 44 = .ok (.imul, 1) := by decide +kernel
theorem dX10_order_45 : decode cX10_order 45 = .ok (.ishl, 1) := by decide +kernel
theorem dX10_order_46 : decode cX10_order 46 = .ok (.if_icmp .ge 57, 3) := by decide +kernel
theorem dX10_order_49 : decode cX10_order 49 = .ok (.aload_n 0, 1) := by decide +kernel
theorem dX10_order_50 : decode cX10_order 50 = .ok (.iload 4, 2) := by decide +kernel
theorem dX10_order_52 : decode cX10_order 52 = .ok (.invokevirtual 110, 3) := by decide +kernel
theorem dX10_order_55 : decode cX10_order 55 = .ok (.ifCond .eq 42, 3) := by decide +kernel
theorem dX10_order_58 : decode cX10_order 58 = .ok (.aload_n 0, 1) := by decide +kernel
theorem dX10_order_59 : decode cX10_order 59 = .ok (.iload 4, 2) := by decide +kernel
theorem dX10_order_61 : decode cX10_order 61 = .ok (.invokevirtual 151, 3) := by decide +kernel
theorem dX10_order_64 : decode cX10_order 64 = .ok (.istore 5, 2) := by decide +kernel
theorem dX10_order_66 : decode cX10_order 66 = .ok (.iload_n 2, 1) := by decide +kernel
theorem dX10_order_67 : decode cX10_order 67 = .ok (.ifCond .lt 24, 3) := by decide +kernel
theorem dX10_order_70 : decode cX10_order 70 = .ok (.iload 5, 2) := by decide +kernel
theorem dX10_order_72 : decode cX10_order 72 = .ok (.iload_n 3, 1) := by decide +kernel
theorem dX10_order_73 : decode cX10_order 73 = .ok (.if_icmp .lt 18, 3) := by decide +kernel
theorem dX10_order_76 : decode cX10_order 76 = .ok (.iload 5, 2) := by decide +kernel
theorem dX10_order_78 : decode cX10_order 78 = .ok (.iload_n 3, 1) := by decide +kernel
theorem dX10_order_79 : decode cX10_order 79 = .ok (.if_icmp .ne 18, 3) := by decide +kernel
theorem dX10_order_82 : decode cX10_order 82 = .ok (.iload 4, 2) := by decide +kernel
theorem dX10_order_84 : decode cX10_order 84 = .ok (.iload_n 2, 1) := by decide +kernel
theorem dX10_order_85 : decode cX10_order 85 = .ok (.invokestatic 154, 3) := by decide +kernel
theorem dX10_order_88 : decode cX10_order 88 = .ok (.ifCond .eq 9, 3) := by decide +kernel
theorem dX10_order_91 : decode cX10_order 91 = .ok (.iload 4, 2) := by decide +kernel
theorem dX10_order_93 : decode cX10_order 93 = .ok (.istore_n 2, 1) := by decide +kernel
theorem dX10_order_94 : decode cX10_order 94 = .ok (.iload 5, 2) := by decide +kernel
theorem dX10_order_96 : decode cX10_order 96 = .ok (.istore_n 3, 1) := by decide +kernel
theorem dX10_order_97 : decode cX10_order 97 = .ok (.iinc 4 1, 3) := by decide +kernel
theorem dX10_order_100 : decode cX10_order 100 = .ok (.goto (-64), 3) := by decide +kernel
theorem dX10_order_103 : decode cX10_order 103 = .ok (.iload_n 1, 1) := by decide +kernel
theorem dX10_order_104 : decode cX10_order 104 = .ok (.ifCond .ne 7, 3) := by decide +kernel
theorem dX10_order_107 : decode cX10_order 107 = .ok (.iload_n 2, 1) := by decide +kernel
theorem dX10_order_108 : decode cX10_order 108 = .ok (.goto 4, 3) := by decide +kernel
theorem dX10_order_111 : decode cX10_order 111 = .ok (.iload_n 3, 1) := by decide +kernel
theorem dX10_order_112 : decode cX10_order 112 = .ok (.ireturn, 1) := by decide +kernel
theorem dX10_close_0 : decode cX10_close 0 = .ok (.aload_n 0, 1) := by decide +kernel
theorem dX10_close_1 : decode cX10_close 1 = .ok (.getfield 76, 3) := by decide +kernel
theorem dX10_close_4 : decode cX10_close 4 = .ok (.ifCond .ne 6, 3) := by decide +kernel
theorem dX10_close_7 : decode cX10_close 7 = .ok (.bipush (-2), 2) := by decide +kernel
theorem dX10_close_9 : decode cX10_close 9 = .ok (.ireturn, 1) := by decide +kernel
theorem dX10_close_10 : decode cX10_close 10 = .ok (.aload_n 0, 1) := by decide +kernel
theorem dX10_close_11 : decode cX10_close 11 = .ok (.iload_n 1, 1) := by decide +kernel
theorem dX10_close_12 : decode cX10_close 12 = .ok (.invokevirtual 110, 3) := by decide +kernel
theorem dX10_close_15 : decode cX10_close 15 = .ok (.ifCond .ne 5, 3) := by decide +kernel
theorem dX10_close_18 : decode cX10_close 18 = .ok (.iconst (-1), 1) := by decide +kernel
theorem dX10_close_19 : decode cX10_close 19 = .ok (.ireturn, 1) := by decide +kernel
theorem dX10_close_20 : decode cX10_close 20 = .ok (.aload_n 0, 1) := by decide +kernel
theorem dX10_close_21 : decode cX10_close 21 = .ok (.getfield 94, 3) := by decide +kernel
theorem dX10_close_24 : decode cX10_close 24 = .ok (.aload_n 0, 1) := by decide +kernel
theorem dX10_close_25 : decode cX10_close 25 = .ok (.getfield 104, 3) := by decide +kernel
theorem dX10_close_28 : decode cX10_close 28 = .ok (.if_icmp .ge 6, 3) := by decide +kernel
theorem dX10_close_31 : decode cX10_close 31 = .ok (.bipush (-2), 2) := by decide +kernel
theorem dX10_close_33 : decode cX10_close 33 = .ok (.ireturn, 1) := by decide +kernel
theorem dX10_close_34 : decode cX10_close 34 = .ok (.aload_n 0, 1) := by decide +kernel
theorem dX10_close_35 : decode cX10_close 35 = .ok (.getfield 158, 3) := by decide +kernel
theorem dX10_close_38 : decode cX10_close 38 = .ok (.bipush 20, 2) := by decide +kernel
theorem dX10_close_40 : decode cX10_close 40 = .ok (.if_icmp .ne 6, 3) := by decide +kernel
theorem dX10_close_43 : decode cX10_close 43 = .ok (.bipush (-3), 2) := by decide +kernel
theorem dX10_close_45 : decode cX10_close 45 = .ok (.ireturn, 1) := by decide +kernel
theorem dX10_close_46 : decode cX10_close 46 = .ok (.iconst 0, 1) := by decide +kernel
theorem dX10_close_47 : decode cX10_close 47 = .ok (.istore_n 2, 1) := by decide +kernel
theorem dX10_close_48 : decode cX10_close 48 = .ok (.iconst 0, 1) := by decide +kernel
theorem dX10_close_49 : decode cX10_close 49 = .ok (.istore_n 3, 1) := by decide +kernel
theorem dX10_close_50 : decode cX10_close 50 = .ok (.iload_n 3, 1) := by decide +kernel
theorem dX10_close_51 : decode cX10_close 51 = .ok (.bipush 16, 2) := by decide +kernel
theorem dX10_close_53 : decode cX10_close 53 = .ok (.if_icmp .ge 77, 3) := by decide +kernel
theorem dX10_close_56 : decode cX10_close 56 = .ok (.iload_n 3, 1) := by decide +kernel
theorem dX10_close_57 : decode cX10_close 57 = .ok (.aload_n 0, 1) := by decide +kernel
theorem dX10_close_58 : decode cX10_close 58 = .ok (.getfield 68, 3) := by decide +kernel
theorem dX10_close_61 : decode cX10_close 61 = .ok (.if_icmp .ge 11, 3) := by decide +kernel
theorem dX10_close_64 : decode cX10_close 64 = .ok (.aload_n 0, 1) := by decide +kernel
theorem dX10_close_65 : decode cX10_close 65 = .ok (.iload_n 3, 1) := by decide +kernel
theorem dX10_close_66 : decode cX10_close 66 = .ok (.invokevirtual 126, 3) := by decide +kernel
theorem dX10_close_69 : decode cX10_close 69 = .ok (.goto 5, 3) := by decide +kernel
theorem dX10_close_72 : decode cX10_close 72 = .ok (.bipush (-4), 2) := by decide +kernel
theorem dX10_close_74 : decode cX10_close 74 = .ok (.istore 4, 2) := by decide +kernel
theorem dX10_close_76 : decode cX10_close 76 = .ok (.aload_n 0, 1) := by decide +kernel
theorem dX10_close_77 : decode cX10_close 77 = .ok (.getfield 62, 3) := by decide +kernel
theorem dX10_close_80 : decode cX10_close 80 = .ok (.bipush 16, 2) := by decide +kernel
theorem dX10_close_82 : decode cX10_close 82 = .ok (.aload_n 0, 1) := by decide +kernel
theorem dX10_close_83 : decode cX10_close 83 = .ok (.getfield 158, 3) := by decide +kernel
theorem dX10_close_86 : decode cX10_close 86 = .ok (.imul, 1) := by decide +kernel
theorem dX10_close_87 : decode cX10_close 87 = .ok (.iload_n 3, 1) := by decide +kernel
theorem dX10_close_88 : decode cX10_close 88 = .ok (.iadd, 1) := by decide +kernel
theorem dX10_close_89 : decode cX10_close 89 = .ok (.iload 4, 2) := by decide +kernel
theorem dX10_close_91 : decode cX10_close 91 = .ok (.ifCond .ge 7, 3) := by decide +kernel
theorem dX10_close_94 : decode cX10_close 94 = .ok (.iconst (-1), 1) := by decide +kernel
theorem dX10_close_95 : decode cX10_close 95 = .ok (.goto 14, 3) := by decide +kernel
theorem dX10_close_98 : decode cX10_close 98 = .ok (.iload 4, 2) := by decide +kernel
theorem dX10_close_100 : decode cX10_close 100 = .ok (.iload_n 1, 1) := by decide +kernel
theorem dX10_close_101 : decode cX10_close 101 = .ok (.if_icmp .ne 7, 3) := by decide +kernel
theorem dX10_close_104 : decode cX10_close 104 = .ok (.iconst 1, 1) := by decide +kernel
theorem dX10_close_105 : decode cX10_close 105 = .ok (.goto 4, 3) := by decide +kernel
theorem dX10_close_108 : decode cX10_close 108 = .ok (.iconst 0, 1) := by decide +kernel
theorem dX10_close_109 : decode cX10_close 109 = .ok (.iastore, 1) := by decide +kernel
theorem dX10_close_110 : decode cX10_close 110 = .ok (.iload_n 2, 1) := by decide +kernel
theorem dX10_close_111 : decode cX10_close 111 = .ok (.iload 4, 2) := by decide +kernel
theorem dX10_close_113 : decode cX10_close 113 = .ok (.iload_n 1, 1) := by decide +kernel
theorem dX10_close_114 : decode cX10_close 114 = .ok (.if_icmp .ne 7, 3) := by decide +kernel
theorem dX10_close_117 : decode cX10_close 117 = .ok (.iconst 1, 1) := by decide +kernel
theorem dX10_close_118 : decode cX10_close 118 = .ok (.goto 4, 3) := by decide +kernel
theorem dX10_close_121 : decode cX10_close 121 = .ok (.iconst 0, 1) := by decide +kernel
theorem dX10_close_122 : decode cX10_close 122 = .ok (.iadd, 1) := by decide +kernel
theorem dX10_close_123 : decode cX10_close 123 = .ok (.istore_n 2, 1) := by decide +kernel
theorem dX10_close_124 : decode cX10_close 124 = .ok (.iinc 3 1, 3) := by decide +kernel
theorem dX10_close_127 : decode cX10_close 127 = .ok (.goto (-77), 3) := by decide +kernel
theorem dX10_close_130 : decode cX10_close 130 = .ok (.aload_n 0, 1) := by decide +kernel
theorem dX10_close_131 : decode cX10_close 131 = .ok (.dup, 1) := by decide +kernel
theorem dX10_close_132 : decode cX10_close 132 = .ok (.getfield 158, 3) := by decide +kernel
theorem dX10_close_135 : decode cX10_close 135 = .ok (.iconst 1, 1) := by decide +kernel
theorem dX10_close_136 : decode cX10_close 136 = .ok (.iadd, 1) := by decide +kernel
theorem dX10_close_137 : decode cX10_close 137 = .ok (.putfield 158, 3) := by decide +kernel
theorem dX10_close_140 : decode cX10_close 140 = .ok (.aload_n 0, 1) := by decide +kernel
theorem dX10_close_141 : decode cX10_close 141 = .ok (.iconst 0, 1) := by decide +kernel
theorem dX10_close_142 : decode cX10_close 142 = .ok (.putfield 76, 3) := by decide +kernel
theorem dX10_close_145 : decode cX10_close 145 = .ok (.aload_n 0, 1) := by decide +kernel
theorem dX10_close_146 : decode cX10_close 146 = .ok (.iconst 0, 1) := by decide +kernel
theorem dX10_close_147 : decode cX10_close 147 = .ok (.putfield 107, 3) := by decide +kernel
theorem dX10_close_150 : decode cX10_close 150 = .ok (.iload_n 2, 1) := by decide +kernel
theorem dX10_close_151 : decode cX10_close 151 = .ok (.ireturn, 1) := by decide +kernel
theorem dX10_book_0 : decode cX10_book 0 = .ok (.iload_n 1, 1) := by decide +kernel
theorem dX10_book_1 : decode cX10_book 1 = .ok (.iconst 0, 1) := by decide +kernel
theorem dX10_book_2 : decode cX10_book 2 = .ok (.aload_n 0, 1) := by decide +kernel
theorem dX10_book_3 : decode cX10_book 3 = .ok (.getfield 158, 3) := by decide +kernel
theorem dX10_book_6 : decode cX10_book 6 = .ok (.iconst 1, 1) := by decide +kernel
theorem dX10_book_7 : decode cX10_book 7 = .ok (.isub, 1) := by decide +kernel
theorem dX10_book_8 : decode cX10_book 8 = .ok (.invokestatic 72, 3) := by decide +kernel
theorem dX10_book_11 : decode cX10_book 11 = .ok (.ifCond .eq 25, 3) := by decide +kernel
theorem dX10_book_14 : decode cX10_book 14 = .ok (.aload_n 0, 1) := by decide +kernel
theorem dX10_book_15 : decode cX10_book 15 = .ok (.iload_n 2, 1) := by decide +kernel
theorem dX10_book_16 : decode cX10_book 16 = .ok (.invokevirtual 80, 3) := by decide +kernel
theorem dX10_book_19 : decode cX10_book 19 = .ok (.ifCond .eq 17, 3) := by decide +kernel
theorem dX10_book_22 : decode cX10_book 22 = .ok (.aload_n 0, 1) := by decide +kernel
theorem dX10_book_23 : decode cX10_book 23 = .ok (.getfield 62, 3) := by decide +kernel
theorem dX10_book_26 : decode cX10_book 26 = .ok (.bipush 16, 2) := by decide +kernel
theorem dX10_book_28 : decode cX10_book 28 = .ok (.iload_n 1, 1) := by decide +kernel
theorem dX10_book_29 : decode cX10_book 29 = .ok (.imul, 1) := by decide +kernel
theorem dX10_book_30 : decode cX10_book 30 = .ok (.iload_n 2, 1) := by decide +kernel
theorem dX10_book_31 : decode cX10_book 31 = .ok (.iadd, 1) := by decide +kernel
theorem dX10_book_32 : decode cX10_book 32 = .ok (.iaload, 1) := by decide +kernel
theorem dX10_book_33 : decode cX10_book 33 = .ok (.goto 5, 3) := by decide +kernel
theorem dX10_book_36 : decode cX10_book 36 = .ok (.bipush (-9), 2) := by decide +kernel
theorem dX10_book_38 : decode cX10_book 38 = .ok (.ireturn, 1) := by decide +kernel
theorem dX10_marksOf_0 : decode cX10_marksOf 0 = .ok (.iconst 0, 1) := by decide +kernel
theorem dX10_marksOf_1 : decode cX10_marksOf 1 = .ok (.istore_n 2, 1) := by decide +kernel
theorem dX10_marksOf_2 : decode cX10_marksOf 2 = .ok (.iconst 0, 1) := by decide +kernel
theorem dX10_marksOf_3 : decode cX10_marksOf 3 = .ok (.istore_n 3, 1) := by decide +kernel
theorem dX10_marksOf_4 : decode cX10_marksOf 4 = .ok (.iload_n 3, 1) := by decide +kernel
theorem dX10_marksOf_5 : decode cX10_marksOf 5 = .ok (.aload_n 0, 1) := by decide +kernel
theorem dX10_marksOf_6 : decode cX10_marksOf 6 = .ok (.getfield 158, 3) := by decide +kernel
theorem dX10_marksOf_9 : decode cX10_marksOf 9 = .ok (.if_icmp .ge 32, 3) := by decide +kernel
theorem dX10_marksOf_12 : decode cX10_marksOf 12 = .ok (.iload_n 2, 1) := by decide +kernel
theorem dX10_marksOf_13 : decode cX10_marksOf 13 = .ok (.aload_n 0, 1) := by decide +kernel
theorem dX10_marksOf_14 : decode cX10_marksOf 14 = .ok (.getfield 62, 3) := by decide +kernel
theorem dX10_marksOf_17 : decode cX10_marksOf 17 = .ok (.bipush 16, 2) := by decide +kernel
theorem dX10_marksOf_19 : decode cX10_marksOf 19 = .ok (.iload_n 3, 1) := by decide +kernel
theorem dX10_marksOf_20 : decode cX10_marksOf 20 = .ok (.imul, 1) := by decide +kernel
theorem dX10_marksOf_21 : decode cX10_marksOf 21 = .ok (.iload_n 1, 1) := by decide +kernel
theorem dX10_marksOf_22 : decode cX10_marksOf 22 = .ok (.iadd, 1) := by decide +kernel
theorem dX10_marksOf_23 : decode cX10_marksOf 23 = .ok (.iaload, 1) := by decide +kernel
theorem dX10_marksOf_24 : decode cX10_marksOf 24 = .ok (.iconst 1, 1) := by decide +kernel
theorem dX10_marksOf_25 : decode cX10_marksOf 25 = .ok (.if_icmp .ne 7, 3) := by decide +kernel
theorem dX10_marksOf_28 : decode cX10_marksOf 28 = .ok (.iconst 1, 1) := by decide +kernel
theorem dX10_marksOf_29 : decode cX10_marksOf 29 = .ok (.goto 4, 3) := by decide +kernel
theorem dX10_marksOf_32 : decode cX10_marksOf 32 = .ok (.iconst 0, 1) := by decide +kernel
theorem dX10_marksOf_33 : decode cX10_marksOf 33 = .ok (.iadd, 1) := by decide +kernel
theorem dX10_marksOf_34 : decode cX10_marksOf 34 = .ok (.istore_n 2, 1) := by decide +kernel
theorem dX10_marksOf_35 : decode cX10_marksOf 35 = .ok (.iinc 3 1, 3) := by decide +kernel
theorem dX10_marksOf_38 : decode cX10_marksOf 38 = .ok (.goto (-34), 3) := by decide +kernel
theorem dX10_marksOf_41 : decode cX10_marksOf 41 = .ok (.iload_n 2, 1) := by decide +kernel
theorem dX10_marksOf_42 : decode cX10_marksOf 42 = .ok (.ireturn, 1) := by decide +kernel
theorem dX10_marks_0 : decode cX10_marks 0 = .ok (.aload_n 0, 1) := by decide +kernel
theorem dX10_marks_1 : decode cX10_marks 1 = .ok (.iload_n 1, 1) := by decide +kernel
theorem dX10_marks_2 : decode cX10_marks 2 = .ok (.invokevirtual 80, 3) := by decide +kernel
theorem dX10_marks_5 : decode cX10_marks 5 = .ok (.ifCond .eq 11, 3) := by decide +kernel
theorem dX10_marks_8 : decode cX10_marks 8 = .ok (.aload_n 0, 1) := by decide +kernel
theorem dX10_marks_9 : decode cX10_marks 9 = .ok (.iload_n 1, 1) := by decide +kernel
theorem dX10_marks_10 : decode cX10_marks 10 = .ok (.invokevirtual 161, 3) := by decide +kernel
theorem dX10_marks_13 : decode cX10_marks 13 = .ok (.goto 4, 3) := by decide +kernel
theorem dX10_marks_16 : decode cX10_marks 16 = .ok (.iconst (-1), 1) := by decide +kernel
theorem dX10_marks_17 : decode cX10_marks 17 = .ok (.ireturn, 1) := by decide +kernel
theorem dX10_sizeOf_0 : decode cX10_sizeOf 0 = .ok (.iconst 0, 1) := by decide +kernel
theorem dX10_sizeOf_1 : decode cX10_sizeOf 1 = .ok (.istore_n 1, 1) := by decide +kernel
theorem dX10_sizeOf_2 : decode cX10_sizeOf 2 = .ok (.iconst 0, 1) := by decide +kernel
theorem dX10_sizeOf_3 : decode cX10_sizeOf 3 = .ok (.istore_n 2, 1) := by decide +kernel
theorem dX10_sizeOf_4 : decode cX10_sizeOf 4 = .ok (.iload_n 2, 1) := by decide +kernel
theorem dX10_sizeOf_5 : decode cX10_sizeOf 5 = .ok (.bipush 16, 2) := by decide +kernel
theorem dX10_sizeOf_7 : decode cX10_sizeOf 7 = .ok (.if_icmp .ge 17, 3) := by decide +kernel
theorem dX10_sizeOf_10 : decode cX10_sizeOf 10 = .ok (.iload_n 1, 1) := by decide +kernel
theorem dX10_sizeOf_11 : decode cX10_sizeOf 11 = .ok (.iload_n 0, 1) := by decide +kernel
theorem dX10_sizeOf_12 : decode cX10_sizeOf 12 = .ok (.iload_n 2, 1) := by decide +kernel
theorem dX10_sizeOf_13 : decode cX10_sizeOf 13 = .ok (.ishr, 1) := by decide +kernel
theorem dX10_sizeOf_14 : decode cX10_sizeOf 14 = .ok (.iconst 1, 1) := by decide +kernel
theorem dX10_sizeOf_15 : decode cX10_sizeOf 15 = .ok (.iand, 1) := by decide +kernel
theorem dX10_sizeOf_16 : decode cX10_sizeOf 16 = .ok (.iadd, 1) := by decide +kernel
theorem dX10_sizeOf_17 : decode cX10_sizeOf 17 = .ok (.istore_n 1, 1) := by decide +kernel
theorem dX10_sizeOf_18 : decode cX10_sizeOf 18 = .ok (.iinc 2 1, 3) := by decide +kernel
theorem dX10_sizeOf_21 : decode cX10_sizeOf 21 = .ok (.goto (-17), 3) := by decide +kernel
theorem dX10_sizeOf_24 : decode cX10_sizeOf 24 = .ok (.iload_n 1, 1) := by decide +kernel
theorem dX10_sizeOf_25 : decode cX10_sizeOf 25 = .ok (.ireturn, 1) := by decide +kernel
theorem dX10_marksIn_0 : decode cX10_marksIn 0 = .ok (.iconst 0, 1) := by decide +kernel
theorem dX10_marksIn_1 : decode cX10_marksIn 1 = .ok (.istore_n 2, 1) := by decide +kernel
theorem dX10_marksIn_2 : decode cX10_marksIn 2 = .ok (.iconst 0, 1) := by decide +kernel
theorem dX10_marksIn_3 : decode cX10_marksIn 3 = .ok (.istore_n 3, 1) := by decide +kernel
theorem dX10_marksIn_4 : decode cX10_marksIn 4 = .ok (.iload_n 3, 1) := by decide +kernel
theorem dX10_marksIn_5 : decode cX10_marksIn 5 = .ok (.aload_n 0, 1) := by decide +kernel
theorem dX10_marksIn_6 : decode cX10_marksIn 6 = .ok (.getfield 68, 3) := by decide +kernel
theorem dX10_marksIn_9 : decode cX10_marksIn 9 = .ok (.if_icmp .ge 30, 3) := by decide +kernel
theorem dX10_marksIn_12 : decode cX10_marksIn 12 = .ok (.iload_n 2, 1) := by decide +kernel
theorem dX10_marksIn_13 : decode cX10_marksIn 13 = .ok (.iload_n 1, 1) := by decide +kernel
theorem dX10_marksIn_14 : decode cX10_marksIn 14 = .ok (.iload_n 3, 1) := by decide +kernel
theorem dX10_marksIn_15 : decode cX10_marksIn 15 = .ok (.ishr, 1) := by decide +kernel
theorem dX10_marksIn_16 : decode cX10_marksIn 16 = .ok (.iconst 1, 1) := by decide +kernel
theorem dX10_marksIn_17 : decode cX10_marksIn 17 = .ok (.iand, 1) := by decide +kernel
theorem dX10_marksIn_18 : decode cX10_marksIn 18 = .ok (.iconst 1, 1) := by decide +kernel
theorem dX10_marksIn_19 : decode cX10_marksIn 19 = .ok (.if_icmp .ne 11, 3) := by decide +kernel
theorem dX10_marksIn_22 : decode cX10_marksIn 22 = .ok (.aload_n 0, 1) := by decide +kernel
theorem dX10_marksIn_23 : decode cX10_marksIn 23 = .ok (.iload_n 3, 1) := by decide +kernel
theorem dX10_marksIn_24 : decode cX10_marksIn 24 = .ok (.invokevirtual 161, 3) := by decide +kernel
theorem dX10_marksIn_27 : decode cX10_marksIn 27 = .ok (.goto 4, 3) := by decide +kernel
theorem dX10_marksIn_30 : decode cX10_marksIn 30 = .ok (.iconst 0, 1) := by decide +kernel
theorem dX10_marksIn_31 : decode cX10_marksIn 31 = .ok (.iadd, 1) := by decide +kernel
theorem dX10_marksIn_32 : decode cX10_marksIn 32 = .ok (.istore_n 2, 1) := by decide +kernel
theorem dX10_marksIn_33 : decode cX10_marksIn 33 = .ok (.iinc 3 1, 3) := by decide +kernel
theorem dX10_marksIn_36 : decode cX10_marksIn 36 = .ok (.goto (-32), 3) := by decide +kernel
theorem dX10_marksIn_39 : decode cX10_marksIn 39 = .ok (.iload_n 2, 1) := by decide +kernel
theorem dX10_marksIn_40 : decode cX10_marksIn 40 = .ok (.ireturn, 1) := by decide +kernel
theorem dX10_teams_0 : decode cX10_teams 0 = .ok (.iload_n 1, 1) := by decide +kernel
theorem dX10_teams_1 : decode cX10_teams 1 = .ok (.iconst 0, 1) := by decide +kernel
theorem dX10_teams_2 : decode cX10_teams 2 = .ok (.iconst 1, 1) := by decide +kernel
theorem dX10_teams_3 : decode cX10_teams 3 = .ok (.aload_n 0, 1) := by decide +kernel
theorem dX10_teams_4 : decode cX10_teams 4 = .ok (.getfield 68, 3) := by decide +kernel
theorem dX10_teams_7 : decode cX10_teams 7 = .ok (.ishl, 1) := by decide +kernel
theorem dX10_teams_8 : decode cX10_teams 8 = .ok (.iconst 1, 1) := by decide +kernel
theorem dX10_teams_9 : decode cX10_teams 9 = .ok (.isub, 1) := by decide +kernel
theorem dX10_teams_10 : decode cX10_teams 10 = .ok (.invokestatic 72, 3) := by decide +kernel
theorem dX10_teams_13 : decode cX10_teams 13 = .ok (.ifCond .eq 25, 3) := by decide +kernel
theorem dX10_teams_16 : decode cX10_teams 16 = .ok (.iload_n 1, 1) := by decide +kernel
theorem dX10_teams_17 : decode cX10_teams 17 = .ok (.invokestatic 164, 3) := by decide +kernel
theorem dX10_teams_20 : decode cX10_teams 20 = .ok (.iconst 2, 1) := by decide +kernel
theorem dX10_teams_21 : decode cX10_teams 21 = .ok (.bipush 12, 2) := by decide +kernel
theorem dX10_teams_23 : decode cX10_teams 23 = .ok (.invokestatic 72, 3) := by decide +kernel
theorem dX10_teams_26 : decode cX10_teams 26 = .ok (.ifCond .eq 12, 3) := by decide +kernel
theorem dX10_teams_29 : decode cX10_teams 29 = .ok (.iload_n 2, 1) := by decide +kernel
theorem dX10_teams_30 : decode cX10_teams 30 = .ok (.iconst 0, 1) := by decide +kernel
theorem dX10_teams_31 : decode cX10_teams 31 = .ok (.iconst 1, 1) := by decide +kernel
theorem dX10_teams_32 : decode cX10_teams 32 = .ok (.invokestatic 72, 3) := by decide +kernel
theorem dX10_teams_35 : decode cX10_teams 35 = .ok (.ifCond .ne 5, 3) := by decide +kernel
theorem dX10_teams_38 : decode cX10_teams 38 = .ok (.iconst (-1), 1) := by decide +kernel
theorem dX10_teams_39 : decode cX10_teams 39 = .ok (.ireturn, 1) := by decide +kernel
theorem dX10_teams_40 : decode cX10_teams 40 = .ok (.iconst 0, 1) := by decide +kernel
theorem dX10_teams_41 : decode cX10_teams 41 = .ok (.istore_n 3, 1) := by decide +kernel
theorem dX10_teams_42 : decode cX10_teams 42 = .ok (.sipush 9999, 3) := by decide +kernel
theorem dX10_teams_45 : decode cX10_teams 45 = .ok (.istore 4, 2) := by decide +kernel
theorem dX10_teams_47 : decode cX10_teams 47 = .ok (.iload_n 1, 1) := by decide +kernel
theorem dX10_teams_48 : decode cX10_teams 48 = .ok (.iload_n 1, 1) := by decide +kernel
theorem dX10_teams_49 : decode cX10_teams 49 = .ok (.ineg, 1) := by decide +kernel
theorem dX10_teams_50 : decode cX10_teams 50 = .ok (.iand, 1) := by decide +kernel
theorem dX10_teams_51 : decode cX10_teams 51 = .ok (.istore 5, 2) := by decide +kernel
theorem dX10_teams_53 : decode cX10_teams 53 = .ok (.iload_n 1, 1) := by decide +kernel
theorem dX10_teams_54 : decode cX10_teams 54 = .ok (.istore 6, 2) := by decide +kernel
theorem dX10_teams_56 : decode cX10_teams 56 = .ok (.iload 6, 2) := by decide +kernel
theorem dX10_teams_58 : decode cX10_teams 58 = .ok (.ifCond .le 89, 3) := by decide +kernel
theorem dX10_teams_61 : decode cX10_teams 61 = .ok (.aload_n 0, 1) := by decide +kernel
theorem dX10_teams_62 : decode cX10_teams 62 = .ok (.iload 6, 2) := by decide +kernel
theorem dX10_teams_64 : decode cX10_teams 64 = .ok (.invokevirtual 167, 3) := by decide +kernel
theorem dX10_teams_67 : decode cX10_teams 67 = .ok (.aload_n 0, 1) := by decide +kernel
theorem dX10_teams_68 : decode cX10_teams 68 = .ok (.iload_n 1, 1) := by decide +kernel
theorem dX10_teams_69 : decode cX10_teams 69 = .ok (.iload 6, 2) := by decide +kernel
theorem dX10_teams_71 : decode cX10_teams 71 = .ok (.iconst (-1), 1) := by decide +kernel
theorem dX10_teams_72 : decode cX10_teams 72 = .ok (.ixor, 1) := by decide +kernel
theorem dX10_teams_73 : decode cX10_teams 73 = .ok (.iand, 1) := by decide +kernel
theorem dX10_teams_74 : decode cX10_teams 74 = .ok (.invokevirtual 167, 3) := by decide +kernel
theorem dX10_teams_77 : decode cX10_teams 77 = .ok (.isub, 1) := by decide +kernel
theorem dX10_teams_78 : decode cX10_teams 78 = .ok (.invokestatic 144, 3) := by decide +kernel
theorem dX10_teams_81 : decode cX10_teams 81 = .ok (.istore 7, 2) := by decide +kernel
theorem dX10_teams_83 : decode cX10_teams 83 = .ok (.iload 6, 2) := by decide +kernel
theorem dX10_teams_85 : decode cX10_teams 85 = .ok (.iload 5, 2) := by decide +kernel
theorem dX10_teams_87 : decode cX10_teams 87 = .ok (.iand, 1) := by decide +kernel
theorem dX10_teams_88 : decode cX10_teams 88 = .ok (.ifCond .le 26, 3) := by decide +kernel
theorem dX10_teams_91 : decode cX10_teams 91 = .ok (.iconst 2, 1) := by decide +kernel
theorem dX10_teams_92 : decode cX10_teams 92 = .ok (.iload 6, 2) := by decide +kernel
theorem dX10_teams_94 : decode cX10_teams 94 = .ok (.invokestatic 164, 3) := by decide +kernel
theorem dX10_teams_97 : decode cX10_teams 97 = .ok (.imul, 1) := by decide +kernel
theorem dX10_teams_98 : decode cX10_teams 98 = .ok (.iload_n 1, 1) := by decide +kernel
theorem dX10_teams_99 : decode cX10_teams 99 = .ok (.invokestatic 164, 3) := by decide +kernel
theorem dX10_teams_102 : decode cX10_teams 102 = .ok (.isub, 1) := by decide +kernel
theorem dX10_teams_103 : decode cX10_teams 103 = .ok (.invokestatic 144, 3) := by decide +kernel
theorem dX10_teams_106 : decode cX10_teams 106 = .ok (.iconst 1, 1) := by decide +kernel
theorem dX10_teams_107 : decode cX10_teams 107 = .ok (.if_icmp .gt 7, 3) := by decide +kernel
theorem dX10_teams_110 : decode cX10_teams 110 = .ok (.iconst 1, 1) := by decide +kernel
theorem dX10_teams_111 : decode cX10_teams 111 = .ok (.goto 4, 3) := by decide +kernel
theorem dX10_teams_114 : decode cX10_teams 114 = .ok (.iconst 0, 1) := by decide +kernel
theorem dX10_teams_115 : decode cX10_teams 115 = .ok (.istore 8, 2) := by decide +kernel
theorem dX10_teams_117 : decode cX10_teams 117 = .ok (.iload 8, 2) := by decide +kernel
theorem dX10_teams_119 : decode cX10_teams 119 = .ok (.ifCond .eq 17, 3) := by decide +kernel
theorem dX10_teams_122 : decode cX10_teams 122 = .ok (.iload 7, 2) := by decide +kernel
theorem dX10_teams_124 : decode cX10_teams 124 = .ok (.iload 4, 2) := by decide +kernel
theorem dX10_teams_126 : decode cX10_teams 126 = .ok (.if_icmp .gt 10, 3) := by decide +kernel
theorem dX10_teams_129 : decode cX10_teams 129 = .ok (.iload 6, 2) := by decide +kernel
theorem dX10_teams_131 : decode cX10_teams 131 = .ok (.istore_n 3, 1) := by decide +kernel
theorem dX10_teams_132 : decode cX10_teams 132 = .ok (.iload 7, 2) := by decide +kernel
theorem dX10_teams_134 : decode cX10_teams 134 = .ok (.istore 4, 2) := by decide +kernel
theorem dX10_teams_136 : decode cX10_teams 136 = .ok (.iload 6, 2) := by decide +kernel
theorem dX10_teams_138 : decode cX10_teams 138 = .ok (.iconst 1, 1) := by decide +kernel
theorem dX10_teams_139 : decode cX10_teams 139 = .ok (.isub, 1) := by decide +kernel
theorem dX10_teams_140 : decode cX10_teams 140 = .ok (.iload_n 1, 1) := by decide +kernel
theorem dX10_teams_141 : decode cX10_teams 141 = .ok (.iand, 1) := by decide +kernel
theorem dX10_teams_142 : decode cX10_teams 142 = .ok (.istore 6, 2) := by decide +kernel
theorem dX10_teams_144 : decode cX10_teams 144 = .ok (.goto (-88), 3) := by decide +kernel
theorem dX10_teams_147 : decode cX10_teams 147 = .ok (.iload_n 2, 1) := by decide +kernel
theorem dX10_teams_148 : decode cX10_teams 148 = .ok (.ifCond .ne 7, 3) := by decide +kernel
theorem dX10_teams_151 : decode cX10_teams 151 = .ok (.iload_n 3, 1) := by decide +kernel
theorem dX10_teams_152 : decode cX10_teams 152 = .ok (.goto 5, 3) := by decide +kernel
theorem dX10_teams_155 : decode cX10_teams 155 = .ok (.iload 4, 2) := by decide +kernel
theorem dX10_teams_157 : decode cX10_teams 157 = .ok (.ireturn, 1) := by decide +kernel
theorem dX10_best_0 : decode cX10_best 0 = .ok (.bipush (-4), 2) := by decide +kernel
theorem dX10_best_2 : decode cX10_best 2 = .ok (.istore_n 1, 1) := by decide +kernel
theorem dX10_best_3 : decode cX10_best 3 = .ok (.iconst (-1), 1) := by decide +kernel
theorem dX10_best_4 : decode cX10_best 4 = .ok (.istore_n 2, 1) := by decide +kernel
theorem dX10_best_5 : decode cX10_best 5 = .ok (.iconst 0, 1) := by decide +kernel
theorem dX10_best_6 : decode cX10_best 6 = .ok (.istore_n 3, 1) := by decide +kernel
theorem dX10_best_7 : decode cX10_best 7 = .ok (.iload_n 3, 1) := by decide +kernel
theorem dX10_best_8 : decode cX10_best 8 = .ok (.aload_n 0, 1) := by decide +kernel
theorem dX10_best_9 : decode cX10_best 9 = .ok (.getfield 158, 3) := by decide +kernel
theorem dX10_best_12 : decode cX10_best 12 = .ok (.if_icmp .ge 123, 3) := by decide +kernel
theorem dX10_best_15 : decode cX10_best 15 = .ok (.iconst 0, 1) := by decide +kernel
theorem dX10_best_16 : decode cX10_best 16 = .ok (.istore 4, 2) := by decide +kernel
theorem dX10_best_18 : decode cX10_best 18 = .ok (.iconst 0, 1) := by decide +kernel
theorem dX10_best_19 : decode cX10_best 19 = .ok (.istore 5, 2) := by decide +kernel
theorem dX10_best_21 : decode cX10_best 21 = .ok (.iconst 0, 1) := by decide +kernel
theorem dX10_best_22 : decode cX10_best 22 = .ok (.istore 6, 2) := by decide +kernel
theorem dX10_best_24 : decode cX10_best 24 = .ok (.iload 6, 2) := by decide +kernel
theorem dX10_best_26 : decode cX10_best 26 = .ok (.bipush 16, 2) := by decide +kernel
theorem dX10_best_28 : decode cX10_best 28 = .ok (.if_icmp .ge 60, 3) := by decide +kernel
theorem dX10_best_31 : decode cX10_best 31 = .ok (.iload 4, 2) := by decide +kernel
theorem dX10_best_33 : decode cX10_best 33 = .ok (.aload_n 0, 1) := by decide +kernel
theorem dX10_best_34 : decode cX10_best 34 = .ok (.getfield 62, 3) := by decide +kernel
theorem dX10_best_37 : decode cX10_best 37 = .ok (.bipush 16, 2) := by decide +kernel
theorem dX10_best_39 : decode cX10_best 39 = .ok (.iload_n 3, 1) := by decide +kernel
theorem dX10_best_40 : decode cX10_best 40 = .ok (.imul, 1) := by decide +kernel
theorem dX10_best_41 : decode cX10_best 41 = .ok (.iload 6, 2) := by decide +kernel
theorem dX10_best_43 : decode cX10_best 43 = .ok (.iadd, 1) := by decide +kernel
theorem dX10_best_44 : decode cX10_best 44 = .ok (.iaload, 1) := by decide +kernel
theorem dX10_best_45 : decode cX10_best 45 = .ok (.iconst 1, 1) := by decide +kernel
theorem dX10_best_46 : decode cX10_best 46 = .ok (.if_icmp .ne 7, 3) := by decide +kernel
theorem dX10_best_49 : decode cX10_best 49 = .ok (.iconst 1, 1) := by decide +kernel
theorem dX10_best_50 : decode cX10_best 50 = .ok (.goto 4, 3) := by decide +kernel
theorem dX10_best_53 : decode cX10_best 53 = .ok (.iconst 0, 1) := by decide +kernel
theorem dX10_best_54 : decode cX10_best 54 = .ok (.iadd, 1) := by decide +kernel
theorem dX10_best_55 : decode cX10_best 55 = .ok (.istore 4, 2) := by decide +kernel
theorem dX10_best_57 : decode cX10_best 57 = .ok (.iload 5, 2) := by decide +kernel
theorem dX10_best_59 : decode cX10_best 59 = .ok (.aload_n 0, 1) := by decide +kernel
theorem dX10_best_60 : decode cX10_best 60 = .ok (.getfield 62, 3) := by decide +kernel
theorem dX10_best_63 : decode cX10_best 63 = .ok (.bipush 16, 2) := by decide +kernel
theorem dX10_best_65 : decode cX10_best 65 = .ok (.iload_n 3, 1) := by decide +kernel
theorem dX10_best_66 : decode cX10_best 66 = .ok (.imul, 1) := by decide +kernel
theorem dX10_best_67 : decode cX10_best 67 = .ok (.iload 6, 2) := by decide +kernel
theorem dX10_best_69 : decode cX10_best 69 = .ok (.iadd, 1) := by decide +kernel
theorem dX10_best_70 : decode cX10_best 70 = .ok (.iaload, 1) := by decide +kernel
theorem dX10_best_71 : decode cX10_best 71 = .ok (.ifCond .ne 7, 3) := by decide +kernel
theorem dX10_best_74 : decode cX10_best 74 = .ok (.iconst 1, 1) := by decide +kernel
theorem dX10_best_75 : decode cX10_best 75 = .ok (.goto 4, 3) := by decide +kernel
theorem dX10_best_78 : decode cX10_best 78 = .ok (.iconst 0, 1) := by decide +kernel
theorem dX10_best_79 : decode cX10_best 79 = .ok (.iadd, 1) := by decide +kernel
theorem dX10_best_80 : decode cX10_best 80 = .ok (.istore 5, 2) := by decide +kernel
theorem dX10_best_82 : decode cX10_best 82 = .ok (.iinc 6 1, 3) := by decide +kernel
theorem dX10_best_85 : decode cX10_best 85 = .ok (.goto (-61), 3) := by decide +kernel
theorem dX10_best_88 : decode cX10_best 88 = .ok (.iload 4, 2) := by decide +kernel
theorem dX10_best_90 : decode cX10_best 90 = .ok (.iload 5, 2) := by decide +kernel
theorem dX10_best_92 : decode cX10_best 92 = .ok (.if_icmp .ge 8, 3) := by decide +kernel
theorem dX10_best_95 : decode cX10_best 95 = .ok (.iload 4, 2) := by decide +kernel
theorem dX10_best_97 : decode cX10_best 97 = .ok (.goto 5, 3) := by decide +kernel
theorem dX10_best_100 : decode cX10_best 100 = .ok (.iload 5, 2) := by decide +kernel
theorem dX10_best_102 : decode cX10_best 102 = .ok (.istore 6, 2) := by decide +kernel
theorem dX10_best_104 : decode cX10_best 104 = .ok (.iload 6, 2) := by decide +kernel
theorem dX10_best_106 : decode cX10_best 106 = .ok (.iload_n 2, 1) := by decide +kernel
theorem dX10_best_107 : decode cX10_best 107 = .ok (.if_icmp .lt 7, 3) := by decide +kernel
theorem dX10_best_110 : decode cX10_best 110 = .ok (.iload_n 3, 1) := by decide +kernel
theorem dX10_best_111 : decode cX10_best 111 = .ok (.goto 4, 3) := by decide +kernel
theorem dX10_best_114 : decode cX10_best 114 = .ok (.iload_n 1, 1) := by decide +kernel
theorem dX10_best_115 : decode cX10_best 115 = .ok (.istore_n 1, 1) := by decide +kernel
theorem dX10_best_116 : decode cX10_best 116 = .ok (.iload 6, 2) := by decide +kernel
theorem dX10_best_118 : decode cX10_best 118 = .ok (.iload_n 2, 1) := by decide +kernel
theorem dX10_best_119 : decode cX10_best 119 = .ok (.if_icmp .lt 8, 3) := by decide +kernel
theorem dX10_best_122 : decode cX10_best 122 = .ok (.iload 6, 2) := by decide +kernel
theorem dX10_best_124 : decode cX10_best 124 = .ok (.goto 4, 3) := by decide +kernel
theorem dX10_best_127 : decode cX10_best 127 = .ok (.iload_n 2, 1) := by decide +kernel
theorem dX10_best_128 : decode cX10_best 128 = .ok (.istore_n 2, 1) := by decide +kernel
theorem dX10_best_129 : decode cX10_best 129 = .ok (.iinc 3 1, 3) := by decide +kernel
theorem dX10_best_132 : decode cX10_best 132 = .ok (.goto (-125), 3) := by decide +kernel
theorem dX10_best_135 : decode cX10_best 135 = .ok (.iload_n 1, 1) := by decide +kernel
theorem dX10_best_136 : decode cX10_best 136 = .ok (.ireturn, 1) := by decide +kernel
theorem dX10_seed_0 : decode cX10_seed 0 = .ok (.iload_n 1, 1) := by decide +kernel
theorem dX10_seed_1 : decode cX10_seed 1 = .ok (.iconst 1, 1) := by decide +kernel
theorem dX10_seed_2 : decode cX10_seed 2 = .ok (.ldc 170, 2) := by decide +kernel
theorem dX10_seed_4 : decode cX10_seed 4 = .ok (.invokestatic 72, 3) := by decide +kernel
theorem dX10_seed_7 : decode cX10_seed 7 = .ok (.ifCond .ne 5, 3) := by decide +kernel
theorem dX10_seed_10 : decode cX10_seed 10 = .ok (.iconst (-1), 1) := by decide +kernel
theorem dX10_seed_11 : decode cX10_seed 11 = .ok (.ireturn, 1) := by decide +kernel
theorem dX10_seed_12 : decode cX10_seed 12 = .ok (.aload_n 0, 1) := by decide +kernel
theorem dX10_seed_13 : decode cX10_seed 13 = .ok (.iload_n 1, 1) := by decide +kernel
theorem dX10_seed_14 : decode cX10_seed 14 = .ok (.i2l, 1) := by decide +kernel
theorem dX10_seed_15 : decode cX10_seed 15 = .ok (.putfield 171, 3) := by decide +kernel
theorem dX10_seed_18 : decode cX10_seed 18 = .ok (.aload_n 0, 1) := by decide +kernel
theorem dX10_seed_19 : decode cX10_seed 19 = .ok (.iconst 0, 1) := by decide +kernel
theorem dX10_seed_20 : decode cX10_seed 20 = .ok (.putfield 175, 3) := by decide +kernel
theorem dX10_seed_23 : decode cX10_seed 23 = .ok (.aload_n 0, 1) := by decide +kernel
theorem dX10_seed_24 : decode cX10_seed 24 = .ok (.getfield 68, 3) := by decide +kernel
theorem dX10_seed_27 : decode cX10_seed 27 = .ok (.ireturn, 1) := by decide +kernel
theorem dX10_draw_0 : decode cX10_draw 0 = .ok (.aload_n 0, 1) := by decide +kernel
theorem dX10_draw_1 : decode cX10_draw 1 = .ok (.getfield 171, 3) := by decide +kernel
theorem dX10_draw_4 : decode cX10_draw 4 = .ok (.lconst 0, 1) := by decide +kernel
theorem dX10_draw_5 : decode cX10_draw 5 = .ok (.lcmp, 1) := by decide +kernel
theorem dX10_draw_6 : decode cX10_draw 6 = .ok (.ifCond .ne 6, 3) := by decide +kernel
theorem dX10_draw_9 : decode cX10_draw 9 = .ok (.bipush (-2), 2) := by decide +kernel
theorem dX10_draw_11 : decode cX10_draw 11 = .ok (.ireturn, 1) := by decide +kernel
theorem dX10_draw_12 : decode cX10_draw 12 = .ok (.aload_n 0, 1) := by decide +kernel
theorem dX10_draw_13 : decode cX10_draw 13 = .ok (.getfield 68, 3) := by decide +kernel
theorem dX10_draw_16 : decode cX10_draw 16 = .ok (.aload_n 0, 1) := by decide +kernel
theorem dX10_draw_17 : decode cX10_draw 17 = .ok (.getfield 175, 3) := by decide +kernel
theorem dX10_draw_20 : decode cX10_draw 20 = .ok (.invokestatic 164, 3) := by decide +kernel
theorem dX10_draw_23 : decode cX10_draw 23 = .ok (.isub, 1) := by decide +kernel
theorem dX10_draw_24 : decode cX10_draw 24 = .ok (.istore_n 1, 1) := by decide +kernel
theorem dX10_draw_25 : decode cX10_draw 25 = .ok (.iload_n 1, 1) := by decide +kernel
theorem dX10_draw_26 : decode cX10_draw 26 = .ok (.ifCond .ne 6, 3) := by decide +kernel
theorem dX10_draw_29 : decode cX10_draw 29 = .ok (.bipush (-4), 2) := by decide +kernel
theorem dX10_draw_31 : decode cX10_draw 31 = .ok (.ireturn, 1) := by decide +kernel
theorem dX10_draw_32 : decode cX10_draw 32 = .ok (.aload_n 0, 1) := by decide +kernel
theorem dX10_draw_33 : decode cX10_draw 33 = .ok (.aload_n 0, 1) := by decide +kernel
theorem dX10_draw_34 : decode cX10_draw 34 = .ok (.getfield 171, 3) := by decide +kernel
theorem dX10_draw_37 : decode cX10_draw 37 = .ok (.ldc2_w 178, 3) := by decide +kernel
theorem dX10_draw_40 : decode cX10_draw 40 = .ok (.lmul, 1) := by decide +kernel
theorem dX10_draw_41 : decode cX10_draw 41 = .ok (.ldc2_w 180, 3) := by decide +kernel
theorem dX10_draw_44 : decode cX10_draw 44 = .ok (.lrem, 1) := by decide +kernel
theorem dX10_draw_45 : decode cX10_draw 45 = .ok (.putfield 171, 3) := by decide +kernel
theorem dX10_draw_48 : decode cX10_draw 48 = .ok (.aload_n 0, 1) := by decide +kernel
theorem dX10_draw_49 : decode cX10_draw 49 = .ok (.getfield 171, 3) := by decide +kernel
theorem dX10_draw_52 : decode cX10_draw 52 = .ok (.iload_n 1, 1) := by decide +kernel
theorem dX10_draw_53 : decode cX10_draw 53 = .ok (.i2l, 1) := by decide +kernel
theorem dX10_draw_54 : decode cX10_draw 54 = .ok (.lrem, 1) := by decide +kernel
theorem dX10_draw_55 : decode cX10_draw 55 = .ok (.l2i, 1) := by decide +kernel
theorem dX10_draw_56 : decode cX10_draw 56 = .ok (.istore_n 2, 1) := by decide +kernel
theorem dX10_draw_57 : decode cX10_draw 57 = .ok (.iconst 0, 1) := by decide +kernel
theorem dX10_draw_58 : decode cX10_draw 58 = .ok (.istore_n 3, 1) := by decide +kernel
theorem dX10_draw_59 : decode cX10_draw 59 = .ok (.aload_n 0, 1) := by decide +kernel
theorem dX10_draw_60 : decode cX10_draw 60 = .ok (.getfield 175, 3) := by decide +kernel
theorem dX10_draw_63 : decode cX10_draw 63 = .ok (.iload_n 3, 1) := by decide +kernel
theorem dX10_draw_64 : decode cX10_draw 64 = .ok (.ishr, 1) := by decide +kernel
theorem dX10_draw_65 : decode cX10_draw 65 = .ok (.iconst 1, 1) := by decide +kernel
theorem dX10_draw_66 : decode cX10_draw 66 = .ok (.iand, 1) := by decide +kernel
theorem dX10_draw_67 : decode cX10_draw 67 = .ok (.iconst 1, 1) := by decide +kernel
theorem dX10_draw_68 : decode cX10_draw 68 = .ok (.if_icmp .eq 7, 3) := by decide +kernel
theorem dX10_draw_71 : decode cX10_draw 71 = .ok (.iload_n 2, 1) := by decide +kernel
theorem dX10_draw_72 : decode cX10_draw 72 = .ok (.ifCond .le 29, 3) := by decide +kernel
theorem dX10_draw_75 : decode cX10_draw 75 = .ok (.iload_n 2, 1) := by decide +kernel
theorem dX10_draw_76 : decode cX10_draw 76 = .ok (.aload_n 0, 1) := by decide +kernel
theorem dX10_draw_77 : decode cX10_draw 77 = .ok (.getfield 175, 3) := by decide +kernel
theorem dX10_draw_80 : decode cX10_draw 80 = .ok (.iload_n 3, 1) := by decide +kernel
theorem dX10_draw_81 : decode cX10_draw 81 = .ok (.ishr, 1) := by decide +kernel
theorem dX10_draw_82 : decode cX10_draw 82 = .ok (.iconst 1, 1) := by decide +kernel
theorem dX10_draw_83 : decode cX10_draw 83 = .ok (.iand, 1) := by decide +kernel
theorem dX10_draw_84 : decode cX10_draw 84 = .ok (.iconst 1, 1) := by decide +kernel
theorem dX10_draw_85 : decode cX10_draw 85 = .ok (.if_icmp .ne 7, 3) := by decide +kernel
theorem dX10_draw_88 : decode cX10_draw 88 = .ok (.iconst 0, 1) := by decide +kernel
theorem dX10_draw_89 : decode cX10_draw 89 = .ok (.goto 4, 3) := by decide +kernel
theorem dX10_draw_92 : decode cX10_draw 92 = .ok (.iconst 1, 1) := by decide +kernel
theorem dX10_draw_93 : decode cX10_draw 93 = .ok (.isub, 1) := by decide +kernel
theorem dX10_draw_94 : decode cX10_draw 94 = .ok (.istore_n 2, 1) := by decide +kernel
theorem dX10_draw_95 : decode cX10_draw 95 = .ok (.iinc 3 1, 3) := by decide +kernel
theorem dX10_draw_98 : decode cX10_draw 98 = .ok (.goto (-39), 3) := by decide +kernel
theorem dX10_draw_101 : decode cX10_draw 101 = .ok (.aload_n 0, 1) := by decide +kernel
theorem dX10_draw_102 : decode cX10_draw 102 = .ok (.dup, 1) := by decide +kernel
theorem dX10_draw_103 : decode cX10_draw 103 = .ok (.getfield 175, 3) := by decide +kernel
theorem dX10_draw_106 : decode cX10_draw 106 = .ok (.iconst 1, 1) := by decide +kernel
theorem dX10_draw_107 : decode cX10_draw 107 = .ok (.iload_n 3, 1) := by decide +kernel
theorem dX10_draw_108 : decode cX10_draw 108 = .ok (.ishl, 1) := by decide +kernel
theorem dX10_draw_109 : decode cX10_draw 109 = .ok (.ior, 1) := by decide +kernel
theorem dX10_draw_110 : decode cX10_draw 110 = .ok (.putfield 175, 3) := by decide +kernel
theorem dX10_draw_113 : decode cX10_draw 113 = .ok (.iload_n 3, 1) := by decide +kernel
theorem dX10_draw_114 : decode cX10_draw 114 = .ok (.ireturn, 1) := by decide +kernel
theorem dX10_count_0 : decode cX10_count 0 = .ok (.iload_n 1, 1) := by decide +kernel
theorem dX10_count_1 : decode cX10_count 1 = .ok (.tableswitch 77 0 5 #[39, 44, 49, 54, 67, 72], 39) := by decide +kernel
theorem dX10_count_40 : decode cX10_count 40 = .ok (.aload_n 0, 1) := by decide +kernel
theorem dX10_count_41 : decode cX10_count 41 = .ok (.getfield 68, 3) := by decide +kernel
theorem dX10_count_44 : decode cX10_count 44 = .ok (.ireturn, 1) := by decide +kernel
theorem dX10_count_45 : decode cX10_count 45 = .ok (.aload_n 0, 1) := by decide +kernel
theorem dX10_count_46 : decode cX10_count 46 = .ok (.getfield 94, 3) := by decide +kernel
theorem dX10_count_49 : decode cX10_count 49 = .ok (.ireturn, 1) := by decide +kernel
theorem dX10_count_50 : decode cX10_count 50 = .ok (.aload_n 0, 1) := by decide +kernel
theorem dX10_count_51 : decode cX10_count 51 = .ok (.getfield 158, 3) := by decide +kernel
theorem dX10_count_54 : decode cX10_count 54 = .ok (.ireturn, 1) := by decide +kernel
theorem dX10_count_55 : decode cX10_count 55 = .ok (.aload_n 0, 1) := by decide +kernel
theorem dX10_count_56 : decode cX10_count 56 = .ok (.getfield 76, 3) := by decide +kernel
theorem dX10_count_59 : decode cX10_count 59 = .ok (.ifCond .eq 7, 3) := by decide +kernel
theorem dX10_count_62 : decode cX10_count 62 = .ok (.iconst 1, 1) := by decide +kernel
theorem dX10_count_63 : decode cX10_count 63 = .ok (.goto 4, 3) := by decide +kernel
theorem dX10_count_66 : decode cX10_count 66 = .ok (.iconst 0, 1) := by decide +kernel
theorem dX10_count_67 : decode cX10_count 67 = .ok (.ireturn, 1) := by decide +kernel
theorem dX10_count_68 : decode cX10_count 68 = .ok (.aload_n 0, 1) := by decide +kernel
theorem dX10_count_69 : decode cX10_count 69 = .ok (.getfield 107, 3) := by decide +kernel
theorem dX10_count_72 : decode cX10_count 72 = .ok (.ireturn, 1) := by decide +kernel
theorem dX10_count_73 : decode cX10_count 73 = .ok (.aload_n 0, 1) := by decide +kernel
theorem dX10_count_74 : decode cX10_count 74 = .ok (.getfield 113, 3) := by decide +kernel
theorem dX10_count_77 : decode cX10_count 77 = .ok (.ireturn, 1) := by decide +kernel
theorem dX10_count_78 : decode cX10_count 78 = .ok (.iconst (-1), 1) := by decide +kernel
theorem dX10_count_79 : decode cX10_count 79 = .ok (.ireturn, 1) := by decide +kernel
theorem dJ6_lowestOneBit_0f7a4_0 : decode cJ6_lowestOneBit_0f7a4 0 = .ok (.iload_n 0, 1) := by decide +kernel
theorem dJ6_lowestOneBit_0f7a4_1 : decode cJ6_lowestOneBit_0f7a4 1 = .ok (.iload_n 0, 1) := by decide +kernel
theorem dJ6_lowestOneBit_0f7a4_2 : decode cJ6_lowestOneBit_0f7a4 2 = .ok (.ineg, 1) := by decide +kernel
theorem dJ6_lowestOneBit_0f7a4_3 : decode cJ6_lowestOneBit_0f7a4 3 = .ok (.iand, 1) := by decide +kernel
theorem dJ6_lowestOneBit_0f7a4_4 : decode cJ6_lowestOneBit_0f7a4 4 = .ok (.ireturn, 1) := by decide +kernel
theorem dJ6_bitCount_0f7a4_0 : decode cJ6_bitCount_0f7a4 0 = .ok (.iload_n 0, 1) := by decide +kernel
theorem dJ6_bitCount_0f7a4_1 : decode cJ6_bitCount_0f7a4 1 = .ok (.iload_n 0, 1) := by decide +kernel
theorem dJ6_bitCount_0f7a4_2 : decode cJ6_bitCount_0f7a4 2 = .ok (.iconst 1, 1) := by decide +kernel
theorem dJ6_bitCount_0f7a4_3 : decode cJ6_bitCount_0f7a4 3 = .ok (.iushr, 1) := by decide +kernel
theorem dJ6_bitCount_0f7a4_4 : decode cJ6_bitCount_0f7a4 4 = .ok (.ldc_w 265, 3) := by decide +kernel
theorem dJ6_bitCount_0f7a4_7 : decode cJ6_bitCount_0f7a4 7 = .ok (.iand, 1) := by decide +kernel
theorem dJ6_bitCount_0f7a4_8 : decode cJ6_bitCount_0f7a4 8 = .ok (.isub, 1) := by decide +kernel
theorem dJ6_bitCount_0f7a4_9 : decode cJ6_bitCount_0f7a4 9 = .ok (.istore_n 0, 1) := by decide +kernel
theorem dJ6_bitCount_0f7a4_10 : decode cJ6_bitCount_0f7a4 10 = .ok (.iload_n 0, 1) := by decide +kernel
theorem dJ6_bitCount_0f7a4_11 : decode cJ6_bitCount_0f7a4 11 = .ok (.ldc_w 266, 3) := by decide +kernel
theorem dJ6_bitCount_0f7a4_14 : decode cJ6_bitCount_0f7a4 14 = .ok (.iand, 1) := by decide +kernel
theorem dJ6_bitCount_0f7a4_15 : decode cJ6_bitCount_0f7a4 15 = .ok (.iload_n 0, 1) := by decide +kernel
theorem dJ6_bitCount_0f7a4_16 : decode cJ6_bitCount_0f7a4 16 = .ok (.iconst 2, 1) := by decide +kernel
theorem dJ6_bitCount_0f7a4_17 : decode cJ6_bitCount_0f7a4 17 = .ok (.iushr, 1) := by decide +kernel
theorem dJ6_bitCount_0f7a4_18 : decode cJ6_bitCount_0f7a4 18 = .ok (.ldc_w 266, 3) := by decide +kernel
theorem dJ6_bitCount_0f7a4_21 : decode cJ6_bitCount_0f7a4 21 = .ok (.iand, 1) := by decide +kernel
theorem dJ6_bitCount_0f7a4_22 : decode cJ6_bitCount_0f7a4 22 = .ok (.iadd, 1) := by decide +kernel
theorem dJ6_bitCount_0f7a4_23 : decode cJ6_bitCount_0f7a4 23 = .ok (.istore_n 0, 1) := by decide +kernel
theorem dJ6_bitCount_0f7a4_24 : decode cJ6_bitCount_0f7a4 24 = .ok (.iload_n 0, 1) := by decide +kernel
theorem dJ6_bitCount_0f7a4_25 : decode cJ6_bitCount_0f7a4 25 = .ok (.iload_n 0, 1) := by decide +kernel
theorem dJ6_bitCount_0f7a4_26 : decode cJ6_bitCount_0f7a4 26 = .ok (.iconst 4, 1) := by decide +kernel
theorem dJ6_bitCount_0f7a4_27 : decode cJ6_bitCount_0f7a4 27 = .ok (.iushr, 1) := by decide +kernel
theorem dJ6_bitCount_0f7a4_28 : decode cJ6_bitCount_0f7a4 28 = .ok (.iadd, 1) := by decide +kernel
theorem dJ6_bitCount_0f7a4_29 : decode cJ6_bitCount_0f7a4 29 = .ok (.ldc_w 267, 3) := by decide +kernel
theorem dJ6_bitCount_0f7a4_32 : decode cJ6_bitCount_0f7a4 32 = .ok (.iand, 1) := by decide +kernel
theorem dJ6_bitCount_0f7a4_33 : decode cJ6_bitCount_0f7a4 33 = .ok (.istore_n 0, 1) := by decide +kernel
theorem dJ6_bitCount_0f7a4_34 : decode cJ6_bitCount_0f7a4 34 = .ok (.iload_n 0, 1) := by decide +kernel
theorem dJ6_bitCount_0f7a4_35 : decode cJ6_bitCount_0f7a4 35 = .ok (.iload_n 0, 1) := by decide +kernel
theorem dJ6_bitCount_0f7a4_36 : decode cJ6_bitCount_0f7a4 36 = .ok (.bipush 8, 2) := by decide +kernel
theorem dJ6_bitCount_0f7a4_38 : decode cJ6_bitCount_0f7a4 38 = .ok (.iushr, 1) := by decide +kernel
theorem dJ6_bitCount_0f7a4_39 : decode cJ6_bitCount_0f7a4 39 = .ok (.iadd, 1) := by decide +kernel
theorem dJ6_bitCount_0f7a4_40 : decode cJ6_bitCount_0f7a4 40 = .ok (.istore_n 0, 1) := by decide +kernel
theorem dJ6_bitCount_0f7a4_41 : decode cJ6_bitCount_0f7a4 41 = .ok (.iload_n 0, 1) := by decide +kernel
theorem dJ6_bitCount_0f7a4_42 : decode cJ6_bitCount_0f7a4 42 = .ok (.iload_n 0, 1) := by decide +kernel
theorem dJ6_bitCount_0f7a4_43 : decode cJ6_bitCount_0f7a4 43 = .ok (.bipush 16, 2) := by decide +kernel
theorem dJ6_bitCount_0f7a4_45 : decode cJ6_bitCount_0f7a4 45 = .ok (.iushr, 1) := by decide +kernel
theorem dJ6_bitCount_0f7a4_46 : decode cJ6_bitCount_0f7a4 46 = .ok (.iadd, 1) := by decide +kernel
theorem dJ6_bitCount_0f7a4_47 : decode cJ6_bitCount_0f7a4 47 = .ok (.istore_n 0, 1) := by decide +kernel
theorem dJ6_bitCount_0f7a4_48 : decode cJ6_bitCount_0f7a4 48 = .ok (.iload_n 0, 1) := by decide +kernel
theorem dJ6_bitCount_0f7a4_49 : decode cJ6_bitCount_0f7a4 49 = .ok (.bipush 63, 2) := by decide +kernel
theorem dJ6_bitCount_0f7a4_51 : decode cJ6_bitCount_0f7a4 51 = .ok (.iand, 1) := by decide +kernel
theorem dJ6_bitCount_0f7a4_52 : decode cJ6_bitCount_0f7a4 52 = .ok (.ireturn, 1) := by decide +kernel
theorem dJ9_abs_0f7a4_0 : decode cJ9_abs_0f7a4 0 = .ok (.iload_n 0, 1) := by decide +kernel
theorem dJ9_abs_0f7a4_1 : decode cJ9_abs_0f7a4 1 = .ok (.ifCond .ge 8, 3) := by decide +kernel
theorem dJ9_abs_0f7a4_4 : decode cJ9_abs_0f7a4 4 = .ok (.iload_n 0, 1) := by decide +kernel
theorem dJ9_abs_0f7a4_5 : decode cJ9_abs_0f7a4 5 = .ok (.ineg, 1) := by decide +kernel
theorem dJ9_abs_0f7a4_6 : decode cJ9_abs_0f7a4 6 = .ok (.goto 4, 3) := by decide +kernel
theorem dJ9_abs_0f7a4_9 : decode cJ9_abs_0f7a4 9 = .ok (.iload_n 0, 1) := by decide +kernel
theorem dJ9_abs_0f7a4_10 : decode cJ9_abs_0f7a4 10 = .ok (.ireturn, 1) := by decide +kernel
theorem dJ9_max_7cf53_0 : decode cJ9_max_7cf53 0 = .ok (.iload_n 0, 1) := by decide +kernel
theorem dJ9_max_7cf53_1 : decode cJ9_max_7cf53 1 = .ok (.iload_n 1, 1) := by decide +kernel
theorem dJ9_max_7cf53_2 : decode cJ9_max_7cf53 2 = .ok (.if_icmp .lt 7, 3) := by decide +kernel
theorem dJ9_max_7cf53_5 : decode cJ9_max_7cf53 5 = .ok (.iload_n 0, 1) := by decide +kernel
theorem dJ9_max_7cf53_6 : decode cJ9_max_7cf53 6 = .ok (.goto 4, 3) := by decide +kernel
theorem dJ9_max_7cf53_9 : decode cJ9_max_7cf53 9 = .ok (.iload_n 1, 1) := by decide +kernel
theorem dJ9_max_7cf53_10 : decode cJ9_max_7cf53 10 = .ok (.ireturn, 1) := by decide +kernel
theorem dJ9_min_7cf53_0 : decode cJ9_min_7cf53 0 = .ok (.iload_n 0, 1) := by decide +kernel
theorem dJ9_min_7cf53_1 : decode cJ9_min_7cf53 1 = .ok (.iload_n 1, 1) := by decide +kernel
theorem dJ9_min_7cf53_2 : decode cJ9_min_7cf53 2 = .ok (.if_icmp .gt 7, 3) := by decide +kernel
theorem dJ9_min_7cf53_5 : decode cJ9_min_7cf53 5 = .ok (.iload_n 0, 1) := by decide +kernel
theorem dJ9_min_7cf53_6 : decode cJ9_min_7cf53 6 = .ok (.goto 4, 3) := by decide +kernel
theorem dJ9_min_7cf53_9 : decode cJ9_min_7cf53 9 = .ok (.iload_n 1, 1) := by decide +kernel
theorem dJ9_min_7cf53_10 : decode cJ9_min_7cf53 10 = .ok (.ireturn, 1) := by decide +kernel
theorem dL_law_0 : decode cL_law 0 = .ok (.new 7, 3) := by decide +kernel
theorem dL_law_3 : decode cL_law 3 = .ok (.dup, 1) := by decide +kernel
theorem dL_law_4 : decode cL_law 4 = .ok (.invokespecial 9, 3) := by decide +kernel
theorem dL_law_7 : decode cL_law 7 = .ok (.astore_n 1, 1) := by decide +kernel
theorem dL_law_8 : decode cL_law 8 = .ok (.new 10, 3) := by decide +kernel
theorem dL_law_11 : decode cL_law 11 = .ok (.dup, 1) := by decide +kernel
theorem dL_law_12 : decode cL_law 12 = .ok (.invokespecial 12, 3) := by decide +kernel
theorem dL_law_15 : decode cL_law 15 = .ok (.astore_n 2, 1) := by decide +kernel
theorem dL_law_16 : decode cL_law 16 = .ok (.iconst 0, 1) := by decide +kernel
theorem dL_law_17 : decode cL_law 17 = .ok (.istore_n 3, 1) := by decide +kernel
theorem dL_law_18 : decode cL_law 18 = .ok (.iload_n 3, 1) := by decide +kernel
theorem dL_law_19 : decode cL_law 19 = .ok (.aload_n 0, 1) := by decide +kernel
theorem dL_law_20 : decode cL_law 20 = .ok (.arraylength, 1) := by decide +kernel
theorem dL_law_21 : decode cL_law 21 = .ok (.iconst 5, 1) := by decide +kernel
theorem dL_law_22 : decode cL_law 22 = .ok (.isub, 1) := by decide +kernel
theorem dL_law_23 : decode cL_law 23 = .ok (.if_icmp .gt 651, 3) := by decide +kernel
theorem dL_law_26 : decode cL_law 26 = .ok (.aload_n 0, 1) := by decide +kernel
theorem dL_law_27 : decode cL_law 27 = .ok (.iload_n 3, 1) := by decide +kernel
theorem dL_law_28 : decode cL_law 28 = .ok (.iaload, 1) := by decide +kernel
theorem dL_law_29 : decode cL_law 29 = .ok (.bipush 31, 2) := by decide +kernel
theorem dL_law_31 : decode cL_law 31 = .ok (.iand, 1) := by decide +kernel
theorem dL_law_32 : decode cL_law 32 = .ok (.tableswitch 636 0 19 #[96, 109, 162, 195, 238, 271, 294, 337, 370, 383, 406, 429, 452, 475, 508, 531, 564, 577, 600, 613], 96) := by decide +kernel
theorem dL_law_128 : decode cL_law 128 = .ok (.aload_n 1, 1) := by decide +kernel
theorem dL_law_129 : decode cL_law 129 = .ok (.invokevirtual 13, 3) := by decide +kernel
theorem dL_law_132 : decode cL_law 132 = .ok (.aload_n 2, 1) := by decide +kernel
theorem dL_law_133 : decode cL_law 133 = .ok (.invokevirtual 17, 3) := by decide +kernel
theorem dL_law_136 : decode cL_law 136 = .ok (.if_icmp .eq 532, 3) := by decide +kernel
theorem dL_law_139 : decode cL_law 139 = .ok (.iconst 0, 1) := by decide +kernel
theorem dL_law_140 : decode cL_law 140 = .ok (.ireturn, 1) := by decide +kernel
theorem dL_law_141 : decode cL_law 141 = .ok (.aload_n 1, 1) := by decide +kernel
theorem dL_law_142 : decode cL_law 142 = .ok (.aload_n 0, 1) := by decide +kernel
theorem dL_law_143 : decode cL_law 143 = .ok (.iload_n 3, 1) := by decide +kernel
theorem dL_law_144 : decode cL_law 144 = .ok (.iconst 1, 1) := by decide +kernel
theorem dL_law_145 : decode cL_law 145 = .ok (.iadd, 1) := by decide +kernel
theorem dL_law_146 : decode cL_law 146 = .ok (.iaload, 1) := by decide +kernel
theorem dL_law_147 : decode cL_law 147 = .ok (.aload_n 0, 1) := by decide +kernel
theorem dL_law_148 : decode cL_law 148 = .ok (.iload_n 3, 1) := by decide +kernel
theorem dL_law_149 : decode cL_law 149 = .ok (.iconst 2, 1) := by decide +kernel
theorem dL_law_150 : decode cL_law 150 = .ok (.iadd, 1) := by decide +kernel
theorem dL_law_151 : decode cL_law 151 = .ok (.iaload, 1) := by decide +kernel
theorem dL_law_152 : decode cL_law 152 = .ok (.aload_n 0, 1) := by decide +kernel
theorem dL_law_153 : decode cL_law 153 = .ok (.iload_n 3, 1) := by decide +kernel
theorem dL_law_154 : decode cL_law 154 = .ok (.iconst 3, 1) := by decide +kernel
theorem dL_law_155 : decode cL_law 155 = .ok (.iadd, 1) := by decide +kernel
theorem dL_law_156 : decode cL_law 156 = .ok (.iaload, 1) := by decide +kernel
theorem dL_law_157 : decode cL_law 157 = .ok (.aload_n 0, 1) := by decide +kernel
theorem dL_law_158 : decode cL_law 158 = .ok (.iload_n 3, 1) := by decide +kernel
theorem dL_law_159 : decode cL_law 159 = .ok (.iconst 4, 1) := by decide +kernel
theorem dL_law_160 : decode cL_law 160 = .ok (.iadd, 1) := by decide +kernel
theorem dL_law_161 : decode cL_law 161 = .ok (.iaload, 1) := by decide +kernel
theorem dL_law_162 : decode cL_law 162 = .ok (.invokevirtual 18, 3) := by decide +kernel
theorem dL_law_165 : decode cL_law 165 = .ok (.aload_n 2, 1) := by decide +kernel
theorem dL_law_166 : decode cL_law 166 = .ok (.aload_n 0, 1) := by decide +kernel
theorem dL_law_167 : decode cL_law 167 = .ok (.iload_n 3, 1) := by decide +kernel
theorem dL_law_168 : decode cL_law 168 = .ok (.iconst 1, 1) := by decide +kernel
theorem dL_law_169 : decode cL_law 169 = .ok (.iadd, 1) := by decide +kernel
theorem dL_law_170 : decode cL_law 170 = .ok (.iaload, 1) := by decide +kernel
theorem dL_law_171 : decode cL_law 171 = .ok (.aload_n 0, 1) := by decide +kernel
theorem dL_law_172 : decode cL_law 172 = .ok (.iload_n 3, 1) := by decide +kernel
theorem dL_law_173 : decode cL_law 173 = .ok (.iconst 2, 1) := by decide +kernel
theorem dL_law_174 : decode cL_law 174 = .ok (.iadd, 1) := by decide +kernel
theorem dL_law_175 : decode cL_law 175 = .ok (.iaload, 1) := by decide +kernel
theorem dL_law_176 : decode cL_law 176 = .ok (.aload_n 0, 1) := by decide +kernel
theorem dL_law_177 : decode cL_law 177 = .ok (.iload_n 3, 1) := by decide +kernel
theorem dL_law_178 : decode cL_law 178 = .ok (.iconst 3, 1) := by decide +kernel
theorem dL_law_179 : decode cL_law 179 = .ok (.iadd, 1) := by decide +kernel
theorem dL_law_180 : decode cL_law 180 = .ok (.iaload, 1) := by decide +kernel
theorem dL_law_181 : decode cL_law 181 = .ok (.aload_n 0, 1) := by decide +kernel
theorem dL_law_182 : decode cL_law 182 = .ok (.iload_n 3, 1) := by decide +kernel
theorem dL_law_183 : decode cL_law 183 = .ok (.iconst 4, 1) := by decide +kernel
theorem dL_law_184 : decode cL_law 184 = .ok (.iadd, 1) := by decide +kernel
theorem dL_law_185 : decode cL_law 185 = .ok (.iaload, 1) := by decide +kernel
theorem dL_law_186 : decode cL_law 186 = .ok (.invokevirtual 22, 3) := by decide +kernel
theorem dL_law_189 : decode cL_law 189 = .ok (.if_icmp .eq 479, 3) := by decide +kernel
theorem dL_law_192 : decode cL_law 192 = .ok (.iconst 0, 1) := by decide +kernel
theorem dL_law_193 : decode cL_law 193 = .ok (.ireturn, 1) := by decide +kernel
theorem dL_law_194 : decode cL_law 194 = .ok (.aload_n 1, 1) := by decide +kernel
theorem dL_law_195 : decode cL_law 195 = .ok (.aload_n 0, 1) := by decide +kernel
theorem dL_law_196 : decode cL_law 196 = .ok (.iload_n 3, 1) := by decide +kernel
theorem dL_law_197 : decode cL_law 197 = .ok (.iconst 1, 1) := by decide +kernel
theorem dL_law_198 : decode cL_law 198 = .ok (.iadd, 1) := by decide +kernel
theorem dL_law_199 : decode cL_law 199 = .ok (.iaload, 1) := by decide +kernel
theorem dL_law_200 : decode cL_law 200 = .ok (.aload_n 0, 1) := by decide +kernel
theorem dL_law_201 : decode cL_law 201 = .ok (.iload_n 3, 1) := by decide +kernel
theorem dL_law_202 : decode cL_law 202 = .ok (.iconst 2, 1) := by decide +kernel
theorem dL_law_203 : decode cL_law 203 = .ok (.iadd, 1) := by decide +kernel
theorem dL_law_204 : decode cL_law 204 = .ok (.iaload, 1) := by decide +kernel
theorem dL_law_205 : decode cL_law 205 = .ok (.invokevirtual 23, 3) := by decide +kernel
theorem dL_law_208 : decode cL_law 208 = .ok (.aload_n 2, 1) := by decide +kernel
theorem dL_law_209 : decode cL_law 209 = .ok (.aload_n 0, 1) := by decide +kernel
theorem dL_law_210 : decode cL_law 210 = .ok (.iload_n 3, 1) := by decide +kernel
theorem dL_law_211 : decode cL_law 211 = .ok (.iconst 1, 1) := by decide +kernel
theorem dL_law_212 : decode cL_law 212 = .ok (.iadd, 1) := by decide +kernel
theorem dL_law_213 : decode cL_law 213 = .ok (.iaload, 1) := by decide +kernel
theorem dL_law_214 : decode cL_law 214 = .ok (.aload_n 0, 1) := by decide +kernel
theorem dL_law_215 : decode cL_law 215 = .ok (.iload_n 3, 1) := by decide +kernel
theorem dL_law_216 : decode cL_law 216 = .ok (.iconst 2, 1) := by decide +kernel
theorem dL_law_217 : decode cL_law 217 = .ok (.iadd, 1) := by decide +kernel
theorem dL_law_218 : decode cL_law 218 = .ok (.iaload, 1) := by decide +kernel
theorem dL_law_219 : decode cL_law 219 = .ok (.invokevirtual 27, 3) := by decide +kernel
theorem dL_law_222 : decode cL_law 222 = .ok (.if_icmp .eq 446, 3) := by decide +kernel
theorem dL_law_225 : decode cL_law 225 = .ok (.iconst 0, 1) := by decide +kernel
theorem dL_law_226 : decode cL_law 226 = .ok (.ireturn, 1) := by decide +kernel
theorem dL_law_227 : decode cL_law 227 = .ok (.aload_n 1, 1) := by decide +kernel
theorem dL_law_228 : decode cL_law 228 = .ok (.aload_n 0, 1) := by decide +kernel
theorem dL_law_229 : decode cL_law 229 = .ok (.iload_n 3, 1) := by decide +kernel
theorem dL_law_230 : decode cL_law 230 = .ok (.iconst 1, 1) := by decide +kernel
theorem dL_law_231 : decode cL_law 231 = .ok (.iadd, 1) := by decide +kernel
theorem dL_law_232 : decode cL_law 232 = .ok (.iaload, 1) := by decide +kernel
theorem dL_law_233 : decode cL_law 233 = .ok (.aload_n 0, 1) := by decide +kernel
theorem dL_law_234 : decode cL_law 234 = .ok (.iload_n 3, 1) := by decide +kernel
theorem dL_law_235 : decode cL_law 235 = .ok (.iconst 2, 1) := by decide +kernel
theorem dL_law_236 : decode cL_law 236 = .ok (.iadd, 1) := by decide +kernel
theorem dL_law_237 : decode cL_law 237 = .ok (.iaload, 1) := by decide +kernel
theorem dL_law_238 : decode cL_law 238 = .ok (.aload_n 0, 1) := by decide +kernel
theorem dL_law_239 : decode cL_law 239 = .ok (.iload_n 3, 1) := by decide +kernel
theorem dL_law_240 : decode cL_law 240 = .ok (.iconst 3, 1) := by decide +kernel
theorem dL_law_241 : decode cL_law 241 = .ok (.iadd, 1) := by decide +kernel
theorem dL_law_242 : decode cL_law 242 = .ok (.iaload, 1) := by decide +kernel
theorem dL_law_243 : decode cL_law 243 = .ok (.invokevirtual 28, 3) := by decide +kernel
theorem dL_law_246 : decode cL_law 246 = .ok (.aload_n 2, 1) := by decide +kernel
theorem dL_law_247 : decode cL_law 247 = .ok (.aload_n 0, 1) := by decide +kernel
theorem dL_law_248 : decode cL_law 248 = .ok (.iload_n 3, 1) := by decide +kernel
theorem dL_law_249 : decode cL_law 249 = .ok (.iconst 1, 1) := by decide +kernel
theorem dL_law_250 : decode cL_law 250 = .ok (.iadd, 1) := by decide +kernel
theorem dL_law_251 : decode cL_law 251 = .ok (.iaload, 1) := by decide +kernel
theorem dL_law_252 : decode cL_law 252 = .ok (.aload_n 0, 1) := by decide +kernel
theorem dL_law_253 : decode cL_law 253 = .ok (.iload_n 3, 1) := by decide +kernel
theorem dL_law_254 : decode cL_law 254 = .ok (.iconst 2, 1) := by decide +kernel
theorem dL_law_255 : decode cL_law 255 = .ok (.iadd, 1) := by decide +kernel
theorem dL_law_256 : decode cL_law 256 = .ok (.iaload, 1) := by decide +kernel
theorem dL_law_257 : decode cL_law 257 = .ok (.aload_n 0, 1) := by decide +kernel
theorem dL_law_258 : decode cL_law 258 = .ok (.iload_n 3, 1) := by decide +kernel
theorem dL_law_259 : decode cL_law 259 = .ok (.iconst 3, 1) := by decide +kernel
theorem dL_law_260 : decode cL_law 260 = .ok (.iadd, 1) := by decide +kernel
theorem dL_law_261 : decode cL_law 261 = .ok (.iaload, 1) := by decide +kernel
theorem dL_law_262 : decode cL_law 262 = .ok (.invokevirtual 32, 3) := by decide +kernel
theorem dL_law_265 : decode cL_law 265 = .ok (.if_icmp .eq 403, 3) := by decide +kernel
theorem dL_law_268 : decode cL_law 268 = .ok (.iconst 0, 1) := by decide +kernel
theorem dL_law_269 : decode cL_law 269 = .ok (.ireturn, 1) := by decide +kernel
theorem dL_law_270 : decode cL_law 270 = .ok (.aload_n 1, 1) := by decide +kernel
theorem dL_law_271 : decode cL_law 271 = .ok (.aload_n 0, 1) := by decide +kernel
theorem dL_law_272 : decode cL_law 272 = .ok (.iload_n 3, 1) := by decide +kernel
theorem dL_law_273 : decode cL_law 273 = .ok (.iconst 1, 1) := by decide +kernel
theorem dL_law_274 : decode cL_law 274 = .ok (.iadd, 1) := by decide +kernel
theorem dL_law_275 : decode cL_law 275 = .ok (.iaload, 1) := by decide +kernel
theorem dL_law_276 : decode cL_law 276 = .ok (.aload_n 0, 1) := by decide +kernel
theorem dL_law_277 : decode cL_law 277 = .ok (.iload_n 3, 1) := by decide +kernel
theorem dL_law_278 : decode cL_law 278 = .ok (.iconst 2, 1) := by decide +kernel
theorem dL_law_279 : decode cL_law 279 = .ok (.iadd, 1) := by decide +kernel
theorem dL_law_280 : decode cL_law 280 = .ok (.iaload, 1) := by decide +kernel
theorem dL_law_281 : decode cL_law 281 = .ok (.invokevirtual 33, 3) := by decide +kernel
theorem dL_law_284 : decode cL_law 284 = .ok (.aload_n 2, 1) := by decide +kernel
theorem dL_law_285 : decode cL_law 285 = .ok (.aload_n 0, 1) := by decide +kernel
theorem dL_law_286 : decode cL_law 286 = .ok (.iload_n 3, 1) := by decide +kernel
theorem dL_law_287 : decode cL_law 287 = .ok (.iconst 1, 1) := by decide +kernel
theorem dL_law_288 : decode cL_law 288 = .ok (.iadd, 1) := by decide +kernel
theorem dL_law_289 : decode cL_law 289 = .ok (.iaload, 1) := by decide +kernel
theorem dL_law_290 : decode cL_law 290 = .ok (.aload_n 0, 1) := by decide +kernel
theorem dL_law_291 : decode cL_law 291 = .ok (.iload_n 3, 1) := by decide +kernel
theorem dL_law_292 : decode cL_law 292 = .ok (.iconst 2, 1) := by decide +kernel
theorem dL_law_293 : decode cL_law 293 = .ok (.iadd, 1) := by decide +kernel
theorem dL_law_294 : decode cL_law 294 = .ok (.iaload, 1) := by decide +kernel
theorem dL_law_295 : decode cL_law 295 = .ok (.invokevirtual 36, 3) := by decide +kernel
theorem dL_law_298 : decode cL_law 298 = .ok (.if_icmp .eq 370, 3) := by decide +kernel
theorem dL_law_301 : decode cL_law 301 = .ok (.iconst 0, 1) := by decide +kernel
theorem dL_law_302 : decode cL_law 302 = .ok (.ireturn, 1) := by decide +kernel
theorem dL_law_303 : decode cL_law 303 = .ok (.aload_n 1, 1) := by decide +kernel
theorem dL_law_304 : decode cL_law 304 = .ok (.aload_n 0, 1) := by decide +kernel
theorem dL_law_305 : decode cL_law 305 = .ok (.iload_n 3, 1) := by decide +kernel
theorem dL_law_306 : decode cL_law 306 = .ok (.iconst 1, 1) := by decide +kernel
theorem dL_law_307 : decode cL_law 307 = .ok (.iadd, 1) := by decide +kernel
theorem dL_law_308 : decode cL_law 308 = .ok (.iaload, 1) := by decide +kernel
theorem dL_law_309 : decode cL_law 309 = .ok (.invokevirtual 37, 3) := by decide +kernel
theorem dL_law_312 : decode cL_law 312 = .ok (.aload_n 2, 1) := by decide +kernel
theorem dL_law_313 : decode cL_law 313 = .ok (.aload_n 0, 1) := by decide +kernel
theorem dL_law_314 : decode cL_law 314 = .ok (.iload_n 3, 1) := by decide +kernel
theorem dL_law_315 : decode cL_law 315 = .ok (.iconst 1, 1) := by decide +kernel
theorem dL_law_316 : decode cL_law 316 = .ok (.iadd, 1) := by decide +kernel
theorem dL_law_317 : decode cL_law 317 = .ok (.iaload, 1) := by decide +kernel
theorem dL_law_318 : decode cL_law 318 = .ok (.invokevirtual 41, 3) := by decide +kernel
theorem dL_law_321 : decode cL_law 321 = .ok (.if_icmp .eq 347, 3) := by decide +kernel
theorem dL_law_324 : decode cL_law 324 = .ok (.iconst 0, 1) := by decide +kernel
theorem dL_law_325 : decode cL_law 325 = .ok (.ireturn, 1) := by decide +kernel
theorem dL_law_326 : decode cL_law 326 = .ok (.aload_n 1, 1) := by decide +kernel
theorem dL_law_327 : decode cL_law 327 = .ok (.aload_n 0, 1) := by decide +kernel
theorem dL_law_328 : decode cL_law 328 = .ok (.iload_n 3, 1) := by decide +kernel
theorem dL_law_329 : decode cL_law 329 = .ok (.iconst 1, 1) := by decide +kernel
theorem dL_law_330 : decode cL_law 330 = .ok (.iadd, 1) := by decide +kernel
theorem dL_law_331 : decode cL_law 331 = .ok (.iaload, 1) := by decide +kernel
theorem dL_law_332 : decode cL_law 332 = .ok (.aload_n 0, 1) := by decide +kernel
theorem dL_law_333 : decode cL_law 333 = .ok (.iload_n 3, 1) := by decide +kernel
theorem dL_law_334 : decode cL_law 334 = .ok (.iconst 2, 1) := by decide +kernel
theorem dL_law_335 : decode cL_law 335 = .ok (.iadd, 1) := by decide +kernel
theorem dL_law_336 : decode cL_law 336 = .ok (.iaload, 1) := by decide +kernel
theorem dL_law_337 : decode cL_law 337 = .ok (.aload_n 0, 1) := by decide +kernel
theorem dL_law_338 : decode cL_law 338 = .ok (.iload_n 3, 1) := by decide +kernel
theorem dL_law_339 : decode cL_law 339 = .ok (.iconst 3, 1) := by decide +kernel
theorem dL_law_340 : decode cL_law 340 = .ok (.iadd, 1) := by decide +kernel
theorem dL_law_341 : decode cL_law 341 = .ok (.iaload, 1) := by decide +kernel
theorem dL_law_342 : decode cL_law 342 = .ok (.invokevirtual 42, 3) := by decide +kernel
theorem dL_law_345 : decode cL_law 345 = .ok (.aload_n 2, 1) := by decide +kernel
theorem dL_law_346 : decode cL_law 346 = .ok (.aload_n 0, 1) := by decide +kernel
theorem dL_law_347 : decode cL_law 347 = .ok (.iload_n 3, 1) := by decide +kernel
theorem dL_law_348 : decode cL_law 348 = .ok (.iconst 1, 1) := by decide +kernel
theorem dL_law_349 : decode cL_law 349 = .ok (.iadd, 1) := by decide +kernel
theorem dL_law_350 : decode cL_law 350 = .ok (.iaload, 1) := by decide +kernel
theorem dL_law_351 : decode cL_law 351 = .ok (.aload_n 0, 1) := by decide +kernel
theorem dL_law_352 : decode cL_law 352 = .ok (.iload_n 3, 1) := by decide +kernel
theorem dL_law_353 : decode cL_law 353 = .ok (.iconst 2, 1) := by decide +kernel
theorem dL_law_354 : decode cL_law 354 = .ok (.iadd, 1) := by decide +kernel
theorem dL_law_355 : decode cL_law 355 = .ok (.iaload, 1) := by decide +kernel
theorem dL_law_356 : decode cL_law 356 = .ok (.aload_n 0, 1) := by decide +kernel
theorem dL_law_357 : decode cL_law 357 = .ok (.iload_n 3, 1) := by decide +kernel
theorem dL_law_358 : decode cL_law 358 = .ok (.iconst 3, 1) := by decide +kernel
theorem dL_law_359 : decode cL_law 359 = .ok (.iadd, 1) := by decide +kernel
theorem dL_law_360 : decode cL_law 360 = .ok (.iaload, 1) := by decide +kernel
theorem dL_law_361 : decode cL_law 361 = .ok (.invokevirtual 45, 3) := by decide +kernel
theorem dL_law_364 : decode cL_law 364 = .ok (.if_icmp .eq 304, 3) := by decide +kernel
theorem dL_law_367 : decode cL_law 367 = .ok (.iconst 0, 1) := by decide +kernel
theorem dL_law_368 : decode cL_law 368 = .ok (.ireturn, 1) := by decide +kernel
theorem dL_law_369 : decode cL_law 369 = .ok (.aload_n 1, 1) := by decide +kernel
theorem dL_law_370 : decode cL_law 370 = .ok (.aload_n 0, 1) := by decide +kernel
theorem dL_law_371 : decode cL_law 371 = .ok (.iload_n 3, 1) := by decide +kernel
theorem dL_law_372 : decode cL_law 372 = .ok (.iconst 1, 1) := by decide +kernel
theorem dL_law_373 : decode cL_law 373 = .ok (.iadd, 1) := by decide +kernel
theorem dL_law_374 : decode cL_law 374 = .ok (.iaload, 1) := by decide +kernel
theorem dL_law_375 : decode cL_law 375 = .ok (.aload_n 0, 1) := by decide +kernel
theorem dL_law_376 : decode cL_law 376 = .ok (.iload_n 3, 1) := by decide +kernel
theorem dL_law_377 : decode cL_law 377 = .ok (.iconst 2, 1) := by decide +kernel
theorem dL_law_378 : decode cL_law 378 = .ok (.iadd, 1) := by decide +kernel
theorem dL_law_379 : decode cL_law 379 = .ok (.iaload, 1) := by decide +kernel
theorem dL_law_380 : decode cL_law 380 = .ok (.invokevirtual 46, 3) := by decide +kernel
theorem dL_law_383 : decode cL_law 383 = .ok (.aload_n 2, 1) := by decide +kernel
theorem dL_law_384 : decode cL_law 384 = .ok (.aload_n 0, 1) := by decide +kernel
theorem dL_law_385 : decode cL_law 385 = .ok (.iload_n 3, 1) := by decide +kernel
theorem dL_law_386 : decode cL_law 386 = .ok (.iconst 1, 1) := by decide +kernel
theorem dL_law_387 : decode cL_law 387 = .ok (.iadd, 1) := by decide +kernel
theorem dL_law_388 : decode cL_law 388 = .ok (.iaload, 1) := by decide +kernel
theorem dL_law_389 : decode cL_law 389 = .ok (.aload_n 0, 1) := by decide +kernel
theorem dL_law_390 : decode cL_law 390 = .ok (.iload_n 3, 1) := by decide +kernel
theorem dL_law_391 : decode cL_law 391 = .ok (.iconst 2, 1) := by decide +kernel
theorem dL_law_392 : decode cL_law 392 = .ok (.iadd, 1) := by decide +kernel
theorem dL_law_393 : decode cL_law 393 = .ok (.iaload, 1) := by decide +kernel
theorem dL_law_394 : decode cL_law 394 = .ok (.invokevirtual 49, 3) := by decide +kernel
theorem dL_law_397 : decode cL_law 397 = .ok (.if_icmp .eq 271, 3) := by decide +kernel
theorem dL_law_400 : decode cL_law 400 = .ok (.iconst 0, 1) := by decide +kernel
theorem dL_law_401 : decode cL_law 401 = .ok (.ireturn, 1) := by decide +kernel
theorem dL_law_402 : decode cL_law 402 = .ok (.aload_n 1, 1) := by decide +kernel
theorem dL_law_403 : decode cL_law 403 = .ok (.invokevirtual 50, 3) := by decide +kernel
theorem dL_law_406 : decode cL_law 406 = .ok (.aload_n 2, 1) := by decide +kernel
theorem dL_law_407 : decode cL_law 407 = .ok (.invokevirtual 53, 3) := by decide +kernel
theorem dL_law_410 : decode cL_law 410 = .ok (.if_icmp .eq 258, 3) := by decide +kernel
theorem dL_law_413 : decode cL_law 413 = .ok (.iconst 0, 1) := by decide +kernel
theorem dL_law_414 : decode cL_law 414 = .ok (.ireturn, 1) := by decide +kernel
theorem dL_law_415 : decode cL_law 415 = .ok (.aload_n 1, 1) := by decide +kernel
theorem dL_law_416 : decode cL_law 416 = .ok (.aload_n 0, 1) := by decide +kernel
theorem dL_law_417 : decode cL_law 417 = .ok (.iload_n 3, 1) := by decide +kernel
theorem dL_law_418 : decode cL_law 418 = .ok (.iconst 1, 1) := by decide +kernel
theorem dL_law_419 : decode cL_law 419 = .ok (.iadd, 1) := by decide +kernel
theorem dL_law_420 : decode cL_law 420 = .ok (.iaload, 1) := by decide +kernel
theorem dL_law_421 : decode cL_law 421 = .ok (.invokevirtual 54, 3) := by decide +kernel
theorem dL_law_424 : decode cL_law 424 = .ok (.aload_n 2, 1) := by decide +kernel
theorem dL_law_425 : decode cL_law 425 = .ok (.aload_n 0, 1) := by decide +kernel
theorem dL_law_426 : decode cL_law 426 = .ok (.iload_n 3, 1) := by decide +kernel
theorem dL_law_427 : decode cL_law 427 = .ok (.iconst 1, 1) := by decide +kernel
theorem dL_law_428 : decode cL_law 428 = .ok (.iadd, 1) := by decide +kernel
theorem dL_law_429 : decode cL_law 429 = .ok (.iaload, 1) := by decide +kernel
theorem dL_law_430 : decode cL_law 430 = .ok (.invokevirtual 57, 3) := by decide +kernel
theorem dL_law_433 : decode cL_law 433 = .ok (.if_icmp .eq 235, 3) := by decide +kernel
theorem dL_law_436 : decode cL_law 436 = .ok (.iconst 0, 1) := by decide +kernel
theorem dL_law_437 : decode cL_law 437 = .ok (.ireturn, 1) := by decide +kernel
theorem dL_law_438 : decode cL_law 438 = .ok (.aload_n 1, 1) := by decide +kernel
theorem dL_law_439 : decode cL_law 439 = .ok (.aload_n 0, 1) := by decide +kernel
theorem dL_law_440 : decode cL_law 440 = .ok (.iload_n 3, 1) := by decide +kernel
theorem dL_law_441 : decode cL_law 441 = .ok (.iconst 1, 1) := by decide +kernel
theorem dL_law_442 : decode cL_law 442 = .ok (.iadd, 1) := by decide +kernel
theorem dL_law_443 : decode cL_law 443 = .ok (.iaload, 1) := by decide +kernel
theorem dL_law_444 : decode cL_law 444 = .ok (.invokevirtual 58, 3) := by decide +kernel
theorem dL_law_447 : decode cL_law 447 = .ok (.aload_n 2, 1) := by decide +kernel
theorem dL_law_448 : decode cL_law 448 = .ok (.aload_n 0, 1) := by decide +kernel
theorem dL_law_449 : decode cL_law 449 = .ok (.iload_n 3, 1) := by decide +kernel
theorem dL_law_450 : decode cL_law 450 = .ok (.iconst 1, 1) := by decide +kernel
theorem dL_law_451 : decode cL_law 451 = .ok (.iadd, 1) := by decide +kernel
theorem dL_law_452 : decode cL_law 452 = .ok (.iaload, 1) := by decide +kernel
theorem dL_law_453 : decode cL_law 453 = .ok (.invokevirtual 61, 3) := by decide +kernel
theorem dL_law_456 : decode cL_law 456 = .ok (.if_icmp .eq 212, 3) := by decide +kernel
theorem dL_law_459 : decode cL_law 459 = .ok (.iconst 0, 1) := by decide +kernel
theorem dL_law_460 : decode cL_law 460 = .ok (.ireturn, 1) := by decide +kernel
theorem dL_law_461 : decode cL_law 461 = .ok (.aload_n 1, 1) := by decide +kernel
theorem dL_law_462 : decode cL_law 462 = .ok (.aload_n 0, 1) := by decide +kernel
theorem dL_law_463 : decode cL_law 463 = .ok (.iload_n 3, 1) := by decide +kernel
theorem dL_law_464 : decode cL_law 464 = .ok (.iconst 1, 1) := by decide +kernel
theorem dL_law_465 : decode cL_law 465 = .ok (.iadd, 1) := by decide +kernel
theorem dL_law_466 : decode cL_law 466 = .ok (.iaload, 1) := by decide +kernel
theorem dL_law_467 : decode cL_law 467 = .ok (.invokevirtual 62, 3) := by decide +kernel
theorem dL_law_470 : decode cL_law 470 = .ok (.aload_n 2, 1) := by decide +kernel
theorem dL_law_471 : decode cL_law 471 = .ok (.aload_n 0, 1) := by decide +kernel
theorem dL_law_472 : decode cL_law 472 = .ok (.iload_n 3, 1) := by decide +kernel
theorem dL_law_473 : decode cL_law 473 = .ok (.iconst 1, 1) := by decide +kernel
theorem dL_law_474 : decode cL_law 474 = .ok (.iadd, 1) := by decide +kernel
theorem dL_law_475 : decode cL_law 475 = .ok (.iaload, 1) := by decide +kernel
theorem dL_law_476 : decode cL_law 476 = .ok (.invokevirtual 65, 3) := by decide +kernel
theorem dL_law_479 : decode cL_law 479 = .ok (.if_icmp .eq 189, 3) := by decide +kernel
theorem dL_law_482 : decode cL_law 482 = .ok (.iconst 0, 1) := by decide +kernel
theorem dL_law_483 : decode cL_law 483 = .ok (.ireturn, 1) := by decide +kernel
theorem dL_law_484 : decode cL_law 484 = .ok (.aload_n 1, 1) := by decide +kernel
theorem dL_law_485 : decode cL_law 485 = .ok (.aload_n 0, 1) := by decide +kernel
theorem dL_law_486 : decode cL_law 486 = .ok (.iload_n 3, 1) := by decide +kernel
theorem dL_law_487 : decode cL_law 487 = .ok (.iconst 1, 1) := by decide +kernel
theorem dL_law_488 : decode cL_law 488 = .ok (.iadd, 1) := by decide +kernel
theorem dL_law_489 : decode cL_law 489 = .ok (.iaload, 1) := by decide +kernel
theorem dL_law_490 : decode cL_law 490 = .ok (.invokevirtual 66, 3) := by decide +kernel
theorem dL_law_493 : decode cL_law 493 = .ok (.aload_n 2, 1) := by decide +kernel
theorem dL_law_494 : decode cL_law 494 = .ok (.aload_n 0, 1) := by decide +kernel
theorem dL_law_495 : decode cL_law 495 = .ok (.iload_n 3, 1) := by decide +kernel
theorem dL_law_496 : decode cL_law 496 = .ok (.iconst 1, 1) := by decide +kernel
theorem dL_law_497 : decode cL_law 497 = .ok (.iadd, 1) := by decide +kernel
theorem dL_law_498 : decode cL_law 498 = .ok (.iaload, 1) := by decide +kernel
theorem dL_law_499 : decode cL_law 499 = .ok (.invokevirtual 69, 3) := by decide +kernel
theorem dL_law_502 : decode cL_law 502 = .ok (.if_icmp .eq 166, 3) := by decide +kernel
theorem dL_law_505 : decode cL_law 505 = .ok (.iconst 0, 1) := by decide +kernel
theorem dL_law_506 : decode cL_law 506 = .ok (.ireturn, 1) := by decide +kernel
theorem dL_law_507 : decode cL_law 507 = .ok (.aload_n 1, 1) := by decide +kernel
theorem dL_law_508 : decode cL_law 508 = .ok (.aload_n 0, 1) := by decide +kernel
theorem dL_law_509 : decode cL_law 509 = .ok (.iload_n 3, 1) := by decide +kernel
theorem dL_law_510 : decode cL_law 510 = .ok (.iconst 1, 1) := by decide +kernel
theorem dL_law_511 : decode cL_law 511 = .ok (.iadd, 1) := by decide +kernel
theorem dL_law_512 : decode cL_law 512 = .ok (.iaload, 1) := by decide +kernel
theorem dL_law_513 : decode cL_law 513 = .ok (.aload_n 0, 1) := by decide +kernel
theorem dL_law_514 : decode cL_law 514 = .ok (.iload_n 3, 1) := by decide +kernel
theorem dL_law_515 : decode cL_law 515 = .ok (.iconst 2, 1) := by decide +kernel
theorem dL_law_516 : decode cL_law 516 = .ok (.iadd, 1) := by decide +kernel
theorem dL_law_517 : decode cL_law 517 = .ok (.iaload, 1) := by decide +kernel
theorem dL_law_518 : decode cL_law 518 = .ok (.invokevirtual 70, 3) := by decide +kernel
theorem dL_law_521 : decode cL_law 521 = .ok (.aload_n 2, 1) := by decide +kernel
theorem dL_law_522 : decode cL_law 522 = .ok (.aload_n 0, 1) := by decide +kernel
theorem dL_law_523 : decode cL_law 523 = .ok (.iload_n 3, 1) := by decide +kernel
theorem dL_law_524 : decode cL_law 524 = .ok (.iconst 1, 1) := by decide +kernel
theorem dL_law_525 : decode cL_law 525 = .ok (.iadd, 1) := by decide +kernel
theorem dL_law_526 : decode cL_law 526 = .ok (.iaload, 1) := by decide +kernel
theorem dL_law_527 : decode cL_law 527 = .ok (.aload_n 0, 1) := by decide +kernel
theorem dL_law_528 : decode cL_law 528 = .ok (.iload_n 3, 1) := by decide +kernel
theorem dL_law_529 : decode cL_law 529 = .ok (.iconst 2, 1) := by decide +kernel
theorem dL_law_530 : decode cL_law 530 = .ok (.iadd, 1) := by decide +kernel
theorem dL_law_531 : decode cL_law 531 = .ok (.iaload, 1) := by decide +kernel
theorem dL_law_532 : decode cL_law 532 = .ok (.invokevirtual 73, 3) := by decide +kernel
theorem dL_law_535 : decode cL_law 535 = .ok (.if_icmp .eq 133, 3) := by decide +kernel
theorem dL_law_538 : decode cL_law 538 = .ok (.iconst 0, 1) := by decide +kernel
theorem dL_law_539 : decode cL_law 539 = .ok (.ireturn, 1) := by decide +kernel
theorem dL_law_540 : decode cL_law 540 = .ok (.aload_n 1, 1) := by decide +kernel
theorem dL_law_541 : decode cL_law 541 = .ok (.aload_n 0, 1) := by decide +kernel
theorem dL_law_542 : decode cL_law 542 = .ok (.iload_n 3, 1) := by decide +kernel
theorem dL_law_543 : decode cL_law 543 = .ok (.iconst 1, 1) := by decide +kernel
theorem dL_law_544 : decode cL_law 544 = .ok (.iadd, 1) := by decide +kernel
theorem dL_law_545 : decode cL_law 545 = .ok (.iaload, 1) := by decide +kernel
theorem dL_law_546 : decode cL_law 546 = .ok (.invokevirtual 74, 3) := by decide +kernel
theorem dL_law_549 : decode cL_law 549 = .ok (.aload_n 2, 1) := by decide +kernel
theorem dL_law_550 : decode cL_law 550 = .ok (.aload_n 0, 1) := by decide +kernel
theorem dL_law_551 : decode cL_law 551 = .ok (.iload_n 3, 1) := by decide +kernel
theorem dL_law_552 : decode cL_law 552 = .ok (.iconst 1, 1) := by decide +kernel
theorem dL_law_553 : decode cL_law 553 = .ok (.iadd, 1) := by decide +kernel
theorem dL_law_554 : decode cL_law 554 = .ok (.iaload, 1) := by decide +kernel
theorem dL_law_555 : decode cL_law 555 = .ok (.invokevirtual 77, 3) := by decide +kernel
theorem dL_law_558 : decode cL_law 558 = .ok (.if_icmp .eq 110, 3) := by decide +kernel
theorem dL_law_561 : decode cL_law 561 = .ok (.iconst 0, 1) := by decide +kernel
theorem dL_law_562 : decode cL_law 562 = .ok (.ireturn, 1) := by decide +kernel
theorem dL_law_563 : decode cL_law 563 = .ok (.aload_n 1, 1) := by decide +kernel
theorem dL_law_564 : decode cL_law 564 = .ok (.aload_n 0, 1) := by decide +kernel
theorem dL_law_565 : decode cL_law 565 = .ok (.iload_n 3, 1) := by decide +kernel
theorem dL_law_566 : decode cL_law 566 = .ok (.iconst 1, 1) := by decide +kernel
theorem dL_law_567 : decode cL_law 567 = .ok (.iadd, 1) := by decide +kernel
theorem dL_law_568 : decode cL_law 568 = .ok (.iaload, 1) := by decide +kernel
theorem dL_law_569 : decode cL_law 569 = .ok (.aload_n 0, 1) := by decide +kernel
theorem dL_law_570 : decode cL_law 570 = .ok (.iload_n 3, 1) := by decide +kernel
theorem dL_law_571 : decode cL_law 571 = .ok (.iconst 2, 1) := by decide +kernel
theorem dL_law_572 : decode cL_law 572 = .ok (.iadd, 1) := by decide +kernel
theorem dL_law_573 : decode cL_law 573 = .ok (.iaload, 1) := by decide +kernel
theorem dL_law_574 : decode cL_law 574 = .ok (.invokevirtual 78, 3) := by decide +kernel
theorem dL_law_577 : decode cL_law 577 = .ok (.aload_n 2, 1) := by decide +kernel
theorem dL_law_578 : decode cL_law 578 = .ok (.aload_n 0, 1) := by decide +kernel
theorem dL_law_579 : decode cL_law 579 = .ok (.iload_n 3, 1) := by decide +kernel
theorem dL_law_580 : decode cL_law 580 = .ok (.iconst 1, 1) := by decide +kernel
theorem dL_law_581 : decode cL_law 581 = .ok (.iadd, 1) := by decide +kernel
theorem dL_law_582 : decode cL_law 582 = .ok (.iaload, 1) := by decide +kernel
theorem dL_law_583 : decode cL_law 583 = .ok (.aload_n 0, 1) := by decide +kernel
theorem dL_law_584 : decode cL_law 584 = .ok (.iload_n 3, 1) := by decide +kernel
theorem dL_law_585 : decode cL_law 585 = .ok (.iconst 2, 1) := by decide +kernel
theorem dL_law_586 : decode cL_law 586 = .ok (.iadd, 1) := by decide +kernel
theorem dL_law_587 : decode cL_law 587 = .ok (.iaload, 1) := by decide +kernel
theorem dL_law_588 : decode cL_law 588 = .ok (.invokevirtual 81, 3) := by decide +kernel
theorem dL_law_591 : decode cL_law 591 = .ok (.if_icmp .eq 77, 3) := by decide +kernel
theorem dL_law_594 : decode cL_law 594 = .ok (.iconst 0, 1) := by decide +kernel
theorem dL_law_595 : decode cL_law 595 = .ok (.ireturn, 1) := by decide +kernel
theorem dL_law_596 : decode cL_law 596 = .ok (.aload_n 1, 1) := by decide +kernel
theorem dL_law_597 : decode cL_law 597 = .ok (.invokevirtual 82, 3) := by decide +kernel
theorem dL_law_600 : decode cL_law 600 = .ok (.aload_n 2, 1) := by decide +kernel
theorem dL_law_601 : decode cL_law 601 = .ok (.invokevirtual 85, 3) := by decide +kernel
theorem dL_law_604 : decode cL_law 604 = .ok (.if_icmp .eq 64, 3) := by decide +kernel
theorem dL_law_607 : decode cL_law 607 = .ok (.iconst 0, 1) := by decide +kernel
theorem dL_law_608 : decode cL_law 608 = .ok (.ireturn, 1) := by decide +kernel
theorem dL_law_609 : decode cL_law 609 = .ok (.aload_n 1, 1) := by decide +kernel
theorem dL_law_610 : decode cL_law 610 = .ok (.aload_n 0, 1) := by decide +kernel
theorem dL_law_611 : decode cL_law 611 = .ok (.iload_n 3, 1) := by decide +kernel
theorem dL_law_612 : decode cL_law 612 = .ok (.iconst 1, 1) := by decide +kernel
theorem dL_law_613 : decode cL_law 613 = .ok (.iadd, 1) := by decide +kernel
theorem dL_law_614 : decode cL_law 614 = .ok (.iaload, 1) := by decide +kernel
theorem dL_law_615 : decode cL_law 615 = .ok (.invokevirtual 86, 3) := by decide +kernel
theorem dL_law_618 : decode cL_law 618 = .ok (.aload_n 2, 1) := by decide +kernel
theorem dL_law_619 : decode cL_law 619 = .ok (.aload_n 0, 1) := by decide +kernel
theorem dL_law_620 : decode cL_law 620 = .ok (.iload_n 3, 1) := by decide +kernel
theorem dL_law_621 : decode cL_law 621 = .ok (.iconst 1, 1) := by decide +kernel
theorem dL_law_622 : decode cL_law 622 = .ok (.iadd, 1) := by decide +kernel
theorem dL_law_623 : decode cL_law 623 = .ok (.iaload, 1) := by decide +kernel
theorem dL_law_624 : decode cL_law 624 = .ok (.invokevirtual 89, 3) := by decide +kernel
theorem dL_law_627 : decode cL_law 627 = .ok (.if_icmp .eq 41, 3) := by decide +kernel
theorem dL_law_630 : decode cL_law 630 = .ok (.iconst 0, 1) := by decide +kernel
theorem dL_law_631 : decode cL_law 631 = .ok (.ireturn, 1) := by decide +kernel
theorem dL_law_632 : decode cL_law 632 = .ok (.aload_n 1, 1) := by decide +kernel
theorem dL_law_633 : decode cL_law 633 = .ok (.invokevirtual 90, 3) := by decide +kernel
theorem dL_law_636 : decode cL_law 636 = .ok (.aload_n 2, 1) := by decide +kernel
theorem dL_law_637 : decode cL_law 637 = .ok (.invokevirtual 93, 3) := by decide +kernel
theorem dL_law_640 : decode cL_law 640 = .ok (.if_icmp .eq 28, 3) := by decide +kernel
theorem dL_law_643 : decode cL_law 643 = .ok (.iconst 0, 1) := by decide +kernel
theorem dL_law_644 : decode cL_law 644 = .ok (.ireturn, 1) := by decide +kernel
theorem dL_law_645 : decode cL_law 645 = .ok (.aload_n 1, 1) := by decide +kernel
theorem dL_law_646 : decode cL_law 646 = .ok (.aload_n 0, 1) := by decide +kernel
theorem dL_law_647 : decode cL_law 647 = .ok (.iload_n 3, 1) := by decide +kernel
theorem dL_law_648 : decode cL_law 648 = .ok (.iconst 1, 1) := by decide +kernel
theorem dL_law_649 : decode cL_law 649 = .ok (.iadd, 1) := by decide +kernel
theorem dL_law_650 : decode cL_law 650 = .ok (.iaload, 1) := by decide +kernel
theorem dL_law_651 : decode cL_law 651 = .ok (.invokevirtual 94, 3) := by decide +kernel
theorem dL_law_654 : decode cL_law 654 = .ok (.aload_n 2, 1) := by decide +kernel
theorem dL_law_655 : decode cL_law 655 = .ok (.aload_n 0, 1) := by decide +kernel
theorem dL_law_656 : decode cL_law 656 = .ok (.iload_n 3, 1) := by decide +kernel
theorem dL_law_657 : decode cL_law 657 = .ok (.iconst 1, 1) := by decide +kernel
theorem dL_law_658 : decode cL_law 658 = .ok (.iadd, 1) := by decide +kernel
theorem dL_law_659 : decode cL_law 659 = .ok (.iaload, 1) := by decide +kernel
theorem dL_law_660 : decode cL_law 660 = .ok (.invokevirtual 97, 3) := by decide +kernel
theorem dL_law_663 : decode cL_law 663 = .ok (.if_icmp .eq 5, 3) := by decide +kernel
theorem dL_law_666 : decode cL_law 666 = .ok (.iconst 0, 1) := by decide +kernel
theorem dL_law_667 : decode cL_law 667 = .ok (.ireturn, 1) := by decide +kernel
theorem dL_law_668 : decode cL_law 668 = .ok (.iinc 3 5, 3) := by decide +kernel
theorem dL_law_671 : decode cL_law 671 = .ok (.goto (-653), 3) := by decide +kernel
theorem dL_law_674 : decode cL_law 674 = .ok (.iconst 1, 1) := by decide +kernel
theorem dL_law_675 : decode cL_law 675 = .ok (.ireturn, 1) := by decide +kernel
