theorem dX0_init_0 : decode cX0_init 0 = .ok (.aload_n 0, 1) := by decide +kernel
theorem dX0_init_1 : decode cX0_init 1 = .ok (.invokespecial 3, 3) := by decide +kernel
theorem dX0_init_4 : decode cX0_init 4 = .ok (.aload_n 0, 1) := by decide +kernel
theorem dX0_init_5 : decode cX0_init 5 = .ok (.iconst 2, 1) := by decide +kernel
theorem dX0_init_6 : decode cX0_init 6 = .ok (.anewarray 9, 3) := by decide +kernel
theorem dX0_init_9 : decode cX0_init 9 = .ok (.putfield 11, 3) := by decide +kernel
theorem dX0_init_12 : decode cX0_init 12 = .ok (.aload_n 0, 1) := by decide +kernel
theorem dX0_init_13 : decode cX0_init 13 = .ok (.iconst 2, 1) := by decide +kernel
theorem dX0_init_14 : decode cX0_init 14 = .ok (.anewarray 17, 3) := by decide +kernel
theorem dX0_init_17 : decode cX0_init 17 = .ok (.putfield 19, 3) := by decide +kernel
theorem dX0_init_20 : decode cX0_init 20 = .ok (.iconst 0, 1) := by decide +kernel
theorem dX0_init_21 : decode cX0_init 21 = .ok (.istore_n 1, 1) := by decide +kernel
theorem dX0_init_22 : decode cX0_init 22 = .ok (.iload_n 1, 1) := by decide +kernel
theorem dX0_init_23 : decode cX0_init 23 = .ok (.iconst 2, 1) := by decide +kernel
theorem dX0_init_24 : decode cX0_init 24 = .ok (.if_icmp .ge 35, 3) := by decide +kernel
theorem dX0_init_27 : decode cX0_init 27 = .ok (.aload_n 0, 1) := by decide +kernel
theorem dX0_init_28 : decode cX0_init 28 = .ok (.getfield 11, 3) := by decide +kernel
theorem dX0_init_31 : decode cX0_init 31 = .ok (.iload_n 1, 1) := by decide +kernel
theorem dX0_init_32 : decode cX0_init 32 = .ok (.new 9, 3) := by decide +kernel
theorem dX0_init_35 : decode cX0_init 35 = .ok (.dup, 1) := by decide +kernel
theorem dX0_init_36 : decode cX0_init 36 = .ok (.invokespecial 23, 3) := by decide +kernel
theorem dX0_init_39 : decode cX0_init 39 = .ok (.aastore, 1) := by decide +kernel
theorem dX0_init_40 : decode cX0_init 40 = .ok (.aload_n 0, 1) := by decide +kernel
theorem dX0_init_41 : decode cX0_init 41 = .ok (.getfield 19, 3) := by decide +kernel
theorem dX0_init_44 : decode cX0_init 44 = .ok (.iload_n 1, 1) := by decide +kernel
theorem dX0_init_45 : decode cX0_init 45 = .ok (.new 17, 3) := by decide +kernel
theorem dX0_init_48 : decode cX0_init 48 = .ok (.dup, 1) := by decide +kernel
theorem dX0_init_49 : decode cX0_init 49 = .ok (.invokespecial 24, 3) := by decide +kernel
theorem dX0_init_52 : decode cX0_init 52 = .ok (.aastore, 1) := by decide +kernel
theorem dX0_init_53 : decode cX0_init 53 = .ok (.iinc 1 1, 3) := by decide +kernel
theorem dX0_init_56 : decode cX0_init 56 = .ok (.goto (-34), 3) := by decide +kernel
theorem dX0_init_59 : decode cX0_init 59 = .ok (.return_, 1) := by decide +kernel
theorem dX0_forget_0 : decode cX0_forget 0 = .ok (.aload_n 0, 1) := by decide +kernel
theorem dX0_forget_1 : decode cX0_forget 1 = .ok (.iconst 0, 1) := by decide +kernel
theorem dX0_forget_2 : decode cX0_forget 2 = .ok (.putfield 25, 3) := by decide +kernel
theorem dX0_forget_5 : decode cX0_forget 5 = .ok (.aload_n 0, 1) := by decide +kernel
theorem dX0_forget_6 : decode cX0_forget 6 = .ok (.iconst 0, 1) := by decide +kernel
theorem dX0_forget_7 : decode cX0_forget 7 = .ok (.putfield 29, 3) := by decide +kernel
theorem dX0_forget_10 : decode cX0_forget 10 = .ok (.iconst 0, 1) := by decide +kernel
theorem dX0_forget_11 : decode cX0_forget 11 = .ok (.istore_n 1, 1) := by decide +kernel
theorem dX0_forget_12 : decode cX0_forget 12 = .ok (.iload_n 1, 1) := by decide +kernel
theorem dX0_forget_13 : decode cX0_forget 13 = .ok (.iconst 2, 1) := by decide +kernel
theorem dX0_forget_14 : decode cX0_forget 14 = .ok (.if_icmp .ge 18, 3) := by decide +kernel
theorem dX0_forget_17 : decode cX0_forget 17 = .ok (.aload_n 0, 1) := by decide +kernel
theorem dX0_forget_18 : decode cX0_forget 18 = .ok (.getfield 19, 3) := by decide +kernel
theorem dX0_forget_21 : decode cX0_forget 21 = .ok (.iload_n 1, 1) := by decide +kernel
theorem dX0_forget_22 : decode cX0_forget 22 = .ok (.aaload, 1) := by decide +kernel
theorem dX0_forget_23 : decode cX0_forget 23 = .ok (.invokevirtual 32, 3) := by decide +kernel
theorem dX0_forget_26 : decode cX0_forget 26 = .ok (.iinc 1 1, 3) := by decide +kernel
theorem dX0_forget_29 : decode cX0_forget 29 = .ok (.goto (-17), 3) := by decide +kernel
theorem dX0_forget_32 : decode cX0_forget 32 = .ok (.return_, 1) := by decide +kernel
theorem dX0_write_0 : decode cX0_write 0 = .ok (.aload_n 0, 1) := by decide +kernel
theorem dX0_write_1 : decode cX0_write 1 = .ok (.iload_n 1, 1) := by decide +kernel
theorem dX0_write_2 : decode cX0_write 2 = .ok (.putfield 35, 3) := by decide +kernel
theorem dX0_write_5 : decode cX0_write 5 = .ok (.aload_n 0, 1) := by decide +kernel
theorem dX0_write_6 : decode cX0_write 6 = .ok (.iload_n 2, 1) := by decide +kernel
theorem dX0_write_7 : decode cX0_write 7 = .ok (.putfield 38, 3) := by decide +kernel
theorem dX0_write_10 : decode cX0_write 10 = .ok (.aload_n 0, 1) := by decide +kernel
theorem dX0_write_11 : decode cX0_write 11 = .ok (.iconst 0, 1) := by decide +kernel
theorem dX0_write_12 : decode cX0_write 12 = .ok (.putfield 29, 3) := by decide +kernel
theorem dX0_write_15 : decode cX0_write 15 = .ok (.aload_n 0, 1) := by decide +kernel
theorem dX0_write_16 : decode cX0_write 16 = .ok (.dup, 1) := by decide +kernel
theorem dX0_write_17 : decode cX0_write 17 = .ok (.getfield 25, 3) := by decide +kernel
theorem dX0_write_20 : decode cX0_write 20 = .ok (.iconst 1, 1) := by decide +kernel
theorem dX0_write_21 : decode cX0_write 21 = .ok (.iadd, 1) := by decide +kernel
theorem dX0_write_22 : decode cX0_write 22 = .ok (.putfield 25, 3) := by decide +kernel
theorem dX0_write_25 : decode cX0_write 25 = .ok (.aload_n 0, 1) := by decide +kernel
theorem dX0_write_26 : decode cX0_write 26 = .ok (.getfield 25, 3) := by decide +kernel
theorem dX0_write_29 : decode cX0_write 29 = .ok (.ireturn, 1) := by decide +kernel
theorem dX0_hasTriesLeft_0 : decode cX0_hasTriesLeft 0 = .ok (.aload_n 0, 1) := by decide +kernel
theorem dX0_hasTriesLeft_1 : decode cX0_hasTriesLeft 1 = .ok (.getfield 25, 3) := by decide +kernel
theorem dX0_hasTriesLeft_4 : decode cX0_hasTriesLeft 4 = .ok (.ifCond .le 15, 3) := by decide +kernel
theorem dX0_hasTriesLeft_7 : decode cX0_hasTriesLeft 7 = .ok (.aload_n 0, 1) := by decide +kernel
theorem dX0_hasTriesLeft_8 : decode cX0_hasTriesLeft 8 = .ok (.getfield 29, 3) := by decide +kernel
theorem dX0_hasTriesLeft_11 : decode cX0_hasTriesLeft 11 = .ok (.iconst 5, 1) := by decide +kernel
theorem dX0_hasTriesLeft_12 : decode cX0_hasTriesLeft 12 = .ok (.if_icmp .ge 7, 3) := by decide +kernel
theorem dX0_hasTriesLeft_15 : decode cX0_hasTriesLeft 15 = .ok (.iconst 1, 1) := by decide +kernel
theorem dX0_hasTriesLeft_16 : decode cX0_hasTriesLeft 16 = .ok (.goto 4, 3) := by decide +kernel
theorem dX0_hasTriesLeft_19 : decode cX0_hasTriesLeft 19 = .ok (.iconst 0, 1) := by decide +kernel
theorem dX0_hasTriesLeft_20 : decode cX0_hasTriesLeft 20 = .ok (.ireturn, 1) := by decide +kernel
theorem dX0_isAcknowledged_0 : decode cX0_isAcknowledged 0 = .ok (.aload_n 0, 1) := by decide +kernel
theorem dX0_isAcknowledged_1 : decode cX0_isAcknowledged 1 = .ok (.getfield 25, 3) := by decide +kernel
theorem dX0_isAcknowledged_4 : decode cX0_isAcknowledged 4 = .ok (.ifCond .le 35, 3) := by decide +kernel
theorem dX0_isAcknowledged_7 : decode cX0_isAcknowledged 7 = .ok (.aload_n 0, 1) := by decide +kernel
theorem dX0_isAcknowledged_8 : decode cX0_isAcknowledged 8 = .ok (.getfield 19, 3) := by decide +kernel
theorem dX0_isAcknowledged_11 : decode cX0_isAcknowledged 11 = .ok (.iconst 0, 1) := by decide +kernel
theorem dX0_isAcknowledged_12 : decode cX0_isAcknowledged 12 = .ok (.aaload, 1) := by decide +kernel
theorem dX0_isAcknowledged_13 : decode cX0_isAcknowledged 13 = .ok (.invokevirtual 41, 3) := by decide +kernel
theorem dX0_isAcknowledged_16 : decode cX0_isAcknowledged 16 = .ok (.aload_n 0, 1) := by decide +kernel
theorem dX0_isAcknowledged_17 : decode cX0_isAcknowledged 17 = .ok (.getfield 19, 3) := by decide +kernel
theorem dX0_isAcknowledged_20 : decode cX0_isAcknowledged 20 = .ok (.iconst 1, 1) := by decide +kernel
theorem dX0_isAcknowledged_21 : decode cX0_isAcknowledged 21 = .ok (.aaload, 1) := by decide +kernel
theorem dX0_isAcknowledged_22 : decode cX0_isAcknowledged 22 = .ok (.invokevirtual 41, 3) := by decide +kernel
theorem dX0_isAcknowledged_25 : decode cX0_isAcknowledged 25 = .ok (.invokestatic 45, 3) := by decide +kernel
theorem dX0_isAcknowledged_28 : decode cX0_isAcknowledged 28 = .ok (.aload_n 0, 1) := by decide +kernel
theorem dX0_isAcknowledged_29 : decode cX0_isAcknowledged 29 = .ok (.getfield 25, 3) := by decide +kernel
theorem dX0_isAcknowledged_32 : decode cX0_isAcknowledged 32 = .ok (.if_icmp .ne 7, 3) := by decide +kernel
theorem dX0_isAcknowledged_35 : decode cX0_isAcknowledged 35 = .ok (.iconst 1, 1) := by decide +kernel
theorem dX0_isAcknowledged_36 : decode cX0_isAcknowledged 36 = .ok (.goto 4, 3) := by decide +kernel
theorem dX0_isAcknowledged_39 : decode cX0_isAcknowledged 39 = .ok (.iconst 0, 1) := by decide +kernel
theorem dX0_isAcknowledged_40 : decode cX0_isAcknowledged 40 = .ok (.ireturn, 1) := by decide +kernel
theorem dX0_countedAnswer_0 : decode cX0_countedAnswer 0 = .ok (.aload_n 0, 1) := by decide +kernel
theorem dX0_countedAnswer_1 : decode cX0_countedAnswer 1 = .ok (.getfield 19, 3) := by decide +kernel
theorem dX0_countedAnswer_4 : decode cX0_countedAnswer 4 = .ok (.iconst 0, 1) := by decide +kernel
theorem dX0_countedAnswer_5 : decode cX0_countedAnswer 5 = .ok (.aaload, 1) := by decide +kernel
theorem dX0_countedAnswer_6 : decode cX0_countedAnswer 6 = .ok (.getfield 51, 3) := by decide +kernel
theorem dX0_countedAnswer_9 : decode cX0_countedAnswer 9 = .ok (.aload_n 0, 1) := by decide +kernel
theorem dX0_countedAnswer_10 : decode cX0_countedAnswer 10 = .ok (.getfield 19, 3) := by decide +kernel
theorem dX0_countedAnswer_13 : decode cX0_countedAnswer 13 = .ok (.iconst 1, 1) := by decide +kernel
theorem dX0_countedAnswer_14 : decode cX0_countedAnswer 14 = .ok (.aaload, 1) := by decide +kernel
theorem dX0_countedAnswer_15 : decode cX0_countedAnswer 15 = .ok (.getfield 51, 3) := by decide +kernel
theorem dX0_countedAnswer_18 : decode cX0_countedAnswer 18 = .ok (.if_icmp .lt 12, 3) := by decide +kernel
theorem dX0_countedAnswer_21 : decode cX0_countedAnswer 21 = .ok (.aload_n 0, 1) := by decide +kernel
theorem dX0_countedAnswer_22 : decode cX0_countedAnswer 22 = .ok (.getfield 19, 3) := by decide +kernel
theorem dX0_countedAnswer_25 : decode cX0_countedAnswer 25 = .ok (.iconst 0, 1) := by decide +kernel
theorem dX0_countedAnswer_26 : decode cX0_countedAnswer 26 = .ok (.aaload, 1) := by decide +kernel
theorem dX0_countedAnswer_27 : decode cX0_countedAnswer 27 = .ok (.goto 9, 3) := by decide +kernel
theorem dX0_countedAnswer_30 : decode cX0_countedAnswer 30 = .ok (.aload_n 0, 1) := by decide +kernel
theorem dX0_countedAnswer_31 : decode cX0_countedAnswer 31 = .ok (.getfield 19, 3) := by decide +kernel
theorem dX0_countedAnswer_34 : decode cX0_countedAnswer 34 = .ok (.iconst 1, 1) := by decide +kernel
theorem dX0_countedAnswer_35 : decode cX0_countedAnswer 35 = .ok (.aaload, 1) := by decide +kernel
theorem dX0_countedAnswer_36 : decode cX0_countedAnswer 36 = .ok (.astore_n 1, 1) := by decide +kernel
theorem dX0_countedAnswer_37 : decode cX0_countedAnswer 37 = .ok (.aload_n 1, 1) := by decide +kernel
theorem dX0_countedAnswer_38 : decode cX0_countedAnswer 38 = .ok (.getfield 51, 3) := by decide +kernel
theorem dX0_countedAnswer_41 : decode cX0_countedAnswer 41 = .ok (.ifCond .le 10, 3) := by decide +kernel
theorem dX0_countedAnswer_44 : decode cX0_countedAnswer 44 = .ok (.aload_n 1, 1) := by decide +kernel
theorem dX0_countedAnswer_45 : decode cX0_countedAnswer 45 = .ok (.getfield 54, 3) := by decide +kernel
theorem dX0_countedAnswer_48 : decode cX0_countedAnswer 48 = .ok (.goto 5, 3) := by decide +kernel
theorem dX0_countedAnswer_51 : decode cX0_countedAnswer 51 = .ok (.bipush (-4), 2) := by decide +kernel
theorem dX0_countedAnswer_53 : decode cX0_countedAnswer 53 = .ok (.ireturn, 1) := by decide +kernel
theorem dX1_init_0 : decode cX1_init 0 = .ok (.aload_n 0, 1) := by decide +kernel
theorem dX1_init_1 : decode cX1_init 1 = .ok (.invokespecial 3, 3) := by decide +kernel
theorem dX1_init_4 : decode cX1_init 4 = .ok (.aload_n 0, 1) := by decide +kernel
theorem dX1_init_5 : decode cX1_init 5 = .ok (.iconst 5, 1) := by decide +kernel
theorem dX1_init_6 : decode cX1_init 6 = .ok (.iconst 5, 1) := by decide +kernel
theorem dX1_init_7 : decode cX1_init 7 = .ok (.multianewarray 11 2, 4) := by decide +kernel
theorem dX1_init_11 : decode cX1_init 11 = .ok (.putfield 13, 3) := by decide +kernel
theorem dX1_init_14 : decode cX1_init 14 = .ok (.aload_n 0, 1) := by decide +kernel
theorem dX1_init_15 : decode cX1_init 15 = .ok (.iconst 5, 1) := by decide +kernel
theorem dX1_init_16 : decode cX1_init 16 = .ok (.newarray .int, 2) := by decide +kernel
theorem dX1_init_18 : decode cX1_init 18 = .ok (.putfield 18, 3) := by decide +kernel
theorem dX1_init_21 : decode cX1_init 21 = .ok (.return_, 1) := by decide +kernel
theorem dX1_join_0 : decode cX1_join 0 = .ok (.iload_n 3, 1) := by decide +kernel
theorem dX1_join_1 : decode cX1_join 1 = .ok (.iconst 2, 1) := by decide +kernel
theorem dX1_join_2 : decode cX1_join 2 = .ok (.iconst 5, 1) := by decide +kernel
theorem dX1_join_3 : decode cX1_join 3 = .ok (.invokestatic 22, 3) := by decide +kernel
theorem dX1_join_6 : decode cX1_join 6 = .ok (.ifCond .ne 4, 3) := by decide +kernel
theorem dX1_join_9 : decode cX1_join 9 = .ok (.return_, 1) := by decide +kernel
theorem dX1_join_10 : decode cX1_join 10 = .ok (.aload_n 0, 1) := by decide +kernel
theorem dX1_join_11 : decode cX1_join 11 = .ok (.aload_n 1, 1) := by decide +kernel
theorem dX1_join_12 : decode cX1_join 12 = .ok (.iload_n 2, 1) := by decide +kernel
theorem dX1_join_13 : decode cX1_join 13 = .ok (.iload_n 3, 1) := by decide +kernel
theorem dX1_join_14 : decode cX1_join 14 = .ok (.invokevirtual 26, 3) := by decide +kernel
theorem dX1_join_17 : decode cX1_join 17 = .ok (.aload_n 0, 1) := by decide +kernel
theorem dX1_join_18 : decode cX1_join 18 = .ok (.ldc 32, 2) := by decide +kernel
theorem dX1_join_20 : decode cX1_join 20 = .ok (.putfield 33, 3) := by decide +kernel
theorem dX1_join_23 : decode cX1_join 23 = .ok (.iconst 0, 1) := by decide +kernel
theorem dX1_join_24 : decode cX1_join 24 = .ok (.istore 4, 2) := by decide +kernel
theorem dX1_join_26 : decode cX1_join 26 = .ok (.iload 4, 2) := by decide +kernel
theorem dX1_join_28 : decode cX1_join 28 = .ok (.iload_n 3, 1) := by decide +kernel
theorem dX1_join_29 : decode cX1_join 29 = .ok (.if_icmp .ge 18, 3) := by decide +kernel
theorem dX1_join_32 : decode cX1_join 32 = .ok (.aload_n 0, 1) := by decide +kernel
theorem dX1_join_33 : decode cX1_join 33 = .ok (.getfield 18, 3) := by decide +kernel
theorem dX1_join_36 : decode cX1_join 36 = .ok (.iload 4, 2) := by decide +kernel
theorem dX1_join_38 : decode cX1_join 38 = .ok (.iload 4, 2) := by decide +kernel
theorem dX1_join_40 : decode cX1_join 40 = .ok (.iastore, 1) := by decide +kernel
theorem dX1_join_41 : decode cX1_join 41 = .ok (.iinc 4 1, 3) := by decide +kernel
theorem dX1_join_44 : decode cX1_join 44 = .ok (.goto (-18), 3) := by decide +kernel
theorem dX1_join_47 : decode cX1_join 47 = .ok (.iconst 1, 1) := by decide +kernel
theorem dX1_join_48 : decode cX1_join 48 = .ok (.istore 4, 2) := by decide +kernel
theorem dX1_join_50 : decode cX1_join 50 = .ok (.iconst 0, 1) := by decide +kernel
theorem dX1_join_51 : decode cX1_join 51 = .ok (.istore 5, 2) := by decide +kernel
theorem dX1_join_53 : decode cX1_join 53 = .ok (.iload 4, 2) := by decide +kernel
theorem dX1_join_55 : decode cX1_join 55 = .ok (.ifCond .eq 54, 3) := by decide +kernel
theorem dX1_join_58 : decode cX1_join 58 = .ok (.iload 5, 2) := by decide +kernel
theorem dX1_join_60 : decode cX1_join 60 = .ok (.bipush 120, 2) := by decide +kernel
theorem dX1_join_62 : decode cX1_join 62 = .ok (.if_icmp .ge 47, 3) := by decide +kernel
theorem dX1_join_65 : decode cX1_join 65 = .ok (.aload_n 0, 1) := by decide +kernel
theorem dX1_join_66 : decode cX1_join 66 = .ok (.iload_n 3, 1) := by decide +kernel
theorem dX1_join_67 : decode cX1_join 67 = .ok (.invokevirtual 37, 3) := by decide +kernel
theorem dX1_join_70 : decode cX1_join 70 = .ok (.istore 6, 2) := by decide +kernel
theorem dX1_join_72 : decode cX1_join 72 = .ok (.iload 6, 2) := by decide +kernel
theorem dX1_join_74 : decode cX1_join 74 = .ok (.aload_n 0, 1) := by decide +kernel
theorem dX1_join_75 : decode cX1_join 75 = .ok (.getfield 33, 3) := by decide +kernel
theorem dX1_join_78 : decode cX1_join 78 = .ok (.if_icmp .ge 18, 3) := by decide +kernel
theorem dX1_join_81 : decode cX1_join 81 = .ok (.aload_n 0, 1) := by decide +kernel
theorem dX1_join_82 : decode cX1_join 82 = .ok (.iload 6, 2) := by decide +kernel
theorem dX1_join_84 : decode cX1_join 84 = .ok (.putfield 33, 3) := by decide +kernel
theorem dX1_join_87 : decode cX1_join 87 = .ok (.aload_n 0, 1) := by decide +kernel
theorem dX1_join_88 : decode cX1_join 88 = .ok (.aload_n 0, 1) := by decide +kernel
theorem dX1_join_89 : decode cX1_join 89 = .ok (.iload_n 3, 1) := by decide +kernel
theorem dX1_join_90 : decode cX1_join 90 = .ok (.invokevirtual 41, 3) := by decide +kernel
theorem dX1_join_93 : decode cX1_join 93 = .ok (.putfield 44, 3) := by decide +kernel
theorem dX1_join_96 : decode cX1_join 96 = .ok (.aload_n 0, 1) := by decide +kernel
theorem dX1_join_97 : decode cX1_join 97 = .ok (.iload_n 3, 1) := by decide +kernel
theorem dX1_join_98 : decode cX1_join 98 = .ok (.invokevirtual 47, 3) := by decide +kernel
theorem dX1_join_101 : decode cX1_join 101 = .ok (.istore 4, 2) := by decide +kernel
theorem dX1_join_103 : decode cX1_join 103 = .ok (.iinc 5 1, 3) := by decide +kernel
theorem dX1_join_106 : decode cX1_join 106 = .ok (.goto (-53), 3) := by decide +kernel
theorem dX1_join_109 : decode cX1_join 109 = .ok (.return_, 1) := by decide +kernel
theorem dX1_countPairs_0 : decode cX1_countPairs 0 = .ok (.iconst 0, 1) := by decide +kernel
theorem dX1_countPairs_1 : decode cX1_countPairs 1 = .ok (.istore 4, 2) := by decide +kernel
theorem dX1_countPairs_3 : decode cX1_countPairs 3 = .ok (.iload 4, 2) := by decide +kernel
theorem dX1_countPairs_5 : decode cX1_countPairs 5 = .ok (.iload_n 3, 1) := by decide +kernel
theorem dX1_countPairs_6 : decode cX1_countPairs 6 = .ok (.if_icmp .ge 35, 3) := by decide +kernel
theorem dX1_countPairs_9 : decode cX1_countPairs 9 = .ok (.iconst 0, 1) := by decide +kernel
theorem dX1_countPairs_10 : decode cX1_countPairs 10 = .ok (.istore 5, 2) := by decide +kernel
theorem dX1_countPairs_12 : decode cX1_countPairs 12 = .ok (.iload 5, 2) := by decide +kernel
theorem dX1_countPairs_14 : decode cX1_countPairs 14 = .ok (.iload_n 3, 1) := by decide +kernel
theorem dX1_countPairs_15 : decode cX1_countPairs 15 = .ok (.if_icmp .ge 20, 3) := by decide +kernel
theorem dX1_countPairs_18 : decode cX1_countPairs 18 = .ok (.aload_n 0, 1) := by decide +kernel
theorem dX1_countPairs_19 : decode cX1_countPairs 19 = .ok (.getfield 13, 3) := by decide +kernel
theorem dX1_countPairs_22 : decode cX1_countPairs 22 = .ok (.iload 4, 2) := by decide +kernel
theorem dX1_countPairs_24 : decode cX1_countPairs 24 = .ok (.aaload, 1) := by decide +kernel
theorem dX1_countPairs_25 : decode cX1_countPairs 25 = .ok (.iload 5, 2) := by decide +kernel
theorem dX1_countPairs_27 : decode cX1_countPairs 27 = .ok (.iconst 0, 1) := by decide +kernel
theorem dX1_countPairs_28 : decode cX1_countPairs 28 = .ok (.iastore, 1) := by decide +kernel
theorem dX1_countPairs_29 : decode cX1_countPairs 29 = .ok (.iinc 5 1, 3) := by decide +kernel
theorem dX1_countPairs_32 : decode cX1_countPairs 32 = .ok (.goto (-20), 3) := by decide +kernel
theorem dX1_countPairs_35 : decode cX1_countPairs 35 = .ok (.iinc 4 1, 3) := by decide +kernel
theorem dX1_countPairs_38 : decode cX1_countPairs 38 = .ok (.goto (-35), 3) := by decide +kernel
theorem dX1_countPairs_41 : decode cX1_countPairs 41 = .ok (.iconst 0, 1) := by decide +kernel
theorem dX1_countPairs_42 : decode cX1_countPairs 42 = .ok (.istore 4, 2) := by decide +kernel
theorem dX1_countPairs_44 : decode cX1_countPairs 44 = .ok (.iload 4, 2) := by decide +kernel
theorem dX1_countPairs_46 : decode cX1_countPairs 46 = .ok (.iload_n 2, 1) := by decide +kernel
theorem dX1_countPairs_47 : decode cX1_countPairs 47 = .ok (.if_icmp .ge 33, 3) := by decide +kernel
theorem dX1_countPairs_50 : decode cX1_countPairs 50 = .ok (.aload_n 1, 1) := by decide +kernel
theorem dX1_countPairs_51 : decode cX1_countPairs 51 = .ok (.iload 4, 2) := by decide +kernel
theorem dX1_countPairs_53 : decode cX1_countPairs 53 = .ok (.aaload, 1) := by decide +kernel
theorem dX1_countPairs_54 : decode cX1_countPairs 54 = .ok (.invokevirtual 51, 3) := by decide +kernel
theorem dX1_countPairs_57 : decode cX1_countPairs 57 = .ok (.bipush (-4), 2) := by decide +kernel
theorem dX1_countPairs_59 : decode cX1_countPairs 59 = .ok (.if_icmp .eq 15, 3) := by decide +kernel
theorem dX1_countPairs_62 : decode cX1_countPairs 62 = .ok (.aload_n 0, 1) := by decide +kernel
theorem dX1_countPairs_63 : decode cX1_countPairs 63 = .ok (.aload_n 1, 1) := by decide +kernel
theorem dX1_countPairs_64 : decode cX1_countPairs 64 = .ok (.iload 4, 2) := by decide +kernel
theorem dX1_countPairs_66 : decode cX1_countPairs 66 = .ok (.aaload, 1) := by decide +kernel
theorem dX1_countPairs_67 : decode cX1_countPairs 67 = .ok (.invokevirtual 51, 3) := by decide +kernel
theorem dX1_countPairs_70 : decode cX1_countPairs 70 = .ok (.iload_n 3, 1) := by decide +kernel
theorem dX1_countPairs_71 : decode cX1_countPairs 71 = .ok (.invokevirtual 57, 3) := by decide +kernel
theorem dX1_countPairs_74 : decode cX1_countPairs 74 = .ok (.iinc 4 1, 3) := by decide +kernel
theorem dX1_countPairs_77 : decode cX1_countPairs 77 = .ok (.goto (-33), 3) := by decide +kernel
theorem dX1_countPairs_80 : decode cX1_countPairs 80 = .ok (.return_, 1) := by decide +kernel
theorem dX1_addPairs_0 : decode cX1_addPairs 0 = .ok (.iconst 0, 1) := by decide +kernel
theorem dX1_addPairs_1 : decode cX1_addPairs 1 = .ok (.istore_n 3, 1) := by decide +kernel
theorem dX1_addPairs_2 : decode cX1_addPairs 2 = .ok (.iload_n 3, 1) := by decide +kernel
theorem dX1_addPairs_3 : decode cX1_addPairs 3 = .ok (.iload_n 2, 1) := by decide +kernel
theorem dX1_addPairs_4 : decode cX1_addPairs 4 = .ok (.if_icmp .ge 73, 3) := by decide +kernel
theorem dX1_addPairs_7 : decode cX1_addPairs 7 = .ok (.iload_n 3, 1) := by decide +kernel
theorem dX1_addPairs_8 : decode cX1_addPairs 8 = .ok (.iconst 1, 1) := by decide +kernel
theorem dX1_addPairs_9 : decode cX1_addPairs 9 = .ok (.iadd, 1) := by decide +kernel
theorem dX1_addPairs_10 : decode cX1_addPairs 10 = .ok (.istore 4, 2) := by decide +kernel
theorem dX1_addPairs_12 : decode cX1_addPairs 12 = .ok (.iload 4, 2) := by decide +kernel
theorem dX1_addPairs_14 : decode cX1_addPairs 14 = .ok (.iload_n 2, 1) := by decide +kernel
theorem dX1_addPairs_15 : decode cX1_addPairs 15 = .ok (.if_icmp .ge 56, 3) := by decide +kernel
theorem dX1_addPairs_18 : decode cX1_addPairs 18 = .ok (.iload_n 1, 1) := by decide +kernel
theorem dX1_addPairs_19 : decode cX1_addPairs 19 = .ok (.iconst 3, 1) := by decide +kernel
theorem dX1_addPairs_20 : decode cX1_addPairs 20 = .ok (.iload_n 3, 1) := by decide +kernel
theorem dX1_addPairs_21 : decode cX1_addPairs 21 = .ok (.imul, 1) := by decide +kernel
theorem dX1_addPairs_22 : decode cX1_addPairs 22 = .ok (.ishr, 1) := by decide +kernel
theorem dX1_addPairs_23 : decode cX1_addPairs 23 = .ok (.bipush 7, 2) := by decide +kernel
theorem dX1_addPairs_25 : decode cX1_addPairs 25 = .ok (.iand, 1) := by decide +kernel
theorem dX1_addPairs_26 : decode cX1_addPairs 26 = .ok (.istore 5, 2) := by decide +kernel
theorem dX1_addPairs_28 : decode cX1_addPairs 28 = .ok (.iload_n 1, 1) := by decide +kernel
theorem dX1_addPairs_29 : decode cX1_addPairs 29 = .ok (.iconst 3, 1) := by decide +kernel
theorem dX1_addPairs_30 : decode cX1_addPairs 30 = .ok (.iload 4, 2) := by decide +kernel
theorem dX1_addPairs_32 : decode cX1_addPairs 32 = .ok (.imul, 1) := by decide +kernel
theorem dX1_addPairs_33 : decode cX1_addPairs 33 = .ok (.ishr, 1) := by decide +kernel
theorem dX1_addPairs_34 : decode cX1_addPairs 34 = .ok (.bipush 7, 2) := by decide +kernel
theorem dX1_addPairs_36 : decode cX1_addPairs 36 = .ok (.iand, 1) := by decide +kernel
theorem dX1_addPairs_37 : decode cX1_addPairs 37 = .ok (.istore 6, 2) := by decide +kernel
theorem dX1_addPairs_39 : decode cX1_addPairs 39 = .ok (.iload 5, 2) := by decide +kernel
theorem dX1_addPairs_41 : decode cX1_addPairs 41 = .ok (.iload_n 2, 1) := by decide +kernel
theorem dX1_addPairs_42 : decode cX1_addPairs 42 = .ok (.if_icmp .ge 23, 3) := by decide +kernel
theorem dX1_addPairs_45 : decode cX1_addPairs 45 = .ok (.iload 6, 2) := by decide +kernel
theorem dX1_addPairs_47 : decode cX1_addPairs 47 = .ok (.iload_n 2, 1) := by decide +kernel
theorem dX1_addPairs_48 : decode cX1_addPairs 48 = .ok (.if_icmp .ge 17, 3) := by decide +kernel
theorem dX1_addPairs_51 : decode cX1_addPairs 51 = .ok (.aload_n 0, 1) := by decide +kernel
theorem dX1_addPairs_52 : decode cX1_addPairs 52 = .ok (.getfield 13, 3) := by decide +kernel
theorem dX1_addPairs_55 : decode cX1_addPairs 55 = .ok (.iload 5, 2) := by decide +kernel
theorem dX1_addPairs_57 : decode cX1_addPairs 57 = .ok (.aaload, 1) := by decide +kernel
theorem dX1_addPairs_58 : decode cX1_addPairs 58 = .ok (.iload 6, 2) := by decide +kernel
theorem dX1_addPairs_60 : decode cX1_addPairs 60 = .ok (.dup2, 1) := by decide +kernel
theorem dX1_addPairs_61 : decode cX1_addPairs 61 = .ok (.iaload, 1) := by decide +kernel
theorem dX1_addPairs_62 : decode cX1_addPairs 62 = .ok (.iconst 1, 1) := by decide +kernel
theorem dX1_addPairs_63 : decode cX1_addPairs 63 = .ok (.iadd, 1) := by decide +kernel
theorem dX1_addPairs_64 : decode cX1_addPairs 64 = .ok (.iastore, 1) := by decide +kernel
theorem dX1_addPairs_65 : decode cX1_addPairs 65 = .ok (.iinc 4 1, 3) := by decide +kernel
theorem dX1_addPairs_68 : decode cX1_addPairs 68 = .ok (.goto (-56), 3) := by decide +kernel
theorem dX1_addPairs_71 : decode cX1_addPairs 71 = .ok (.iinc 3 1, 3) := by decide +kernel
theorem dX1_addPairs_74 : decode cX1_addPairs 74 = .ok (.goto (-72), 3) := by decide +kernel
theorem dX1_addPairs_77 : decode cX1_addPairs 77 = .ok (.return_, 1) := by decide +kernel
theorem dX1_layOutNext_0 : decode cX1_layOutNext 0 = .ok (.iload_n 1, 1) := by decide +kernel
theorem dX1_layOutNext_1 : decode cX1_layOutNext 1 = .ok (.iconst 2, 1) := by decide +kernel
theorem dX1_layOutNext_2 : decode cX1_layOutNext 2 = .ok (.isub, 1) := by decide +kernel
theorem dX1_layOutNext_3 : decode cX1_layOutNext 3 = .ok (.istore_n 2, 1) := by decide +kernel
theorem dX1_layOutNext_4 : decode cX1_layOutNext 4 = .ok (.iload_n 2, 1) := by decide +kernel
theorem dX1_layOutNext_5 : decode cX1_layOutNext 5 = .ok (.ifCond .lt 26, 3) := by decide +kernel
theorem dX1_layOutNext_8 : decode cX1_layOutNext 8 = .ok (.aload_n 0, 1) := by decide +kernel
theorem dX1_layOutNext_9 : decode cX1_layOutNext 9 = .ok (.getfield 18, 3) := by decide +kernel
theorem dX1_layOutNext_12 : decode cX1_layOutNext 12 = .ok (.iload_n 2, 1) := by decide +kernel
theorem dX1_layOutNext_13 : decode cX1_layOutNext 13 = .ok (.iaload, 1) := by decide +kernel
theorem dX1_layOutNext_14 : decode cX1_layOutNext 14 = .ok (.aload_n 0, 1) := by decide +kernel
theorem dX1_layOutNext_15 : decode cX1_layOutNext 15 = .ok (.getfield 18, 3) := by decide +kernel
theorem dX1_layOutNext_18 : decode cX1_layOutNext 18 = .ok (.iload_n 2, 1) := by decide +kernel
theorem dX1_layOutNext_19 : decode cX1_layOutNext 19 = .ok (.iconst 1, 1) := by decide +kernel
theorem dX1_layOutNext_20 : decode cX1_layOutNext 20 = .ok (.iadd, 1) := by decide +kernel
theorem dX1_layOutNext_21 : decode cX1_layOutNext 21 = .ok (.iaload, 1) := by decide +kernel
theorem dX1_layOutNext_22 : decode cX1_layOutNext 22 = .ok (.if_icmp .le 9, 3) := by decide +kernel
theorem dX1_layOutNext_25 : decode cX1_layOutNext 25 = .ok (.iinc 2 (-1), 3) := by decide +kernel
theorem dX1_layOutNext_28 : decode cX1_layOutNext 28 = .ok (.goto (-24), 3) := by decide +kernel
theorem dX1_layOutNext_31 : decode cX1_layOutNext 31 = .ok (.iload_n 2, 1) := by decide +kernel
theorem dX1_layOutNext_32 : decode cX1_layOutNext 32 = .ok (.ifCond .ge 5, 3) := by decide +kernel
theorem dX1_layOutNext_35 : decode cX1_layOutNext 35 = .ok (.iconst 0, 1) := by decide +kernel
theorem dX1_layOutNext_36 : decode cX1_layOutNext 36 = .ok (.ireturn, 1) := by decide +kernel
theorem dX1_layOutNext_37 : decode cX1_layOutNext 37 = .ok (.iload_n 1, 1) := by decide +kernel
theorem dX1_layOutNext_38 : decode cX1_layOutNext 38 = .ok (.iconst 1, 1) := by decide +kernel
theorem dX1_layOutNext_39 : decode cX1_layOutNext 39 = .ok (.isub, 1) := by decide +kernel
theorem dX1_layOutNext_40 : decode cX1_layOutNext 40 = .ok (.istore_n 3, 1) := by decide +kernel
theorem dX1_layOutNext_41 : decode cX1_layOutNext 41 = .ok (.iload_n 3, 1) := by decide +kernel
theorem dX1_layOutNext_42 : decode cX1_layOutNext 42 = .ok (.iload_n 2, 1) := by decide +kernel
theorem dX1_layOutNext_43 : decode cX1_layOutNext 43 = .ok (.iconst 1, 1) := by decide +kernel
theorem dX1_layOutNext_44 : decode cX1_layOutNext 44 = .ok (.iadd, 1) := by decide +kernel
theorem dX1_layOutNext_45 : decode cX1_layOutNext 45 = .ok (.if_icmp .le 24, 3) := by decide +kernel
theorem dX1_layOutNext_48 : decode cX1_layOutNext 48 = .ok (.aload_n 0, 1) := by decide +kernel
theorem dX1_layOutNext_49 : decode cX1_layOutNext 49 = .ok (.getfield 18, 3) := by decide +kernel
theorem dX1_layOutNext_52 : decode cX1_layOutNext 52 = .ok (.iload_n 3, 1) := by decide +kernel
theorem dX1_layOutNext_53 : decode cX1_layOutNext 53 = .ok (.iaload, 1) := by decide +kernel
theorem dX1_layOutNext_54 : decode cX1_layOutNext 54 = .ok (.aload_n 0, 1) := by decide +kernel
theorem dX1_layOutNext_55 : decode cX1_layOutNext 55 = .ok (.getfield 18, 3) := by decide +kernel
theorem dX1_layOutNext_58 : decode cX1_layOutNext 58 = .ok (.iload_n 2, 1) := by decide +kernel
theorem dX1_layOutNext_59 : decode cX1_layOutNext 59 = .ok (.iaload, 1) := by decide +kernel
theorem dX1_layOutNext_60 : decode cX1_layOutNext 60 = .ok (.if_icmp .ge 9, 3) := by decide +kernel
theorem dX1_layOutNext_63 : decode cX1_layOutNext 63 = .ok (.iinc 3 (-1), 3) := by decide +kernel
theorem dX1_layOutNext_66 : decode cX1_layOutNext 66 = .ok (.goto (-25), 3) := by decide +kernel
theorem dX1_layOutNext_69 : decode cX1_layOutNext 69 = .ok (.aload_n 0, 1) := by decide +kernel
theorem dX1_layOutNext_70 : decode cX1_layOutNext 70 = .ok (.iload_n 2, 1) := by decide +kernel
theorem dX1_layOutNext_71 : decode cX1_layOutNext 71 = .ok (.iload_n 3, 1) := by decide +kernel
theorem dX1_layOutNext_72 : decode cX1_layOutNext 72 = .ok (.invokevirtual 61, 3) := by decide +kernel
theorem dX1_layOutNext_75 : decode cX1_layOutNext 75 = .ok (.iload_n 1, 1) := by decide +kernel
theorem dX1_layOutNext_76 : decode cX1_layOutNext 76 = .ok (.iconst 1, 1) := by decide +kernel
theorem dX1_layOutNext_77 : decode cX1_layOutNext 77 = .ok (.isub, 1) := by decide +kernel
theorem dX1_layOutNext_78 : decode cX1_layOutNext 78 = .ok (.istore 4, 2) := by decide +kernel
theorem dX1_layOutNext_80 : decode cX1_layOutNext 80 = .ok (.iload_n 2, 1) := by decide +kernel
theorem dX1_layOutNext_81 : decode cX1_layOutNext 81 = .ok (.iconst 1, 1) := by decide +kernel
theorem dX1_layOutNext_82 : decode cX1_layOutNext 82 = .ok (.iadd, 1) := by decide +kernel
theorem dX1_layOutNext_83 : decode cX1_layOutNext 83 = .ok (.istore 5, 2) := by decide +kernel
theorem dX1_layOutNext_85 : decode cX1_layOutNext 85 = .ok (.iload 5, 2) := by decide +kernel
theorem dX1_layOutNext_87 : decode cX1_layOutNext 87 = .ok (.iload 4, 2) := by decide +kernel
theorem dX1_layOutNext_89 : decode cX1_layOutNext 89 = .ok (.if_icmp .ge 20, 3) := by decide +kernel
theorem dX1_layOutNext_92 : decode cX1_layOutNext 92 = .ok (.aload_n 0, 1) := by decide +kernel
theorem dX1_layOutNext_93 : decode cX1_layOutNext 93 = .ok (.iload 5, 2) := by decide +kernel
theorem dX1_layOutNext_95 : decode cX1_layOutNext 95 = .ok (.iload 4, 2) := by decide +kernel
theorem dX1_layOutNext_97 : decode cX1_layOutNext 97 = .ok (.invokevirtual 61, 3) := by decide +kernel
theorem dX1_layOutNext_100 : decode cX1_layOutNext 100 = .ok (.iinc 4 (-1), 3) := by decide +kernel
theorem dX1_layOutNext_103 : decode cX1_layOutNext 103 = .ok (.iinc 5 1, 3) := by decide +kernel
theorem dX1_layOutNext_106 : decode cX1_layOutNext 106 = .ok (.goto (-21), 3) := by decide +kernel
theorem dX1_layOutNext_109 : decode cX1_layOutNext 109 = .ok (.iconst 1, 1) := by decide +kernel
theorem dX1_layOutNext_110 : decode cX1_layOutNext 110 = .ok (.ireturn, 1) := by decide +kernel
theorem dX1_swap_0 : decode cX1_swap 0 = .ok (.aload_n 0, 1) := by decide +kernel
theorem dX1_swap_1 : decode cX1_swap 1 = .ok (.getfield 18, 3) := by decide +kernel
theorem dX1_swap_4 : decode cX1_swap 4 = .ok (.iload_n 1, 1) := by decide +kernel
theorem dX1_swap_5 : decode cX1_swap 5 = .ok (.iaload, 1) := by decide +kernel
theorem dX1_swap_6 : decode cX1_swap 6 = .ok (.istore_n 3, 1) := by decide +kernel
theorem dX1_swap_7 : decode cX1_swap 7 = .ok (.aload_n 0, 1) := by decide +kernel
theorem dX1_swap_8 : decode cX1_swap 8 = .ok (.getfield 18, 3) := by decide +kernel
theorem dX1_swap_11 : decode cX1_swap 11 = .ok (.iload_n 1, 1) := by decide +kernel
theorem dX1_swap_12 : decode cX1_swap 12 = .ok (.aload_n 0, 1) := by decide +kernel
theorem dX1_swap_13 : decode cX1_swap 13 = .ok (.getfield 18, 3) := by decide +kernel
theorem dX1_swap_16 : decode cX1_swap 16 = .ok (.iload_n 2, 1) := by decide +kernel
theorem dX1_swap_17 : decode cX1_swap 17 = .ok (.iaload, 1) := by decide +kernel
theorem dX1_swap_18 : decode cX1_swap 18 = .ok (.iastore, 1) := by decide +kernel
theorem dX1_swap_19 : decode cX1_swap 19 = .ok (.aload_n 0, 1) := by decide +kernel
theorem dX1_swap_20 : decode cX1_swap 20 = .ok (.getfield 18, 3) := by decide +kernel
theorem dX1_swap_23 : decode cX1_swap 23 = .ok (.iload_n 2, 1) := by decide +kernel
theorem dX1_swap_24 : decode cX1_swap 24 = .ok (.iload_n 3, 1) := by decide +kernel
theorem dX1_swap_25 : decode cX1_swap 25 = .ok (.iastore, 1) := by decide +kernel
theorem dX1_swap_26 : decode cX1_swap 26 = .ok (.return_, 1) := by decide +kernel
theorem dX1_turnedPairs_0 : decode cX1_turnedPairs 0 = .ok (.iconst 0, 1) := by decide +kernel
theorem dX1_turnedPairs_1 : decode cX1_turnedPairs 1 = .ok (.istore_n 2, 1) := by decide +kernel
theorem dX1_turnedPairs_2 : decode cX1_turnedPairs 2 = .ok (.iconst 0, 1) := by decide +kernel
theorem dX1_turnedPairs_3 : decode cX1_turnedPairs 3 = .ok (.istore_n 3, 1) := by decide +kernel
theorem dX1_turnedPairs_4 : decode cX1_turnedPairs 4 = .ok (.iload_n 3, 1) := by decide +kernel
theorem dX1_turnedPairs_5 : decode cX1_turnedPairs 5 = .ok (.iload_n 1, 1) := by decide +kernel
theorem dX1_turnedPairs_6 : decode cX1_turnedPairs 6 = .ok (.if_icmp .ge 48, 3) := by decide +kernel
theorem dX1_turnedPairs_9 : decode cX1_turnedPairs 9 = .ok (.iload_n 3, 1) := by decide +kernel
theorem dX1_turnedPairs_10 : decode cX1_turnedPairs 10 = .ok (.iconst 1, 1) := by decide +kernel
theorem dX1_turnedPairs_11 : decode cX1_turnedPairs 11 = .ok (.iadd, 1) := by decide +kernel
theorem dX1_turnedPairs_12 : decode cX1_turnedPairs 12 = .ok (.istore 4, 2) := by decide +kernel
theorem dX1_turnedPairs_14 : decode cX1_turnedPairs 14 = .ok (.iload 4, 2) := by decide +kernel
theorem dX1_turnedPairs_16 : decode cX1_turnedPairs 16 = .ok (.iload_n 1, 1) := by decide +kernel
theorem dX1_turnedPairs_17 : decode cX1_turnedPairs 17 = .ok (.if_icmp .ge 31, 3) := by decide +kernel
theorem dX1_turnedPairs_20 : decode cX1_turnedPairs 20 = .ok (.iload_n 2, 1) := by decide +kernel
theorem dX1_turnedPairs_21 : decode cX1_turnedPairs 21 = .ok (.aload_n 0, 1) := by decide +kernel
theorem dX1_turnedPairs_22 : decode cX1_turnedPairs 22 = .ok (.getfield 13, 3) := by decide +kernel
theorem dX1_turnedPairs_25 : decode cX1_turnedPairs 25 = .ok (.aload_n 0, 1) := by decide +kernel
theorem dX1_turnedPairs_26 : decode cX1_turnedPairs 26 = .ok (.getfield 18, 3) := by decide +kernel
theorem dX1_turnedPairs_29 : decode cX1_turnedPairs 29 = .ok (.iload 4, 2) := by decide +kernel
theorem dX1_turnedPairs_31 : decode cX1_turnedPairs 31 = .ok (.iaload, 1) := by decide +kernel
theorem dX1_turnedPairs_32 : decode cX1_turnedPairs 32 = .ok (.aaload, 1) := by decide +kernel
theorem dX1_turnedPairs_33 : decode cX1_turnedPairs 33 = .ok (.aload_n 0, 1) := by decide +kernel
theorem dX1_turnedPairs_34 : decode cX1_turnedPairs 34 = .ok (.getfield 18, 3) := by decide +kernel
theorem dX1_turnedPairs_37 : decode cX1_turnedPairs 37 = .ok (.iload_n 3, 1) := by decide +kernel
theorem dX1_turnedPairs_38 : decode cX1_turnedPairs 38 = .ok (.iaload, 1) := by decide +kernel
theorem dX1_turnedPairs_39 : decode cX1_turnedPairs 39 = .ok (.iaload, 1) := by decide +kernel
theorem dX1_turnedPairs_40 : decode cX1_turnedPairs 40 = .ok (.iadd, 1) := by decide +kernel
theorem dX1_turnedPairs_41 : decode cX1_turnedPairs 41 = .ok (.istore_n 2, 1) := by decide +kernel
theorem dX1_turnedPairs_42 : decode cX1_turnedPairs 42 = .ok (.iinc 4 1, 3) := by decide +kernel
theorem dX1_turnedPairs_45 : decode cX1_turnedPairs 45 = .ok (.goto (-31), 3) := by decide +kernel
theorem dX1_turnedPairs_48 : decode cX1_turnedPairs 48 = .ok (.iinc 3 1, 3) := by decide +kernel
theorem dX1_turnedPairs_51 : decode cX1_turnedPairs 51 = .ok (.goto (-47), 3) := by decide +kernel
theorem dX1_turnedPairs_54 : decode cX1_turnedPairs 54 = .ok (.iload_n 2, 1) := by decide +kernel
theorem dX1_turnedPairs_55 : decode cX1_turnedPairs 55 = .ok (.ireturn, 1) := by decide +kernel
theorem dX1_asAnswer_0 : decode cX1_asAnswer 0 = .ok (.iconst 0, 1) := by decide +kernel
theorem dX1_asAnswer_1 : decode cX1_asAnswer 1 = .ok (.istore_n 2, 1) := by decide +kernel
theorem dX1_asAnswer_2 : decode cX1_asAnswer 2 = .ok (.iconst 0, 1) := by decide +kernel
theorem dX1_asAnswer_3 : decode cX1_asAnswer 3 = .ok (.istore_n 3, 1) := by decide +kernel
theorem dX1_asAnswer_4 : decode cX1_asAnswer 4 = .ok (.iload_n 3, 1) := by decide +kernel
theorem dX1_asAnswer_5 : decode cX1_asAnswer 5 = .ok (.iload_n 1, 1) := by decide +kernel
theorem dX1_asAnswer_6 : decode cX1_asAnswer 6 = .ok (.if_icmp .ge 22, 3) := by decide +kernel
theorem dX1_asAnswer_9 : decode cX1_asAnswer 9 = .ok (.iload_n 2, 1) := by decide +kernel
theorem dX1_asAnswer_10 : decode cX1_asAnswer 10 = .ok (.aload_n 0, 1) := by decide +kernel
theorem dX1_asAnswer_11 : decode cX1_asAnswer 11 = .ok (.getfield 18, 3) := by decide +kernel
theorem dX1_asAnswer_14 : decode cX1_asAnswer 14 = .ok (.iload_n 3, 1) := by decide +kernel
theorem dX1_asAnswer_15 : decode cX1_asAnswer 15 = .ok (.iaload, 1) := by decide +kernel
theorem dX1_asAnswer_16 : decode cX1_asAnswer 16 = .ok (.iconst 3, 1) := by decide +kernel
theorem dX1_asAnswer_17 : decode cX1_asAnswer 17 = .ok (.iload_n 3, 1) := by decide +kernel
theorem dX1_asAnswer_18 : decode cX1_asAnswer 18 = .ok (.imul, 1) := by decide +kernel
theorem dX1_asAnswer_19 : decode cX1_asAnswer 19 = .ok (.ishl, 1) := by decide +kernel
theorem dX1_asAnswer_20 : decode cX1_asAnswer 20 = .ok (.ior, 1) := by decide +kernel
theorem dX1_asAnswer_21 : decode cX1_asAnswer 21 = .ok (.istore_n 2, 1) := by decide +kernel
theorem dX1_asAnswer_22 : decode cX1_asAnswer 22 = .ok (.iinc 3 1, 3) := by decide +kernel
theorem dX1_asAnswer_25 : decode cX1_asAnswer 25 = .ok (.goto (-21), 3) := by decide +kernel
theorem dX1_asAnswer_28 : decode cX1_asAnswer 28 = .ok (.iload_n 2, 1) := by decide +kernel
theorem dX1_asAnswer_29 : decode cX1_asAnswer 29 = .ok (.ireturn, 1) := by decide +kernel
theorem dX2_init_0 : decode cX2_init 0 = .ok (.aload_n 0, 1) := by decide +kernel
theorem dX2_init_1 : decode cX2_init 1 = .ok (.invokespecial 1, 3) := by decide +kernel
theorem dX2_init_4 : decode cX2_init 4 = .ok (.return_, 1) := by decide +kernel
theorem dX2_forget_0 : decode cX2_forget 0 = .ok (.aload_n 0, 1) := by decide +kernel
theorem dX2_forget_1 : decode cX2_forget 1 = .ok (.iconst 0, 1) := by decide +kernel
theorem dX2_forget_2 : decode cX2_forget 2 = .ok (.putfield 7, 3) := by decide +kernel
theorem dX2_forget_5 : decode cX2_forget 5 = .ok (.aload_n 0, 1) := by decide +kernel
theorem dX2_forget_6 : decode cX2_forget 6 = .ok (.iconst 0, 1) := by decide +kernel
theorem dX2_forget_7 : decode cX2_forget 7 = .ok (.putfield 13, 3) := by decide +kernel
theorem dX2_forget_10 : decode cX2_forget 10 = .ok (.aload_n 0, 1) := by decide +kernel
theorem dX2_forget_11 : decode cX2_forget 11 = .ok (.iconst 0, 1) := by decide +kernel
theorem dX2_forget_12 : decode cX2_forget 12 = .ok (.putfield 16, 3) := by decide +kernel
theorem dX2_forget_15 : decode cX2_forget 15 = .ok (.return_, 1) := by decide +kernel
theorem dX2_take_0 : decode cX2_take 0 = .ok (.iload_n 3, 1) := by decide +kernel
theorem dX2_take_1 : decode cX2_take 1 = .ok (.ifCond .ne 18, 3) := by decide +kernel
theorem dX2_take_4 : decode cX2_take 4 = .ok (.aload_n 0, 1) := by decide +kernel
theorem dX2_take_5 : decode cX2_take 5 = .ok (.aload_n 0, 1) := by decide +kernel
theorem dX2_take_6 : decode cX2_take 6 = .ok (.getfield 16, 3) := by decide +kernel
theorem dX2_take_9 : decode cX2_take 9 = .ok (.iload_n 2, 1) := by decide +kernel
theorem dX2_take_10 : decode cX2_take 10 = .ok (.invokestatic 19, 3) := by decide +kernel
theorem dX2_take_13 : decode cX2_take 13 = .ok (.putfield 16, 3) := by decide +kernel
theorem dX2_take_16 : decode cX2_take 16 = .ok (.goto 21, 3) := by decide +kernel
theorem dX2_take_19 : decode cX2_take 19 = .ok (.iload_n 2, 1) := by decide +kernel
theorem dX2_take_20 : decode cX2_take 20 = .ok (.aload_n 0, 1) := by decide +kernel
theorem dX2_take_21 : decode cX2_take 21 = .ok (.getfield 13, 3) := by decide +kernel
theorem dX2_take_24 : decode cX2_take 24 = .ok (.if_icmp .le 13, 3) := by decide +kernel
theorem dX2_take_27 : decode cX2_take 27 = .ok (.aload_n 0, 1) := by decide +kernel
theorem dX2_take_28 : decode cX2_take 28 = .ok (.iload_n 2, 1) := by decide +kernel
theorem dX2_take_29 : decode cX2_take 29 = .ok (.putfield 13, 3) := by decide +kernel
theorem dX2_take_32 : decode cX2_take 32 = .ok (.aload_n 0, 1) := by decide +kernel
theorem dX2_take_33 : decode cX2_take 33 = .ok (.iload_n 1, 1) := by decide +kernel
theorem dX2_take_34 : decode cX2_take 34 = .ok (.putfield 7, 3) := by decide +kernel
theorem dX2_take_37 : decode cX2_take 37 = .ok (.return_, 1) := by decide +kernel
theorem dX2_greatestCount_0 : decode cX2_greatestCount 0 = .ok (.aload_n 0, 1) := by decide +kernel
theorem dX2_greatestCount_1 : decode cX2_greatestCount 1 = .ok (.getfield 13, 3) := by decide +kernel
theorem dX2_greatestCount_4 : decode cX2_greatestCount 4 = .ok (.aload_n 0, 1) := by decide +kernel
theorem dX2_greatestCount_5 : decode cX2_greatestCount 5 = .ok (.getfield 16, 3) := by decide +kernel
theorem dX2_greatestCount_8 : decode cX2_greatestCount 8 = .ok (.invokestatic 19, 3) := by decide +kernel
theorem dX2_greatestCount_11 : decode cX2_greatestCount 11 = .ok (.ireturn, 1) := by decide +kernel
theorem dX3_init_0 : decode cX3_init 0 = .ok (.aload_n 0, 1) := by decide +kernel
theorem dX3_init_1 : decode cX3_init 1 = .ok (.invokespecial 3, 3) := by decide +kernel
theorem dX3_init_4 : decode cX3_init 4 = .ok (.aload_n 0, 1) := by decide +kernel
theorem dX3_init_5 : decode cX3_init 5 = .ok (.bipush 20, 2) := by decide +kernel
theorem dX3_init_7 : decode cX3_init 7 = .ok (.bipush 16, 2) := by decide +kernel
theorem dX3_init_9 : decode cX3_init 9 = .ok (.multianewarray 11 2, 4) := by decide +kernel
theorem dX3_init_13 : decode cX3_init 13 = .ok (.putfield 13, 3) := by decide +kernel
theorem dX3_init_16 : decode cX3_init 16 = .ok (.return_, 1) := by decide +kernel
theorem dX3_isFull_0 : decode cX3_isFull 0 = .ok (.aload_n 0, 1) := by decide +kernel
theorem dX3_isFull_1 : decode cX3_isFull 1 = .ok (.getfield 16, 3) := by decide +kernel
theorem dX3_isFull_4 : decode cX3_isFull 4 = .ok (.bipush 20, 2) := by decide +kernel
theorem dX3_isFull_6 : decode cX3_isFull 6 = .ok (.if_icmp .lt 7, 3) := by decide +kernel
theorem dX3_isFull_9 : decode cX3_isFull 9 = .ok (.iconst 1, 1) := by decide +kernel
theorem dX3_isFull_10 : decode cX3_isFull 10 = .ok (.goto 4, 3) := by decide +kernel
theorem dX3_isFull_13 : decode cX3_isFull 13 = .ok (.iconst 0, 1) := by decide +kernel
theorem dX3_isFull_14 : decode cX3_isFull 14 = .ok (.ireturn, 1) := by decide +kernel
theorem dX3_enter_0 : decode cX3_enter 0 = .ok (.aload_n 0, 1) := by decide +kernel
theorem dX3_enter_1 : decode cX3_enter 1 = .ok (.invokevirtual 20, 3) := by decide +kernel
theorem dX3_enter_4 : decode cX3_enter 4 = .ok (.ifCond .eq 6, 3) := by decide +kernel
theorem dX3_enter_7 : decode cX3_enter 7 = .ok (.bipush (-3), 2) := by decide +kernel
theorem dX3_enter_9 : decode cX3_enter 9 = .ok (.ireturn, 1) := by decide +kernel
theorem dX3_enter_10 : decode cX3_enter 10 = .ok (.aload_n 0, 1) := by decide +kernel
theorem dX3_enter_11 : decode cX3_enter 11 = .ok (.getfield 13, 3) := by decide +kernel
theorem dX3_enter_14 : decode cX3_enter 14 = .ok (.aload_n 0, 1) := by decide +kernel
theorem dX3_enter_15 : decode cX3_enter 15 = .ok (.getfield 16, 3) := by decide +kernel
theorem dX3_enter_18 : decode cX3_enter 18 = .ok (.aaload, 1) := by decide +kernel
theorem dX3_enter_19 : decode cX3_enter 19 = .ok (.astore 4, 2) := by decide +kernel
theorem dX3_enter_21 : decode cX3_enter 21 = .ok (.iconst 0, 1) := by decide +kernel
theorem dX3_enter_22 : decode cX3_enter 22 = .ok (.istore 5, 2) := by decide +kernel
theorem dX3_enter_24 : decode cX3_enter 24 = .ok (.iconst 0, 1) := by decide +kernel
theorem dX3_enter_25 : decode cX3_enter 25 = .ok (.istore 6, 2) := by decide +kernel
theorem dX3_enter_27 : decode cX3_enter 27 = .ok (.iload 6, 2) := by decide +kernel
theorem dX3_enter_29 : decode cX3_enter 29 = .ok (.bipush 16, 2) := by decide +kernel
theorem dX3_enter_31 : decode cX3_enter 31 = .ok (.if_icmp .ge 60, 3) := by decide +kernel
theorem dX3_enter_34 : decode cX3_enter 34 = .ok (.aload 4, 2) := by decide +kernel
theorem dX3_enter_36 : decode cX3_enter 36 = .ok (.iload 6, 2) := by decide +kernel
theorem dX3_enter_38 : decode cX3_enter 38 = .ok (.iload 6, 2) := by decide +kernel
theorem dX3_enter_40 : decode cX3_enter 40 = .ok (.iload_n 2, 1) := by decide +kernel
theorem dX3_enter_41 : decode cX3_enter 41 = .ok (.if_icmp .ge 17, 3) := by decide +kernel
theorem dX3_enter_44 : decode cX3_enter 44 = .ok (.aload_n 1, 1) := by decide +kernel
theorem dX3_enter_45 : decode cX3_enter 45 = .ok (.iload 6, 2) := by decide +kernel
theorem dX3_enter_47 : decode cX3_enter 47 = .ok (.aaload, 1) := by decide +kernel
theorem dX3_enter_48 : decode cX3_enter 48 = .ok (.invokevirtual 24, 3) := by decide +kernel
theorem dX3_enter_51 : decode cX3_enter 51 = .ok (.iload_n 3, 1) := by decide +kernel
theorem dX3_enter_52 : decode cX3_enter 52 = .ok (.invokestatic 30, 3) := by decide +kernel
theorem dX3_enter_55 : decode cX3_enter 55 = .ok (.goto 4, 3) := by decide +kernel
theorem dX3_enter_58 : decode cX3_enter 58 = .ok (.iconst (-1), 1) := by decide +kernel
theorem dX3_enter_59 : decode cX3_enter 59 = .ok (.iastore, 1) := by decide +kernel
theorem dX3_enter_60 : decode cX3_enter 60 = .ok (.aload 4, 2) := by decide +kernel
theorem dX3_enter_62 : decode cX3_enter 62 = .ok (.iload 6, 2) := by decide +kernel
theorem dX3_enter_64 : decode cX3_enter 64 = .ok (.iaload, 1) := by decide +kernel
theorem dX3_enter_65 : decode cX3_enter 65 = .ok (.iconst 1, 1) := by decide +kernel
theorem dX3_enter_66 : decode cX3_enter 66 = .ok (.if_icmp .ne 19, 3) := by decide +kernel
theorem dX3_enter_69 : decode cX3_enter 69 = .ok (.aload_n 1, 1) := by decide +kernel
theorem dX3_enter_70 : decode cX3_enter 70 = .ok (.iload 6, 2) := by decide +kernel
theorem dX3_enter_72 : decode cX3_enter 72 = .ok (.aaload, 1) := by decide +kernel
theorem dX3_enter_73 : decode cX3_enter 73 = .ok (.dup, 1) := by decide +kernel
theorem dX3_enter_74 : decode cX3_enter 74 = .ok (.getfield 34, 3) := by decide +kernel
theorem dX3_enter_77 : decode cX3_enter 77 = .ok (.iconst 1, 1) := by decide +kernel
theorem dX3_enter_78 : decode cX3_enter 78 = .ok (.iadd, 1) := by decide +kernel
theorem dX3_enter_79 : decode cX3_enter 79 = .ok (.putfield 34, 3) := by decide +kernel
theorem dX3_enter_82 : decode cX3_enter 82 = .ok (.iinc 5 1, 3) := by decide +kernel
theorem dX3_enter_85 : decode cX3_enter 85 = .ok (.iinc 6 1, 3) := by decide +kernel
theorem dX3_enter_88 : decode cX3_enter 88 = .ok (.goto (-61), 3) := by decide +kernel
theorem dX3_enter_91 : decode cX3_enter 91 = .ok (.aload_n 0, 1) := by decide +kernel
theorem dX3_enter_92 : decode cX3_enter 92 = .ok (.dup, 1) := by decide +kernel
theorem dX3_enter_93 : decode cX3_enter 93 = .ok (.getfield 16, 3) := by decide +kernel
theorem dX3_enter_96 : decode cX3_enter 96 = .ok (.iconst 1, 1) := by decide +kernel
theorem dX3_enter_97 : decode cX3_enter 97 = .ok (.iadd, 1) := by decide +kernel
theorem dX3_enter_98 : decode cX3_enter 98 = .ok (.putfield 16, 3) := by decide +kernel
theorem dX3_enter_101 : decode cX3_enter 101 = .ok (.iload 5, 2) := by decide +kernel
theorem dX3_enter_103 : decode cX3_enter 103 = .ok (.ireturn, 1) := by decide +kernel
theorem dX3_judge_0 : decode cX3_judge 0 = .ok (.iload_n 0, 1) := by decide +kernel
theorem dX3_judge_1 : decode cX3_judge 1 = .ok (.bipush (-4), 2) := by decide +kernel
theorem dX3_judge_3 : decode cX3_judge 3 = .ok (.if_icmp .ne 5, 3) := by decide +kernel
theorem dX3_judge_6 : decode cX3_judge 6 = .ok (.iconst (-1), 1) := by decide +kernel
theorem dX3_judge_7 : decode cX3_judge 7 = .ok (.ireturn, 1) := by decide +kernel
theorem dX3_judge_8 : decode cX3_judge 8 = .ok (.iload_n 0, 1) := by decide +kernel
theorem dX3_judge_9 : decode cX3_judge 9 = .ok (.iload_n 1, 1) := by decide +kernel
theorem dX3_judge_10 : decode cX3_judge 10 = .ok (.if_icmp .ne 7, 3) := by decide +kernel
theorem dX3_judge_13 : decode cX3_judge 13 = .ok (.iconst 1, 1) := by decide +kernel
theorem dX3_judge_14 : decode cX3_judge 14 = .ok (.goto 4, 3) := by decide +kernel
theorem dX3_judge_17 : decode cX3_judge 17 = .ok (.iconst 0, 1) := by decide +kernel
theorem dX3_judge_18 : decode cX3_judge 18 = .ok (.ireturn, 1) := by decide +kernel
theorem dX3_bestPage_0 : decode cX3_bestPage 0 = .ok (.bipush (-4), 2) := by decide +kernel
theorem dX3_bestPage_2 : decode cX3_bestPage 2 = .ok (.istore_n 1, 1) := by decide +kernel
theorem dX3_bestPage_3 : decode cX3_bestPage 3 = .ok (.iconst 0, 1) := by decide +kernel
theorem dX3_bestPage_4 : decode cX3_bestPage 4 = .ok (.istore_n 2, 1) := by decide +kernel
theorem dX3_bestPage_5 : decode cX3_bestPage 5 = .ok (.iconst 0, 1) := by decide +kernel
theorem dX3_bestPage_6 : decode cX3_bestPage 6 = .ok (.istore_n 3, 1) := by decide +kernel
theorem dX3_bestPage_7 : decode cX3_bestPage 7 = .ok (.iload_n 3, 1) := by decide +kernel
theorem dX3_bestPage_8 : decode cX3_bestPage 8 = .ok (.aload_n 0, 1) := by decide +kernel
theorem dX3_bestPage_9 : decode cX3_bestPage 9 = .ok (.getfield 16, 3) := by decide +kernel
theorem dX3_bestPage_12 : decode cX3_bestPage 12 = .ok (.if_icmp .ge 37, 3) := by decide +kernel
theorem dX3_bestPage_15 : decode cX3_bestPage 15 = .ok (.aload_n 0, 1) := by decide +kernel
theorem dX3_bestPage_16 : decode cX3_bestPage 16 = .ok (.iload_n 3, 1) := by decide +kernel
theorem dX3_bestPage_17 : decode cX3_bestPage 17 = .ok (.iconst 1, 1) := by decide +kernel
theorem dX3_bestPage_18 : decode cX3_bestPage 18 = .ok (.invokevirtual 37, 3) := by decide +kernel
theorem dX3_bestPage_21 : decode cX3_bestPage 21 = .ok (.aload_n 0, 1) := by decide +kernel
theorem dX3_bestPage_22 : decode cX3_bestPage 22 = .ok (.iload_n 3, 1) := by decide +kernel
theorem dX3_bestPage_23 : decode cX3_bestPage 23 = .ok (.iconst 0, 1) := by decide +kernel
theorem dX3_bestPage_24 : decode cX3_bestPage 24 = .ok (.invokevirtual 37, 3) := by decide +kernel
theorem dX3_bestPage_27 : decode cX3_bestPage 27 = .ok (.invokestatic 40, 3) := by decide +kernel
theorem dX3_bestPage_30 : decode cX3_bestPage 30 = .ok (.istore 4, 2) := by decide +kernel
theorem dX3_bestPage_32 : decode cX3_bestPage 32 = .ok (.iload 4, 2) := by decide +kernel
theorem dX3_bestPage_34 : decode cX3_bestPage 34 = .ok (.iload_n 2, 1) := by decide +kernel
theorem dX3_bestPage_35 : decode cX3_bestPage 35 = .ok (.if_icmp .lt 8, 3) := by decide +kernel
theorem dX3_bestPage_38 : decode cX3_bestPage 38 = .ok (.iload_n 3, 1) := by decide +kernel
theorem dX3_bestPage_39 : decode cX3_bestPage 39 = .ok (.istore_n 1, 1) := by decide +kernel
theorem dX3_bestPage_40 : decode cX3_bestPage 40 = .ok (.iload 4, 2) := by decide +kernel
theorem dX3_bestPage_42 : decode cX3_bestPage 42 = .ok (.istore_n 2, 1) := by decide +kernel
theorem dX3_bestPage_43 : decode cX3_bestPage 43 = .ok (.iinc 3 1, 3) := by decide +kernel
theorem dX3_bestPage_46 : decode cX3_bestPage 46 = .ok (.goto (-39), 3) := by decide +kernel
theorem dX3_bestPage_49 : decode cX3_bestPage 49 = .ok (.iload_n 1, 1) := by decide +kernel
theorem dX3_bestPage_50 : decode cX3_bestPage 50 = .ok (.ireturn, 1) := by decide +kernel
theorem dX3_having_0 : decode cX3_having 0 = .ok (.iconst 0, 1) := by decide +kernel
theorem dX3_having_1 : decode cX3_having 1 = .ok (.istore_n 3, 1) := by decide +kernel
theorem dX3_having_2 : decode cX3_having 2 = .ok (.iconst 0, 1) := by decide +kernel
theorem dX3_having_3 : decode cX3_having 3 = .ok (.istore 4, 2) := by decide +kernel
theorem dX3_having_5 : decode cX3_having 5 = .ok (.iload 4, 2) := by decide +kernel
theorem dX3_having_7 : decode cX3_having 7 = .ok (.bipush 16, 2) := by decide +kernel
theorem dX3_having_9 : decode cX3_having 9 = .ok (.if_icmp .ge 25, 3) := by decide +kernel
theorem dX3_having_12 : decode cX3_having 12 = .ok (.aload_n 0, 1) := by decide +kernel
theorem dX3_having_13 : decode cX3_having 13 = .ok (.getfield 13, 3) := by decide +kernel
theorem dX3_having_16 : decode cX3_having 16 = .ok (.iload_n 1, 1) := by decide +kernel
theorem dX3_having_17 : decode cX3_having 17 = .ok (.aaload, 1) := by decide +kernel
theorem dX3_having_18 : decode cX3_having 18 = .ok (.iload 4, 2) := by decide +kernel
theorem dX3_having_20 : decode cX3_having 20 = .ok (.iaload, 1) := by decide +kernel
theorem dX3_having_21 : decode cX3_having 21 = .ok (.iload_n 2, 1) := by decide +kernel
theorem dX3_having_22 : decode cX3_having 22 = .ok (.if_icmp .ne 6, 3) := by decide +kernel
theorem dX3_having_25 : decode cX3_having 25 = .ok (.iinc 3 1, 3) := by decide +kernel
theorem dX3_having_28 : decode cX3_having 28 = .ok (.iinc 4 1, 3) := by decide +kernel
theorem dX3_having_31 : decode cX3_having 31 = .ok (.goto (-26), 3) := by decide +kernel
theorem dX3_having_34 : decode cX3_having 34 = .ok (.iload_n 3, 1) := by decide +kernel
theorem dX3_having_35 : decode cX3_having 35 = .ok (.ireturn, 1) := by decide +kernel
theorem dX4_init_0 : decode cX4_init 0 = .ok (.aload_n 0, 1) := by decide +kernel
theorem dX4_init_1 : decode cX4_init 1 = .ok (.invokespecial 3, 3) := by decide +kernel
theorem dX4_init_4 : decode cX4_init 4 = .ok (.return_, 1) := by decide +kernel
theorem dX4_begin_0 : decode cX4_begin 0 = .ok (.aload_n 0, 1) := by decide +kernel
theorem dX4_begin_1 : decode cX4_begin 1 = .ok (.iload_n 1, 1) := by decide +kernel
theorem dX4_begin_2 : decode cX4_begin 2 = .ok (.i2l, 1) := by decide +kernel
theorem dX4_begin_3 : decode cX4_begin 3 = .ok (.putfield 9, 3) := by decide +kernel
theorem dX4_begin_6 : decode cX4_begin 6 = .ok (.aload_n 0, 1) := by decide +kernel
theorem dX4_begin_7 : decode cX4_begin 7 = .ok (.iconst 0, 1) := by decide +kernel
theorem dX4_begin_8 : decode cX4_begin 8 = .ok (.putfield 15, 3) := by decide +kernel
theorem dX4_begin_11 : decode cX4_begin 11 = .ok (.return_, 1) := by decide +kernel
theorem dX4_next_0 : decode cX4_next 0 = .ok (.aload_n 0, 1) := by decide +kernel
theorem dX4_next_1 : decode cX4_next 1 = .ok (.getfield 9, 3) := by decide +kernel
theorem dX4_next_4 : decode cX4_next 4 = .ok (.lconst 0, 1) := by decide +kernel
theorem dX4_next_5 : decode cX4_next 5 = .ok (.lcmp, 1) := by decide +kernel
theorem dX4_next_6 : decode cX4_next 6 = .ok (.ifCond .ne 6, 3) := by decide +kernel
theorem dX4_next_9 : decode cX4_next 9 = .ok (.bipush (-2), 2) := by decide +kernel
theorem dX4_next_11 : decode cX4_next 11 = .ok (.ireturn, 1) := by decide +kernel
theorem dX4_next_12 : decode cX4_next 12 = .ok (.iload_n 1, 1) := by decide +kernel
theorem dX4_next_13 : decode cX4_next 13 = .ok (.aload_n 0, 1) := by decide +kernel
theorem dX4_next_14 : decode cX4_next 14 = .ok (.getfield 15, 3) := by decide +kernel
theorem dX4_next_17 : decode cX4_next 17 = .ok (.invokestatic 19, 3) := by decide +kernel
theorem dX4_next_20 : decode cX4_next 20 = .ok (.isub, 1) := by decide +kernel
theorem dX4_next_21 : decode cX4_next 21 = .ok (.istore_n 2, 1) := by decide +kernel
theorem dX4_next_22 : decode cX4_next 22 = .ok (.iload_n 2, 1) := by decide +kernel
theorem dX4_next_23 : decode cX4_next 23 = .ok (.ifCond .gt 6, 3) := by decide +kernel
theorem dX4_next_26 : decode cX4_next 26 = .ok (.bipush (-4), 2) := by decide +kernel
theorem dX4_next_28 : decode cX4_next 28 = .ok (.ireturn, 1) := by decide +kernel
theorem dX4_next_29 : decode cX4_next 29 = .ok (.aload_n 0, 1) := by decide +kernel
theorem dX4_next_30 : decode cX4_next 30 = .ok (.aload_n 0, 1) := by decide +kernel
theorem dX4_next_31 : decode cX4_next 31 = .ok (.getfield 9, 3) := by decide +kernel
theorem dX4_next_34 : decode cX4_next 34 = .ok (.ldc2_w 25, 3) := by decide +kernel
theorem dX4_next_37 : decode cX4_next 37 = .ok (.lmul, 1) := by decide +kernel
theorem dX4_next_38 : decode cX4_next 38 = .ok (.ldc2_w 27, 3) := by decide +kernel
theorem dX4_next_41 : decode cX4_next 41 = .ok (.lrem, 1) := by decide +kernel
theorem dX4_next_42 : decode cX4_next 42 = .ok (.putfield 9, 3) := by decide +kernel
theorem dX4_next_45 : decode cX4_next 45 = .ok (.aload_n 0, 1) := by decide +kernel
theorem dX4_next_46 : decode cX4_next 46 = .ok (.getfield 15, 3) := by decide +kernel
theorem dX4_next_49 : decode cX4_next 49 = .ok (.aload_n 0, 1) := by decide +kernel
theorem dX4_next_50 : decode cX4_next 50 = .ok (.getfield 9, 3) := by decide +kernel
theorem dX4_next_53 : decode cX4_next 53 = .ok (.iload_n 2, 1) := by decide +kernel
theorem dX4_next_54 : decode cX4_next 54 = .ok (.i2l, 1) := by decide +kernel
theorem dX4_next_55 : decode cX4_next 55 = .ok (.lrem, 1) := by decide +kernel
theorem dX4_next_56 : decode cX4_next 56 = .ok (.l2i, 1) := by decide +kernel
theorem dX4_next_57 : decode cX4_next 57 = .ok (.iload_n 1, 1) := by decide +kernel
theorem dX4_next_58 : decode cX4_next 58 = .ok (.invokestatic 29, 3) := by decide +kernel
theorem dX4_next_61 : decode cX4_next 61 = .ok (.istore_n 3, 1) := by decide +kernel
theorem dX4_next_62 : decode cX4_next 62 = .ok (.aload_n 0, 1) := by decide +kernel
theorem dX4_next_63 : decode cX4_next 63 = .ok (.dup, 1) := by decide +kernel
theorem dX4_next_64 : decode cX4_next 64 = .ok (.getfield 15, 3) := by decide +kernel
theorem dX4_next_67 : decode cX4_next 67 = .ok (.iconst 1, 1) := by decide +kernel
theorem dX4_next_68 : decode cX4_next 68 = .ok (.iload_n 3, 1) := by decide +kernel
theorem dX4_next_69 : decode cX4_next 69 = .ok (.ishl, 1) := by decide +kernel
theorem dX4_next_70 : decode cX4_next 70 = .ok (.ior, 1) := by decide +kernel
theorem dX4_next_71 : decode cX4_next 71 = .ok (.putfield 15, 3) := by decide +kernel
theorem dX4_next_74 : decode cX4_next 74 = .ok (.iload_n 3, 1) := by decide +kernel
theorem dX4_next_75 : decode cX4_next 75 = .ok (.ireturn, 1) := by decide +kernel
theorem dX5_init_0 : decode cX5_init 0 = .ok (.aload_n 0, 1) := by decide +kernel
theorem dX5_init_1 : decode cX5_init 1 = .ok (.invokespecial 3, 3) := by decide +kernel
theorem dX5_init_4 : decode cX5_init 4 = .ok (.aload_n 0, 1) := by decide +kernel
theorem dX5_init_5 : decode cX5_init 5 = .ok (.bipush 16, 2) := by decide +kernel
theorem dX5_init_7 : decode cX5_init 7 = .ok (.newarray .int, 2) := by decide +kernel
theorem dX5_init_9 : decode cX5_init 9 = .ok (.putfield 9, 3) := by decide +kernel
theorem dX5_init_12 : decode cX5_init 12 = .ok (.return_, 1) := by decide +kernel
theorem dX5_look_0 : decode cX5_look 0 = .ok (.aload_n 0, 1) := by decide +kernel
theorem dX5_look_1 : decode cX5_look 1 = .ok (.iconst 0, 1) := by decide +kernel
theorem dX5_look_2 : decode cX5_look 2 = .ok (.putfield 15, 3) := by decide +kernel
theorem dX5_look_5 : decode cX5_look 5 = .ok (.iconst 0, 1) := by decide +kernel
theorem dX5_look_6 : decode cX5_look 6 = .ok (.istore_n 3, 1) := by decide +kernel
theorem dX5_look_7 : decode cX5_look 7 = .ok (.iload_n 3, 1) := by decide +kernel
theorem dX5_look_8 : decode cX5_look 8 = .ok (.iload_n 2, 1) := by decide +kernel
theorem dX5_look_9 : decode cX5_look 9 = .ok (.if_icmp .ge 30, 3) := by decide +kernel
theorem dX5_look_12 : decode cX5_look 12 = .ok (.aload_n 1, 1) := by decide +kernel
theorem dX5_look_13 : decode cX5_look 13 = .ok (.iload_n 3, 1) := by decide +kernel
theorem dX5_look_14 : decode cX5_look 14 = .ok (.aaload, 1) := by decide +kernel
theorem dX5_look_15 : decode cX5_look 15 = .ok (.invokevirtual 19, 3) := by decide +kernel
theorem dX5_look_18 : decode cX5_look 18 = .ok (.bipush (-4), 2) := by decide +kernel
theorem dX5_look_20 : decode cX5_look 20 = .ok (.if_icmp .eq 13, 3) := by decide +kernel
theorem dX5_look_23 : decode cX5_look 23 = .ok (.aload_n 0, 1) := by decide +kernel
theorem dX5_look_24 : decode cX5_look 24 = .ok (.aload_n 1, 1) := by decide +kernel
theorem dX5_look_25 : decode cX5_look 25 = .ok (.iload_n 3, 1) := by decide +kernel
theorem dX5_look_26 : decode cX5_look 26 = .ok (.aaload, 1) := by decide +kernel
theorem dX5_look_27 : decode cX5_look 27 = .ok (.invokevirtual 19, 3) := by decide +kernel
theorem dX5_look_30 : decode cX5_look 30 = .ok (.invokevirtual 25, 3) := by decide +kernel
theorem dX5_look_33 : decode cX5_look 33 = .ok (.iinc 3 1, 3) := by decide +kernel
theorem dX5_look_36 : decode cX5_look 36 = .ok (.goto (-29), 3) := by decide +kernel
theorem dX5_look_39 : decode cX5_look 39 = .ok (.aload_n 0, 1) := by decide +kernel
theorem dX5_look_40 : decode cX5_look 40 = .ok (.aload_n 0, 1) := by decide +kernel
theorem dX5_look_41 : decode cX5_look 41 = .ok (.invokevirtual 29, 3) := by decide +kernel
theorem dX5_look_44 : decode cX5_look 44 = .ok (.putfield 32, 3) := by decide +kernel
theorem dX5_look_47 : decode cX5_look 47 = .ok (.aload_n 0, 1) := by decide +kernel
theorem dX5_look_48 : decode cX5_look 48 = .ok (.iconst 0, 1) := by decide +kernel
theorem dX5_look_49 : decode cX5_look 49 = .ok (.putfield 15, 3) := by decide +kernel
theorem dX5_look_52 : decode cX5_look 52 = .ok (.iconst 0, 1) := by decide +kernel
theorem dX5_look_53 : decode cX5_look 53 = .ok (.istore_n 3, 1) := by decide +kernel
theorem dX5_look_54 : decode cX5_look 54 = .ok (.iload_n 3, 1) := by decide +kernel
theorem dX5_look_55 : decode cX5_look 55 = .ok (.iload_n 2, 1) := by decide +kernel
theorem dX5_look_56 : decode cX5_look 56 = .ok (.if_icmp .ge 31, 3) := by decide +kernel
theorem dX5_look_59 : decode cX5_look 59 = .ok (.aload_n 1, 1) := by decide +kernel
theorem dX5_look_60 : decode cX5_look 60 = .ok (.iload_n 3, 1) := by decide +kernel
theorem dX5_look_61 : decode cX5_look 61 = .ok (.aaload, 1) := by decide +kernel
theorem dX5_look_62 : decode cX5_look 62 = .ok (.invokevirtual 19, 3) := by decide +kernel
theorem dX5_look_65 : decode cX5_look 65 = .ok (.bipush (-4), 2) := by decide +kernel
theorem dX5_look_67 : decode cX5_look 67 = .ok (.if_icmp .eq 14, 3) := by decide +kernel
theorem dX5_look_70 : decode cX5_look 70 = .ok (.aload_n 0, 1) := by decide +kernel
theorem dX5_look_71 : decode cX5_look 71 = .ok (.aload_n 0, 1) := by decide +kernel
theorem dX5_look_72 : decode cX5_look 72 = .ok (.aload_n 1, 1) := by decide +kernel
theorem dX5_look_73 : decode cX5_look 73 = .ok (.iload_n 3, 1) := by decide +kernel
theorem dX5_look_74 : decode cX5_look 74 = .ok (.aaload, 1) := by decide +kernel
theorem dX5_look_75 : decode cX5_look 75 = .ok (.invokevirtual 35, 3) := by decide +kernel
theorem dX5_look_78 : decode cX5_look 78 = .ok (.invokevirtual 25, 3) := by decide +kernel
theorem dX5_look_81 : decode cX5_look 81 = .ok (.iinc 3 1, 3) := by decide +kernel
theorem dX5_look_84 : decode cX5_look 84 = .ok (.goto (-30), 3) := by decide +kernel
theorem dX5_look_87 : decode cX5_look 87 = .ok (.iconst 3, 1) := by decide +kernel
theorem dX5_look_88 : decode cX5_look 88 = .ok (.aload_n 0, 1) := by decide +kernel
theorem dX5_look_89 : decode cX5_look 89 = .ok (.invokevirtual 29, 3) := by decide +kernel
theorem dX5_look_92 : decode cX5_look 92 = .ok (.imul, 1) := by decide +kernel
theorem dX5_look_93 : decode cX5_look 93 = .ok (.istore_n 3, 1) := by decide +kernel
theorem dX5_look_94 : decode cX5_look 94 = .ok (.aload_n 0, 1) := by decide +kernel
theorem dX5_look_95 : decode cX5_look 95 = .ok (.iconst 0, 1) := by decide +kernel
theorem dX5_look_96 : decode cX5_look 96 = .ok (.putfield 39, 3) := by decide +kernel
theorem dX5_look_99 : decode cX5_look 99 = .ok (.iconst 0, 1) := by decide +kernel
theorem dX5_look_100 : decode cX5_look 100 = .ok (.istore 4, 2) := by decide +kernel
theorem dX5_look_102 : decode cX5_look 102 = .ok (.iload 4, 2) := by decide +kernel
theorem dX5_look_104 : decode cX5_look 104 = .ok (.iload_n 2, 1) := by decide +kernel
theorem dX5_look_105 : decode cX5_look 105 = .ok (.if_icmp .ge 46, 3) := by decide +kernel
theorem dX5_look_108 : decode cX5_look 108 = .ok (.aload_n 1, 1) := by decide +kernel
theorem dX5_look_109 : decode cX5_look 109 = .ok (.iload 4, 2) := by decide +kernel
theorem dX5_look_111 : decode cX5_look 111 = .ok (.aaload, 1) := by decide +kernel
theorem dX5_look_112 : decode cX5_look 112 = .ok (.invokevirtual 19, 3) := by decide +kernel
theorem dX5_look_115 : decode cX5_look 115 = .ok (.bipush (-4), 2) := by decide +kernel
theorem dX5_look_117 : decode cX5_look 117 = .ok (.if_icmp .eq 28, 3) := by decide +kernel
theorem dX5_look_120 : decode cX5_look 120 = .ok (.aload_n 0, 1) := by decide +kernel
theorem dX5_look_121 : decode cX5_look 121 = .ok (.aload_n 1, 1) := by decide +kernel
theorem dX5_look_122 : decode cX5_look 122 = .ok (.iload 4, 2) := by decide +kernel
theorem dX5_look_124 : decode cX5_look 124 = .ok (.aaload, 1) := by decide +kernel
theorem dX5_look_125 : decode cX5_look 125 = .ok (.invokevirtual 35, 3) := by decide +kernel
theorem dX5_look_128 : decode cX5_look 128 = .ok (.iload_n 3, 1) := by decide +kernel
theorem dX5_look_129 : decode cX5_look 129 = .ok (.if_icmp .le 16, 3) := by decide +kernel
theorem dX5_look_132 : decode cX5_look 132 = .ok (.aload_n 0, 1) := by decide +kernel
theorem dX5_look_133 : decode cX5_look 133 = .ok (.dup, 1) := by decide +kernel
theorem dX5_look_134 : decode cX5_look 134 = .ok (.getfield 39, 3) := by decide +kernel
theorem dX5_look_137 : decode cX5_look 137 = .ok (.iconst 1, 1) := by decide +kernel
theorem dX5_look_138 : decode cX5_look 138 = .ok (.iload 4, 2) := by decide +kernel
theorem dX5_look_140 : decode cX5_look 140 = .ok (.ishl, 1) := by decide +kernel
theorem dX5_look_141 : decode cX5_look 141 = .ok (.ior, 1) := by decide +kernel
theorem dX5_look_142 : decode cX5_look 142 = .ok (.putfield 39, 3) := by decide +kernel
theorem dX5_look_145 : decode cX5_look 145 = .ok (.iinc 4 1, 3) := by decide +kernel
theorem dX5_look_148 : decode cX5_look 148 = .ok (.goto (-46), 3) := by decide +kernel
theorem dX5_look_151 : decode cX5_look 151 = .ok (.return_, 1) := by decide +kernel
theorem dX5_off_0 : decode cX5_off 0 = .ok (.aload_n 1, 1) := by decide +kernel
theorem dX5_off_1 : decode cX5_off 1 = .ok (.invokevirtual 19, 3) := by decide +kernel
theorem dX5_off_4 : decode cX5_off 4 = .ok (.aload_n 0, 1) := by decide +kernel
theorem dX5_off_5 : decode cX5_off 5 = .ok (.getfield 32, 3) := by decide +kernel
theorem dX5_off_8 : decode cX5_off 8 = .ok (.isub, 1) := by decide +kernel
theorem dX5_off_9 : decode cX5_off 9 = .ok (.invokestatic 42, 3) := by decide +kernel
theorem dX5_off_12 : decode cX5_off 12 = .ok (.ireturn, 1) := by decide +kernel
theorem dX5_lesserMiddle_0 : decode cX5_lesserMiddle 0 = .ok (.aload_n 0, 1) := by decide +kernel
theorem dX5_lesserMiddle_1 : decode cX5_lesserMiddle 1 = .ok (.getfield 15, 3) := by decide +kernel
theorem dX5_lesserMiddle_4 : decode cX5_lesserMiddle 4 = .ok (.ifCond .le 19, 3) := by decide +kernel
theorem dX5_lesserMiddle_7 : decode cX5_lesserMiddle 7 = .ok (.aload_n 0, 1) := by decide +kernel
theorem dX5_lesserMiddle_8 : decode cX5_lesserMiddle 8 = .ok (.getfield 9, 3) := by decide +kernel
theorem dX5_lesserMiddle_11 : decode cX5_lesserMiddle 11 = .ok (.aload_n 0, 1) := by decide +kernel
theorem dX5_lesserMiddle_12 : decode cX5_lesserMiddle 12 = .ok (.getfield 15, 3) := by decide +kernel
theorem dX5_lesserMiddle_15 : decode cX5_lesserMiddle 15 = .ok (.iconst 1, 1) := by decide +kernel
theorem dX5_lesserMiddle_16 : decode cX5_lesserMiddle 16 = .ok (.isub, 1) := by decide +kernel
theorem dX5_lesserMiddle_17 : decode cX5_lesserMiddle 17 = .ok (.iconst 2, 1) := by decide +kernel
theorem dX5_lesserMiddle_18 : decode cX5_lesserMiddle 18 = .ok (.idiv, 1) := by decide +kernel
theorem dX5_lesserMiddle_19 : decode cX5_lesserMiddle 19 = .ok (.iaload, 1) := by decide +kernel
theorem dX5_lesserMiddle_20 : decode cX5_lesserMiddle 20 = .ok (.goto 4, 3) := by decide +kernel
theorem dX5_lesserMiddle_23 : decode cX5_lesserMiddle 23 = .ok (.iconst 0, 1) := by decide +kernel
theorem dX5_lesserMiddle_24 : decode cX5_lesserMiddle 24 = .ok (.ireturn, 1) := by decide +kernel
theorem dX5_putInOrder_0 : decode cX5_putInOrder 0 = .ok (.aload_n 0, 1) := by decide +kernel
theorem dX5_putInOrder_1 : decode cX5_putInOrder 1 = .ok (.getfield 15, 3) := by decide +kernel
theorem dX5_putInOrder_4 : decode cX5_putInOrder 4 = .ok (.bipush 16, 2) := by decide +kernel
theorem dX5_putInOrder_6 : decode cX5_putInOrder 6 = .ok (.if_icmp .lt 4, 3) := by decide +kernel
theorem dX5_putInOrder_9 : decode cX5_putInOrder 9 = .ok (.return_, 1) := by decide +kernel
theorem dX5_putInOrder_10 : decode cX5_putInOrder 10 = .ok (.aload_n 0, 1) := by decide +kernel
theorem dX5_putInOrder_11 : decode cX5_putInOrder 11 = .ok (.getfield 15, 3) := by decide +kernel
theorem dX5_putInOrder_14 : decode cX5_putInOrder 14 = .ok (.istore_n 2, 1) := by decide +kernel
theorem dX5_putInOrder_15 : decode cX5_putInOrder 15 = .ok (.iload_n 2, 1) := by decide +kernel
theorem dX5_putInOrder_16 : decode cX5_putInOrder 16 = .ok (.ifCond .le 35, 3) := by decide +kernel
theorem dX5_putInOrder_19 : decode cX5_putInOrder 19 = .ok (.aload_n 0, 1) := by decide +kernel
theorem dX5_putInOrder_20 : decode cX5_putInOrder 20 = .ok (.getfield 9, 3) := by decide +kernel
theorem dX5_putInOrder_23 : decode cX5_putInOrder 23 = .ok (.iload_n 2, 1) := by decide +kernel
theorem dX5_putInOrder_24 : decode cX5_putInOrder 24 = .ok (.iconst 1, 1) := by decide +kernel
theorem dX5_putInOrder_25 : decode cX5_putInOrder 25 = .ok (.isub, 1) := by decide +kernel
theorem dX5_putInOrder_26 : decode cX5_putInOrder 26 = .ok (.iaload, 1) := by decide +kernel
theorem dX5_putInOrder_27 : decode cX5_putInOrder 27 = .ok (.iload_n 1, 1) := by decide +kernel
theorem dX5_putInOrder_28 : decode cX5_putInOrder 28 = .ok (.if_icmp .le 23, 3) := by decide +kernel
theorem dX5_putInOrder_31 : decode cX5_putInOrder 31 = .ok (.aload_n 0, 1) := by decide +kernel
theorem dX5_putInOrder_32 : decode cX5_putInOrder 32 = .ok (.getfield 9, 3) := by decide +kernel
theorem dX5_putInOrder_35 : decode cX5_putInOrder 35 = .ok (.iload_n 2, 1) := by decide +kernel
theorem dX5_putInOrder_36 : decode cX5_putInOrder 36 = .ok (.aload_n 0, 1) := by decide +kernel
theorem dX5_putInOrder_37 : decode cX5_putInOrder 37 = .ok (.getfield 9, 3) := by decide +kernel
theorem dX5_putInOrder_40 : decode cX5_putInOrder 40 = .ok (.iload_n 2, 1) := by decide +kernel
theorem dX5_putInOrder_41 : decode cX5_putInOrder 41 = .ok (.iconst 1, 1) := by decide +kernel
theorem dX5_putInOrder_42 : decode cX5_putInOrder 42 = .ok (.isub, 1) := by decide +kernel
theorem dX5_putInOrder_43 : decode cX5_putInOrder 43 = .ok (.iaload, 1) := by decide +kernel
theorem dX5_putInOrder_44 : decode cX5_putInOrder 44 = .ok (.iastore, 1) := by decide +kernel
theorem dX5_putInOrder_45 : decode cX5_putInOrder 45 = .ok (.iinc 2 (-1), 3) := by decide +kernel
theorem dX5_putInOrder_48 : decode cX5_putInOrder 48 = .ok (.goto (-33), 3) := by decide +kernel
theorem dX5_putInOrder_51 : decode cX5_putInOrder 51 = .ok (.aload_n 0, 1) := by decide +kernel
theorem dX5_putInOrder_52 : decode cX5_putInOrder 52 = .ok (.getfield 9, 3) := by decide +kernel
theorem dX5_putInOrder_55 : decode cX5_putInOrder 55 = .ok (.iload_n 2, 1) := by decide +kernel
theorem dX5_putInOrder_56 : decode cX5_putInOrder 56 = .ok (.iload_n 1, 1) := by decide +kernel
theorem dX5_putInOrder_57 : decode cX5_putInOrder 57 = .ok (.iastore, 1) := by decide +kernel
theorem dX5_putInOrder_58 : decode cX5_putInOrder 58 = .ok (.aload_n 0, 1) := by decide +kernel
theorem dX5_putInOrder_59 : decode cX5_putInOrder 59 = .ok (.dup, 1) := by decide +kernel
theorem dX5_putInOrder_60 : decode cX5_putInOrder 60 = .ok (.getfield 15, 3) := by decide +kernel
theorem dX5_putInOrder_63 : decode cX5_putInOrder 63 = .ok (.iconst 1, 1) := by decide +kernel
theorem dX5_putInOrder_64 : decode cX5_putInOrder 64 = .ok (.iadd, 1) := by decide +kernel
theorem dX5_putInOrder_65 : decode cX5_putInOrder 65 = .ok (.putfield 15, 3) := by decide +kernel
theorem dX5_putInOrder_68 : decode cX5_putInOrder 68 = .ok (.return_, 1) := by decide +kernel
theorem dX6_init_0 : decode cX6_init 0 = .ok (.aload_n 0, 1) := by decide +kernel
theorem dX6_init_1 : decode cX6_init 1 = .ok (.invokespecial 5, 3) := by decide +kernel
theorem dX6_init_4 : decode cX6_init 4 = .ok (.aload_n 0, 1) := by decide +kernel
theorem dX6_init_5 : decode cX6_init 5 = .ok (.sipush 320, 3) := by decide +kernel
theorem dX6_init_8 : decode cX6_init 8 = .ok (.newarray .int, 2) := by decide +kernel
theorem dX6_init_10 : decode cX6_init 10 = .ok (.putfield 13, 3) := by decide +kernel
theorem dX6_init_13 : decode cX6_init 13 = .ok (.aload_n 0, 1) := by decide +kernel
theorem dX6_init_14 : decode cX6_init 14 = .ok (.sipush 320, 3) := by decide +kernel
theorem dX6_init_17 : decode cX6_init 17 = .ok (.newarray .int, 2) := by decide +kernel
theorem dX6_init_19 : decode cX6_init 19 = .ok (.putfield 17, 3) := by decide +kernel
theorem dX6_init_22 : decode cX6_init 22 = .ok (.aload_n 0, 1) := by decide +kernel
theorem dX6_init_23 : decode cX6_init 23 = .ok (.sipush 320, 3) := by decide +kernel
theorem dX6_init_26 : decode cX6_init 26 = .ok (.newarray .int, 2) := by decide +kernel
theorem dX6_init_28 : decode cX6_init 28 = .ok (.putfield 20, 3) := by decide +kernel
theorem dX6_init_31 : decode cX6_init 31 = .ok (.aload_n 0, 1) := by decide +kernel
theorem dX6_init_32 : decode cX6_init 32 = .ok (.sipush 320, 3) := by decide +kernel
theorem dX6_init_35 : decode cX6_init 35 = .ok (.newarray .int, 2) := by decide +kernel
theorem dX6_init_37 : decode cX6_init 37 = .ok (.putfield 23, 3) := by decide +kernel
theorem dX6_init_40 : decode cX6_init 40 = .ok (.aload_n 0, 1) := by decide +kernel
theorem dX6_init_41 : decode cX6_init 41 = .ok (.sipush 320, 3) := by decide +kernel
theorem dX6_init_44 : decode cX6_init 44 = .ok (.newarray .int, 2) := by decide +kernel
theorem dX6_init_46 : decode cX6_init 46 = .ok (.putfield 26, 3) := by decide +kernel
theorem dX6_init_49 : decode cX6_init 49 = .ok (.aload_n 0, 1) := by decide +kernel
theorem dX6_init_50 : decode cX6_init 50 = .ok (.sipush 320, 3) := by decide +kernel
theorem dX6_init_53 : decode cX6_init 53 = .ok (.newarray .int, 2) := by decide +kernel
theorem dX6_init_55 : decode cX6_init 55 = .ok (.putfield 29, 3) := by decide +kernel
theorem dX6_init_58 : decode cX6_init 58 = .ok (.return_, 1) := by decide +kernel
theorem dX6_put_0 : decode cX6_put 0 = .ok (.aload_n 0, 1) := by decide +kernel
theorem dX6_put_1 : decode cX6_put 1 = .ok (.getfield 32, 3) := by decide +kernel
theorem dX6_put_4 : decode cX6_put 4 = .ok (.sipush 320, 3) := by decide +kernel
theorem dX6_put_7 : decode cX6_put 7 = .ok (.if_icmp .lt 4, 3) := by decide +kernel
theorem dX6_put_10 : decode cX6_put 10 = .ok (.return_, 1) := by decide +kernel
theorem dX6_put_11 : decode cX6_put 11 = .ok (.aload_n 0, 1) := by decide +kernel
theorem dX6_put_12 : decode cX6_put 12 = .ok (.getfield 13, 3) := by decide +kernel
theorem dX6_put_15 : decode cX6_put 15 = .ok (.aload_n 0, 1) := by decide +kernel
theorem dX6_put_16 : decode cX6_put 16 = .ok (.getfield 32, 3) := by decide +kernel
theorem dX6_put_19 : decode cX6_put 19 = .ok (.iload_n 1, 1) := by decide +kernel
theorem dX6_put_20 : decode cX6_put 20 = .ok (.iastore, 1) := by decide +kernel
theorem dX6_put_21 : decode cX6_put 21 = .ok (.aload_n 0, 1) := by decide +kernel
theorem dX6_put_22 : decode cX6_put 22 = .ok (.getfield 17, 3) := by decide +kernel
theorem dX6_put_25 : decode cX6_put 25 = .ok (.aload_n 0, 1) := by decide +kernel
theorem dX6_put_26 : decode cX6_put 26 = .ok (.getfield 32, 3) := by decide +kernel
theorem dX6_put_29 : decode cX6_put 29 = .ok (.iload_n 2, 1) := by decide +kernel
theorem dX6_put_30 : decode cX6_put 30 = .ok (.iastore, 1) := by decide +kernel
theorem dX6_put_31 : decode cX6_put 31 = .ok (.aload_n 0, 1) := by decide +kernel
theorem dX6_put_32 : decode cX6_put 32 = .ok (.getfield 20, 3) := by decide +kernel
theorem dX6_put_35 : decode cX6_put 35 = .ok (.aload_n 0, 1) := by decide +kernel
theorem dX6_put_36 : decode cX6_put 36 = .ok (.getfield 32, 3) := by decide +kernel
theorem dX6_put_39 : decode cX6_put 39 = .ok (.iload_n 3, 1) := by decide +kernel
theorem dX6_put_40 : decode cX6_put 40 = .ok (.iastore, 1) := by decide +kernel
theorem dX6_put_41 : decode cX6_put 41 = .ok (.aload_n 0, 1) := by decide +kernel
theorem dX6_put_42 : decode cX6_put 42 = .ok (.getfield 23, 3) := by decide +kernel
theorem dX6_put_45 : decode cX6_put 45 = .ok (.aload_n 0, 1) := by decide +kernel
theorem dX6_put_46 : decode cX6_put 46 = .ok (.getfield 32, 3) := by decide +kernel
theorem dX6_put_49 : decode cX6_put 49 = .ok (.aload 4, 2) := by decide +kernel
theorem dX6_put_51 : decode cX6_put 51 = .ok (.getfield 36, 3) := by decide +kernel
theorem dX6_put_54 : decode cX6_put 54 = .ok (.iastore, 1) := by decide +kernel
theorem dX6_put_55 : decode cX6_put 55 = .ok (.aload_n 0, 1) := by decide +kernel
theorem dX6_put_56 : decode cX6_put 56 = .ok (.getfield 26, 3) := by decide +kernel
theorem dX6_put_59 : decode cX6_put 59 = .ok (.aload_n 0, 1) := by decide +kernel
theorem dX6_put_60 : decode cX6_put 60 = .ok (.getfield 32, 3) := by decide +kernel
theorem dX6_put_63 : decode cX6_put 63 = .ok (.aload 4, 2) := by decide +kernel
theorem dX6_put_65 : decode cX6_put 65 = .ok (.getfield 41, 3) := by decide +kernel
theorem dX6_put_68 : decode cX6_put 68 = .ok (.iastore, 1) := by decide +kernel
theorem dX6_put_69 : decode cX6_put 69 = .ok (.aload_n 0, 1) := by decide +kernel
theorem dX6_put_70 : decode cX6_put 70 = .ok (.getfield 29, 3) := by decide +kernel
theorem dX6_put_73 : decode cX6_put 73 = .ok (.aload_n 0, 1) := by decide +kernel
theorem dX6_put_74 : decode cX6_put 74 = .ok (.getfield 32, 3) := by decide +kernel
theorem dX6_put_77 : decode cX6_put 77 = .ok (.aload 4, 2) := by decide +kernel
theorem dX6_put_79 : decode cX6_put 79 = .ok (.getfield 44, 3) := by decide +kernel
theorem dX6_put_82 : decode cX6_put 82 = .ok (.iastore, 1) := by decide +kernel
theorem dX6_put_83 : decode cX6_put 83 = .ok (.aload_n 0, 1) := by decide +kernel
theorem dX6_put_84 : decode cX6_put 84 = .ok (.dup, 1) := by decide +kernel
theorem dX6_put_85 : decode cX6_put 85 = .ok (.getfield 32, 3) := by decide +kernel
theorem dX6_put_88 : decode cX6_put 88 = .ok (.iconst 1, 1) := by decide +kernel
theorem dX6_put_89 : decode cX6_put 89 = .ok (.iadd, 1) := by decide +kernel
theorem dX6_put_90 : decode cX6_put 90 = .ok (.putfield 32, 3) := by decide +kernel
theorem dX6_put_93 : decode cX6_put 93 = .ok (.return_, 1) := by decide +kernel
theorem dX6_bringWhatIsDue_0 : decode cX6_bringWhatIsDue 0 = .ok (.iconst 0, 1) := by decide +kernel
theorem dX6_bringWhatIsDue_1 : decode cX6_bringWhatIsDue 1 = .ok (.istore 4, 2) := by decide +kernel
theorem dX6_bringWhatIsDue_3 : decode cX6_bringWhatIsDue 3 = .ok (.iconst 0, 1) := by decide +kernel
theorem dX6_bringWhatIsDue_4 : decode cX6_bringWhatIsDue 4 = .ok (.istore 5, 2) := by decide +kernel
theorem dX6_bringWhatIsDue_6 : decode cX6_bringWhatIsDue 6 = .ok (.iload 5, 2) := by decide +kernel
theorem dX6_bringWhatIsDue_8 : decode cX6_bringWhatIsDue 8 = .ok (.aload_n 0, 1) := by decide +kernel
theorem dX6_bringWhatIsDue_9 : decode cX6_bringWhatIsDue 9 = .ok (.getfield 32, 3) := by decide +kernel
theorem dX6_bringWhatIsDue_12 : decode cX6_bringWhatIsDue 12 = .ok (.if_icmp .ge 91, 3) := by decide +kernel
theorem dX6_bringWhatIsDue_15 : decode cX6_bringWhatIsDue 15 = .ok (.aload_n 0, 1) := by decide +kernel
theorem dX6_bringWhatIsDue_16 : decode cX6_bringWhatIsDue 16 = .ok (.getfield 13, 3) := by decide +kernel
theorem dX6_bringWhatIsDue_19 : decode cX6_bringWhatIsDue 19 = .ok (.iload 5, 2) := by decide +kernel
theorem dX6_bringWhatIsDue_21 : decode cX6_bringWhatIsDue 21 = .ok (.iaload, 1) := by decide +kernel
theorem dX6_bringWhatIsDue_22 : decode cX6_bringWhatIsDue 22 = .ok (.iload_n 1, 1) := by decide +kernel
theorem dX6_bringWhatIsDue_23 : decode cX6_bringWhatIsDue 23 = .ok (.if_icmp .ne 63, 3) := by decide +kernel
theorem dX6_bringWhatIsDue_26 : decode cX6_bringWhatIsDue 26 = .ok (.aload_n 3, 1) := by decide +kernel
theorem dX6_bringWhatIsDue_27 : decode cX6_bringWhatIsDue 27 = .ok (.aload_n 0, 1) := by decide +kernel
theorem dX6_bringWhatIsDue_28 : decode cX6_bringWhatIsDue 28 = .ok (.getfield 17, 3) := by decide +kernel
theorem dX6_bringWhatIsDue_31 : decode cX6_bringWhatIsDue 31 = .ok (.iload 5, 2) := by decide +kernel
theorem dX6_bringWhatIsDue_33 : decode cX6_bringWhatIsDue 33 = .ok (.iaload, 1) := by decide +kernel
theorem dX6_bringWhatIsDue_34 : decode cX6_bringWhatIsDue 34 = .ok (.aaload, 1) := by decide +kernel
theorem dX6_bringWhatIsDue_35 : decode cX6_bringWhatIsDue 35 = .ok (.getfield 46, 3) := by decide +kernel
theorem dX6_bringWhatIsDue_38 : decode cX6_bringWhatIsDue 38 = .ok (.aload_n 0, 1) := by decide +kernel
theorem dX6_bringWhatIsDue_39 : decode cX6_bringWhatIsDue 39 = .ok (.getfield 20, 3) := by decide +kernel
theorem dX6_bringWhatIsDue_42 : decode cX6_bringWhatIsDue 42 = .ok (.iload 5, 2) := by decide +kernel
theorem dX6_bringWhatIsDue_44 : decode cX6_bringWhatIsDue 44 = .ok (.iaload, 1) := by decide +kernel
theorem dX6_bringWhatIsDue_45 : decode cX6_bringWhatIsDue 45 = .ok (.aaload, 1) := by decide +kernel
theorem dX6_bringWhatIsDue_46 : decode cX6_bringWhatIsDue 46 = .ok (.astore 6, 2) := by decide +kernel
theorem dX6_bringWhatIsDue_48 : decode cX6_bringWhatIsDue 48 = .ok (.aload 6, 2) := by decide +kernel
theorem dX6_bringWhatIsDue_50 : decode cX6_bringWhatIsDue 50 = .ok (.aload_n 0, 1) := by decide +kernel
theorem dX6_bringWhatIsDue_51 : decode cX6_bringWhatIsDue 51 = .ok (.getfield 23, 3) := by decide +kernel
theorem dX6_bringWhatIsDue_54 : decode cX6_bringWhatIsDue 54 = .ok (.iload 5, 2) := by decide +kernel
theorem dX6_bringWhatIsDue_56 : decode cX6_bringWhatIsDue 56 = .ok (.iaload, 1) := by decide +kernel
theorem dX6_bringWhatIsDue_57 : decode cX6_bringWhatIsDue 57 = .ok (.aload_n 0, 1) := by decide +kernel
theorem dX6_bringWhatIsDue_58 : decode cX6_bringWhatIsDue 58 = .ok (.getfield 26, 3) := by decide +kernel
theorem dX6_bringWhatIsDue_61 : decode cX6_bringWhatIsDue 61 = .ok (.iload 5, 2) := by decide +kernel
theorem dX6_bringWhatIsDue_63 : decode cX6_bringWhatIsDue 63 = .ok (.iaload, 1) := by decide +kernel
theorem dX6_bringWhatIsDue_64 : decode cX6_bringWhatIsDue 64 = .ok (.aload_n 0, 1) := by decide +kernel
theorem dX6_bringWhatIsDue_65 : decode cX6_bringWhatIsDue 65 = .ok (.getfield 29, 3) := by decide +kernel
theorem dX6_bringWhatIsDue_68 : decode cX6_bringWhatIsDue 68 = .ok (.iload 5, 2) := by decide +kernel
theorem dX6_bringWhatIsDue_70 : decode cX6_bringWhatIsDue 70 = .ok (.iaload, 1) := by decide +kernel
theorem dX6_bringWhatIsDue_71 : decode cX6_bringWhatIsDue 71 = .ok (.iload_n 2, 1) := by decide +kernel
theorem dX6_bringWhatIsDue_72 : decode cX6_bringWhatIsDue 72 = .ok (.if_icmp .ge 7, 3) := by decide +kernel
theorem dX6_bringWhatIsDue_75 : decode cX6_bringWhatIsDue 75 = .ok (.iconst 1, 1) := by decide +kernel
theorem dX6_bringWhatIsDue_76 : decode cX6_bringWhatIsDue 76 = .ok (.goto 4, 3) := by decide +kernel
theorem dX6_bringWhatIsDue_79 : decode cX6_bringWhatIsDue 79 = .ok (.iconst 0, 1) := by decide +kernel
theorem dX6_bringWhatIsDue_80 : decode cX6_bringWhatIsDue 80 = .ok (.invokevirtual 50, 3) := by decide +kernel
theorem dX6_bringWhatIsDue_83 : decode cX6_bringWhatIsDue 83 = .ok (.goto 14, 3) := by decide +kernel
theorem dX6_bringWhatIsDue_86 : decode cX6_bringWhatIsDue 86 = .ok (.aload_n 0, 1) := by decide +kernel
theorem dX6_bringWhatIsDue_87 : decode cX6_bringWhatIsDue 87 = .ok (.iload 5, 2) := by decide +kernel
theorem dX6_bringWhatIsDue_89 : decode cX6_bringWhatIsDue 89 = .ok (.iload 4, 2) := by decide +kernel
theorem dX6_bringWhatIsDue_91 : decode cX6_bringWhatIsDue 91 = .ok (.invokevirtual 56, 3) := by decide +kernel
theorem dX6_bringWhatIsDue_94 : decode cX6_bringWhatIsDue 94 = .ok (.iinc 4 1, 3) := by decide +kernel
theorem dX6_bringWhatIsDue_97 : decode cX6_bringWhatIsDue 97 = .ok (.iinc 5 1, 3) := by decide +kernel
theorem dX6_bringWhatIsDue_100 : decode cX6_bringWhatIsDue 100 = .ok (.goto (-94), 3) := by decide +kernel
theorem dX6_bringWhatIsDue_103 : decode cX6_bringWhatIsDue 103 = .ok (.aload_n 0, 1) := by decide +kernel
theorem dX6_bringWhatIsDue_104 : decode cX6_bringWhatIsDue 104 = .ok (.iload 4, 2) := by decide +kernel
theorem dX6_bringWhatIsDue_106 : decode cX6_bringWhatIsDue 106 = .ok (.putfield 32, 3) := by decide +kernel
theorem dX6_bringWhatIsDue_109 : decode cX6_bringWhatIsDue 109 = .ok (.return_, 1) := by decide +kernel
theorem dX6_move_0 : decode cX6_move 0 = .ok (.aload_n 0, 1) := by decide +kernel
theorem dX6_move_1 : decode cX6_move 1 = .ok (.getfield 13, 3) := by decide +kernel
theorem dX6_move_4 : decode cX6_move 4 = .ok (.iload_n 2, 1) := by decide +kernel
theorem dX6_move_5 : decode cX6_move 5 = .ok (.aload_n 0, 1) := by decide +kernel
theorem dX6_move_6 : decode cX6_move 6 = .ok (.getfield 13, 3) := by decide +kernel
theorem dX6_move_9 : decode cX6_move 9 = .ok (.iload_n 1, 1) := by decide +kernel
theorem dX6_move_10 : decode cX6_move 10 = .ok (.iaload, 1) := by decide +kernel
theorem dX6_move_11 : decode cX6_move 11 = .ok (.iastore, 1) := by decide +kernel
theorem dX6_move_12 : decode cX6_move 12 = .ok (.aload_n 0, 1) := by decide +kernel
theorem dX6_move_13 : decode cX6_move 13 = .ok (.getfield 17, 3) := by decide +kernel
theorem dX6_move_16 : decode cX6_move 16 = .ok (.iload_n 2, 1) := by decide +kernel
theorem dX6_move_17 : decode cX6_move 17 = .ok (.aload_n 0, 1) := by decide +kernel
theorem dX6_move_18 : decode cX6_move 18 = .ok (.getfield 17, 3) := by decide +kernel
theorem dX6_move_21 : decode cX6_move 21 = .ok (.iload_n 1, 1) := by decide +kernel
theorem dX6_move_22 : decode cX6_move 22 = .ok (.iaload, 1) := by decide +kernel
theorem dX6_move_23 : decode cX6_move 23 = .ok (.iastore, 1) := by decide +kernel
theorem dX6_move_24 : decode cX6_move 24 = .ok (.aload_n 0, 1) := by decide +kernel
theorem dX6_move_25 : decode cX6_move 25 = .ok (.getfield 20, 3) := by decide +kernel
theorem dX6_move_28 : decode cX6_move 28 = .ok (.iload_n 2, 1) := by decide +kernel
theorem dX6_move_29 : decode cX6_move 29 = .ok (.aload_n 0, 1) := by decide +kernel
theorem dX6_move_30 : decode cX6_move 30 = .ok (.getfield 20, 3) := by decide +kernel
theorem dX6_move_33 : decode cX6_move 33 = .ok (.iload_n 1, 1) := by decide +kernel
theorem dX6_move_34 : decode cX6_move 34 = .ok (.iaload, 1) := by decide +kernel
theorem dX6_move_35 : decode cX6_move 35 = .ok (.iastore, 1) := by decide +kernel
theorem dX6_move_36 : decode cX6_move 36 = .ok (.aload_n 0, 1) := by decide +kernel
theorem dX6_move_37 : decode cX6_move 37 = .ok (.getfield 23, 3) := by decide +kernel
theorem dX6_move_40 : decode cX6_move 40 = .ok (.iload_n 2, 1) := by decide +kernel
theorem dX6_move_41 : decode cX6_move 41 = .ok (.aload_n 0, 1) := by decide +kernel
theorem dX6_move_42 : decode cX6_move 42 = .ok (.getfield 23, 3) := by decide +kernel
theorem dX6_move_45 : decode cX6_move 45 = .ok (.iload_n 1, 1) := by decide +kernel
theorem dX6_move_46 : decode cX6_move 46 = .ok (.iaload, 1) := by decide +kernel
theorem dX6_move_47 : decode cX6_move 47 = .ok (.iastore, 1) := by decide +kernel
theorem dX6_move_48 : decode cX6_move 48 = .ok (.aload_n 0, 1) := by decide +kernel
theorem dX6_move_49 : decode cX6_move 49 = .ok (.getfield 26, 3) := by decide +kernel
theorem dX6_move_52 : decode cX6_move 52 = .ok (.iload_n 2, 1) := by decide +kernel
theorem dX6_move_53 : decode cX6_move 53 = .ok (.aload_n 0, 1) := by decide +kernel
theorem dX6_move_54 : decode cX6_move 54 = .ok (.getfield 26, 3) := by decide +kernel
theorem dX6_move_57 : decode cX6_move 57 = .ok (.iload_n 1, 1) := by decide +kernel
theorem dX6_move_58 : decode cX6_move 58 = .ok (.iaload, 1) := by decide +kernel
theorem dX6_move_59 : decode cX6_move 59 = .ok (.iastore, 1) := by decide +kernel
theorem dX6_move_60 : decode cX6_move 60 = .ok (.aload_n 0, 1) := by decide +kernel
theorem dX6_move_61 : decode cX6_move 61 = .ok (.getfield 29, 3) := by decide +kernel
theorem dX6_move_64 : decode cX6_move 64 = .ok (.iload_n 2, 1) := by decide +kernel
theorem dX6_move_65 : decode cX6_move 65 = .ok (.aload_n 0, 1) := by decide +kernel
theorem dX6_move_66 : decode cX6_move 66 = .ok (.getfield 29, 3) := by decide +kernel
theorem dX6_move_69 : decode cX6_move 69 = .ok (.iload_n 1, 1) := by decide +kernel
theorem dX6_move_70 : decode cX6_move 70 = .ok (.iaload, 1) := by decide +kernel
theorem dX6_move_71 : decode cX6_move 71 = .ok (.iastore, 1) := by decide +kernel
theorem dX6_move_72 : decode cX6_move 72 = .ok (.return_, 1) := by decide +kernel
theorem dX7_init_0 : decode cX7_init 0 = .ok (.aload_n 0, 1) := by decide +kernel
theorem dX7_init_1 : decode cX7_init 1 = .ok (.invokespecial 3, 3) := by decide +kernel
theorem dX7_init_4 : decode cX7_init 4 = .ok (.return_, 1) := by decide +kernel
theorem dX7_isKind_0 : decode cX7_isKind 0 = .ok (.iload_n 0, 1) := by decide +kernel
theorem dX7_isKind_1 : decode cX7_isKind 1 = .ok (.ifCond .eq 22, 3) := by decide +kernel
theorem dX7_isKind_4 : decode cX7_isKind 4 = .ok (.iload_n 0, 1) := by decide +kernel
theorem dX7_isKind_5 : decode cX7_isKind 5 = .ok (.iconst 1, 1) := by decide +kernel
theorem dX7_isKind_6 : decode cX7_isKind 6 = .ok (.if_icmp .eq 17, 3) := by decide +kernel
theorem dX7_isKind_9 : decode cX7_isKind 9 = .ok (.iload_n 0, 1) := by decide +kernel
theorem dX7_isKind_10 : decode cX7_isKind 10 = .ok (.iconst 2, 1) := by decide +kernel
theorem dX7_isKind_11 : decode cX7_isKind 11 = .ok (.if_icmp .ne 16, 3) := by decide +kernel
theorem dX7_isKind_14 : decode cX7_isKind 14 = .ok (.iload_n 1, 1) := by decide +kernel
theorem dX7_isKind_15 : decode cX7_isKind 15 = .ok (.iconst 2, 1) := by decide +kernel
theorem dX7_isKind_16 : decode cX7_isKind 16 = .ok (.iconst 5, 1) := by decide +kernel
theorem dX7_isKind_17 : decode cX7_isKind 17 = .ok (.invokestatic 11, 3) := by decide +kernel
theorem dX7_isKind_20 : decode cX7_isKind 20 = .ok (.ifCond .eq 7, 3) := by decide +kernel
theorem dX7_isKind_23 : decode cX7_isKind 23 = .ok (.iconst 1, 1) := by decide +kernel
theorem dX7_isKind_24 : decode cX7_isKind 24 = .ok (.goto 4, 3) := by decide +kernel
theorem dX7_isKind_27 : decode cX7_isKind 27 = .ok (.iconst 0, 1) := by decide +kernel
theorem dX7_isKind_28 : decode cX7_isKind 28 = .ok (.ireturn, 1) := by decide +kernel
theorem dX7_begin_0 : decode cX7_begin 0 = .ok (.aload_n 0, 1) := by decide +kernel
theorem dX7_begin_1 : decode cX7_begin 1 = .ok (.iconst 1, 1) := by decide +kernel
theorem dX7_begin_2 : decode cX7_begin 2 = .ok (.putfield 15, 3) := by decide +kernel
theorem dX7_begin_5 : decode cX7_begin 5 = .ok (.aload_n 0, 1) := by decide +kernel
theorem dX7_begin_6 : decode cX7_begin 6 = .ok (.iload_n 1, 1) := by decide +kernel
theorem dX7_begin_7 : decode cX7_begin 7 = .ok (.putfield 19, 3) := by decide +kernel
theorem dX7_begin_10 : decode cX7_begin 10 = .ok (.aload_n 0, 1) := by decide +kernel
theorem dX7_begin_11 : decode cX7_begin 11 = .ok (.iload_n 1, 1) := by decide +kernel
theorem dX7_begin_12 : decode cX7_begin 12 = .ok (.iconst 2, 1) := by decide +kernel
theorem dX7_begin_13 : decode cX7_begin 13 = .ok (.if_icmp .ne 7, 3) := by decide +kernel
theorem dX7_begin_16 : decode cX7_begin 16 = .ok (.iload_n 2, 1) := by decide +kernel
theorem dX7_begin_17 : decode cX7_begin 17 = .ok (.goto 4, 3) := by decide +kernel
theorem dX7_begin_20 : decode cX7_begin 20 = .ok (.iconst 0, 1) := by decide +kernel
theorem dX7_begin_21 : decode cX7_begin 21 = .ok (.putfield 23, 3) := by decide +kernel
theorem dX7_begin_24 : decode cX7_begin 24 = .ok (.aload_n 0, 1) := by decide +kernel
theorem dX7_begin_25 : decode cX7_begin 25 = .ok (.iload_n 3, 1) := by decide +kernel
theorem dX7_begin_26 : decode cX7_begin 26 = .ok (.putfield 26, 3) := by decide +kernel
theorem dX7_begin_29 : decode cX7_begin 29 = .ok (.return_, 1) := by decide +kernel
theorem dX7_takes_0 : decode cX7_takes 0 = .ok (.aload_n 0, 1) := by decide +kernel
theorem dX7_takes_1 : decode cX7_takes 1 = .ok (.getfield 19, 3) := by decide +kernel
theorem dX7_takes_4 : decode cX7_takes 4 = .ok (.lookupswitch 44 #[(0, 28), (1, 36)], 28) := by decide +kernel
theorem dX7_takes_32 : decode cX7_takes 32 = .ok (.iload_n 1, 1) := by decide +kernel
theorem dX7_takes_33 : decode cX7_takes 33 = .ok (.iconst 0, 1) := by decide +kernel
theorem dX7_takes_34 : decode cX7_takes 34 = .ok (.bipush 7, 2) := by decide +kernel
theorem dX7_takes_36 : decode cX7_takes 36 = .ok (.invokestatic 11, 3) := by decide +kernel
theorem dX7_takes_39 : decode cX7_takes 39 = .ok (.ireturn, 1) := by decide +kernel
theorem dX7_takes_40 : decode cX7_takes 40 = .ok (.iload_n 1, 1) := by decide +kernel
theorem dX7_takes_41 : decode cX7_takes 41 = .ok (.iconst 0, 1) := by decide +kernel
theorem dX7_takes_42 : decode cX7_takes 42 = .ok (.ldc 29, 2) := by decide +kernel
theorem dX7_takes_44 : decode cX7_takes 44 = .ok (.invokestatic 11, 3) := by decide +kernel
theorem dX7_takes_47 : decode cX7_takes 47 = .ok (.ireturn, 1) := by decide +kernel
theorem dX7_takes_48 : decode cX7_takes 48 = .ok (.aload_n 0, 1) := by decide +kernel
theorem dX7_takes_49 : decode cX7_takes 49 = .ok (.iload_n 1, 1) := by decide +kernel
theorem dX7_takes_50 : decode cX7_takes 50 = .ok (.invokevirtual 30, 3) := by decide +kernel
theorem dX7_takes_53 : decode cX7_takes 53 = .ok (.ireturn, 1) := by decide +kernel
theorem dX7_isOrder_0 : decode cX7_isOrder 0 = .ok (.iload_n 1, 1) := by decide +kernel
theorem dX7_isOrder_1 : decode cX7_isOrder 1 = .ok (.ifCond .lt 14, 3) := by decide +kernel
theorem dX7_isOrder_4 : decode cX7_isOrder 4 = .ok (.iload_n 1, 1) := by decide +kernel
theorem dX7_isOrder_5 : decode cX7_isOrder 5 = .ok (.iconst 3, 1) := by decide +kernel
theorem dX7_isOrder_6 : decode cX7_isOrder 6 = .ok (.aload_n 0, 1) := by decide +kernel
theorem dX7_isOrder_7 : decode cX7_isOrder 7 = .ok (.getfield 23, 3) := by decide +kernel
theorem dX7_isOrder_10 : decode cX7_isOrder 10 = .ok (.imul, 1) := by decide +kernel
theorem dX7_isOrder_11 : decode cX7_isOrder 11 = .ok (.ishr, 1) := by decide +kernel
theorem dX7_isOrder_12 : decode cX7_isOrder 12 = .ok (.ifCond .eq 5, 3) := by decide +kernel
theorem dX7_isOrder_15 : decode cX7_isOrder 15 = .ok (.iconst 0, 1) := by decide +kernel
theorem dX7_isOrder_16 : decode cX7_isOrder 16 = .ok (.ireturn, 1) := by decide +kernel
theorem dX7_isOrder_17 : decode cX7_isOrder 17 = .ok (.iconst 0, 1) := by decide +kernel
theorem dX7_isOrder_18 : decode cX7_isOrder 18 = .ok (.istore_n 2, 1) := by decide +kernel
theorem dX7_isOrder_19 : decode cX7_isOrder 19 = .ok (.iconst 0, 1) := by decide +kernel
theorem dX7_isOrder_20 : decode cX7_isOrder 20 = .ok (.istore_n 3, 1) := by decide +kernel
theorem dX7_isOrder_21 : decode cX7_isOrder 21 = .ok (.iload_n 3, 1) := by decide +kernel
theorem dX7_isOrder_22 : decode cX7_isOrder 22 = .ok (.aload_n 0, 1) := by decide +kernel
theorem dX7_isOrder_23 : decode cX7_isOrder 23 = .ok (.getfield 23, 3) := by decide +kernel
theorem dX7_isOrder_26 : decode cX7_isOrder 26 = .ok (.if_icmp .ge 22, 3) := by decide +kernel
theorem dX7_isOrder_29 : decode cX7_isOrder 29 = .ok (.iload_n 2, 1) := by decide +kernel
theorem dX7_isOrder_30 : decode cX7_isOrder 30 = .ok (.iconst 1, 1) := by decide +kernel
theorem dX7_isOrder_31 : decode cX7_isOrder 31 = .ok (.iload_n 1, 1) := by decide +kernel
theorem dX7_isOrder_32 : decode cX7_isOrder 32 = .ok (.iconst 3, 1) := by decide +kernel
theorem dX7_isOrder_33 : decode cX7_isOrder 33 = .ok (.iload_n 3, 1) := by decide +kernel
theorem dX7_isOrder_34 : decode cX7_isOrder 34 = .ok (.imul, 1) := by decide +kernel
theorem dX7_isOrder_35 : decode cX7_isOrder 35 = .ok (.ishr, 1) := by decide +kernel
theorem dX7_isOrder_36 : decode cX7_isOrder 36 = .ok (.bipush 7, 2) := by decide +kernel
theorem dX7_isOrder_38 : decode cX7_isOrder 38 = .ok (.iand, 1) := by decide +kernel
theorem dX7_isOrder_39 : decode cX7_isOrder 39 = .ok (.ishl, 1) := by decide +kernel
theorem dX7_isOrder_40 : decode cX7_isOrder 40 = .ok (.ior, 1) := by decide +kernel
theorem dX7_isOrder_41 : decode cX7_isOrder 41 = .ok (.istore_n 2, 1) := by decide +kernel
theorem dX7_isOrder_42 : decode cX7_isOrder 42 = .ok (.iinc 3 1, 3) := by decide +kernel
theorem dX7_isOrder_45 : decode cX7_isOrder 45 = .ok (.goto (-24), 3) := by decide +kernel
theorem dX7_isOrder_48 : decode cX7_isOrder 48 = .ok (.iload_n 2, 1) := by decide +kernel
theorem dX7_isOrder_49 : decode cX7_isOrder 49 = .ok (.iconst 1, 1) := by decide +kernel
theorem dX7_isOrder_50 : decode cX7_isOrder 50 = .ok (.aload_n 0, 1) := by decide +kernel
theorem dX7_isOrder_51 : decode cX7_isOrder 51 = .ok (.getfield 23, 3) := by decide +kernel
theorem dX7_isOrder_54 : decode cX7_isOrder 54 = .ok (.ishl, 1) := by decide +kernel
theorem dX7_isOrder_55 : decode cX7_isOrder 55 = .ok (.iconst 1, 1) := by decide +kernel
theorem dX7_isOrder_56 : decode cX7_isOrder 56 = .ok (.isub, 1) := by decide +kernel
theorem dX7_isOrder_57 : decode cX7_isOrder 57 = .ok (.if_icmp .ne 7, 3) := by decide +kernel
theorem dX7_isOrder_60 : decode cX7_isOrder 60 = .ok (.iconst 1, 1) := by decide +kernel
theorem dX7_isOrder_61 : decode cX7_isOrder 61 = .ok (.goto 4, 3) := by decide +kernel
theorem dX7_isOrder_64 : decode cX7_isOrder 64 = .ok (.iconst 0, 1) := by decide +kernel
theorem dX7_isOrder_65 : decode cX7_isOrder 65 = .ok (.ireturn, 1) := by decide +kernel
theorem dX8_init_0 : decode cX8_init 0 = .ok (.aload_n 0, 1) := by decide +kernel
theorem dX8_init_1 : decode cX8_init 1 = .ok (.invokespecial 1, 3) := by decide +kernel
theorem dX8_init_4 : decode cX8_init 4 = .ok (.return_, 1) := by decide +kernel
theorem dX8_lay_0 : decode cX8_lay 0 = .ok (.aload_n 0, 1) := by decide +kernel
theorem dX8_lay_1 : decode cX8_lay 1 = .ok (.iload_n 1, 1) := by decide +kernel
theorem dX8_lay_2 : decode cX8_lay 2 = .ok (.putfield 7, 3) := by decide +kernel
theorem dX8_lay_5 : decode cX8_lay 5 = .ok (.aload_n 0, 1) := by decide +kernel
theorem dX8_lay_6 : decode cX8_lay 6 = .ok (.iload_n 2, 1) := by decide +kernel
theorem dX8_lay_7 : decode cX8_lay 7 = .ok (.putfield 13, 3) := by decide +kernel
theorem dX8_lay_10 : decode cX8_lay 10 = .ok (.aload_n 0, 1) := by decide +kernel
theorem dX8_lay_11 : decode cX8_lay 11 = .ok (.iconst 0, 1) := by decide +kernel
theorem dX8_lay_12 : decode cX8_lay 12 = .ok (.putfield 16, 3) := by decide +kernel
theorem dX8_lay_15 : decode cX8_lay 15 = .ok (.return_, 1) := by decide +kernel
theorem dX8_losesNext_0 : decode cX8_losesNext 0 = .ok (.aload_n 0, 1) := by decide +kernel
theorem dX8_losesNext_1 : decode cX8_losesNext 1 = .ok (.getfield 7, 3) := by decide +kernel
theorem dX8_losesNext_4 : decode cX8_losesNext 4 = .ok (.aload_n 0, 1) := by decide +kernel
theorem dX8_losesNext_5 : decode cX8_losesNext 5 = .ok (.getfield 16, 3) := by decide +kernel
theorem dX8_losesNext_8 : decode cX8_losesNext 8 = .ok (.ishr, 1) := by decide +kernel
theorem dX8_losesNext_9 : decode cX8_losesNext 9 = .ok (.iconst 1, 1) := by decide +kernel
theorem dX8_losesNext_10 : decode cX8_losesNext 10 = .ok (.iand, 1) := by decide +kernel
theorem dX8_losesNext_11 : decode cX8_losesNext 11 = .ok (.iconst 1, 1) := by decide +kernel
theorem dX8_losesNext_12 : decode cX8_losesNext 12 = .ok (.if_icmp .ne 7, 3) := by decide +kernel
theorem dX8_losesNext_15 : decode cX8_losesNext 15 = .ok (.iconst 1, 1) := by decide +kernel
theorem dX8_losesNext_16 : decode cX8_losesNext 16 = .ok (.goto 4, 3) := by decide +kernel
theorem dX8_losesNext_19 : decode cX8_losesNext 19 = .ok (.iconst 0, 1) := by decide +kernel
theorem dX8_losesNext_20 : decode cX8_losesNext 20 = .ok (.istore_n 1, 1) := by decide +kernel
theorem dX8_losesNext_21 : decode cX8_losesNext 21 = .ok (.aload_n 0, 1) := by decide +kernel
theorem dX8_losesNext_22 : decode cX8_losesNext 22 = .ok (.aload_n 0, 1) := by decide +kernel
theorem dX8_losesNext_23 : decode cX8_losesNext 23 = .ok (.getfield 16, 3) := by decide +kernel
theorem dX8_losesNext_26 : decode cX8_losesNext 26 = .ok (.iconst 1, 1) := by decide +kernel
theorem dX8_losesNext_27 : decode cX8_losesNext 27 = .ok (.iadd, 1) := by decide +kernel
theorem dX8_losesNext_28 : decode cX8_losesNext 28 = .ok (.bipush 15, 2) := by decide +kernel
theorem dX8_losesNext_30 : decode cX8_losesNext 30 = .ok (.iand, 1) := by decide +kernel
theorem dX8_losesNext_31 : decode cX8_losesNext 31 = .ok (.putfield 16, 3) := by decide +kernel
theorem dX8_losesNext_34 : decode cX8_losesNext 34 = .ok (.iload_n 1, 1) := by decide +kernel
theorem dX8_losesNext_35 : decode cX8_losesNext 35 = .ok (.ireturn, 1) := by decide +kernel
theorem dX9_init_0 : decode cX9_init 0 = .ok (.aload_n 0, 1) := by decide +kernel
theorem dX9_init_1 : decode cX9_init 1 = .ok (.invokespecial 1, 3) := by decide +kernel
theorem dX9_init_4 : decode cX9_init 4 = .ok (.aload_n 0, 1) := by decide +kernel
theorem dX9_init_5 : decode cX9_init 5 = .ok (.bipush 16, 2) := by decide +kernel
theorem dX9_init_7 : decode cX9_init 7 = .ok (.anewarray 9, 3) := by decide +kernel
theorem dX9_init_10 : decode cX9_init 10 = .ok (.putfield 11, 3) := by decide +kernel
theorem dX9_init_13 : decode cX9_init 13 = .ok (.aload_n 0, 1) := by decide +kernel
theorem dX9_init_14 : decode cX9_init 14 = .ok (.new 15, 3) := by decide +kernel
theorem dX9_init_17 : decode cX9_init 17 = .ok (.dup, 1) := by decide +kernel
theorem dX9_init_18 : decode cX9_init 18 = .ok (.invokespecial 17, 3) := by decide +kernel
theorem dX9_init_21 : decode cX9_init 21 = .ok (.putfield 18, 3) := by decide +kernel
theorem dX9_init_24 : decode cX9_init 24 = .ok (.aload_n 0, 1) := by decide +kernel
theorem dX9_init_25 : decode cX9_init 25 = .ok (.new 22, 3) := by decide +kernel
theorem dX9_init_28 : decode cX9_init 28 = .ok (.dup, 1) := by decide +kernel
theorem dX9_init_29 : decode cX9_init 29 = .ok (.invokespecial 24, 3) := by decide +kernel
theorem dX9_init_32 : decode cX9_init 32 = .ok (.putfield 25, 3) := by decide +kernel
theorem dX9_init_35 : decode cX9_init 35 = .ok (.aload_n 0, 1) := by decide +kernel
theorem dX9_init_36 : decode cX9_init 36 = .ok (.new 29, 3) := by decide +kernel
theorem dX9_init_39 : decode cX9_init 39 = .ok (.dup, 1) := by decide +kernel
theorem dX9_init_40 : decode cX9_init 40 = .ok (.invokespecial 31, 3) := by decide +kernel
theorem dX9_init_43 : decode cX9_init 43 = .ok (.putfield 32, 3) := by decide +kernel
theorem dX9_init_46 : decode cX9_init 46 = .ok (.aload_n 0, 1) := by decide +kernel
theorem dX9_init_47 : decode cX9_init 47 = .ok (.new 36, 3) := by decide +kernel
theorem dX9_init_50 : decode cX9_init 50 = .ok (.dup, 1) := by decide +kernel
theorem dX9_init_51 : decode cX9_init 51 = .ok (.invokespecial 38, 3) := by decide +kernel
theorem dX9_init_54 : decode cX9_init 54 = .ok (.putfield 39, 3) := by decide +kernel
theorem dX9_init_57 : decode cX9_init 57 = .ok (.aload_n 0, 1) := by decide +kernel
theorem dX9_init_58 : decode cX9_init 58 = .ok (.new 43, 3) := by decide +kernel
theorem dX9_init_61 : decode cX9_init 61 = .ok (.dup, 1) := by decide +kernel
theorem dX9_init_62 : decode cX9_init 62 = .ok (.invokespecial 45, 3) := by decide +kernel
theorem dX9_init_65 : decode cX9_init 65 = .ok (.putfield 46, 3) := by decide +kernel
theorem dX9_init_68 : decode cX9_init 68 = .ok (.aload_n 0, 1) := by decide +kernel
theorem dX9_init_69 : decode cX9_init 69 = .ok (.new 50, 3) := by decide +kernel
theorem dX9_init_72 : decode cX9_init 72 = .ok (.dup, 1) := by decide +kernel
theorem dX9_init_73 : decode cX9_init 73 = .ok (.invokespecial 52, 3) := by decide +kernel
theorem dX9_init_76 : decode cX9_init 76 = .ok (.putfield 53, 3) := by decide +kernel
theorem dX9_init_79 : decode cX9_init 79 = .ok (.iconst 0, 1) := by decide +kernel
theorem dX9_init_80 : decode cX9_init 80 = .ok (.istore_n 1, 1) := by decide +kernel
theorem dX9_init_81 : decode cX9_init 81 = .ok (.iload_n 1, 1) := by decide +kernel
theorem dX9_init_82 : decode cX9_init 82 = .ok (.bipush 16, 2) := by decide +kernel
theorem dX9_init_84 : decode cX9_init 84 = .ok (.if_icmp .ge 22, 3) := by decide +kernel
theorem dX9_init_87 : decode cX9_init 87 = .ok (.aload_n 0, 1) := by decide +kernel
theorem dX9_init_88 : decode cX9_init 88 = .ok (.getfield 11, 3) := by decide +kernel
theorem dX9_init_91 : decode cX9_init 91 = .ok (.iload_n 1, 1) := by decide +kernel
theorem dX9_init_92 : decode cX9_init 92 = .ok (.new 9, 3) := by decide +kernel
theorem dX9_init_95 : decode cX9_init 95 = .ok (.dup, 1) := by decide +kernel
theorem dX9_init_96 : decode cX9_init 96 = .ok (.invokespecial 57, 3) := by decide +kernel
theorem dX9_init_99 : decode cX9_init 99 = .ok (.aastore, 1) := by decide +kernel
theorem dX9_init_100 : decode cX9_init 100 = .ok (.iinc 1 1, 3) := by decide +kernel
theorem dX9_init_103 : decode cX9_init 103 = .ok (.goto (-22), 3) := by decide +kernel
theorem dX9_init_106 : decode cX9_init 106 = .ok (.return_, 1) := by decide +kernel
theorem dX9_box_0 : decode cX9_box 0 = .ok (.aload_n 0, 1) := by decide +kernel
theorem dX9_box_1 : decode cX9_box 1 = .ok (.getfield 18, 3) := by decide +kernel
theorem dX9_box_4 : decode cX9_box 4 = .ok (.getfield 58, 3) := by decide +kernel
theorem dX9_box_7 : decode cX9_box 7 = .ok (.ifCond .eq 6, 3) := by decide +kernel
theorem dX9_box_10 : decode cX9_box 10 = .ok (.bipush (-2), 2) := by decide +kernel
theorem dX9_box_12 : decode cX9_box 12 = .ok (.ireturn, 1) := by decide +kernel
theorem dX9_box_13 : decode cX9_box 13 = .ok (.aload_n 0, 1) := by decide +kernel
theorem dX9_box_14 : decode cX9_box 14 = .ok (.getfield 62, 3) := by decide +kernel
theorem dX9_box_17 : decode cX9_box 17 = .ok (.bipush 16, 2) := by decide +kernel
theorem dX9_box_19 : decode cX9_box 19 = .ok (.if_icmp .lt 6, 3) := by decide +kernel
theorem dX9_box_22 : decode cX9_box 22 = .ok (.bipush (-3), 2) := by decide +kernel
theorem dX9_box_24 : decode cX9_box 24 = .ok (.ireturn, 1) := by decide +kernel
theorem dX9_box_25 : decode cX9_box 25 = .ok (.aload_n 0, 1) := by decide +kernel
theorem dX9_box_26 : decode cX9_box 26 = .ok (.dup, 1) := by decide +kernel
theorem dX9_box_27 : decode cX9_box 27 = .ok (.getfield 62, 3) := by decide +kernel
theorem dX9_box_30 : decode cX9_box 30 = .ok (.iconst 1, 1) := by decide +kernel
theorem dX9_box_31 : decode cX9_box 31 = .ok (.iadd, 1) := by decide +kernel
theorem dX9_box_32 : decode cX9_box 32 = .ok (.putfield 62, 3) := by decide +kernel
theorem dX9_box_35 : decode cX9_box 35 = .ok (.aload_n 0, 1) := by decide +kernel
theorem dX9_box_36 : decode cX9_box 36 = .ok (.getfield 62, 3) := by decide +kernel
theorem dX9_box_39 : decode cX9_box 39 = .ok (.iconst 1, 1) := by decide +kernel
theorem dX9_box_40 : decode cX9_box 40 = .ok (.isub, 1) := by decide +kernel
theorem dX9_box_41 : decode cX9_box 41 = .ok (.ireturn, 1) := by decide +kernel
theorem dX9_road_0 : decode cX9_road 0 = .ok (.aload_n 0, 1) := by decide +kernel
theorem dX9_road_1 : decode cX9_road 1 = .ok (.iload_n 1, 1) := by decide +kernel
theorem dX9_road_2 : decode cX9_road 2 = .ok (.invokevirtual 66, 3) := by decide +kernel
theorem dX9_road_5 : decode cX9_road 5 = .ok (.ifCond .eq 31, 3) := by decide +kernel
theorem dX9_road_8 : decode cX9_road 8 = .ok (.iload_n 2, 1) := by decide +kernel
theorem dX9_road_9 : decode cX9_road 9 = .ok (.invokestatic 70, 3) := by decide +kernel
theorem dX9_road_12 : decode cX9_road 12 = .ok (.ifCond .eq 24, 3) := by decide +kernel
theorem dX9_road_15 : decode cX9_road 15 = .ok (.iload_n 3, 1) := by decide +kernel
theorem dX9_road_16 : decode cX9_road 16 = .ok (.iconst 0, 1) := by decide +kernel
theorem dX9_road_17 : decode cX9_road 17 = .ok (.ldc 75, 2) := by decide +kernel
theorem dX9_road_19 : decode cX9_road 19 = .ok (.invokestatic 76, 3) := by decide +kernel
theorem dX9_road_22 : decode cX9_road 22 = .ok (.ifCond .eq 14, 3) := by decide +kernel
theorem dX9_road_25 : decode cX9_road 25 = .ok (.iload 4, 2) := by decide +kernel
theorem dX9_road_27 : decode cX9_road 27 = .ok (.iconst 0, 1) := by decide +kernel
theorem dX9_road_28 : decode cX9_road 28 = .ok (.bipush 9, 2) := by decide +kernel
theorem dX9_road_30 : decode cX9_road 30 = .ok (.invokestatic 76, 3) := by decide +kernel
theorem dX9_road_33 : decode cX9_road 33 = .ok (.ifCond .ne 5, 3) := by decide +kernel
theorem dX9_road_36 : decode cX9_road 36 = .ok (.iconst (-1), 1) := by decide +kernel
theorem dX9_road_37 : decode cX9_road 37 = .ok (.ireturn, 1) := by decide +kernel
theorem dX9_road_38 : decode cX9_road 38 = .ok (.aload_n 0, 1) := by decide +kernel
theorem dX9_road_39 : decode cX9_road 39 = .ok (.getfield 11, 3) := by decide +kernel
theorem dX9_road_42 : decode cX9_road 42 = .ok (.iload_n 1, 1) := by decide +kernel
theorem dX9_road_43 : decode cX9_road 43 = .ok (.aaload, 1) := by decide +kernel
theorem dX9_road_44 : decode cX9_road 44 = .ok (.getfield 80, 3) := by decide +kernel
theorem dX9_road_47 : decode cX9_road 47 = .ok (.iload_n 2, 1) := by decide +kernel
theorem dX9_road_48 : decode cX9_road 48 = .ok (.aaload, 1) := by decide +kernel
theorem dX9_road_49 : decode cX9_road 49 = .ok (.iload_n 3, 1) := by decide +kernel
theorem dX9_road_50 : decode cX9_road 50 = .ok (.iload 4, 2) := by decide +kernel
theorem dX9_road_52 : decode cX9_road 52 = .ok (.invokevirtual 84, 3) := by decide +kernel
theorem dX9_road_55 : decode cX9_road 55 = .ok (.iconst 0, 1) := by decide +kernel
theorem dX9_road_56 : decode cX9_road 56 = .ok (.ireturn, 1) := by decide +kernel
theorem dX9_rule_0 : decode cX9_rule 0 = .ok (.iload_n 1, 1) := by decide +kernel
theorem dX9_rule_1 : decode cX9_rule 1 = .ok (.ifCond .ne 24, 3) := by decide +kernel
theorem dX9_rule_4 : decode cX9_rule 4 = .ok (.iload_n 2, 1) := by decide +kernel
theorem dX9_rule_5 : decode cX9_rule 5 = .ok (.iconst 0, 1) := by decide +kernel
theorem dX9_rule_6 : decode cX9_rule 6 = .ok (.iconst 1, 1) := by decide +kernel
theorem dX9_rule_7 : decode cX9_rule 7 = .ok (.invokestatic 76, 3) := by decide +kernel
theorem dX9_rule_10 : decode cX9_rule 10 = .ok (.ifCond .eq 15, 3) := by decide +kernel
theorem dX9_rule_13 : decode cX9_rule 13 = .ok (.aload_n 0, 1) := by decide +kernel
theorem dX9_rule_14 : decode cX9_rule 14 = .ok (.getfield 88, 3) := by decide +kernel
theorem dX9_rule_17 : decode cX9_rule 17 = .ok (.istore_n 3, 1) := by decide +kernel
theorem dX9_rule_18 : decode cX9_rule 18 = .ok (.aload_n 0, 1) := by decide +kernel
theorem dX9_rule_19 : decode cX9_rule 19 = .ok (.iload_n 2, 1) := by decide +kernel
theorem dX9_rule_20 : decode cX9_rule 20 = .ok (.putfield 88, 3) := by decide +kernel
theorem dX9_rule_23 : decode cX9_rule 23 = .ok (.iload_n 3, 1) := by decide +kernel
theorem dX9_rule_24 : decode cX9_rule 24 = .ok (.ireturn, 1) := by decide +kernel
theorem dX9_rule_25 : decode cX9_rule 25 = .ok (.iload_n 1, 1) := by decide +kernel
theorem dX9_rule_26 : decode cX9_rule 26 = .ok (.iconst 1, 1) := by decide +kernel
theorem dX9_rule_27 : decode cX9_rule 27 = .ok (.if_icmp .ne 25, 3) := by decide +kernel
theorem dX9_rule_30 : decode cX9_rule 30 = .ok (.iload_n 2, 1) := by decide +kernel
theorem dX9_rule_31 : decode cX9_rule 31 = .ok (.iconst 0, 1) := by decide +kernel
theorem dX9_rule_32 : decode cX9_rule 32 = .ok (.bipush 16, 2) := by decide +kernel
theorem dX9_rule_34 : decode cX9_rule 34 = .ok (.invokestatic 76, 3) := by decide +kernel
theorem dX9_rule_37 : decode cX9_rule 37 = .ok (.ifCond .eq 15, 3) := by decide +kernel
theorem dX9_rule_40 : decode cX9_rule 40 = .ok (.aload_n 0, 1) := by decide +kernel
theorem dX9_rule_41 : decode cX9_rule 41 = .ok (.getfield 91, 3) := by decide +kernel
theorem dX9_rule_44 : decode cX9_rule 44 = .ok (.istore_n 3, 1) := by decide +kernel
theorem dX9_rule_45 : decode cX9_rule 45 = .ok (.aload_n 0, 1) := by decide +kernel
theorem dX9_rule_46 : decode cX9_rule 46 = .ok (.iload_n 2, 1) := by decide +kernel
theorem dX9_rule_47 : decode cX9_rule 47 = .ok (.putfield 91, 3) := by decide +kernel
theorem dX9_rule_50 : decode cX9_rule 50 = .ok (.iload_n 3, 1) := by decide +kernel
theorem dX9_rule_51 : decode cX9_rule 51 = .ok (.ireturn, 1) := by decide +kernel
theorem dX9_rule_52 : decode cX9_rule 52 = .ok (.iconst (-1), 1) := by decide +kernel
theorem dX9_rule_53 : decode cX9_rule 53 = .ok (.ireturn, 1) := by decide +kernel
theorem dX9_ask_0 : decode cX9_ask 0 = .ok (.iload_n 1, 1) := by decide +kernel
theorem dX9_ask_1 : decode cX9_ask 1 = .ok (.iload_n 2, 1) := by decide +kernel
theorem dX9_ask_2 : decode cX9_ask 2 = .ok (.invokestatic 94, 3) := by decide +kernel
theorem dX9_ask_5 : decode cX9_ask 5 = .ok (.ifCond .eq 17, 3) := by decide +kernel
theorem dX9_ask_8 : decode cX9_ask 8 = .ok (.iload_n 3, 1) := by decide +kernel
theorem dX9_ask_9 : decode cX9_ask 9 = .ok (.aload_n 0, 1) := by decide +kernel
theorem dX9_ask_10 : decode cX9_ask 10 = .ok (.getfield 98, 3) := by decide +kernel
theorem dX9_ask_13 : decode cX9_ask 13 = .ok (.if_icmp .le 9, 3) := by decide +kernel
theorem dX9_ask_16 : decode cX9_ask 16 = .ok (.iload_n 3, 1) := by decide +kernel
theorem dX9_ask_17 : decode cX9_ask 17 = .ok (.ldc 101, 2) := by decide +kernel
theorem dX9_ask_19 : decode cX9_ask 19 = .ok (.if_icmp .le 5, 3) := by decide +kernel
theorem dX9_ask_22 : decode cX9_ask 22 = .ok (.iconst (-1), 1) := by decide +kernel
theorem dX9_ask_23 : decode cX9_ask 23 = .ok (.ireturn, 1) := by decide +kernel
theorem dX9_ask_24 : decode cX9_ask 24 = .ok (.aload_n 0, 1) := by decide +kernel
theorem dX9_ask_25 : decode cX9_ask 25 = .ok (.getfield 18, 3) := by decide +kernel
theorem dX9_ask_28 : decode cX9_ask 28 = .ok (.getfield 58, 3) := by decide +kernel
theorem dX9_ask_31 : decode cX9_ask 31 = .ok (.ifCond .eq 6, 3) := by decide +kernel
theorem dX9_ask_34 : decode cX9_ask 34 = .ok (.bipush (-2), 2) := by decide +kernel
theorem dX9_ask_36 : decode cX9_ask 36 = .ok (.ireturn, 1) := by decide +kernel
theorem dX9_ask_37 : decode cX9_ask 37 = .ok (.aload_n 0, 1) := by decide +kernel
theorem dX9_ask_38 : decode cX9_ask 38 = .ok (.getfield 18, 3) := by decide +kernel
theorem dX9_ask_41 : decode cX9_ask 41 = .ok (.iload_n 1, 1) := by decide +kernel
theorem dX9_ask_42 : decode cX9_ask 42 = .ok (.iload_n 2, 1) := by decide +kernel
theorem dX9_ask_43 : decode cX9_ask 43 = .ok (.iload_n 3, 1) := by decide +kernel
theorem dX9_ask_44 : decode cX9_ask 44 = .ok (.invokevirtual 102, 3) := by decide +kernel
theorem dX9_ask_47 : decode cX9_ask 47 = .ok (.iconst 0, 1) := by decide +kernel
theorem dX9_ask_48 : decode cX9_ask 48 = .ok (.istore 4, 2) := by decide +kernel
theorem dX9_ask_50 : decode cX9_ask 50 = .ok (.iload 4, 2) := by decide +kernel
theorem dX9_ask_52 : decode cX9_ask 52 = .ok (.aload_n 0, 1) := by decide +kernel
theorem dX9_ask_53 : decode cX9_ask 53 = .ok (.getfield 62, 3) := by decide +kernel
theorem dX9_ask_56 : decode cX9_ask 56 = .ok (.if_icmp .ge 19, 3) := by decide +kernel
theorem dX9_ask_59 : decode cX9_ask 59 = .ok (.aload_n 0, 1) := by decide +kernel
theorem dX9_ask_60 : decode cX9_ask 60 = .ok (.getfield 11, 3) := by decide +kernel
theorem dX9_ask_63 : decode cX9_ask 63 = .ok (.iload 4, 2) := by decide +kernel
theorem dX9_ask_65 : decode cX9_ask 65 = .ok (.aaload, 1) := by decide +kernel
theorem dX9_ask_66 : decode cX9_ask 66 = .ok (.invokevirtual 106, 3) := by decide +kernel
theorem dX9_ask_69 : decode cX9_ask 69 = .ok (.iinc 4 1, 3) := by decide +kernel
theorem dX9_ask_72 : decode cX9_ask 72 = .ok (.goto (-22), 3) := by decide +kernel
theorem dX9_ask_75 : decode cX9_ask 75 = .ok (.iconst 0, 1) := by decide +kernel
theorem dX9_ask_76 : decode cX9_ask 76 = .ok (.ireturn, 1) := by decide +kernel
theorem dX9_send_0 : decode cX9_send 0 = .ok (.aload_n 0, 1) := by decide +kernel
theorem dX9_send_1 : decode cX9_send 1 = .ok (.iload_n 1, 1) := by decide +kernel
theorem dX9_send_2 : decode cX9_send 2 = .ok (.invokevirtual 66, 3) := by decide +kernel
theorem dX9_send_5 : decode cX9_send 5 = .ok (.ifCond .ne 5, 3) := by decide +kernel
theorem dX9_send_8 : decode cX9_send 8 = .ok (.iconst (-1), 1) := by decide +kernel
theorem dX9_send_9 : decode cX9_send 9 = .ok (.ireturn, 1) := by decide +kernel
theorem dX9_send_10 : decode cX9_send 10 = .ok (.aload_n 0, 1) := by decide +kernel
theorem dX9_send_11 : decode cX9_send 11 = .ok (.getfield 18, 3) := by decide +kernel
theorem dX9_send_14 : decode cX9_send 14 = .ok (.getfield 58, 3) := by decide +kernel
theorem dX9_send_17 : decode cX9_send 17 = .ok (.ifCond .ne 6, 3) := by decide +kernel
theorem dX9_send_20 : decode cX9_send 20 = .ok (.bipush (-2), 2) := by decide +kernel
theorem dX9_send_22 : decode cX9_send 22 = .ok (.ireturn, 1) := by decide +kernel
theorem dX9_send_23 : decode cX9_send 23 = .ok (.aload_n 0, 1) := by decide +kernel
theorem dX9_send_24 : decode cX9_send 24 = .ok (.getfield 18, 3) := by decide +kernel
theorem dX9_send_27 : decode cX9_send 27 = .ok (.iload_n 2, 1) := by decide +kernel
theorem dX9_send_28 : decode cX9_send 28 = .ok (.invokevirtual 109, 3) := by decide +kernel
theorem dX9_send_31 : decode cX9_send 31 = .ok (.ifCond .ne 5, 3) := by decide +kernel
theorem dX9_send_34 : decode cX9_send 34 = .ok (.iconst (-1), 1) := by decide +kernel
theorem dX9_send_35 : decode cX9_send 35 = .ok (.ireturn, 1) := by decide +kernel
theorem dX9_send_36 : decode cX9_send 36 = .ok (.aload_n 0, 1) := by decide +kernel
theorem dX9_send_37 : decode cX9_send 37 = .ok (.getfield 11, 3) := by decide +kernel
theorem dX9_send_40 : decode cX9_send 40 = .ok (.iload_n 1, 1) := by decide +kernel
theorem dX9_send_41 : decode cX9_send 41 = .ok (.aaload, 1) := by decide +kernel
theorem dX9_send_42 : decode cX9_send 42 = .ok (.iload_n 2, 1) := by decide +kernel
theorem dX9_send_43 : decode cX9_send 43 = .ok (.aload_n 0, 1) := by decide +kernel
theorem dX9_send_44 : decode cX9_send 44 = .ok (.getfield 98, 3) := by decide +kernel
theorem dX9_send_47 : decode cX9_send 47 = .ok (.invokevirtual 112, 3) := by decide +kernel
theorem dX9_send_50 : decode cX9_send 50 = .ok (.ireturn, 1) := by decide +kernel
theorem dX9_ticks_0 : decode cX9_ticks 0 = .ok (.iload_n 1, 1) := by decide +kernel
theorem dX9_ticks_1 : decode cX9_ticks 1 = .ok (.iconst 1, 1) := by decide +kernel
theorem dX9_ticks_2 : decode cX9_ticks 2 = .ok (.sipush 200, 3) := by decide +kernel
theorem dX9_ticks_5 : decode cX9_ticks 5 = .ok (.invokestatic 76, 3) := by decide +kernel
theorem dX9_ticks_8 : decode cX9_ticks 8 = .ok (.ifCond .ne 5, 3) := by decide +kernel
theorem dX9_ticks_11 : decode cX9_ticks 11 = .ok (.iconst (-1), 1) := by decide +kernel
theorem dX9_ticks_12 : decode cX9_ticks 12 = .ok (.ireturn, 1) := by decide +kernel
theorem dX9_ticks_13 : decode cX9_ticks 13 = .ok (.aload_n 0, 1) := by decide +kernel
theorem dX9_ticks_14 : decode cX9_ticks 14 = .ok (.getfield 98, 3) := by decide +kernel
theorem dX9_ticks_17 : decode cX9_ticks 17 = .ok (.iload_n 1, 1) := by decide +kernel
theorem dX9_ticks_18 : decode cX9_ticks 18 = .ok (.iadd, 1) := by decide +kernel
theorem dX9_ticks_19 : decode cX9_ticks 19 = .ok (.ldc 101, 2) := by decide +kernel
theorem dX9_ticks_21 : decode cX9_ticks 21 = .ok (.if_icmp .le 6, 3) := by decide +kernel
theorem dX9_ticks_24 : decode cX9_ticks 24 = .ok (.bipush (-3), 2) := by decide +kernel
theorem dX9_ticks_26 : decode cX9_ticks 26 = .ok (.ireturn, 1) := by decide +kernel
theorem dX9_ticks_27 : decode cX9_ticks 27 = .ok (.aload_n 0, 1) := by decide +kernel
theorem dX9_ticks_28 : decode cX9_ticks 28 = .ok (.getfield 98, 3) := by decide +kernel
theorem dX9_ticks_31 : decode cX9_ticks 31 = .ok (.iload_n 1, 1) := by decide +kernel
theorem dX9_ticks_32 : decode cX9_ticks 32 = .ok (.iadd, 1) := by decide +kernel
theorem dX9_ticks_33 : decode cX9_ticks 33 = .ok (.istore_n 2, 1) := by decide +kernel
theorem dX9_ticks_34 : decode cX9_ticks 34 = .ok (.iconst 0, 1) := by decide +kernel
theorem dX9_ticks_35 : decode cX9_ticks 35 = .ok (.istore_n 3, 1) := by decide +kernel
theorem dX9_ticks_36 : decode cX9_ticks 36 = .ok (.iload_n 3, 1) := by decide +kernel
theorem dX9_ticks_37 : decode cX9_ticks 37 = .ok (.iload_n 1, 1) := by decide +kernel
theorem dX9_ticks_38 : decode cX9_ticks 38 = .ok (.if_icmp .ge 20, 3) := by decide +kernel
theorem dX9_ticks_41 : decode cX9_ticks 41 = .ok (.aload_n 0, 1) := by decide +kernel
theorem dX9_ticks_42 : decode cX9_ticks 42 = .ok (.invokevirtual 116, 3) := by decide +kernel
theorem dX9_ticks_45 : decode cX9_ticks 45 = .ok (.ifCond .ne 13, 3) := by decide +kernel
theorem dX9_ticks_48 : decode cX9_ticks 48 = .ok (.aload_n 0, 1) := by decide +kernel
theorem dX9_ticks_49 : decode cX9_ticks 49 = .ok (.invokevirtual 120, 3) := by decide +kernel
theorem dX9_ticks_52 : decode cX9_ticks 52 = .ok (.iinc 3 1, 3) := by decide +kernel
theorem dX9_ticks_55 : decode cX9_ticks 55 = .ok (.goto (-19), 3) := by decide +kernel
theorem dX9_ticks_58 : decode cX9_ticks 58 = .ok (.aload_n 0, 1) := by decide +kernel
theorem dX9_ticks_59 : decode cX9_ticks 59 = .ok (.iload_n 2, 1) := by decide +kernel
theorem dX9_ticks_60 : decode cX9_ticks 60 = .ok (.putfield 98, 3) := by decide +kernel
theorem dX9_ticks_63 : decode cX9_ticks 63 = .ok (.aload_n 0, 1) := by decide +kernel
theorem dX9_ticks_64 : decode cX9_ticks 64 = .ok (.getfield 98, 3) := by decide +kernel
theorem dX9_ticks_67 : decode cX9_ticks 67 = .ok (.ireturn, 1) := by decide +kernel
theorem dX9_isQuiet_0 : decode cX9_isQuiet 0 = .ok (.aload_n 0, 1) := by decide +kernel
theorem dX9_isQuiet_1 : decode cX9_isQuiet 1 = .ok (.getfield 25, 3) := by decide +kernel
theorem dX9_isQuiet_4 : decode cX9_isQuiet 4 = .ok (.getfield 123, 3) := by decide +kernel
theorem dX9_isQuiet_7 : decode cX9_isQuiet 7 = .ok (.ifCond .le 5, 3) := by decide +kernel
theorem dX9_isQuiet_10 : decode cX9_isQuiet 10 = .ok (.iconst 0, 1) := by decide +kernel
theorem dX9_isQuiet_11 : decode cX9_isQuiet 11 = .ok (.ireturn, 1) := by decide +kernel
theorem dX9_isQuiet_12 : decode cX9_isQuiet 12 = .ok (.iconst 0, 1) := by decide +kernel
theorem dX9_isQuiet_13 : decode cX9_isQuiet 13 = .ok (.istore_n 1, 1) := by decide +kernel
theorem dX9_isQuiet_14 : decode cX9_isQuiet 14 = .ok (.iload_n 1, 1) := by decide +kernel
theorem dX9_isQuiet_15 : decode cX9_isQuiet 15 = .ok (.aload_n 0, 1) := by decide +kernel
theorem dX9_isQuiet_16 : decode cX9_isQuiet 16 = .ok (.getfield 62, 3) := by decide +kernel
theorem dX9_isQuiet_19 : decode cX9_isQuiet 19 = .ok (.if_icmp .ge 24, 3) := by decide +kernel
theorem dX9_isQuiet_22 : decode cX9_isQuiet 22 = .ok (.aload_n 0, 1) := by decide +kernel
theorem dX9_isQuiet_23 : decode cX9_isQuiet 23 = .ok (.aload_n 0, 1) := by decide +kernel
theorem dX9_isQuiet_24 : decode cX9_isQuiet 24 = .ok (.getfield 11, 3) := by decide +kernel
theorem dX9_isQuiet_27 : decode cX9_isQuiet 27 = .ok (.iload_n 1, 1) := by decide +kernel
theorem dX9_isQuiet_28 : decode cX9_isQuiet 28 = .ok (.aaload, 1) := by decide +kernel
theorem dX9_isQuiet_29 : decode cX9_isQuiet 29 = .ok (.invokevirtual 126, 3) := by decide +kernel
theorem dX9_isQuiet_32 : decode cX9_isQuiet 32 = .ok (.ifCond .eq 5, 3) := by decide +kernel
theorem dX9_isQuiet_35 : decode cX9_isQuiet 35 = .ok (.iconst 0, 1) := by decide +kernel
theorem dX9_isQuiet_36 : decode cX9_isQuiet 36 = .ok (.ireturn, 1) := by decide +kernel
theorem dX9_isQuiet_37 : decode cX9_isQuiet 37 = .ok (.iinc 1 1, 3) := by decide +kernel
theorem dX9_isQuiet_40 : decode cX9_isQuiet 40 = .ok (.goto (-26), 3) := by decide +kernel
theorem dX9_isQuiet_43 : decode cX9_isQuiet 43 = .ok (.iconst 1, 1) := by decide +kernel
theorem dX9_isQuiet_44 : decode cX9_isQuiet 44 = .ok (.ireturn, 1) := by decide +kernel
theorem dX9_passTick_0 : decode cX9_passTick 0 = .ok (.iconst 0, 1) := by decide +kernel
theorem dX9_passTick_1 : decode cX9_passTick 1 = .ok (.istore_n 1, 1) := by decide +kernel
theorem dX9_passTick_2 : decode cX9_passTick 2 = .ok (.iload_n 1, 1) := by decide +kernel
theorem dX9_passTick_3 : decode cX9_passTick 3 = .ok (.aload_n 0, 1) := by decide +kernel
theorem dX9_passTick_4 : decode cX9_passTick 4 = .ok (.getfield 62, 3) := by decide +kernel
theorem dX9_passTick_7 : decode cX9_passTick 7 = .ok (.if_icmp .ge 27, 3) := by decide +kernel
theorem dX9_passTick_10 : decode cX9_passTick 10 = .ok (.aload_n 0, 1) := by decide +kernel
theorem dX9_passTick_11 : decode cX9_passTick 11 = .ok (.aload_n 0, 1) := by decide +kernel
theorem dX9_passTick_12 : decode cX9_passTick 12 = .ok (.getfield 11, 3) := by decide +kernel
theorem dX9_passTick_15 : decode cX9_passTick 15 = .ok (.iload_n 1, 1) := by decide +kernel
theorem dX9_passTick_16 : decode cX9_passTick 16 = .ok (.aaload, 1) := by decide +kernel
theorem dX9_passTick_17 : decode cX9_passTick 17 = .ok (.invokevirtual 126, 3) := by decide +kernel
theorem dX9_passTick_20 : decode cX9_passTick 20 = .ok (.ifCond .eq 8, 3) := by decide +kernel
theorem dX9_passTick_23 : decode cX9_passTick 23 = .ok (.aload_n 0, 1) := by decide +kernel
theorem dX9_passTick_24 : decode cX9_passTick 24 = .ok (.iload_n 1, 1) := by decide +kernel
theorem dX9_passTick_25 : decode cX9_passTick 25 = .ok (.invokevirtual 130, 3) := by decide +kernel
theorem dX9_passTick_28 : decode cX9_passTick 28 = .ok (.iinc 1 1, 3) := by decide +kernel
theorem dX9_passTick_31 : decode cX9_passTick 31 = .ok (.goto (-29), 3) := by decide +kernel
theorem dX9_passTick_34 : decode cX9_passTick 34 = .ok (.aload_n 0, 1) := by decide +kernel
theorem dX9_passTick_35 : decode cX9_passTick 35 = .ok (.getfield 25, 3) := by decide +kernel
theorem dX9_passTick_38 : decode cX9_passTick 38 = .ok (.aload_n 0, 1) := by decide +kernel
theorem dX9_passTick_39 : decode cX9_passTick 39 = .ok (.getfield 98, 3) := by decide +kernel
theorem dX9_passTick_42 : decode cX9_passTick 42 = .ok (.aload_n 0, 1) := by decide +kernel
theorem dX9_passTick_43 : decode cX9_passTick 43 = .ok (.getfield 18, 3) := by decide +kernel
theorem dX9_passTick_46 : decode cX9_passTick 46 = .ok (.getfield 134, 3) := by decide +kernel
theorem dX9_passTick_49 : decode cX9_passTick 49 = .ok (.aload_n 0, 1) := by decide +kernel
theorem dX9_passTick_50 : decode cX9_passTick 50 = .ok (.getfield 11, 3) := by decide +kernel
theorem dX9_passTick_53 : decode cX9_passTick 53 = .ok (.invokevirtual 137, 3) := by decide +kernel
theorem dX9_passTick_56 : decode cX9_passTick 56 = .ok (.aload_n 0, 1) := by decide +kernel
theorem dX9_passTick_57 : decode cX9_passTick 57 = .ok (.dup, 1) := by decide +kernel
theorem dX9_passTick_58 : decode cX9_passTick 58 = .ok (.getfield 98, 3) := by decide +kernel
theorem dX9_passTick_61 : decode cX9_passTick 61 = .ok (.iconst 1, 1) := by decide +kernel
theorem dX9_passTick_62 : decode cX9_passTick 62 = .ok (.iadd, 1) := by decide +kernel
theorem dX9_passTick_63 : decode cX9_passTick 63 = .ok (.putfield 98, 3) := by decide +kernel
theorem dX9_passTick_66 : decode cX9_passTick 66 = .ok (.return_, 1) := by decide +kernel
theorem dX9_isTrying_0 : decode cX9_isTrying 0 = .ok (.aload_n 0, 1) := by decide +kernel
theorem dX9_isTrying_1 : decode cX9_isTrying 1 = .ok (.getfield 18, 3) := by decide +kernel
theorem dX9_isTrying_4 : decode cX9_isTrying 4 = .ok (.getfield 58, 3) := by decide +kernel
theorem dX9_isTrying_7 : decode cX9_isTrying 7 = .ok (.ifCond .eq 21, 3) := by decide +kernel
theorem dX9_isTrying_10 : decode cX9_isTrying 10 = .ok (.aload_n 1, 1) := by decide +kernel
theorem dX9_isTrying_11 : decode cX9_isTrying 11 = .ok (.invokevirtual 141, 3) := by decide +kernel
theorem dX9_isTrying_14 : decode cX9_isTrying 14 = .ok (.ifCond .eq 14, 3) := by decide +kernel
theorem dX9_isTrying_17 : decode cX9_isTrying 17 = .ok (.aload_n 1, 1) := by decide +kernel
theorem dX9_isTrying_18 : decode cX9_isTrying 18 = .ok (.invokevirtual 144, 3) := by decide +kernel
theorem dX9_isTrying_21 : decode cX9_isTrying 21 = .ok (.ifCond .ne 7, 3) := by decide +kernel
theorem dX9_isTrying_24 : decode cX9_isTrying 24 = .ok (.iconst 1, 1) := by decide +kernel
theorem dX9_isTrying_25 : decode cX9_isTrying 25 = .ok (.goto 4, 3) := by decide +kernel
theorem dX9_isTrying_28 : decode cX9_isTrying 28 = .ok (.iconst 0, 1) := by decide +kernel
theorem dX9_isTrying_29 : decode cX9_isTrying 29 = .ok (.ireturn, 1) := by decide +kernel
theorem dX9_tryBothRoads_0 : decode cX9_tryBothRoads 0 = .ok (.aload_n 0, 1) := by decide +kernel
theorem dX9_tryBothRoads_1 : decode cX9_tryBothRoads 1 = .ok (.getfield 11, 3) := by decide +kernel
theorem dX9_tryBothRoads_4 : decode cX9_tryBothRoads 4 = .ok (.iload_n 1, 1) := by decide +kernel
theorem dX9_tryBothRoads_5 : decode cX9_tryBothRoads 5 = .ok (.aaload, 1) := by decide +kernel
theorem dX9_tryBothRoads_6 : decode cX9_tryBothRoads 6 = .ok (.astore_n 2, 1) := by decide +kernel
theorem dX9_tryBothRoads_7 : decode cX9_tryBothRoads 7 = .ok (.aload_n 2, 1) := by decide +kernel
theorem dX9_tryBothRoads_8 : decode cX9_tryBothRoads 8 = .ok (.dup, 1) := by decide +kernel
theorem dX9_tryBothRoads_9 : decode cX9_tryBothRoads 9 = .ok (.getfield 147, 3) := by decide +kernel
theorem dX9_tryBothRoads_12 : decode cX9_tryBothRoads 12 = .ok (.iconst 1, 1) := by decide +kernel
theorem dX9_tryBothRoads_13 : decode cX9_tryBothRoads 13 = .ok (.iadd, 1) := by decide +kernel
theorem dX9_tryBothRoads_14 : decode cX9_tryBothRoads 14 = .ok (.putfield 147, 3) := by decide +kernel
theorem dX9_tryBothRoads_17 : decode cX9_tryBothRoads 17 = .ok (.iconst 0, 1) := by decide +kernel
theorem dX9_tryBothRoads_18 : decode cX9_tryBothRoads 18 = .ok (.istore_n 3, 1) := by decide +kernel
theorem dX9_tryBothRoads_19 : decode cX9_tryBothRoads 19 = .ok (.iload_n 3, 1) := by decide +kernel
theorem dX9_tryBothRoads_20 : decode cX9_tryBothRoads 20 = .ok (.iconst 2, 1) := by decide +kernel
theorem dX9_tryBothRoads_21 : decode cX9_tryBothRoads 21 = .ok (.if_icmp .ge 55, 3) := by decide +kernel
theorem dX9_tryBothRoads_24 : decode cX9_tryBothRoads 24 = .ok (.aload_n 2, 1) := by decide +kernel
theorem dX9_tryBothRoads_25 : decode cX9_tryBothRoads 25 = .ok (.getfield 80, 3) := by decide +kernel
theorem dX9_tryBothRoads_28 : decode cX9_tryBothRoads 28 = .ok (.iload_n 3, 1) := by decide +kernel
theorem dX9_tryBothRoads_29 : decode cX9_tryBothRoads 29 = .ok (.aaload, 1) := by decide +kernel
theorem dX9_tryBothRoads_30 : decode cX9_tryBothRoads 30 = .ok (.astore 4, 2) := by decide +kernel
theorem dX9_tryBothRoads_32 : decode cX9_tryBothRoads 32 = .ok (.aload_n 0, 1) := by decide +kernel
theorem dX9_tryBothRoads_33 : decode cX9_tryBothRoads 33 = .ok (.dup, 1) := by decide +kernel
theorem dX9_tryBothRoads_34 : decode cX9_tryBothRoads 34 = .ok (.getfield 150, 3) := by decide +kernel
theorem dX9_tryBothRoads_37 : decode cX9_tryBothRoads 37 = .ok (.iconst 1, 1) := by decide +kernel
theorem dX9_tryBothRoads_38 : decode cX9_tryBothRoads 38 = .ok (.iadd, 1) := by decide +kernel
theorem dX9_tryBothRoads_39 : decode cX9_tryBothRoads 39 = .ok (.putfield 150, 3) := by decide +kernel
theorem dX9_tryBothRoads_42 : decode cX9_tryBothRoads 42 = .ok (.aload 4, 2) := by decide +kernel
theorem dX9_tryBothRoads_44 : decode cX9_tryBothRoads 44 = .ok (.invokevirtual 153, 3) := by decide +kernel
theorem dX9_tryBothRoads_47 : decode cX9_tryBothRoads 47 = .ok (.ifCond .ne 23, 3) := by decide +kernel
theorem dX9_tryBothRoads_50 : decode cX9_tryBothRoads 50 = .ok (.aload_n 0, 1) := by decide +kernel
theorem dX9_tryBothRoads_51 : decode cX9_tryBothRoads 51 = .ok (.getfield 25, 3) := by decide +kernel
theorem dX9_tryBothRoads_54 : decode cX9_tryBothRoads 54 = .ok (.aload_n 0, 1) := by decide +kernel
theorem dX9_tryBothRoads_55 : decode cX9_tryBothRoads 55 = .ok (.getfield 98, 3) := by decide +kernel
theorem dX9_tryBothRoads_58 : decode cX9_tryBothRoads 58 = .ok (.aload 4, 2) := by decide +kernel
theorem dX9_tryBothRoads_60 : decode cX9_tryBothRoads 60 = .ok (.getfield 156, 3) := by decide +kernel
theorem dX9_tryBothRoads_63 : decode cX9_tryBothRoads 63 = .ok (.iadd, 1) := by decide +kernel
theorem dX9_tryBothRoads_64 : decode cX9_tryBothRoads 64 = .ok (.iload_n 1, 1) := by decide +kernel
theorem dX9_tryBothRoads_65 : decode cX9_tryBothRoads 65 = .ok (.iload_n 3, 1) := by decide +kernel
