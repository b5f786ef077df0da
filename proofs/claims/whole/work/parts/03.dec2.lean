theorem dX6_put_18 : decode cX6_put 18 = .ok (.iadd, 1) := by decide +kernel
theorem dX6_put_19 : decode cX6_put 19 = .ok (.iload 4, 2) := by decide +kernel
theorem dX6_put_21 : decode cX6_put 21 = .ok (.iastore, 1) := by decide +kernel
theorem dX6_put_22 : decode cX6_put 22 = .ok (.return_, 1) := by decide +kernel
theorem dX6_manyAre_0 : decode cX6_manyAre 0 = .ok (.iconst 0, 1) := by decide +kernel
theorem dX6_manyAre_1 : decode cX6_manyAre 1 = .ok (.istore_n 2, 1) := by decide +kernel
theorem dX6_manyAre_2 : decode cX6_manyAre 2 = .ok (.iconst 0, 1) := by decide +kernel
theorem dX6_manyAre_3 : decode cX6_manyAre 3 = .ok (.istore_n 3, 1) := by decide +kernel
theorem dX6_manyAre_4 : decode cX6_manyAre 4 = .ok (.iload_n 3, 1) := by decide +kernel
theorem dX6_manyAre_5 : decode cX6_manyAre 5 = .ok (.iconst 4, 1) := by decide +kernel
theorem dX6_manyAre_6 : decode cX6_manyAre 6 = .ok (.if_icmp .ge 27, 3) := by decide +kernel
theorem dX6_manyAre_9 : decode cX6_manyAre 9 = .ok (.iload_n 2, 1) := by decide +kernel
theorem dX6_manyAre_10 : decode cX6_manyAre 10 = .ok (.aload_n 0, 1) := by decide +kernel
theorem dX6_manyAre_11 : decode cX6_manyAre 11 = .ok (.iload_n 3, 1) := by decide +kernel
theorem dX6_manyAre_12 : decode cX6_manyAre 12 = .ok (.iconst 1, 1) := by decide +kernel
theorem dX6_manyAre_13 : decode cX6_manyAre 13 = .ok (.invokevirtual 56, 3) := by decide +kernel
theorem dX6_manyAre_16 : decode cX6_manyAre 16 = .ok (.iload_n 1, 1) := by decide +kernel
theorem dX6_manyAre_17 : decode cX6_manyAre 17 = .ok (.if_icmp .ne 7, 3) := by decide +kernel
theorem dX6_manyAre_20 : decode cX6_manyAre 20 = .ok (.iconst 1, 1) := by decide +kernel
theorem dX6_manyAre_21 : decode cX6_manyAre 21 = .ok (.goto 4, 3) := by decide +kernel
theorem dX6_manyAre_24 : decode cX6_manyAre 24 = .ok (.iconst 0, 1) := by decide +kernel
theorem dX6_manyAre_25 : decode cX6_manyAre 25 = .ok (.iadd, 1) := by decide +kernel
theorem dX6_manyAre_26 : decode cX6_manyAre 26 = .ok (.istore_n 2, 1) := by decide +kernel
theorem dX6_manyAre_27 : decode cX6_manyAre 27 = .ok (.iinc 3 1, 3) := by decide +kernel
theorem dX6_manyAre_30 : decode cX6_manyAre 30 = .ok (.goto (-26), 3) := by decide +kernel
theorem dX6_manyAre_33 : decode cX6_manyAre 33 = .ok (.iload_n 2, 1) := by decide +kernel
theorem dX6_manyAre_34 : decode cX6_manyAre 34 = .ok (.ireturn, 1) := by decide +kernel
theorem dX6_lacksMark_0 : decode cX6_lacksMark 0 = .ok (.aload_n 0, 1) := by decide +kernel
theorem dX6_lacksMark_1 : decode cX6_lacksMark 1 = .ok (.iload_n 1, 1) := by decide +kernel
theorem dX6_lacksMark_2 : decode cX6_lacksMark 2 = .ok (.iconst 1, 1) := by decide +kernel
theorem dX6_lacksMark_3 : decode cX6_lacksMark 3 = .ok (.invokevirtual 56, 3) := by decide +kernel
theorem dX6_lacksMark_6 : decode cX6_lacksMark 6 = .ok (.ifCond .eq 33, 3) := by decide +kernel
theorem dX6_lacksMark_9 : decode cX6_lacksMark 9 = .ok (.aload_n 0, 1) := by decide +kernel
theorem dX6_lacksMark_10 : decode cX6_lacksMark 10 = .ok (.iload_n 1, 1) := by decide +kernel
theorem dX6_lacksMark_11 : decode cX6_lacksMark 11 = .ok (.iconst 2, 1) := by decide +kernel
theorem dX6_lacksMark_12 : decode cX6_lacksMark 12 = .ok (.invokevirtual 56, 3) := by decide +kernel
theorem dX6_lacksMark_15 : decode cX6_lacksMark 15 = .ok (.iload_n 2, 1) := by decide +kernel
theorem dX6_lacksMark_16 : decode cX6_lacksMark 16 = .ok (.invokestatic 59, 3) := by decide +kernel
theorem dX6_lacksMark_19 : decode cX6_lacksMark 19 = .ok (.ifCond .eq 20, 3) := by decide +kernel
theorem dX6_lacksMark_22 : decode cX6_lacksMark 22 = .ok (.aload_n 0, 1) := by decide +kernel
theorem dX6_lacksMark_23 : decode cX6_lacksMark 23 = .ok (.iload_n 1, 1) := by decide +kernel
theorem dX6_lacksMark_24 : decode cX6_lacksMark 24 = .ok (.iconst 3, 1) := by decide +kernel
theorem dX6_lacksMark_25 : decode cX6_lacksMark 25 = .ok (.invokevirtual 56, 3) := by decide +kernel
theorem dX6_lacksMark_28 : decode cX6_lacksMark 28 = .ok (.iload_n 2, 1) := by decide +kernel
theorem dX6_lacksMark_29 : decode cX6_lacksMark 29 = .ok (.invokestatic 59, 3) := by decide +kernel
theorem dX6_lacksMark_32 : decode cX6_lacksMark 32 = .ok (.ifCond .ne 7, 3) := by decide +kernel
theorem dX6_lacksMark_35 : decode cX6_lacksMark 35 = .ok (.iconst 1, 1) := by decide +kernel
theorem dX6_lacksMark_36 : decode cX6_lacksMark 36 = .ok (.goto 4, 3) := by decide +kernel
theorem dX6_lacksMark_39 : decode cX6_lacksMark 39 = .ok (.iconst 0, 1) := by decide +kernel
theorem dX6_lacksMark_40 : decode cX6_lacksMark 40 = .ok (.ireturn, 1) := by decide +kernel
theorem dX6_owed_0 : decode cX6_owed 0 = .ok (.iconst 0, 1) := by decide +kernel
theorem dX6_owed_1 : decode cX6_owed 1 = .ok (.istore_n 2, 1) := by decide +kernel
theorem dX6_owed_2 : decode cX6_owed 2 = .ok (.iconst 0, 1) := by decide +kernel
theorem dX6_owed_3 : decode cX6_owed 3 = .ok (.istore_n 3, 1) := by decide +kernel
theorem dX6_owed_4 : decode cX6_owed 4 = .ok (.iload_n 3, 1) := by decide +kernel
theorem dX6_owed_5 : decode cX6_owed 5 = .ok (.iconst 4, 1) := by decide +kernel
theorem dX6_owed_6 : decode cX6_owed 6 = .ok (.if_icmp .ge 36, 3) := by decide +kernel
theorem dX6_owed_9 : decode cX6_owed 9 = .ok (.iload_n 2, 1) := by decide +kernel
theorem dX6_owed_10 : decode cX6_owed 10 = .ok (.aload_n 0, 1) := by decide +kernel
theorem dX6_owed_11 : decode cX6_owed 11 = .ok (.iload_n 3, 1) := by decide +kernel
theorem dX6_owed_12 : decode cX6_owed 12 = .ok (.iload_n 1, 1) := by decide +kernel
theorem dX6_owed_13 : decode cX6_owed 13 = .ok (.invokevirtual 63, 3) := by decide +kernel
theorem dX6_owed_16 : decode cX6_owed 16 = .ok (.ifCond .ne 13, 3) := by decide +kernel
theorem dX6_owed_19 : decode cX6_owed 19 = .ok (.aload_n 0, 1) := by decide +kernel
theorem dX6_owed_20 : decode cX6_owed 20 = .ok (.iload_n 3, 1) := by decide +kernel
theorem dX6_owed_21 : decode cX6_owed 21 = .ok (.iconst 1, 1) := by decide +kernel
theorem dX6_owed_22 : decode cX6_owed 22 = .ok (.invokevirtual 56, 3) := by decide +kernel
theorem dX6_owed_25 : decode cX6_owed 25 = .ok (.iconst 1, 1) := by decide +kernel
theorem dX6_owed_26 : decode cX6_owed 26 = .ok (.if_icmp .ne 7, 3) := by decide +kernel
theorem dX6_owed_29 : decode cX6_owed 29 = .ok (.iconst 1, 1) := by decide +kernel
theorem dX6_owed_30 : decode cX6_owed 30 = .ok (.goto 4, 3) := by decide +kernel
theorem dX6_owed_33 : decode cX6_owed 33 = .ok (.iconst 0, 1) := by decide +kernel
theorem dX6_owed_34 : decode cX6_owed 34 = .ok (.iadd, 1) := by decide +kernel
theorem dX6_owed_35 : decode cX6_owed 35 = .ok (.istore_n 2, 1) := by decide +kernel
theorem dX6_owed_36 : decode cX6_owed 36 = .ok (.iinc 3 1, 3) := by decide +kernel
theorem dX6_owed_39 : decode cX6_owed 39 = .ok (.goto (-35), 3) := by decide +kernel
theorem dX6_owed_42 : decode cX6_owed 42 = .ok (.iload_n 2, 1) := by decide +kernel
theorem dX6_owed_43 : decode cX6_owed 43 = .ok (.ireturn, 1) := by decide +kernel
theorem dX6_holder_0 : decode cX6_holder 0 = .ok (.iconst (-1), 1) := by decide +kernel
theorem dX6_holder_1 : decode cX6_holder 1 = .ok (.istore_n 2, 1) := by decide +kernel
theorem dX6_holder_2 : decode cX6_holder 2 = .ok (.iconst 0, 1) := by decide +kernel
theorem dX6_holder_3 : decode cX6_holder 3 = .ok (.istore_n 3, 1) := by decide +kernel
theorem dX6_holder_4 : decode cX6_holder 4 = .ok (.iload_n 3, 1) := by decide +kernel
theorem dX6_holder_5 : decode cX6_holder 5 = .ok (.iconst 4, 1) := by decide +kernel
theorem dX6_holder_6 : decode cX6_holder 6 = .ok (.if_icmp .ge 62, 3) := by decide +kernel
theorem dX6_holder_9 : decode cX6_holder 9 = .ok (.aload_n 0, 1) := by decide +kernel
theorem dX6_holder_10 : decode cX6_holder 10 = .ok (.iload_n 3, 1) := by decide +kernel
theorem dX6_holder_11 : decode cX6_holder 11 = .ok (.iload_n 1, 1) := by decide +kernel
theorem dX6_holder_12 : decode cX6_holder 12 = .ok (.invokevirtual 63, 3) := by decide +kernel
theorem dX6_holder_15 : decode cX6_holder 15 = .ok (.ifCond .eq 33, 3) := by decide +kernel
theorem dX6_holder_18 : decode cX6_holder 18 = .ok (.iload_n 2, 1) := by decide +kernel
theorem dX6_holder_19 : decode cX6_holder 19 = .ok (.iconst (-1), 1) := by decide +kernel
theorem dX6_holder_20 : decode cX6_holder 20 = .ok (.if_icmp .eq 24, 3) := by decide +kernel
theorem dX6_holder_23 : decode cX6_holder 23 = .ok (.aload_n 0, 1) := by decide +kernel
theorem dX6_holder_24 : decode cX6_holder 24 = .ok (.iload_n 3, 1) := by decide +kernel
theorem dX6_holder_25 : decode cX6_holder 25 = .ok (.bipush 7, 2) := by decide +kernel
theorem dX6_holder_27 : decode cX6_holder 27 = .ok (.iload_n 1, 1) := by decide +kernel
theorem dX6_holder_28 : decode cX6_holder 28 = .ok (.iadd, 1) := by decide +kernel
theorem dX6_holder_29 : decode cX6_holder 29 = .ok (.invokevirtual 56, 3) := by decide +kernel
theorem dX6_holder_32 : decode cX6_holder 32 = .ok (.aload_n 0, 1) := by decide +kernel
theorem dX6_holder_33 : decode cX6_holder 33 = .ok (.iload_n 2, 1) := by decide +kernel
theorem dX6_holder_34 : decode cX6_holder 34 = .ok (.bipush 7, 2) := by decide +kernel
theorem dX6_holder_36 : decode cX6_holder 36 = .ok (.iload_n 1, 1) := by decide +kernel
theorem dX6_holder_37 : decode cX6_holder 37 = .ok (.iadd, 1) := by decide +kernel
theorem dX6_holder_38 : decode cX6_holder 38 = .ok (.invokevirtual 56, 3) := by decide +kernel
theorem dX6_holder_41 : decode cX6_holder 41 = .ok (.if_icmp .ge 7, 3) := by decide +kernel
theorem dX6_holder_44 : decode cX6_holder 44 = .ok (.iconst 1, 1) := by decide +kernel
theorem dX6_holder_45 : decode cX6_holder 45 = .ok (.goto 4, 3) := by decide +kernel
theorem dX6_holder_48 : decode cX6_holder 48 = .ok (.iconst 0, 1) := by decide +kernel
theorem dX6_holder_49 : decode cX6_holder 49 = .ok (.istore 4, 2) := by decide +kernel
theorem dX6_holder_51 : decode cX6_holder 51 = .ok (.iload 4, 2) := by decide +kernel
theorem dX6_holder_53 : decode cX6_holder 53 = .ok (.ifCond .eq 7, 3) := by decide +kernel
theorem dX6_holder_56 : decode cX6_holder 56 = .ok (.iload_n 3, 1) := by decide +kernel
theorem dX6_holder_57 : decode cX6_holder 57 = .ok (.goto 4, 3) := by decide +kernel
theorem dX6_holder_60 : decode cX6_holder 60 = .ok (.iload_n 2, 1) := by decide +kernel
theorem dX6_holder_61 : decode cX6_holder 61 = .ok (.istore_n 2, 1) := by decide +kernel
theorem dX6_holder_62 : decode cX6_holder 62 = .ok (.iinc 3 1, 3) := by decide +kernel
theorem dX6_holder_65 : decode cX6_holder 65 = .ok (.goto (-61), 3) := by decide +kernel
theorem dX6_holder_68 : decode cX6_holder 68 = .ok (.iload_n 2, 1) := by decide +kernel
theorem dX6_holder_69 : decode cX6_holder 69 = .ok (.ireturn, 1) := by decide +kernel
theorem dX6_stable_0 : decode cX6_stable 0 = .ok (.aload_n 0, 1) := by decide +kernel
theorem dX6_stable_1 : decode cX6_stable 1 = .ok (.iload_n 1, 1) := by decide +kernel
theorem dX6_stable_2 : decode cX6_stable 2 = .ok (.invokevirtual 66, 3) := by decide +kernel
theorem dX6_stable_5 : decode cX6_stable 5 = .ok (.istore_n 2, 1) := by decide +kernel
theorem dX6_stable_6 : decode cX6_stable 6 = .ok (.iload_n 2, 1) := by decide +kernel
theorem dX6_stable_7 : decode cX6_stable 7 = .ok (.iconst (-1), 1) := by decide +kernel
theorem dX6_stable_8 : decode cX6_stable 8 = .ok (.if_icmp .ne 11, 3) := by decide +kernel
theorem dX6_stable_11 : decode cX6_stable 11 = .ok (.aload_n 0, 1) := by decide +kernel
theorem dX6_stable_12 : decode cX6_stable 12 = .ok (.iload_n 1, 1) := by decide +kernel
theorem dX6_stable_13 : decode cX6_stable 13 = .ok (.invokevirtual 70, 3) := by decide +kernel
theorem dX6_stable_16 : decode cX6_stable 16 = .ok (.goto 12, 3) := by decide +kernel
theorem dX6_stable_19 : decode cX6_stable 19 = .ok (.aload_n 0, 1) := by decide +kernel
theorem dX6_stable_20 : decode cX6_stable 20 = .ok (.iload_n 2, 1) := by decide +kernel
theorem dX6_stable_21 : decode cX6_stable 21 = .ok (.bipush 7, 2) := by decide +kernel
theorem dX6_stable_23 : decode cX6_stable 23 = .ok (.iload_n 1, 1) := by decide +kernel
theorem dX6_stable_24 : decode cX6_stable 24 = .ok (.iadd, 1) := by decide +kernel
theorem dX6_stable_25 : decode cX6_stable 25 = .ok (.invokevirtual 56, 3) := by decide +kernel
theorem dX6_stable_28 : decode cX6_stable 28 = .ok (.ireturn, 1) := by decide +kernel
theorem dX6_isSeen_0 : decode cX6_isSeen 0 = .ok (.aload_n 0, 1) := by decide +kernel
theorem dX6_isSeen_1 : decode cX6_isSeen 1 = .ok (.iload_n 1, 1) := by decide +kernel
theorem dX6_isSeen_2 : decode cX6_isSeen 2 = .ok (.iload_n 2, 1) := by decide +kernel
theorem dX6_isSeen_3 : decode cX6_isSeen 3 = .ok (.iconst 5, 1) := by decide +kernel
theorem dX6_isSeen_4 : decode cX6_isSeen 4 = .ok (.invokevirtual 73, 3) := by decide +kernel
theorem dX6_isSeen_7 : decode cX6_isSeen 7 = .ok (.istore 4, 2) := by decide +kernel
theorem dX6_isSeen_9 : decode cX6_isSeen 9 = .ok (.iload_n 2, 1) := by decide +kernel
theorem dX6_isSeen_10 : decode cX6_isSeen 10 = .ok (.iload_n 3, 1) := by decide +kernel
theorem dX6_isSeen_11 : decode cX6_isSeen 11 = .ok (.if_icmp .ge 28, 3) := by decide +kernel
theorem dX6_isSeen_14 : decode cX6_isSeen 14 = .ok (.aload_n 0, 1) := by decide +kernel
theorem dX6_isSeen_15 : decode cX6_isSeen 15 = .ok (.iload_n 1, 1) := by decide +kernel
theorem dX6_isSeen_16 : decode cX6_isSeen 16 = .ok (.iload_n 2, 1) := by decide +kernel
theorem dX6_isSeen_17 : decode cX6_isSeen 17 = .ok (.iconst 0, 1) := by decide +kernel
theorem dX6_isSeen_18 : decode cX6_isSeen 18 = .ok (.invokevirtual 73, 3) := by decide +kernel
theorem dX6_isSeen_21 : decode cX6_isSeen 21 = .ok (.ifCond .ne 18, 3) := by decide +kernel
theorem dX6_isSeen_24 : decode cX6_isSeen 24 = .ok (.iload 4, 2) := by decide +kernel
theorem dX6_isSeen_26 : decode cX6_isSeen 26 = .ok (.ifCond .eq 9, 3) := by decide +kernel
theorem dX6_isSeen_29 : decode cX6_isSeen 29 = .ok (.iload 4, 2) := by decide +kernel
theorem dX6_isSeen_31 : decode cX6_isSeen 31 = .ok (.iconst 2, 1) := by decide +kernel
theorem dX6_isSeen_32 : decode cX6_isSeen 32 = .ok (.if_icmp .ne 7, 3) := by decide +kernel
theorem dX6_isSeen_35 : decode cX6_isSeen 35 = .ok (.iconst 1, 1) := by decide +kernel
theorem dX6_isSeen_36 : decode cX6_isSeen 36 = .ok (.goto 4, 3) := by decide +kernel
theorem dX6_isSeen_39 : decode cX6_isSeen 39 = .ok (.iconst 0, 1) := by decide +kernel
theorem dX6_isSeen_40 : decode cX6_isSeen 40 = .ok (.ireturn, 1) := by decide +kernel
theorem dX6_seenFrom_0 : decode cX6_seenFrom 0 = .ok (.iconst 0, 1) := by decide +kernel
theorem dX6_seenFrom_1 : decode cX6_seenFrom 1 = .ok (.istore_n 3, 1) := by decide +kernel
theorem dX6_seenFrom_2 : decode cX6_seenFrom 2 = .ok (.aload_n 0, 1) := by decide +kernel
theorem dX6_seenFrom_3 : decode cX6_seenFrom 3 = .ok (.iload_n 1, 1) := by decide +kernel
theorem dX6_seenFrom_4 : decode cX6_seenFrom 4 = .ok (.invokevirtual 77, 3) := by decide +kernel
theorem dX6_seenFrom_7 : decode cX6_seenFrom 7 = .ok (.istore 4, 2) := by decide +kernel
theorem dX6_seenFrom_9 : decode cX6_seenFrom 9 = .ok (.iload_n 2, 1) := by decide +kernel
theorem dX6_seenFrom_10 : decode cX6_seenFrom 10 = .ok (.istore 5, 2) := by decide +kernel
theorem dX6_seenFrom_12 : decode cX6_seenFrom 12 = .ok (.iload 5, 2) := by decide +kernel
theorem dX6_seenFrom_14 : decode cX6_seenFrom 14 = .ok (.iload 4, 2) := by decide +kernel
theorem dX6_seenFrom_16 : decode cX6_seenFrom 16 = .ok (.if_icmp .ge 29, 3) := by decide +kernel
theorem dX6_seenFrom_19 : decode cX6_seenFrom 19 = .ok (.iload_n 3, 1) := by decide +kernel
theorem dX6_seenFrom_20 : decode cX6_seenFrom 20 = .ok (.aload_n 0, 1) := by decide +kernel
theorem dX6_seenFrom_21 : decode cX6_seenFrom 21 = .ok (.iload_n 1, 1) := by decide +kernel
theorem dX6_seenFrom_22 : decode cX6_seenFrom 22 = .ok (.iload 5, 2) := by decide +kernel
theorem dX6_seenFrom_24 : decode cX6_seenFrom 24 = .ok (.iload 4, 2) := by decide +kernel
theorem dX6_seenFrom_26 : decode cX6_seenFrom 26 = .ok (.invokevirtual 80, 3) := by decide +kernel
theorem dX6_seenFrom_29 : decode cX6_seenFrom 29 = .ok (.ifCond .eq 7, 3) := by decide +kernel
theorem dX6_seenFrom_32 : decode cX6_seenFrom 32 = .ok (.iconst 1, 1) := by decide +kernel
theorem dX6_seenFrom_33 : decode cX6_seenFrom 33 = .ok (.goto 4, 3) := by decide +kernel
theorem dX6_seenFrom_36 : decode cX6_seenFrom 36 = .ok (.iconst 0, 1) := by decide +kernel
theorem dX6_seenFrom_37 : decode cX6_seenFrom 37 = .ok (.iadd, 1) := by decide +kernel
theorem dX6_seenFrom_38 : decode cX6_seenFrom 38 = .ok (.istore_n 3, 1) := by decide +kernel
theorem dX6_seenFrom_39 : decode cX6_seenFrom 39 = .ok (.iinc 5 1, 3) := by decide +kernel
theorem dX6_seenFrom_42 : decode cX6_seenFrom 42 = .ok (.goto (-30), 3) := by decide +kernel
theorem dX6_seenFrom_45 : decode cX6_seenFrom 45 = .ok (.iload_n 3, 1) := by decide +kernel
theorem dX6_seenFrom_46 : decode cX6_seenFrom 46 = .ok (.ireturn, 1) := by decide +kernel
theorem dX6_firstSeen_0 : decode cX6_firstSeen 0 = .ok (.aload_n 0, 1) := by decide +kernel
theorem dX6_firstSeen_1 : decode cX6_firstSeen 1 = .ok (.iload_n 1, 1) := by decide +kernel
theorem dX6_firstSeen_2 : decode cX6_firstSeen 2 = .ok (.invokevirtual 77, 3) := by decide +kernel
theorem dX6_firstSeen_5 : decode cX6_firstSeen 5 = .ok (.istore_n 3, 1) := by decide +kernel
theorem dX6_firstSeen_6 : decode cX6_firstSeen 6 = .ok (.iload_n 2, 1) := by decide +kernel
theorem dX6_firstSeen_7 : decode cX6_firstSeen 7 = .ok (.istore 4, 2) := by decide +kernel
theorem dX6_firstSeen_9 : decode cX6_firstSeen 9 = .ok (.iload 4, 2) := by decide +kernel
theorem dX6_firstSeen_11 : decode cX6_firstSeen 11 = .ok (.iload_n 3, 1) := by decide +kernel
theorem dX6_firstSeen_12 : decode cX6_firstSeen 12 = .ok (.if_icmp .ge 23, 3) := by decide +kernel
theorem dX6_firstSeen_15 : decode cX6_firstSeen 15 = .ok (.aload_n 0, 1) := by decide +kernel
theorem dX6_firstSeen_16 : decode cX6_firstSeen 16 = .ok (.iload_n 1, 1) := by decide +kernel
theorem dX6_firstSeen_17 : decode cX6_firstSeen 17 = .ok (.iload 4, 2) := by decide +kernel
theorem dX6_firstSeen_19 : decode cX6_firstSeen 19 = .ok (.iload_n 3, 1) := by decide +kernel
theorem dX6_firstSeen_20 : decode cX6_firstSeen 20 = .ok (.invokevirtual 80, 3) := by decide +kernel
theorem dX6_firstSeen_23 : decode cX6_firstSeen 23 = .ok (.ifCond .eq 6, 3) := by decide +kernel
theorem dX6_firstSeen_26 : decode cX6_firstSeen 26 = .ok (.iload 4, 2) := by decide +kernel
theorem dX6_firstSeen_28 : decode cX6_firstSeen 28 = .ok (.ireturn, 1) := by decide +kernel
theorem dX6_firstSeen_29 : decode cX6_firstSeen 29 = .ok (.iinc 4 1, 3) := by decide +kernel
theorem dX6_firstSeen_32 : decode cX6_firstSeen 32 = .ok (.goto (-23), 3) := by decide +kernel
theorem dX6_firstSeen_35 : decode cX6_firstSeen 35 = .ok (.iconst (-1), 1) := by decide +kernel
theorem dX6_firstSeen_36 : decode cX6_firstSeen 36 = .ok (.ireturn, 1) := by decide +kernel
theorem dX6_isRecent_0 : decode cX6_isRecent 0 = .ok (.aload_n 0, 1) := by decide +kernel
theorem dX6_isRecent_1 : decode cX6_isRecent 1 = .ok (.iload_n 2, 1) := by decide +kernel
theorem dX6_isRecent_2 : decode cX6_isRecent 2 = .ok (.iload_n 3, 1) := by decide +kernel
theorem dX6_isRecent_3 : decode cX6_isRecent 3 = .ok (.iconst 0, 1) := by decide +kernel
theorem dX6_isRecent_4 : decode cX6_isRecent 4 = .ok (.invokevirtual 73, 3) := by decide +kernel
theorem dX6_isRecent_7 : decode cX6_isRecent 7 = .ok (.ifCond .ne 34, 3) := by decide +kernel
theorem dX6_isRecent_10 : decode cX6_isRecent 10 = .ok (.aload_n 0, 1) := by decide +kernel
theorem dX6_isRecent_11 : decode cX6_isRecent 11 = .ok (.iload_n 2, 1) := by decide +kernel
theorem dX6_isRecent_12 : decode cX6_isRecent 12 = .ok (.iload_n 3, 1) := by decide +kernel
theorem dX6_isRecent_13 : decode cX6_isRecent 13 = .ok (.iconst 1, 1) := by decide +kernel
theorem dX6_isRecent_14 : decode cX6_isRecent 14 = .ok (.invokevirtual 73, 3) := by decide +kernel
theorem dX6_isRecent_17 : decode cX6_isRecent 17 = .ok (.iload_n 1, 1) := by decide +kernel
theorem dX6_isRecent_18 : decode cX6_isRecent 18 = .ok (.if_icmp .ne 23, 3) := by decide +kernel
theorem dX6_isRecent_21 : decode cX6_isRecent 21 = .ok (.aload_n 0, 1) := by decide +kernel
theorem dX6_isRecent_22 : decode cX6_isRecent 22 = .ok (.iload_n 2, 1) := by decide +kernel
theorem dX6_isRecent_23 : decode cX6_isRecent 23 = .ok (.iload_n 3, 1) := by decide +kernel
theorem dX6_isRecent_24 : decode cX6_isRecent 24 = .ok (.iconst 2, 1) := by decide +kernel
theorem dX6_isRecent_25 : decode cX6_isRecent 25 = .ok (.invokevirtual 73, 3) := by decide +kernel
theorem dX6_isRecent_28 : decode cX6_isRecent 28 = .ok (.aload_n 0, 1) := by decide +kernel
theorem dX6_isRecent_29 : decode cX6_isRecent 29 = .ok (.iload_n 1, 1) := by decide +kernel
theorem dX6_isRecent_30 : decode cX6_isRecent 30 = .ok (.iconst 0, 1) := by decide +kernel
theorem dX6_isRecent_31 : decode cX6_isRecent 31 = .ok (.invokevirtual 56, 3) := by decide +kernel
theorem dX6_isRecent_34 : decode cX6_isRecent 34 = .ok (.if_icmp .ne 7, 3) := by decide +kernel
theorem dX6_isRecent_37 : decode cX6_isRecent 37 = .ok (.iconst 1, 1) := by decide +kernel
theorem dX6_isRecent_38 : decode cX6_isRecent 38 = .ok (.goto 4, 3) := by decide +kernel
theorem dX6_isRecent_41 : decode cX6_isRecent 41 = .ok (.iconst 0, 1) := by decide +kernel
theorem dX6_isRecent_42 : decode cX6_isRecent 42 = .ok (.ireturn, 1) := by decide +kernel
theorem dX6_twinOf_0 : decode cX6_twinOf 0 = .ok (.iconst 0, 1) := by decide +kernel
theorem dX6_twinOf_1 : decode cX6_twinOf 1 = .ok (.istore 4, 2) := by decide +kernel
theorem dX6_twinOf_3 : decode cX6_twinOf 3 = .ok (.aload_n 0, 1) := by decide +kernel
theorem dX6_twinOf_4 : decode cX6_twinOf 4 = .ok (.iload_n 2, 1) := by decide +kernel
theorem dX6_twinOf_5 : decode cX6_twinOf 5 = .ok (.invokevirtual 70, 3) := by decide +kernel
theorem dX6_twinOf_8 : decode cX6_twinOf 8 = .ok (.iconst 1, 1) := by decide +kernel
theorem dX6_twinOf_9 : decode cX6_twinOf 9 = .ok (.isub, 1) := by decide +kernel
theorem dX6_twinOf_10 : decode cX6_twinOf 10 = .ok (.istore 5, 2) := by decide +kernel
theorem dX6_twinOf_12 : decode cX6_twinOf 12 = .ok (.iload 5, 2) := by decide +kernel
theorem dX6_twinOf_14 : decode cX6_twinOf 14 = .ok (.ifCond .lt 44, 3) := by decide +kernel
theorem dX6_twinOf_17 : decode cX6_twinOf 17 = .ok (.iload 4, 2) := by decide +kernel
theorem dX6_twinOf_19 : decode cX6_twinOf 19 = .ok (.iconst 3, 1) := by decide +kernel
theorem dX6_twinOf_20 : decode cX6_twinOf 20 = .ok (.if_icmp .ge 38, 3) := by decide +kernel
theorem dX6_twinOf_23 : decode cX6_twinOf 23 = .ok (.aload_n 0, 1) := by decide +kernel
theorem dX6_twinOf_24 : decode cX6_twinOf 24 = .ok (.iload_n 1, 1) := by decide +kernel
theorem dX6_twinOf_25 : decode cX6_twinOf 25 = .ok (.iload_n 2, 1) := by decide +kernel
theorem dX6_twinOf_26 : decode cX6_twinOf 26 = .ok (.iload 5, 2) := by decide +kernel
theorem dX6_twinOf_28 : decode cX6_twinOf 28 = .ok (.invokevirtual 83, 3) := by decide +kernel
theorem dX6_twinOf_31 : decode cX6_twinOf 31 = .ok (.ifCond .eq 21, 3) := by decide +kernel
theorem dX6_twinOf_34 : decode cX6_twinOf 34 = .ok (.iinc 4 1, 3) := by decide +kernel
theorem dX6_twinOf_37 : decode cX6_twinOf 37 = .ok (.aload_n 0, 1) := by decide +kernel
theorem dX6_twinOf_38 : decode cX6_twinOf 38 = .ok (.iload_n 2, 1) := by decide +kernel
theorem dX6_twinOf_39 : decode cX6_twinOf 39 = .ok (.iload 5, 2) := by decide +kernel
theorem dX6_twinOf_41 : decode cX6_twinOf 41 = .ok (.iconst 3, 1) := by decide +kernel
theorem dX6_twinOf_42 : decode cX6_twinOf 42 = .ok (.invokevirtual 73, 3) := by decide +kernel
theorem dX6_twinOf_45 : decode cX6_twinOf 45 = .ok (.iload_n 3, 1) := by decide +kernel
theorem dX6_twinOf_46 : decode cX6_twinOf 46 = .ok (.if_icmp .ne 6, 3) := by decide +kernel
theorem dX6_twinOf_49 : decode cX6_twinOf 49 = .ok (.iload 5, 2) := by decide +kernel
theorem dX6_twinOf_51 : decode cX6_twinOf 51 = .ok (.ireturn, 1) := by decide +kernel
theorem dX6_twinOf_52 : decode cX6_twinOf 52 = .ok (.iinc 5 (-1), 3) := by decide +kernel
theorem dX6_twinOf_55 : decode cX6_twinOf 55 = .ok (.goto (-43), 3) := by decide +kernel
theorem dX6_twinOf_58 : decode cX6_twinOf 58 = .ok (.iconst (-1), 1) := by decide +kernel
theorem dX6_twinOf_59 : decode cX6_twinOf 59 = .ok (.ireturn, 1) := by decide +kernel
theorem dX6_dueOf_0 : decode cX6_dueOf 0 = .ok (.aload_n 0, 1) := by decide +kernel
theorem dX6_dueOf_1 : decode cX6_dueOf 1 = .ok (.iload_n 2, 1) := by decide +kernel
theorem dX6_dueOf_2 : decode cX6_dueOf 2 = .ok (.invokevirtual 70, 3) := by decide +kernel
theorem dX6_dueOf_5 : decode cX6_dueOf 5 = .ok (.iconst 1, 1) := by decide +kernel
theorem dX6_dueOf_6 : decode cX6_dueOf 6 = .ok (.isub, 1) := by decide +kernel
theorem dX6_dueOf_7 : decode cX6_dueOf 7 = .ok (.istore_n 3, 1) := by decide +kernel
theorem dX6_dueOf_8 : decode cX6_dueOf 8 = .ok (.iload_n 3, 1) := by decide +kernel
theorem dX6_dueOf_9 : decode cX6_dueOf 9 = .ok (.ifCond .lt 29, 3) := by decide +kernel
theorem dX6_dueOf_12 : decode cX6_dueOf 12 = .ok (.aload_n 0, 1) := by decide +kernel
theorem dX6_dueOf_13 : decode cX6_dueOf 13 = .ok (.iload_n 1, 1) := by decide +kernel
theorem dX6_dueOf_14 : decode cX6_dueOf 14 = .ok (.iload_n 2, 1) := by decide +kernel
theorem dX6_dueOf_15 : decode cX6_dueOf 15 = .ok (.iload_n 3, 1) := by decide +kernel
theorem dX6_dueOf_16 : decode cX6_dueOf 16 = .ok (.invokevirtual 83, 3) := by decide +kernel
theorem dX6_dueOf_19 : decode cX6_dueOf 19 = .ok (.ifCond .eq 13, 3) := by decide +kernel
theorem dX6_dueOf_22 : decode cX6_dueOf 22 = .ok (.aload_n 0, 1) := by decide +kernel
theorem dX6_dueOf_23 : decode cX6_dueOf 23 = .ok (.iload_n 2, 1) := by decide +kernel
theorem dX6_dueOf_24 : decode cX6_dueOf 24 = .ok (.iload_n 3, 1) := by decide +kernel
theorem dX6_dueOf_25 : decode cX6_dueOf 25 = .ok (.iconst 3, 1) := by decide +kernel
theorem dX6_dueOf_26 : decode cX6_dueOf 26 = .ok (.invokevirtual 73, 3) := by decide +kernel
theorem dX6_dueOf_29 : decode cX6_dueOf 29 = .ok (.iconst 1, 1) := by decide +kernel
theorem dX6_dueOf_30 : decode cX6_dueOf 30 = .ok (.iadd, 1) := by decide +kernel
theorem dX6_dueOf_31 : decode cX6_dueOf 31 = .ok (.ireturn, 1) := by decide +kernel
theorem dX6_dueOf_32 : decode cX6_dueOf 32 = .ok (.iinc 3 (-1), 3) := by decide +kernel
theorem dX6_dueOf_35 : decode cX6_dueOf 35 = .ok (.goto (-27), 3) := by decide +kernel
theorem dX6_dueOf_38 : decode cX6_dueOf 38 = .ok (.iconst 0, 1) := by decide +kernel
theorem dX6_dueOf_39 : decode cX6_dueOf 39 = .ok (.ireturn, 1) := by decide +kernel
theorem dX6_isOver_0 : decode cX6_isOver 0 = .ok (.iconst 0, 1) := by decide +kernel
theorem dX6_isOver_1 : decode cX6_isOver 1 = .ok (.istore_n 2, 1) := by decide +kernel
theorem dX6_isOver_2 : decode cX6_isOver 2 = .ok (.iload_n 2, 1) := by decide +kernel
theorem dX6_isOver_3 : decode cX6_isOver 3 = .ok (.iconst 2, 1) := by decide +kernel
theorem dX6_isOver_4 : decode cX6_isOver 4 = .ok (.if_icmp .ge 70, 3) := by decide +kernel
theorem dX6_isOver_7 : decode cX6_isOver 7 = .ok (.iconst 0, 1) := by decide +kernel
theorem dX6_isOver_8 : decode cX6_isOver 8 = .ok (.istore_n 3, 1) := by decide +kernel
theorem dX6_isOver_9 : decode cX6_isOver 9 = .ok (.iload_n 3, 1) := by decide +kernel
theorem dX6_isOver_10 : decode cX6_isOver 10 = .ok (.iconst 3, 1) := by decide +kernel
theorem dX6_isOver_11 : decode cX6_isOver 11 = .ok (.if_icmp .ge 57, 3) := by decide +kernel
theorem dX6_isOver_14 : decode cX6_isOver 14 = .ok (.aload_n 0, 1) := by decide +kernel
theorem dX6_isOver_15 : decode cX6_isOver 15 = .ok (.iload_n 1, 1) := by decide +kernel
theorem dX6_isOver_16 : decode cX6_isOver 16 = .ok (.bipush 10, 2) := by decide +kernel
theorem dX6_isOver_18 : decode cX6_isOver 18 = .ok (.iconst 3, 1) := by decide +kernel
theorem dX6_isOver_19 : decode cX6_isOver 19 = .ok (.iload_n 2, 1) := by decide +kernel
theorem dX6_isOver_20 : decode cX6_isOver 20 = .ok (.imul, 1) := by decide +kernel
theorem dX6_isOver_21 : decode cX6_isOver 21 = .ok (.iadd, 1) := by decide +kernel
theorem dX6_isOver_22 : decode cX6_isOver 22 = .ok (.iload_n 3, 1) := by decide +kernel
theorem dX6_isOver_23 : decode cX6_isOver 23 = .ok (.iadd, 1) := by decide +kernel
theorem dX6_isOver_24 : decode cX6_isOver 24 = .ok (.invokevirtual 56, 3) := by decide +kernel
theorem dX6_isOver_27 : decode cX6_isOver 27 = .ok (.istore 4, 2) := by decide +kernel
theorem dX6_isOver_29 : decode cX6_isOver 29 = .ok (.aload_n 0, 1) := by decide +kernel
theorem dX6_isOver_30 : decode cX6_isOver 30 = .ok (.iload_n 1, 1) := by decide +kernel
theorem dX6_isOver_31 : decode cX6_isOver 31 = .ok (.iconst 4, 1) := by decide +kernel
theorem dX6_isOver_32 : decode cX6_isOver 32 = .ok (.invokevirtual 56, 3) := by decide +kernel
theorem dX6_isOver_35 : decode cX6_isOver 35 = .ok (.iconst 1, 1) := by decide +kernel
theorem dX6_isOver_36 : decode cX6_isOver 36 = .ok (.if_icmp .ne 26, 3) := by decide +kernel
theorem dX6_isOver_39 : decode cX6_isOver 39 = .ok (.iload 4, 2) := by decide +kernel
theorem dX6_isOver_41 : decode cX6_isOver 41 = .ok (.ifCond .lt 21, 3) := by decide +kernel
theorem dX6_isOver_44 : decode cX6_isOver 44 = .ok (.aload_n 0, 1) := by decide +kernel
theorem dX6_isOver_45 : decode cX6_isOver 45 = .ok (.getfield 7, 3) := by decide +kernel
theorem dX6_isOver_48 : decode cX6_isOver 48 = .ok (.bipush 69, 2) := by decide +kernel
theorem dX6_isOver_50 : decode cX6_isOver 50 = .ok (.bipush 6, 2) := by decide +kernel
theorem dX6_isOver_52 : decode cX6_isOver 52 = .ok (.iload_n 2, 1) := by decide +kernel
theorem dX6_isOver_53 : decode cX6_isOver 53 = .ok (.imul, 1) := by decide +kernel
theorem dX6_isOver_54 : decode cX6_isOver 54 = .ok (.iadd, 1) := by decide +kernel
theorem dX6_isOver_55 : decode cX6_isOver 55 = .ok (.iconst 3, 1) := by decide +kernel
theorem dX6_isOver_56 : decode cX6_isOver 56 = .ok (.iadd, 1) := by decide +kernel
theorem dX6_isOver_57 : decode cX6_isOver 57 = .ok (.iload_n 3, 1) := by decide +kernel
theorem dX6_isOver_58 : decode cX6_isOver 58 = .ok (.iadd, 1) := by decide +kernel
theorem dX6_isOver_59 : decode cX6_isOver 59 = .ok (.iload 4, 2) := by decide +kernel
theorem dX6_isOver_61 : decode cX6_isOver 61 = .ok (.iastore, 1) := by decide +kernel
theorem dX6_isOver_62 : decode cX6_isOver 62 = .ok (.iinc 3 1, 3) := by decide +kernel
theorem dX6_isOver_65 : decode cX6_isOver 65 = .ok (.goto (-56), 3) := by decide +kernel
theorem dX6_isOver_68 : decode cX6_isOver 68 = .ok (.iinc 2 1, 3) := by decide +kernel
theorem dX6_isOver_71 : decode cX6_isOver 71 = .ok (.goto (-69), 3) := by decide +kernel
theorem dX6_isOver_74 : decode cX6_isOver 74 = .ok (.aload_n 0, 1) := by decide +kernel
theorem dX6_isOver_75 : decode cX6_isOver 75 = .ok (.iload_n 1, 1) := by decide +kernel
theorem dX6_isOver_76 : decode cX6_isOver 76 = .ok (.iconst 1, 1) := by decide +kernel
theorem dX6_isOver_77 : decode cX6_isOver 77 = .ok (.iconst 0, 1) := by decide +kernel
theorem dX6_isOver_78 : decode cX6_isOver 78 = .ok (.invokevirtual 28, 3) := by decide +kernel
theorem dX6_isOver_81 : decode cX6_isOver 81 = .ok (.aload_n 0, 1) := by decide +kernel
theorem dX6_isOver_82 : decode cX6_isOver 82 = .ok (.iload_n 1, 1) := by decide +kernel
theorem dX6_isOver_83 : decode cX6_isOver 83 = .ok (.iconst 2, 1) := by decide +kernel
theorem dX6_isOver_84 : decode cX6_isOver 84 = .ok (.iconst 0, 1) := by decide +kernel
theorem dX6_isOver_85 : decode cX6_isOver 85 = .ok (.invokevirtual 28, 3) := by decide +kernel
theorem dX6_isOver_88 : decode cX6_isOver 88 = .ok (.aload_n 0, 1) := by decide +kernel
theorem dX6_isOver_89 : decode cX6_isOver 89 = .ok (.iload_n 1, 1) := by decide +kernel
theorem dX6_isOver_90 : decode cX6_isOver 90 = .ok (.iconst 3, 1) := by decide +kernel
theorem dX6_isOver_91 : decode cX6_isOver 91 = .ok (.iconst 0, 1) := by decide +kernel
theorem dX6_isOver_92 : decode cX6_isOver 92 = .ok (.invokevirtual 28, 3) := by decide +kernel
theorem dX6_isOver_95 : decode cX6_isOver 95 = .ok (.aload_n 0, 1) := by decide +kernel
theorem dX6_isOver_96 : decode cX6_isOver 96 = .ok (.iload_n 1, 1) := by decide +kernel
theorem dX6_isOver_97 : decode cX6_isOver 97 = .ok (.iconst 4, 1) := by decide +kernel
theorem dX6_isOver_98 : decode cX6_isOver 98 = .ok (.iconst 0, 1) := by decide +kernel
theorem dX6_isOver_99 : decode cX6_isOver 99 = .ok (.invokevirtual 28, 3) := by decide +kernel
theorem dX6_isOver_102 : decode cX6_isOver 102 = .ok (.return_, 1) := by decide +kernel
theorem dX6_endDeed_0 : decode cX6_endDeed 0 = .ok (.aload_n 0, 1) := by decide +kernel
theorem dX6_endDeed_1 : decode cX6_endDeed 1 = .ok (.iload_n 1, 1) := by decide +kernel
theorem dX6_endDeed_2 : decode cX6_endDeed 2 = .ok (.iconst 4, 1) := by decide +kernel
theorem dX6_endDeed_3 : decode cX6_endDeed 3 = .ok (.iload_n 2, 1) := by decide +kernel
theorem dX6_endDeed_4 : decode cX6_endDeed 4 = .ok (.invokevirtual 28, 3) := by decide +kernel
theorem dX6_endDeed_7 : decode cX6_endDeed 7 = .ok (.aload_n 0, 1) := by decide +kernel
theorem dX6_endDeed_8 : decode cX6_endDeed 8 = .ok (.iload_n 1, 1) := by decide +kernel
theorem dX6_endDeed_9 : decode cX6_endDeed 9 = .ok (.iconst 3, 1) := by decide +kernel
theorem dX6_endDeed_10 : decode cX6_endDeed 10 = .ok (.iconst 0, 1) := by decide +kernel
theorem dX6_endDeed_11 : decode cX6_endDeed 11 = .ok (.invokevirtual 28, 3) := by decide +kernel
theorem dX6_endDeed_14 : decode cX6_endDeed 14 = .ok (.aload_n 0, 1) := by decide +kernel
theorem dX6_endDeed_15 : decode cX6_endDeed 15 = .ok (.iload_n 1, 1) := by decide +kernel
theorem dX6_endDeed_16 : decode cX6_endDeed 16 = .ok (.bipush 6, 2) := by decide +kernel
theorem dX6_endDeed_18 : decode cX6_endDeed 18 = .ok (.aload_n 0, 1) := by decide +kernel
theorem dX6_endDeed_19 : decode cX6_endDeed 19 = .ok (.getfield 7, 3) := by decide +kernel
theorem dX6_endDeed_22 : decode cX6_endDeed 22 = .ok (.iconst 0, 1) := by decide +kernel
theorem dX6_endDeed_23 : decode cX6_endDeed 23 = .ok (.iaload, 1) := by decide +kernel
theorem dX6_endDeed_24 : decode cX6_endDeed 24 = .ok (.invokevirtual 28, 3) := by decide +kernel
theorem dX6_endDeed_27 : decode cX6_endDeed 27 = .ok (.aload_n 0, 1) := by decide +kernel
theorem dX6_endDeed_28 : decode cX6_endDeed 28 = .ok (.iload_n 1, 1) := by decide +kernel
theorem dX6_endDeed_29 : decode cX6_endDeed 29 = .ok (.iconst 1, 1) := by decide +kernel
theorem dX6_endDeed_30 : decode cX6_endDeed 30 = .ok (.iconst 2, 1) := by decide +kernel
theorem dX6_endDeed_31 : decode cX6_endDeed 31 = .ok (.invokevirtual 28, 3) := by decide +kernel
theorem dX6_endDeed_34 : decode cX6_endDeed 34 = .ok (.aload_n 0, 1) := by decide +kernel
theorem dX6_endDeed_35 : decode cX6_endDeed 35 = .ok (.iload_n 1, 1) := by decide +kernel
theorem dX6_endDeed_36 : decode cX6_endDeed 36 = .ok (.iconst 2, 1) := by decide +kernel
theorem dX6_endDeed_37 : decode cX6_endDeed 37 = .ok (.invokevirtual 56, 3) := by decide +kernel
theorem dX6_endDeed_40 : decode cX6_endDeed 40 = .ok (.ifCond .ne 8, 3) := by decide +kernel
theorem dX6_endDeed_43 : decode cX6_endDeed 43 = .ok (.aload_n 0, 1) := by decide +kernel
theorem dX6_endDeed_44 : decode cX6_endDeed 44 = .ok (.iload_n 1, 1) := by decide +kernel
theorem dX6_endDeed_45 : decode cX6_endDeed 45 = .ok (.invokevirtual 86, 3) := by decide +kernel
theorem dX6_endDeed_48 : decode cX6_endDeed 48 = .ok (.return_, 1) := by decide +kernel
theorem dX6_rank_0 : decode cX6_rank 0 = .ok (.iconst 0, 1) := by decide +kernel
theorem dX6_rank_1 : decode cX6_rank 1 = .ok (.istore_n 3, 1) := by decide +kernel
theorem dX6_rank_2 : decode cX6_rank 2 = .ok (.iconst 0, 1) := by decide +kernel
theorem dX6_rank_3 : decode cX6_rank 3 = .ok (.istore 4, 2) := by decide +kernel
theorem dX6_rank_5 : decode cX6_rank 5 = .ok (.iload 4, 2) := by decide +kernel
theorem dX6_rank_7 : decode cX6_rank 7 = .ok (.iload_n 2, 1) := by decide +kernel
theorem dX6_rank_8 : decode cX6_rank 8 = .ok (.if_icmp .gt 23, 3) := by decide +kernel
theorem dX6_rank_11 : decode cX6_rank 11 = .ok (.iload_n 3, 1) := by decide +kernel
theorem dX6_rank_12 : decode cX6_rank 12 = .ok (.aload_n 0, 1) := by decide +kernel
theorem dX6_rank_13 : decode cX6_rank 13 = .ok (.iload_n 1, 1) := by decide +kernel
theorem dX6_rank_14 : decode cX6_rank 14 = .ok (.iconst 2, 1) := by decide +kernel
theorem dX6_rank_15 : decode cX6_rank 15 = .ok (.invokevirtual 56, 3) := by decide +kernel
theorem dX6_rank_18 : decode cX6_rank 18 = .ok (.iload 4, 2) := by decide +kernel
theorem dX6_rank_20 : decode cX6_rank 20 = .ok (.ishr, 1) := by decide +kernel
theorem dX6_rank_21 : decode cX6_rank 21 = .ok (.iconst 1, 1) := by decide +kernel
theorem dX6_rank_22 : decode cX6_rank 22 = .ok (.iand, 1) := by decide +kernel
theorem dX6_rank_23 : decode cX6_rank 23 = .ok (.iadd, 1) := by decide +kernel
theorem dX6_rank_24 : decode cX6_rank 24 = .ok (.istore_n 3, 1) := by decide +kernel
theorem dX6_rank_25 : decode cX6_rank 25 = .ok (.iinc 4 1, 3) := by decide +kernel
theorem dX6_rank_28 : decode cX6_rank 28 = .ok (.goto (-23), 3) := by decide +kernel
theorem dX6_rank_31 : decode cX6_rank 31 = .ok (.iload_n 3, 1) := by decide +kernel
theorem dX6_rank_32 : decode cX6_rank 32 = .ok (.ireturn, 1) := by decide +kernel
theorem dX6_isDue_0 : decode cX6_isDue 0 = .ok (.aload_n 0, 1) := by decide +kernel
theorem dX6_isDue_1 : decode cX6_isDue 1 = .ok (.iload_n 1, 1) := by decide +kernel
theorem dX6_isDue_2 : decode cX6_isDue 2 = .ok (.iconst 1, 1) := by decide +kernel
theorem dX6_isDue_3 : decode cX6_isDue 3 = .ok (.invokevirtual 56, 3) := by decide +kernel
theorem dX6_isDue_6 : decode cX6_isDue 6 = .ok (.iconst 2, 1) := by decide +kernel
theorem dX6_isDue_7 : decode cX6_isDue 7 = .ok (.if_icmp .ne 39, 3) := by decide +kernel
theorem dX6_isDue_10 : decode cX6_isDue 10 = .ok (.aload_n 0, 1) := by decide +kernel
theorem dX6_isDue_11 : decode cX6_isDue 11 = .ok (.iload_n 1, 1) := by decide +kernel
theorem dX6_isDue_12 : decode cX6_isDue 12 = .ok (.iload_n 2, 1) := by decide +kernel
theorem dX6_isDue_13 : decode cX6_isDue 13 = .ok (.invokevirtual 63, 3) := by decide +kernel
theorem dX6_isDue_16 : decode cX6_isDue 16 = .ok (.ifCond .eq 30, 3) := by decide +kernel
theorem dX6_isDue_19 : decode cX6_isDue 19 = .ok (.aload_n 0, 1) := by decide +kernel
theorem dX6_isDue_20 : decode cX6_isDue 20 = .ok (.iload_n 1, 1) := by decide +kernel
theorem dX6_isDue_21 : decode cX6_isDue 21 = .ok (.bipush 6, 2) := by decide +kernel
theorem dX6_isDue_23 : decode cX6_isDue 23 = .ok (.invokevirtual 56, 3) := by decide +kernel
theorem dX6_isDue_26 : decode cX6_isDue 26 = .ok (.aload_n 0, 1) := by decide +kernel
theorem dX6_isDue_27 : decode cX6_isDue 27 = .ok (.iload_n 1, 1) := by decide +kernel
theorem dX6_isDue_28 : decode cX6_isDue 28 = .ok (.iload_n 2, 1) := by decide +kernel
theorem dX6_isDue_29 : decode cX6_isDue 29 = .ok (.invokevirtual 90, 3) := by decide +kernel
theorem dX6_isDue_32 : decode cX6_isDue 32 = .ok (.iadd, 1) := by decide +kernel
theorem dX6_isDue_33 : decode cX6_isDue 33 = .ok (.aload_n 0, 1) := by decide +kernel
theorem dX6_isDue_34 : decode cX6_isDue 34 = .ok (.getfield 7, 3) := by decide +kernel
theorem dX6_isDue_37 : decode cX6_isDue 37 = .ok (.iconst 0, 1) := by decide +kernel
theorem dX6_isDue_38 : decode cX6_isDue 38 = .ok (.iaload, 1) := by decide +kernel
theorem dX6_isDue_39 : decode cX6_isDue 39 = .ok (.if_icmp .ne 7, 3) := by decide +kernel
theorem dX6_isDue_42 : decode cX6_isDue 42 = .ok (.iconst 1, 1) := by decide +kernel
theorem dX6_isDue_43 : decode cX6_isDue 43 = .ok (.goto 4, 3) := by decide +kernel
theorem dX6_isDue_46 : decode cX6_isDue 46 = .ok (.iconst 0, 1) := by decide +kernel
theorem dX6_isDue_47 : decode cX6_isDue 47 = .ok (.ireturn, 1) := by decide +kernel
theorem dX6_writeMark_0 : decode cX6_writeMark 0 = .ok (.aload_n 0, 1) := by decide +kernel
theorem dX6_writeMark_1 : decode cX6_writeMark 1 = .ok (.iload_n 2, 1) := by decide +kernel
theorem dX6_writeMark_2 : decode cX6_writeMark 2 = .ok (.invokevirtual 70, 3) := by decide +kernel
theorem dX6_writeMark_5 : decode cX6_writeMark 5 = .ok (.istore_n 3, 1) := by decide +kernel
theorem dX6_writeMark_6 : decode cX6_writeMark 6 = .ok (.aload_n 0, 1) := by decide +kernel
theorem dX6_writeMark_7 : decode cX6_writeMark 7 = .ok (.iload_n 1, 1) := by decide +kernel
theorem dX6_writeMark_8 : decode cX6_writeMark 8 = .ok (.iconst 4, 1) := by decide +kernel
theorem dX6_writeMark_9 : decode cX6_writeMark 9 = .ok (.invokevirtual 56, 3) := by decide +kernel
theorem dX6_writeMark_12 : decode cX6_writeMark 12 = .ok (.istore 4, 2) := by decide +kernel
theorem dX6_writeMark_14 : decode cX6_writeMark 14 = .ok (.aload_n 0, 1) := by decide +kernel
theorem dX6_writeMark_15 : decode cX6_writeMark 15 = .ok (.iload_n 2, 1) := by decide +kernel
theorem dX6_writeMark_16 : decode cX6_writeMark 16 = .ok (.iload_n 3, 1) := by decide +kernel
theorem dX6_writeMark_17 : decode cX6_writeMark 17 = .ok (.iconst 0, 1) := by decide +kernel
theorem dX6_writeMark_18 : decode cX6_writeMark 18 = .ok (.iconst 1, 1) := by decide +kernel
theorem dX6_writeMark_19 : decode cX6_writeMark 19 = .ok (.invokevirtual 93, 3) := by decide +kernel
theorem dX6_writeMark_22 : decode cX6_writeMark 22 = .ok (.aload_n 0, 1) := by decide +kernel
theorem dX6_writeMark_23 : decode cX6_writeMark 23 = .ok (.iload_n 2, 1) := by decide +kernel
theorem dX6_writeMark_24 : decode cX6_writeMark 24 = .ok (.iload_n 3, 1) := by decide +kernel
theorem dX6_writeMark_25 : decode cX6_writeMark 25 = .ok (.iconst 1, 1) := by decide +kernel
theorem dX6_writeMark_26 : decode cX6_writeMark 26 = .ok (.iload_n 1, 1) := by decide +kernel
theorem dX6_writeMark_27 : decode cX6_writeMark 27 = .ok (.invokevirtual 93, 3) := by decide +kernel
theorem dX6_writeMark_30 : decode cX6_writeMark 30 = .ok (.aload_n 0, 1) := by decide +kernel
theorem dX6_writeMark_31 : decode cX6_writeMark 31 = .ok (.iload_n 2, 1) := by decide +kernel
theorem dX6_writeMark_32 : decode cX6_writeMark 32 = .ok (.iload_n 3, 1) := by decide +kernel
theorem dX6_writeMark_33 : decode cX6_writeMark 33 = .ok (.iconst 2, 1) := by decide +kernel
theorem dX6_writeMark_34 : decode cX6_writeMark 34 = .ok (.aload_n 0, 1) := by decide +kernel
theorem dX6_writeMark_35 : decode cX6_writeMark 35 = .ok (.iload_n 1, 1) := by decide +kernel
theorem dX6_writeMark_36 : decode cX6_writeMark 36 = .ok (.iconst 0, 1) := by decide +kernel
theorem dX6_writeMark_37 : decode cX6_writeMark 37 = .ok (.invokevirtual 56, 3) := by decide +kernel
theorem dX6_writeMark_40 : decode cX6_writeMark 40 = .ok (.invokevirtual 93, 3) := by decide +kernel
theorem dX6_writeMark_43 : decode cX6_writeMark 43 = .ok (.aload_n 0, 1) := by decide +kernel
theorem dX6_writeMark_44 : decode cX6_writeMark 44 = .ok (.iload_n 2, 1) := by decide +kernel
theorem dX6_writeMark_45 : decode cX6_writeMark 45 = .ok (.iload_n 3, 1) := by decide +kernel
theorem dX6_writeMark_46 : decode cX6_writeMark 46 = .ok (.iconst 3, 1) := by decide +kernel
theorem dX6_writeMark_47 : decode cX6_writeMark 47 = .ok (.iconst (-1), 1) := by decide +kernel
theorem dX6_writeMark_48 : decode cX6_writeMark 48 = .ok (.invokevirtual 93, 3) := by decide +kernel
theorem dX6_writeMark_51 : decode cX6_writeMark 51 = .ok (.aload_n 0, 1) := by decide +kernel
theorem dX6_writeMark_52 : decode cX6_writeMark 52 = .ok (.iload_n 2, 1) := by decide +kernel
theorem dX6_writeMark_53 : decode cX6_writeMark 53 = .ok (.iload_n 3, 1) := by decide +kernel
theorem dX6_writeMark_54 : decode cX6_writeMark 54 = .ok (.iconst 4, 1) := by decide +kernel
theorem dX6_writeMark_55 : decode cX6_writeMark 55 = .ok (.iload 4, 2) := by decide +kernel
theorem dX6_writeMark_57 : decode cX6_writeMark 57 = .ok (.invokevirtual 93, 3) := by decide +kernel
theorem dX6_writeMark_60 : decode cX6_writeMark 60 = .ok (.aload_n 0, 1) := by decide +kernel
theorem dX6_writeMark_61 : decode cX6_writeMark 61 = .ok (.iload_n 2, 1) := by decide +kernel
theorem dX6_writeMark_62 : decode cX6_writeMark 62 = .ok (.iload_n 3, 1) := by decide +kernel
theorem dX6_writeMark_63 : decode cX6_writeMark 63 = .ok (.iconst 5, 1) := by decide +kernel
theorem dX6_writeMark_64 : decode cX6_writeMark 64 = .ok (.aload_n 0, 1) := by decide +kernel
theorem dX6_writeMark_65 : decode cX6_writeMark 65 = .ok (.iload_n 1, 1) := by decide +kernel
theorem dX6_writeMark_66 : decode cX6_writeMark 66 = .ok (.bipush 7, 2) := by decide +kernel
theorem dX6_writeMark_68 : decode cX6_writeMark 68 = .ok (.iload_n 2, 1) := by decide +kernel
theorem dX6_writeMark_69 : decode cX6_writeMark 69 = .ok (.iadd, 1) := by decide +kernel
theorem dX6_writeMark_70 : decode cX6_writeMark 70 = .ok (.invokevirtual 56, 3) := by decide +kernel
theorem dX6_writeMark_73 : decode cX6_writeMark 73 = .ok (.invokevirtual 93, 3) := by decide +kernel
theorem dX6_writeMark_76 : decode cX6_writeMark 76 = .ok (.iconst 0, 1) := by decide +kernel
theorem dX6_writeMark_77 : decode cX6_writeMark 77 = .ok (.istore 5, 2) := by decide +kernel
theorem dX6_writeMark_79 : decode cX6_writeMark 79 = .ok (.iload 5, 2) := by decide +kernel
theorem dX6_writeMark_81 : decode cX6_writeMark 81 = .ok (.iload_n 3, 1) := by decide +kernel
theorem dX6_writeMark_82 : decode cX6_writeMark 82 = .ok (.if_icmp .ge 63, 3) := by decide +kernel
theorem dX6_writeMark_85 : decode cX6_writeMark 85 = .ok (.aload_n 0, 1) := by decide +kernel
theorem dX6_writeMark_86 : decode cX6_writeMark 86 = .ok (.iload_n 2, 1) := by decide +kernel
theorem dX6_writeMark_87 : decode cX6_writeMark 87 = .ok (.iload 5, 2) := by decide +kernel
theorem dX6_writeMark_89 : decode cX6_writeMark 89 = .ok (.iconst 0, 1) := by decide +kernel
theorem dX6_writeMark_90 : decode cX6_writeMark 90 = .ok (.invokevirtual 73, 3) := by decide +kernel
theorem dX6_writeMark_93 : decode cX6_writeMark 93 = .ok (.ifCond .ne 46, 3) := by decide +kernel
theorem dX6_writeMark_96 : decode cX6_writeMark 96 = .ok (.aload_n 0, 1) := by decide +kernel
theorem dX6_writeMark_97 : decode cX6_writeMark 97 = .ok (.iload_n 2, 1) := by decide +kernel
theorem dX6_writeMark_98 : decode cX6_writeMark 98 = .ok (.iload 5, 2) := by decide +kernel
theorem dX6_writeMark_100 : decode cX6_writeMark 100 = .ok (.iconst 1, 1) := by decide +kernel
theorem dX6_writeMark_101 : decode cX6_writeMark 101 = .ok (.invokevirtual 73, 3) := by decide +kernel
theorem dX6_writeMark_104 : decode cX6_writeMark 104 = .ok (.iload_n 1, 1) := by decide +kernel
theorem dX6_writeMark_105 : decode cX6_writeMark 105 = .ok (.if_icmp .ne 34, 3) := by decide +kernel
theorem dX6_writeMark_108 : decode cX6_writeMark 108 = .ok (.aload_n 0, 1) := by decide +kernel
theorem dX6_writeMark_109 : decode cX6_writeMark 109 = .ok (.iload_n 2, 1) := by decide +kernel
theorem dX6_writeMark_110 : decode cX6_writeMark 110 = .ok (.iload 5, 2) := by decide +kernel
theorem dX6_writeMark_112 : decode cX6_writeMark 112 = .ok (.iconst 5, 1) := by decide +kernel
theorem dX6_writeMark_113 : decode cX6_writeMark 113 = .ok (.invokevirtual 73, 3) := by decide +kernel
theorem dX6_writeMark_116 : decode cX6_writeMark 116 = .ok (.iconst 1, 1) := by decide +kernel
theorem dX6_writeMark_117 : decode cX6_writeMark 117 = .ok (.if_icmp .ne 22, 3) := by decide +kernel
theorem dX6_writeMark_120 : decode cX6_writeMark 120 = .ok (.aload_n 0, 1) := by decide +kernel
theorem dX6_writeMark_121 : decode cX6_writeMark 121 = .ok (.iload_n 2, 1) := by decide +kernel
theorem dX6_writeMark_122 : decode cX6_writeMark 122 = .ok (.iload 5, 2) := by decide +kernel
theorem dX6_writeMark_124 : decode cX6_writeMark 124 = .ok (.iconst 5, 1) := by decide +kernel
theorem dX6_writeMark_125 : decode cX6_writeMark 125 = .ok (.iload 4, 2) := by decide +kernel
theorem dX6_writeMark_127 : decode cX6_writeMark 127 = .ok (.iconst 1, 1) := by decide +kernel
theorem dX6_writeMark_128 : decode cX6_writeMark 128 = .ok (.if_icmp .ne 7, 3) := by decide +kernel
theorem dX6_writeMark_131 : decode cX6_writeMark 131 = .ok (.iconst 2, 1) := by decide +kernel
theorem dX6_writeMark_132 : decode cX6_writeMark 132 = .ok (.goto 4, 3) := by decide +kernel
theorem dX6_writeMark_135 : decode cX6_writeMark 135 = .ok (.iconst 3, 1) := by decide +kernel
theorem dX6_writeMark_136 : decode cX6_writeMark 136 = .ok (.invokevirtual 93, 3) := by decide +kernel
theorem dX6_writeMark_139 : decode cX6_writeMark 139 = .ok (.iinc 5 1, 3) := by decide +kernel
theorem dX6_writeMark_142 : decode cX6_writeMark 142 = .ok (.goto (-63), 3) := by decide +kernel
theorem dX6_writeMark_145 : decode cX6_writeMark 145 = .ok (.aload_n 0, 1) := by decide +kernel
theorem dX6_writeMark_146 : decode cX6_writeMark 146 = .ok (.getfield 7, 3) := by decide +kernel
theorem dX6_writeMark_149 : decode cX6_writeMark 149 = .ok (.bipush 66, 2) := by decide +kernel
theorem dX6_writeMark_151 : decode cX6_writeMark 151 = .ok (.iload_n 2, 1) := by decide +kernel
theorem dX6_writeMark_152 : decode cX6_writeMark 152 = .ok (.iadd, 1) := by decide +kernel
theorem dX6_writeMark_153 : decode cX6_writeMark 153 = .ok (.dup2, 1) := by decide +kernel
theorem dX6_writeMark_154 : decode cX6_writeMark 154 = .ok (.iaload, 1) := by decide +kernel
theorem dX6_writeMark_155 : decode cX6_writeMark 155 = .ok (.iconst 1, 1) := by decide +kernel
theorem dX6_writeMark_156 : decode cX6_writeMark 156 = .ok (.iadd, 1) := by decide +kernel
theorem dX6_writeMark_157 : decode cX6_writeMark 157 = .ok (.iastore, 1) := by decide +kernel
theorem dX6_writeMark_158 : decode cX6_writeMark 158 = .ok (.aload_n 0, 1) := by decide +kernel
theorem dX6_writeMark_159 : decode cX6_writeMark 159 = .ok (.iload_n 1, 1) := by decide +kernel
theorem dX6_writeMark_160 : decode cX6_writeMark 160 = .ok (.iconst 3, 1) := by decide +kernel
theorem dX6_writeMark_161 : decode cX6_writeMark 161 = .ok (.aload_n 0, 1) := by decide +kernel
theorem dX6_writeMark_162 : decode cX6_writeMark 162 = .ok (.iload_n 1, 1) := by decide +kernel
theorem dX6_writeMark_163 : decode cX6_writeMark 163 = .ok (.iconst 3, 1) := by decide +kernel
theorem dX6_writeMark_164 : decode cX6_writeMark 164 = .ok (.invokevirtual 56, 3) := by decide +kernel
theorem dX6_writeMark_167 : decode cX6_writeMark 167 = .ok (.iconst 1, 1) := by decide +kernel
theorem dX6_writeMark_168 : decode cX6_writeMark 168 = .ok (.iload_n 2, 1) := by decide +kernel
theorem dX6_writeMark_169 : decode cX6_writeMark 169 = .ok (.ishl, 1) := by decide +kernel
theorem dX6_writeMark_170 : decode cX6_writeMark 170 = .ok (.ior, 1) := by decide +kernel
theorem dX6_writeMark_171 : decode cX6_writeMark 171 = .ok (.invokevirtual 28, 3) := by decide +kernel
theorem dX6_writeMark_174 : decode cX6_writeMark 174 = .ok (.aload_n 0, 1) := by decide +kernel
theorem dX6_writeMark_175 : decode cX6_writeMark 175 = .ok (.iload_n 1, 1) := by decide +kernel
theorem dX6_writeMark_176 : decode cX6_writeMark 176 = .ok (.iconst 3, 1) := by decide +kernel
theorem dX6_writeMark_177 : decode cX6_writeMark 177 = .ok (.invokevirtual 56, 3) := by decide +kernel
theorem dX6_writeMark_180 : decode cX6_writeMark 180 = .ok (.aload_n 0, 1) := by decide +kernel
theorem dX6_writeMark_181 : decode cX6_writeMark 181 = .ok (.iload_n 1, 1) := by decide +kernel
theorem dX6_writeMark_182 : decode cX6_writeMark 182 = .ok (.iconst 2, 1) := by decide +kernel
theorem dX6_writeMark_183 : decode cX6_writeMark 183 = .ok (.invokevirtual 56, 3) := by decide +kernel
theorem dX6_writeMark_186 : decode cX6_writeMark 186 = .ok (.if_icmp .ne 8, 3) := by decide +kernel
theorem dX6_writeMark_189 : decode cX6_writeMark 189 = .ok (.aload_n 0, 1) := by decide +kernel
theorem dX6_writeMark_190 : decode cX6_writeMark 190 = .ok (.iload_n 1, 1) := by decide +kernel
theorem dX6_writeMark_191 : decode cX6_writeMark 191 = .ok (.invokevirtual 86, 3) := by decide +kernel
theorem dX6_writeMark_194 : decode cX6_writeMark 194 = .ok (.return_, 1) := by decide +kernel
theorem dX6_tick_0 : decode cX6_tick 0 = .ok (.aload_n 0, 1) := by decide +kernel
theorem dX6_tick_1 : decode cX6_tick 1 = .ok (.getfield 7, 3) := by decide +kernel
theorem dX6_tick_4 : decode cX6_tick 4 = .ok (.iconst 0, 1) := by decide +kernel
theorem dX6_tick_5 : decode cX6_tick 5 = .ok (.dup2, 1) := by decide +kernel
theorem dX6_tick_6 : decode cX6_tick 6 = .ok (.iaload, 1) := by decide +kernel
theorem dX6_tick_7 : decode cX6_tick 7 = .ok (.iconst 1, 1) := by decide +kernel
theorem dX6_tick_8 : decode cX6_tick 8 = .ok (.iadd, 1) := by decide +kernel
theorem dX6_tick_9 : decode cX6_tick 9 = .ok (.iastore, 1) := by decide +kernel
theorem dX6_tick_10 : decode cX6_tick 10 = .ok (.iconst 0, 1) := by decide +kernel
theorem dX6_tick_11 : decode cX6_tick 11 = .ok (.istore_n 1, 1) := by decide +kernel
theorem dX6_tick_12 : decode cX6_tick 12 = .ok (.iconst 0, 1) := by decide +kernel
theorem dX6_tick_13 : decode cX6_tick 13 = .ok (.istore_n 2, 1) := by decide +kernel
theorem dX6_tick_14 : decode cX6_tick 14 = .ok (.iload_n 2, 1) := by decide +kernel
theorem dX6_tick_15 : decode cX6_tick 15 = .ok (.iconst 4, 1) := by decide +kernel
theorem dX6_tick_16 : decode cX6_tick 16 = .ok (.if_icmp .ge 40, 3) := by decide +kernel
theorem dX6_tick_19 : decode cX6_tick 19 = .ok (.iconst 0, 1) := by decide +kernel
theorem dX6_tick_20 : decode cX6_tick 20 = .ok (.istore_n 3, 1) := by decide +kernel
theorem dX6_tick_21 : decode cX6_tick 21 = .ok (.iload_n 3, 1) := by decide +kernel
theorem dX6_tick_22 : decode cX6_tick 22 = .ok (.iconst 3, 1) := by decide +kernel
theorem dX6_tick_23 : decode cX6_tick 23 = .ok (.if_icmp .ge 27, 3) := by decide +kernel
theorem dX6_tick_26 : decode cX6_tick 26 = .ok (.aload_n 0, 1) := by decide +kernel
theorem dX6_tick_27 : decode cX6_tick 27 = .ok (.iload_n 2, 1) := by decide +kernel
theorem dX6_tick_28 : decode cX6_tick 28 = .ok (.iload_n 3, 1) := by decide +kernel
theorem dX6_tick_29 : decode cX6_tick 29 = .ok (.invokevirtual 97, 3) := by decide +kernel
theorem dX6_tick_32 : decode cX6_tick 32 = .ok (.ifCond .eq 12, 3) := by decide +kernel
theorem dX6_tick_35 : decode cX6_tick 35 = .ok (.aload_n 0, 1) := by decide +kernel
theorem dX6_tick_36 : decode cX6_tick 36 = .ok (.iload_n 2, 1) := by decide +kernel
theorem dX6_tick_37 : decode cX6_tick 37 = .ok (.iload_n 3, 1) := by decide +kernel
theorem dX6_tick_38 : decode cX6_tick 38 = .ok (.invokevirtual 100, 3) := by decide +kernel
theorem dX6_tick_41 : decode cX6_tick 41 = .ok (.iinc 1 1, 3) := by decide +kernel
theorem dX6_tick_44 : decode cX6_tick 44 = .ok (.iinc 3 1, 3) := by decide +kernel
theorem dX6_tick_47 : decode cX6_tick 47 = .ok (.goto (-26), 3) := by decide +kernel
theorem dX6_tick_50 : decode cX6_tick 50 = .ok (.iinc 2 1, 3) := by decide +kernel
theorem dX6_tick_53 : decode cX6_tick 53 = .ok (.goto (-39), 3) := by decide +kernel
theorem dX6_tick_56 : decode cX6_tick 56 = .ok (.iconst 0, 1) := by decide +kernel
theorem dX6_tick_57 : decode cX6_tick 57 = .ok (.istore_n 2, 1) := by decide +kernel
theorem dX6_tick_58 : decode cX6_tick 58 = .ok (.iload_n 2, 1) := by decide +kernel
theorem dX6_tick_59 : decode cX6_tick 59 = .ok (.iconst 4, 1) := by decide +kernel
theorem dX6_tick_60 : decode cX6_tick 60 = .ok (.if_icmp .ge 61, 3) := by decide +kernel
theorem dX6_tick_63 : decode cX6_tick 63 = .ok (.aload_n 0, 1) := by decide +kernel
theorem dX6_tick_64 : decode cX6_tick 64 = .ok (.iload_n 2, 1) := by decide +kernel
theorem dX6_tick_65 : decode cX6_tick 65 = .ok (.iconst 1, 1) := by decide +kernel
theorem dX6_tick_66 : decode cX6_tick 66 = .ok (.invokevirtual 56, 3) := by decide +kernel
theorem dX6_tick_69 : decode cX6_tick 69 = .ok (.iconst 1, 1) := by decide +kernel
theorem dX6_tick_70 : decode cX6_tick 70 = .ok (.if_icmp .ne 45, 3) := by decide +kernel
theorem dX6_tick_73 : decode cX6_tick 73 = .ok (.aload_n 0, 1) := by decide +kernel
theorem dX6_tick_74 : decode cX6_tick 74 = .ok (.getfield 7, 3) := by decide +kernel
theorem dX6_tick_77 : decode cX6_tick 77 = .ok (.iconst 0, 1) := by decide +kernel
theorem dX6_tick_78 : decode cX6_tick 78 = .ok (.iaload, 1) := by decide +kernel
theorem dX6_tick_79 : decode cX6_tick 79 = .ok (.aload_n 0, 1) := by decide +kernel
theorem dX6_tick_80 : decode cX6_tick 80 = .ok (.iload_n 2, 1) := by decide +kernel
theorem dX6_tick_81 : decode cX6_tick 81 = .ok (.iconst 5, 1) := by decide +kernel
theorem dX6_tick_82 : decode cX6_tick 82 = .ok (.invokevirtual 56, 3) := by decide +kernel
theorem dX6_tick_85 : decode cX6_tick 85 = .ok (.isub, 1) := by decide +kernel
theorem dX6_tick_86 : decode cX6_tick 86 = .ok (.aload_n 0, 1) := by decide +kernel
theorem dX6_tick_87 : decode cX6_tick 87 = .ok (.getfield 7, 3) := by decide +kernel
theorem dX6_tick_90 : decode cX6_tick 90 = .ok (.iconst 1, 1) := by decide +kernel
theorem dX6_tick_91 : decode cX6_tick 91 = .ok (.iaload, 1) := by decide +kernel
theorem dX6_tick_92 : decode cX6_tick 92 = .ok (.if_icmp .lt 23, 3) := by decide +kernel
theorem dX6_tick_95 : decode cX6_tick 95 = .ok (.aload_n 0, 1) := by decide +kernel
theorem dX6_tick_96 : decode cX6_tick 96 = .ok (.iload_n 2, 1) := by decide +kernel
theorem dX6_tick_97 : decode cX6_tick 97 = .ok (.iconst 0, 1) := by decide +kernel
theorem dX6_tick_98 : decode cX6_tick 98 = .ok (.aload_n 0, 1) := by decide +kernel
theorem dX6_tick_99 : decode cX6_tick 99 = .ok (.iload_n 2, 1) := by decide +kernel
theorem dX6_tick_100 : decode cX6_tick 100 = .ok (.iconst 0, 1) := by decide +kernel
theorem dX6_tick_101 : decode cX6_tick 101 = .ok (.invokevirtual 56, 3) := by decide +kernel
theorem dX6_tick_104 : decode cX6_tick 104 = .ok (.iconst 1, 1) := by decide +kernel
theorem dX6_tick_105 : decode cX6_tick 105 = .ok (.iadd, 1) := by decide +kernel
theorem dX6_tick_106 : decode cX6_tick 106 = .ok (.invokevirtual 28, 3) := by decide +kernel
theorem dX6_tick_109 : decode cX6_tick 109 = .ok (.aload_n 0, 1) := by decide +kernel
theorem dX6_tick_110 : decode cX6_tick 110 = .ok (.iload_n 2, 1) := by decide +kernel
theorem dX6_tick_111 : decode cX6_tick 111 = .ok (.iconst 0, 1) := by decide +kernel
theorem dX6_tick_112 : decode cX6_tick 112 = .ok (.invokevirtual 104, 3) := by decide +kernel
theorem dX6_tick_115 : decode cX6_tick 115 = .ok (.iinc 2 1, 3) := by decide +kernel
theorem dX6_tick_118 : decode cX6_tick 118 = .ok (.goto (-60), 3) := by decide +kernel
theorem dX6_tick_121 : decode cX6_tick 121 = .ok (.iload_n 1, 1) := by decide +kernel
theorem dX6_tick_122 : decode cX6_tick 122 = .ok (.ireturn, 1) := by decide +kernel
theorem dX6_begins_0 : decode cX6_begins 0 = .ok (.iload_n 1, 1) := by decide +kernel
theorem dX6_begins_1 : decode cX6_begins 1 = .ok (.invokestatic 107, 3) := by decide +kernel
theorem dX6_begins_4 : decode cX6_begins 4 = .ok (.ifCond .ne 8, 3) := by decide +kernel
theorem dX6_begins_7 : decode cX6_begins 7 = .ok (.aload_n 0, 1) := by decide +kernel
theorem dX6_begins_8 : decode cX6_begins 8 = .ok (.invokevirtual 111, 3) := by decide +kernel
theorem dX6_begins_11 : decode cX6_begins 11 = .ok (.ireturn, 1) := by decide +kernel
theorem dX6_begins_12 : decode cX6_begins 12 = .ok (.aload_n 0, 1) := by decide +kernel
theorem dX6_begins_13 : decode cX6_begins 13 = .ok (.iload_n 1, 1) := by decide +kernel
theorem dX6_begins_14 : decode cX6_begins 14 = .ok (.iconst 1, 1) := by decide +kernel
theorem dX6_begins_15 : decode cX6_begins 15 = .ok (.invokevirtual 56, 3) := by decide +kernel
theorem dX6_begins_18 : decode cX6_begins 18 = .ok (.iconst 2, 1) := by decide +kernel
theorem dX6_begins_19 : decode cX6_begins 19 = .ok (.if_icmp .ne 11, 3) := by decide +kernel
theorem dX6_begins_22 : decode cX6_begins 22 = .ok (.aload_n 0, 1) := by decide +kernel
theorem dX6_begins_23 : decode cX6_begins 23 = .ok (.iconst 2, 1) := by decide +kernel
theorem dX6_begins_24 : decode cX6_begins 24 = .ok (.bipush (-3), 2) := by decide +kernel
theorem dX6_begins_26 : decode cX6_begins 26 = .ok (.invokevirtual 32, 3) := by decide +kernel
theorem dX6_begins_29 : decode cX6_begins 29 = .ok (.ireturn, 1) := by decide +kernel
theorem dX6_begins_30 : decode cX6_begins 30 = .ok (.aload_n 0, 1) := by decide +kernel
theorem dX6_begins_31 : decode cX6_begins 31 = .ok (.iload_n 1, 1) := by decide +kernel
theorem dX6_begins_32 : decode cX6_begins 32 = .ok (.iconst 0, 1) := by decide +kernel
theorem dX6_begins_33 : decode cX6_begins 33 = .ok (.invokevirtual 56, 3) := by decide +kernel
theorem dX6_begins_36 : decode cX6_begins 36 = .ok (.bipush 99, 2) := by decide +kernel
theorem dX6_begins_38 : decode cX6_begins 38 = .ok (.if_icmp .lt 11, 3) := by decide +kernel
theorem dX6_begins_41 : decode cX6_begins 41 = .ok (.aload_n 0, 1) := by decide +kernel
theorem dX6_begins_42 : decode cX6_begins 42 = .ok (.iconst 4, 1) := by decide +kernel
theorem dX6_begins_43 : decode cX6_begins 43 = .ok (.bipush (-4), 2) := by decide +kernel
theorem dX6_begins_45 : decode cX6_begins 45 = .ok (.invokevirtual 32, 3) := by decide +kernel
theorem dX6_begins_48 : decode cX6_begins 48 = .ok (.ireturn, 1) := by decide +kernel
theorem dX6_begins_49 : decode cX6_begins 49 = .ok (.aload_n 0, 1) := by decide +kernel
theorem dX6_begins_50 : decode cX6_begins 50 = .ok (.invokevirtual 115, 3) := by decide +kernel
theorem dX6_begins_53 : decode cX6_begins 53 = .ok (.aload_n 0, 1) := by decide +kernel
theorem dX6_begins_54 : decode cX6_begins 54 = .ok (.iload_n 1, 1) := by decide +kernel
theorem dX6_begins_55 : decode cX6_begins 55 = .ok (.iconst 0, 1) := by decide +kernel
theorem dX6_begins_56 : decode cX6_begins 56 = .ok (.aload_n 0, 1) := by decide +kernel
theorem dX6_begins_57 : decode cX6_begins 57 = .ok (.iload_n 1, 1) := by decide +kernel
theorem dX6_begins_58 : decode cX6_begins 58 = .ok (.iconst 0, 1) := by decide +kernel
theorem dX6_begins_59 : decode cX6_begins 59 = .ok (.invokevirtual 56, 3) := by decide +kernel
theorem dX6_begins_62 : decode cX6_begins 62 = .ok (.iconst 1, 1) := by decide +kernel
theorem dX6_begins_63 : decode cX6_begins 63 = .ok (.iadd, 1) := by decide +kernel
theorem dX6_begins_64 : decode cX6_begins 64 = .ok (.invokevirtual 28, 3) := by decide +kernel
theorem dX6_begins_67 : decode cX6_begins 67 = .ok (.aload_n 0, 1) := by decide +kernel
theorem dX6_begins_68 : decode cX6_begins 68 = .ok (.iload_n 1, 1) := by decide +kernel
theorem dX6_begins_69 : decode cX6_begins 69 = .ok (.iconst 1, 1) := by decide +kernel
theorem dX6_begins_70 : decode cX6_begins 70 = .ok (.invokevirtual 56, 3) := by decide +kernel
theorem dX6_begins_73 : decode cX6_begins 73 = .ok (.iconst 1, 1) := by decide +kernel
theorem dX6_begins_74 : decode cX6_begins 74 = .ok (.if_icmp .ne 9, 3) := by decide +kernel
theorem dX6_begins_77 : decode cX6_begins 77 = .ok (.aload_n 0, 1) := by decide +kernel
theorem dX6_begins_78 : decode cX6_begins 78 = .ok (.iload_n 1, 1) := by decide +kernel
theorem dX6_begins_79 : decode cX6_begins 79 = .ok (.iconst 0, 1) := by decide +kernel
theorem dX6_begins_80 : decode cX6_begins 80 = .ok (.invokevirtual 104, 3) := by decide +kernel
theorem dX6_begins_83 : decode cX6_begins 83 = .ok (.aload_n 0, 1) := by decide +kernel
theorem dX6_begins_84 : decode cX6_begins 84 = .ok (.iload_n 1, 1) := by decide +kernel
theorem dX6_begins_85 : decode cX6_begins 85 = .ok (.iconst 0, 1) := by decide +kernel
theorem dX6_begins_86 : decode cX6_begins 86 = .ok (.invokevirtual 56, 3) := by decide +kernel
theorem dX6_begins_89 : decode cX6_begins 89 = .ok (.ireturn, 1) := by decide +kernel
theorem dX6_isAge_0 : decode cX6_isAge 0 = .ok (.iload_n 1, 1) := by decide +kernel
theorem dX6_isAge_1 : decode cX6_isAge 1 = .ok (.invokestatic 107, 3) := by decide +kernel
theorem dX6_isAge_4 : decode cX6_isAge 4 = .ok (.ifCond .eq 21, 3) := by decide +kernel
theorem dX6_isAge_7 : decode cX6_isAge 7 = .ok (.iload_n 2, 1) := by decide +kernel
theorem dX6_isAge_8 : decode cX6_isAge 8 = .ok (.iconst 0, 1) := by decide +kernel
theorem dX6_isAge_9 : decode cX6_isAge 9 = .ok (.aload_n 0, 1) := by decide +kernel
theorem dX6_isAge_10 : decode cX6_isAge 10 = .ok (.iload_n 1, 1) := by decide +kernel
theorem dX6_isAge_11 : decode cX6_isAge 11 = .ok (.iconst 0, 1) := by decide +kernel
theorem dX6_isAge_12 : decode cX6_isAge 12 = .ok (.invokevirtual 56, 3) := by decide +kernel
theorem dX6_isAge_15 : decode cX6_isAge 15 = .ok (.invokestatic 36, 3) := by decide +kernel
theorem dX6_isAge_18 : decode cX6_isAge 18 = .ok (.ifCond .eq 7, 3) := by decide +kernel
theorem dX6_isAge_21 : decode cX6_isAge 21 = .ok (.iconst 1, 1) := by decide +kernel
theorem dX6_isAge_22 : decode cX6_isAge 22 = .ok (.goto 4, 3) := by decide +kernel
theorem dX6_isAge_25 : decode cX6_isAge 25 = .ok (.iconst 0, 1) := by decide +kernel
theorem dX6_isAge_26 : decode cX6_isAge 26 = .ok (.ireturn, 1) := by decide +kernel
theorem dX6_opens_0 : decode cX6_opens 0 = .ok (.aload_n 0, 1) := by decide +kernel
theorem dX6_opens_1 : decode cX6_opens 1 = .ok (.iload_n 1, 1) := by decide +kernel
theorem dX6_opens_2 : decode cX6_opens 2 = .ok (.iload_n 2, 1) := by decide +kernel
theorem dX6_opens_3 : decode cX6_opens 3 = .ok (.invokevirtual 118, 3) := by decide +kernel
theorem dX6_opens_6 : decode cX6_opens 6 = .ok (.ifCond .ne 8, 3) := by decide +kernel
theorem dX6_opens_9 : decode cX6_opens 9 = .ok (.aload_n 0, 1) := by decide +kernel
theorem dX6_opens_10 : decode cX6_opens 10 = .ok (.invokevirtual 111, 3) := by decide +kernel
theorem dX6_opens_13 : decode cX6_opens 13 = .ok (.ireturn, 1) := by decide +kernel
theorem dX6_opens_14 : decode cX6_opens 14 = .ok (.iload_n 2, 1) := by decide +kernel
theorem dX6_opens_15 : decode cX6_opens 15 = .ok (.aload_n 0, 1) := by decide +kernel
theorem dX6_opens_16 : decode cX6_opens 16 = .ok (.iload_n 1, 1) := by decide +kernel
theorem dX6_opens_17 : decode cX6_opens 17 = .ok (.iconst 0, 1) := by decide +kernel
theorem dX6_opens_18 : decode cX6_opens 18 = .ok (.invokevirtual 56, 3) := by decide +kernel
theorem dX6_opens_21 : decode cX6_opens 21 = .ok (.if_icmp .ge 11, 3) := by decide +kernel
theorem dX6_opens_24 : decode cX6_opens 24 = .ok (.aload_n 0, 1) := by decide +kernel
theorem dX6_opens_25 : decode cX6_opens 25 = .ok (.iconst 1, 1) := by decide +kernel
theorem dX6_opens_26 : decode cX6_opens 26 = .ok (.bipush (-6), 2) := by decide +kernel
theorem dX6_opens_28 : decode cX6_opens 28 = .ok (.invokevirtual 32, 3) := by decide +kernel
theorem dX6_opens_31 : decode cX6_opens 31 = .ok (.ireturn, 1) := by decide +kernel
theorem dX6_opens_32 : decode cX6_opens 32 = .ok (.aload_n 0, 1) := by decide +kernel
theorem dX6_opens_33 : decode cX6_opens 33 = .ok (.iload_n 1, 1) := by decide +kernel
theorem dX6_opens_34 : decode cX6_opens 34 = .ok (.iconst 1, 1) := by decide +kernel
theorem dX6_opens_35 : decode cX6_opens 35 = .ok (.invokevirtual 56, 3) := by decide +kernel
theorem dX6_opens_38 : decode cX6_opens 38 = .ok (.ifCond .eq 11, 3) := by decide +kernel
theorem dX6_opens_41 : decode cX6_opens 41 = .ok (.aload_n 0, 1) := by decide +kernel
theorem dX6_opens_42 : decode cX6_opens 42 = .ok (.iconst 2, 1) := by decide +kernel
theorem dX6_opens_43 : decode cX6_opens 43 = .ok (.bipush (-3), 2) := by decide +kernel
theorem dX6_opens_45 : decode cX6_opens 45 = .ok (.invokevirtual 32, 3) := by decide +kernel
theorem dX6_opens_48 : decode cX6_opens 48 = .ok (.ireturn, 1) := by decide +kernel
theorem dX6_opens_49 : decode cX6_opens 49 = .ok (.aload_n 0, 1) := by decide +kernel
theorem dX6_opens_50 : decode cX6_opens 50 = .ok (.invokevirtual 115, 3) := by decide +kernel
theorem dX6_opens_53 : decode cX6_opens 53 = .ok (.aload_n 0, 1) := by decide +kernel
theorem dX6_opens_54 : decode cX6_opens 54 = .ok (.iload_n 1, 1) := by decide +kernel
theorem dX6_opens_55 : decode cX6_opens 55 = .ok (.iconst 1, 1) := by decide +kernel
theorem dX6_opens_56 : decode cX6_opens 56 = .ok (.iconst 1, 1) := by decide +kernel
theorem dX6_opens_57 : decode cX6_opens 57 = .ok (.invokevirtual 28, 3) := by decide +kernel
theorem dX6_opens_60 : decode cX6_opens 60 = .ok (.aload_n 0, 1) := by decide +kernel
theorem dX6_opens_61 : decode cX6_opens 61 = .ok (.iload_n 1, 1) := by decide +kernel
theorem dX6_opens_62 : decode cX6_opens 62 = .ok (.iconst 2, 1) := by decide +kernel
theorem dX6_opens_63 : decode cX6_opens 63 = .ok (.iconst 0, 1) := by decide +kernel
theorem dX6_opens_64 : decode cX6_opens 64 = .ok (.invokevirtual 28, 3) := by decide +kernel
theorem dX6_opens_67 : decode cX6_opens 67 = .ok (.aload_n 0, 1) := by decide +kernel
theorem dX6_opens_68 : decode cX6_opens 68 = .ok (.iload_n 1, 1) := by decide +kernel
theorem dX6_opens_69 : decode cX6_opens 69 = .ok (.iconst 3, 1) := by decide +kernel
theorem dX6_opens_70 : decode cX6_opens 70 = .ok (.iconst 0, 1) := by decide +kernel
theorem dX6_opens_71 : decode cX6_opens 71 = .ok (.invokevirtual 28, 3) := by decide +kernel
theorem dX6_opens_74 : decode cX6_opens 74 = .ok (.aload_n 0, 1) := by decide +kernel
theorem dX6_opens_75 : decode cX6_opens 75 = .ok (.iload_n 1, 1) := by decide +kernel
theorem dX6_opens_76 : decode cX6_opens 76 = .ok (.iconst 5, 1) := by decide +kernel
theorem dX6_opens_77 : decode cX6_opens 77 = .ok (.aload_n 0, 1) := by decide +kernel
theorem dX6_opens_78 : decode cX6_opens 78 = .ok (.getfield 7, 3) := by decide +kernel
theorem dX6_opens_81 : decode cX6_opens 81 = .ok (.iconst 0, 1) := by decide +kernel
theorem dX6_opens_82 : decode cX6_opens 82 = .ok (.iaload, 1) := by decide +kernel
theorem dX6_opens_83 : decode cX6_opens 83 = .ok (.invokevirtual 28, 3) := by decide +kernel
theorem dX6_opens_86 : decode cX6_opens 86 = .ok (.iconst 0, 1) := by decide +kernel
theorem dX6_opens_87 : decode cX6_opens 87 = .ok (.istore_n 3, 1) := by decide +kernel
theorem dX6_opens_88 : decode cX6_opens 88 = .ok (.iload_n 3, 1) := by decide +kernel
theorem dX6_opens_89 : decode cX6_opens 89 = .ok (.bipush 6, 2) := by decide +kernel
theorem dX6_opens_91 : decode cX6_opens 91 = .ok (.if_icmp .ge 19, 3) := by decide +kernel
theorem dX6_opens_94 : decode cX6_opens 94 = .ok (.aload_n 0, 1) := by decide +kernel
theorem dX6_opens_95 : decode cX6_opens 95 = .ok (.iload_n 1, 1) := by decide +kernel
theorem dX6_opens_96 : decode cX6_opens 96 = .ok (.bipush 10, 2) := by decide +kernel
theorem dX6_opens_98 : decode cX6_opens 98 = .ok (.iload_n 3, 1) := by decide +kernel
theorem dX6_opens_99 : decode cX6_opens 99 = .ok (.iadd, 1) := by decide +kernel
theorem dX6_opens_100 : decode cX6_opens 100 = .ok (.iconst (-1), 1) := by decide +kernel
theorem dX6_opens_101 : decode cX6_opens 101 = .ok (.invokevirtual 28, 3) := by decide +kernel
theorem dX6_opens_104 : decode cX6_opens 104 = .ok (.iinc 3 1, 3) := by decide +kernel
theorem dX6_opens_107 : decode cX6_opens 107 = .ok (.goto (-19), 3) := by decide +kernel
theorem dX6_opens_110 : decode cX6_opens 110 = .ok (.aload_n 0, 1) := by decide +kernel
theorem dX6_opens_111 : decode cX6_opens 111 = .ok (.iconst 1, 1) := by decide +kernel
theorem dX6_opens_112 : decode cX6_opens 112 = .ok (.invokevirtual 121, 3) := by decide +kernel
theorem dX6_opens_115 : decode cX6_opens 115 = .ok (.ireturn, 1) := by decide +kernel
theorem dX6_writes_0 : decode cX6_writes 0 = .ok (.aload_n 0, 1) := by decide +kernel
theorem dX6_writes_1 : decode cX6_writes 1 = .ok (.iload_n 2, 1) := by decide +kernel
theorem dX6_writes_2 : decode cX6_writes 2 = .ok (.invokevirtual 70, 3) := by decide +kernel
theorem dX6_writes_5 : decode cX6_writes 5 = .ok (.istore 5, 2) := by decide +kernel
theorem dX6_writes_7 : decode cX6_writes 7 = .ok (.aload_n 0, 1) := by decide +kernel
theorem dX6_writes_8 : decode cX6_writes 8 = .ok (.iload_n 1, 1) := by decide +kernel
theorem dX6_writes_9 : decode cX6_writes 9 = .ok (.iconst 1, 1) := by decide +kernel
theorem dX6_writes_10 : decode cX6_writes 10 = .ok (.invokevirtual 56, 3) := by decide +kernel
theorem dX6_writes_13 : decode cX6_writes 13 = .ok (.iconst 1, 1) := by decide +kernel
theorem dX6_writes_14 : decode cX6_writes 14 = .ok (.if_icmp .ne 7, 3) := by decide +kernel
theorem dX6_writes_17 : decode cX6_writes 17 = .ok (.iconst 1, 1) := by decide +kernel
theorem dX6_writes_18 : decode cX6_writes 18 = .ok (.goto 4, 3) := by decide +kernel
theorem dX6_writes_21 : decode cX6_writes 21 = .ok (.iconst 0, 1) := by decide +kernel
theorem dX6_writes_22 : decode cX6_writes 22 = .ok (.istore 6, 2) := by decide +kernel
theorem dX6_writes_24 : decode cX6_writes 24 = .ok (.iload 6, 2) := by decide +kernel
theorem dX6_writes_26 : decode cX6_writes 26 = .ok (.ifCond .eq 43, 3) := by decide +kernel
theorem dX6_writes_29 : decode cX6_writes 29 = .ok (.aload_n 0, 1) := by decide +kernel
theorem dX6_writes_30 : decode cX6_writes 30 = .ok (.iload_n 1, 1) := by decide +kernel
theorem dX6_writes_31 : decode cX6_writes 31 = .ok (.iconst 2, 1) := by decide +kernel
theorem dX6_writes_32 : decode cX6_writes 32 = .ok (.invokevirtual 56, 3) := by decide +kernel
theorem dX6_writes_35 : decode cX6_writes 35 = .ok (.iload_n 2, 1) := by decide +kernel
theorem dX6_writes_36 : decode cX6_writes 36 = .ok (.invokestatic 59, 3) := by decide +kernel
theorem dX6_writes_39 : decode cX6_writes 39 = .ok (.ifCond .ne 30, 3) := by decide +kernel
theorem dX6_writes_42 : decode cX6_writes 42 = .ok (.aload_n 0, 1) := by decide +kernel
theorem dX6_writes_43 : decode cX6_writes 43 = .ok (.iload_n 1, 1) := by decide +kernel
theorem dX6_writes_44 : decode cX6_writes 44 = .ok (.iconst 2, 1) := by decide +kernel
theorem dX6_writes_45 : decode cX6_writes 45 = .ok (.aload_n 0, 1) := by decide +kernel
theorem dX6_writes_46 : decode cX6_writes 46 = .ok (.iload_n 1, 1) := by decide +kernel
theorem dX6_writes_47 : decode cX6_writes 47 = .ok (.iconst 2, 1) := by decide +kernel
theorem dX6_writes_48 : decode cX6_writes 48 = .ok (.invokevirtual 56, 3) := by decide +kernel
theorem dX6_writes_51 : decode cX6_writes 51 = .ok (.iconst 1, 1) := by decide +kernel
theorem dX6_writes_52 : decode cX6_writes 52 = .ok (.iload_n 2, 1) := by decide +kernel
theorem dX6_writes_53 : decode cX6_writes 53 = .ok (.ishl, 1) := by decide +kernel
theorem dX6_writes_54 : decode cX6_writes 54 = .ok (.ior, 1) := by decide +kernel
theorem dX6_writes_55 : decode cX6_writes 55 = .ok (.invokevirtual 28, 3) := by decide +kernel
theorem dX6_writes_58 : decode cX6_writes 58 = .ok (.aload_n 0, 1) := by decide +kernel
theorem dX6_writes_59 : decode cX6_writes 59 = .ok (.iload_n 1, 1) := by decide +kernel
theorem dX6_writes_60 : decode cX6_writes 60 = .ok (.bipush 7, 2) := by decide +kernel
theorem dX6_writes_62 : decode cX6_writes 62 = .ok (.iload_n 2, 1) := by decide +kernel
theorem dX6_writes_63 : decode cX6_writes 63 = .ok (.iadd, 1) := by decide +kernel
theorem dX6_writes_64 : decode cX6_writes 64 = .ok (.iload 5, 2) := by decide +kernel
theorem dX6_writes_66 : decode cX6_writes 66 = .ok (.invokevirtual 28, 3) := by decide +kernel
theorem dX6_writes_69 : decode cX6_writes 69 = .ok (.aload_n 0, 1) := by decide +kernel
theorem dX6_writes_70 : decode cX6_writes 70 = .ok (.iload_n 2, 1) := by decide +kernel
theorem dX6_writes_71 : decode cX6_writes 71 = .ok (.iload 5, 2) := by decide +kernel
theorem dX6_writes_73 : decode cX6_writes 73 = .ok (.iconst 0, 1) := by decide +kernel
theorem dX6_writes_74 : decode cX6_writes 74 = .ok (.iconst 0, 1) := by decide +kernel
theorem dX6_writes_75 : decode cX6_writes 75 = .ok (.invokevirtual 93, 3) := by decide +kernel
theorem dX6_writes_78 : decode cX6_writes 78 = .ok (.aload_n 0, 1) := by decide +kernel
theorem dX6_writes_79 : decode cX6_writes 79 = .ok (.iload_n 2, 1) := by decide +kernel
theorem dX6_writes_80 : decode cX6_writes 80 = .ok (.iload 5, 2) := by decide +kernel
theorem dX6_writes_82 : decode cX6_writes 82 = .ok (.iconst 1, 1) := by decide +kernel
theorem dX6_writes_83 : decode cX6_writes 83 = .ok (.iload_n 1, 1) := by decide +kernel
theorem dX6_writes_84 : decode cX6_writes 84 = .ok (.invokevirtual 93, 3) := by decide +kernel
theorem dX6_writes_87 : decode cX6_writes 87 = .ok (.aload_n 0, 1) := by decide +kernel
theorem dX6_writes_88 : decode cX6_writes 88 = .ok (.iload_n 2, 1) := by decide +kernel
theorem dX6_writes_89 : decode cX6_writes 89 = .ok (.iload 5, 2) := by decide +kernel
theorem dX6_writes_91 : decode cX6_writes 91 = .ok (.iconst 2, 1) := by decide +kernel
theorem dX6_writes_92 : decode cX6_writes 92 = .ok (.aload_n 0, 1) := by decide +kernel
theorem dX6_writes_93 : decode cX6_writes 93 = .ok (.iload_n 1, 1) := by decide +kernel
theorem dX6_writes_94 : decode cX6_writes 94 = .ok (.iconst 0, 1) := by decide +kernel
theorem dX6_writes_95 : decode cX6_writes 95 = .ok (.invokevirtual 56, 3) := by decide +kernel
theorem dX6_writes_98 : decode cX6_writes 98 = .ok (.invokevirtual 93, 3) := by decide +kernel
theorem dX6_writes_101 : decode cX6_writes 101 = .ok (.aload_n 0, 1) := by decide +kernel
theorem dX6_writes_102 : decode cX6_writes 102 = .ok (.iload_n 2, 1) := by decide +kernel
theorem dX6_writes_103 : decode cX6_writes 103 = .ok (.iload 5, 2) := by decide +kernel
theorem dX6_writes_105 : decode cX6_writes 105 = .ok (.iconst 3, 1) := by decide +kernel
theorem dX6_writes_106 : decode cX6_writes 106 = .ok (.iload_n 3, 1) := by decide +kernel
theorem dX6_writes_107 : decode cX6_writes 107 = .ok (.invokevirtual 93, 3) := by decide +kernel
theorem dX6_writes_110 : decode cX6_writes 110 = .ok (.aload_n 0, 1) := by decide +kernel
theorem dX6_writes_111 : decode cX6_writes 111 = .ok (.iload_n 2, 1) := by decide +kernel
theorem dX6_writes_112 : decode cX6_writes 112 = .ok (.iload 5, 2) := by decide +kernel
theorem dX6_writes_114 : decode cX6_writes 114 = .ok (.iconst 4, 1) := by decide +kernel
theorem dX6_writes_115 : decode cX6_writes 115 = .ok (.iload 4, 2) := by decide +kernel
theorem dX6_writes_117 : decode cX6_writes 117 = .ok (.invokevirtual 93, 3) := by decide +kernel
theorem dX6_writes_120 : decode cX6_writes 120 = .ok (.aload_n 0, 1) := by decide +kernel
theorem dX6_writes_121 : decode cX6_writes 121 = .ok (.iload_n 2, 1) := by decide +kernel
theorem dX6_writes_122 : decode cX6_writes 122 = .ok (.iload 5, 2) := by decide +kernel
theorem dX6_writes_124 : decode cX6_writes 124 = .ok (.iconst 5, 1) := by decide +kernel
theorem dX6_writes_125 : decode cX6_writes 125 = .ok (.iload 6, 2) := by decide +kernel
theorem dX6_writes_127 : decode cX6_writes 127 = .ok (.ifCond .eq 7, 3) := by decide +kernel
theorem dX6_writes_130 : decode cX6_writes 130 = .ok (.iconst 1, 1) := by decide +kernel
theorem dX6_writes_131 : decode cX6_writes 131 = .ok (.goto 4, 3) := by decide +kernel
theorem dX6_writes_134 : decode cX6_writes 134 = .ok (.iconst 0, 1) := by decide +kernel
theorem dX6_writes_135 : decode cX6_writes 135 = .ok (.invokevirtual 93, 3) := by decide +kernel
theorem dX6_writes_138 : decode cX6_writes 138 = .ok (.aload_n 0, 1) := by decide +kernel
theorem dX6_writes_139 : decode cX6_writes 139 = .ok (.getfield 7, 3) := by decide +kernel
theorem dX6_writes_142 : decode cX6_writes 142 = .ok (.bipush 66, 2) := by decide +kernel
theorem dX6_writes_144 : decode cX6_writes 144 = .ok (.iload_n 2, 1) := by decide +kernel
theorem dX6_writes_145 : decode cX6_writes 145 = .ok (.iadd, 1) := by decide +kernel
theorem dX6_writes_146 : decode cX6_writes 146 = .ok (.dup2, 1) := by decide +kernel
theorem dX6_writes_147 : decode cX6_writes 147 = .ok (.iaload, 1) := by decide +kernel
theorem dX6_writes_148 : decode cX6_writes 148 = .ok (.iconst 1, 1) := by decide +kernel
theorem dX6_writes_149 : decode cX6_writes 149 = .ok (.iadd, 1) := by decide +kernel
theorem dX6_writes_150 : decode cX6_writes 150 = .ok (.iastore, 1) := by decide +kernel
theorem dX6_writes_151 : decode cX6_writes 151 = .ok (.iload 5, 2) := by decide +kernel
theorem dX6_writes_153 : decode cX6_writes 153 = .ok (.ireturn, 1) := by decide +kernel
theorem dX6_sends_0 : decode cX6_sends 0 = .ok (.aload_n 0, 1) := by decide +kernel
theorem dX6_sends_1 : decode cX6_sends 1 = .ok (.iload_n 1, 1) := by decide +kernel
theorem dX6_sends_2 : decode cX6_sends 2 = .ok (.iload_n 2, 1) := by decide +kernel
theorem dX6_sends_3 : decode cX6_sends 3 = .ok (.invokevirtual 118, 3) := by decide +kernel
theorem dX6_sends_6 : decode cX6_sends 6 = .ok (.ifCond .eq 32, 3) := by decide +kernel
theorem dX6_sends_9 : decode cX6_sends 9 = .ok (.iload_n 3, 1) := by decide +kernel
theorem dX6_sends_10 : decode cX6_sends 10 = .ok (.invokestatic 124, 3) := by decide +kernel
theorem dX6_sends_13 : decode cX6_sends 13 = .ok (.ifCond .eq 25, 3) := by decide +kernel
theorem dX6_sends_16 : decode cX6_sends 16 = .ok (.iload 4, 2) := by decide +kernel
theorem dX6_sends_18 : decode cX6_sends 18 = .ok (.iconst 0, 1) := by decide +kernel
theorem dX6_sends_19 : decode cX6_sends 19 = .ok (.bipush 99, 2) := by decide +kernel
theorem dX6_sends_21 : decode cX6_sends 21 = .ok (.invokestatic 36, 3) := by decide +kernel
theorem dX6_sends_24 : decode cX6_sends 24 = .ok (.ifCond .eq 14, 3) := by decide +kernel
theorem dX6_sends_27 : decode cX6_sends 27 = .ok (.iload 5, 2) := by decide +kernel
theorem dX6_sends_29 : decode cX6_sends 29 = .ok (.iconst 0, 1) := by decide +kernel
theorem dX6_sends_30 : decode cX6_sends 30 = .ok (.bipush 99, 2) := by decide +kernel
theorem dX6_sends_32 : decode cX6_sends 32 = .ok (.invokestatic 36, 3) := by decide +kernel
theorem dX6_sends_35 : decode cX6_sends 35 = .ok (.ifCond .ne 8, 3) := by decide +kernel
theorem dX6_sends_38 : decode cX6_sends 38 = .ok (.aload_n 0, 1) := by decide +kernel
theorem dX6_sends_39 : decode cX6_sends 39 = .ok (.invokevirtual 111, 3) := by decide +kernel
theorem dX6_sends_42 : decode cX6_sends 42 = .ok (.ireturn, 1) := by decide +kernel
theorem dX6_sends_43 : decode cX6_sends 43 = .ok (.iload_n 2, 1) := by decide +kernel
theorem dX6_sends_44 : decode cX6_sends 44 = .ok (.aload_n 0, 1) := by decide +kernel
theorem dX6_sends_45 : decode cX6_sends 45 = .ok (.iload_n 1, 1) := by decide +kernel
theorem dX6_sends_46 : decode cX6_sends 46 = .ok (.iconst 0, 1) := by decide +kernel
theorem dX6_sends_47 : decode cX6_sends 47 = .ok (.invokevirtual 56, 3) := by decide +kernel
theorem dX6_sends_50 : decode cX6_sends 50 = .ok (.if_icmp .ge 11, 3) := by decide +kernel
theorem dX6_sends_53 : decode cX6_sends 53 = .ok (.aload_n 0, 1) := by decide +kernel
theorem dX6_sends_54 : decode cX6_sends 54 = .ok (.iconst 1, 1) := by decide +kernel
theorem dX6_sends_55 : decode cX6_sends 55 = .ok (.bipush (-6), 2) := by decide +kernel
theorem dX6_sends_57 : decode cX6_sends 57 = .ok (.invokevirtual 32, 3) := by decide +kernel
theorem dX6_sends_60 : decode cX6_sends 60 = .ok (.ireturn, 1) := by decide +kernel
theorem dX6_sends_61 : decode cX6_sends 61 = .ok (.aload_n 0, 1) := by decide +kernel
theorem dX6_sends_62 : decode cX6_sends 62 = .ok (.iload_n 1, 1) := by decide +kernel
theorem dX6_sends_63 : decode cX6_sends 63 = .ok (.iconst 1, 1) := by decide +kernel
theorem dX6_sends_64 : decode cX6_sends 64 = .ok (.invokevirtual 56, 3) := by decide +kernel
theorem dX6_sends_67 : decode cX6_sends 67 = .ok (.iconst 2, 1) := by decide +kernel
theorem dX6_sends_68 : decode cX6_sends 68 = .ok (.if_icmp .ne 11, 3) := by decide +kernel
theorem dX6_sends_71 : decode cX6_sends 71 = .ok (.aload_n 0, 1) := by decide +kernel
theorem dX6_sends_72 : decode cX6_sends 72 = .ok (.iconst 2, 1) := by decide +kernel
theorem dX6_sends_73 : decode cX6_sends 73 = .ok (.bipush (-3), 2) := by decide +kernel
theorem dX6_sends_75 : decode cX6_sends 75 = .ok (.invokevirtual 32, 3) := by decide +kernel
theorem dX6_sends_78 : decode cX6_sends 78 = .ok (.ireturn, 1) := by decide +kernel
theorem dX6_sends_79 : decode cX6_sends 79 = .ok (.aload_n 0, 1) := by decide +kernel
theorem dX6_sends_80 : decode cX6_sends 80 = .ok (.iload_n 1, 1) := by decide +kernel
theorem dX6_sends_81 : decode cX6_sends 81 = .ok (.iload_n 3, 1) := by decide +kernel
theorem dX6_sends_82 : decode cX6_sends 82 = .ok (.iload 4, 2) := by decide +kernel
theorem dX6_sends_84 : decode cX6_sends 84 = .ok (.invokevirtual 127, 3) := by decide +kernel
theorem dX6_sends_87 : decode cX6_sends 87 = .ok (.istore 6, 2) := by decide +kernel
theorem dX6_sends_89 : decode cX6_sends 89 = .ok (.iload 6, 2) := by decide +kernel
theorem dX6_sends_91 : decode cX6_sends 91 = .ok (.ifCond .lt 10, 3) := by decide +kernel
theorem dX6_sends_94 : decode cX6_sends 94 = .ok (.sipush 1000, 3) := by decide +kernel
theorem dX6_sends_97 : decode cX6_sends 97 = .ok (.iload 6, 2) := by decide +kernel
theorem dX6_sends_99 : decode cX6_sends 99 = .ok (.iadd, 1) := by decide +kernel
theorem dX6_sends_100 : decode cX6_sends 100 = .ok (.ireturn, 1) := by decide +kernel
theorem dX6_sends_101 : decode cX6_sends 101 = .ok (.iload 4, 2) := by decide +kernel
theorem dX6_sends_103 : decode cX6_sends 103 = .ok (.aload_n 0, 1) := by decide +kernel
theorem dX6_sends_104 : decode cX6_sends 104 = .ok (.iload_n 1, 1) := by decide +kernel
theorem dX6_sends_105 : decode cX6_sends 105 = .ok (.iload_n 3, 1) := by decide +kernel
theorem dX6_sends_106 : decode cX6_sends 106 = .ok (.invokevirtual 130, 3) := by decide +kernel
theorem dX6_sends_109 : decode cX6_sends 109 = .ok (.if_icmp .eq 11, 3) := by decide +kernel
theorem dX6_sends_112 : decode cX6_sends 112 = .ok (.aload_n 0, 1) := by decide +kernel
theorem dX6_sends_113 : decode cX6_sends 113 = .ok (.iconst 3, 1) := by decide +kernel
theorem dX6_sends_114 : decode cX6_sends 114 = .ok (.bipush (-7), 2) := by decide +kernel
theorem dX6_sends_116 : decode cX6_sends 116 = .ok (.invokevirtual 32, 3) := by decide +kernel
theorem dX6_sends_119 : decode cX6_sends 119 = .ok (.ireturn, 1) := by decide +kernel
theorem dX6_sends_120 : decode cX6_sends 120 = .ok (.aload_n 0, 1) := by decide +kernel
theorem dX6_sends_121 : decode cX6_sends 121 = .ok (.iload_n 3, 1) := by decide +kernel
theorem dX6_sends_122 : decode cX6_sends 122 = .ok (.invokevirtual 70, 3) := by decide +kernel
theorem dX6_sends_125 : decode cX6_sends 125 = .ok (.aload_n 0, 1) := by decide +kernel
theorem dX6_sends_126 : decode cX6_sends 126 = .ok (.iload_n 3, 1) := by decide +kernel
theorem dX6_sends_127 : decode cX6_sends 127 = .ok (.invokevirtual 133, 3) := by decide +kernel
theorem dX6_sends_130 : decode cX6_sends 130 = .ok (.iadd, 1) := by decide +kernel
theorem dX6_sends_131 : decode cX6_sends 131 = .ok (.bipush 48, 2) := by decide +kernel
theorem dX6_sends_133 : decode cX6_sends 133 = .ok (.if_icmp .lt 11, 3) := by decide +kernel
theorem dX6_sends_136 : decode cX6_sends 136 = .ok (.aload_n 0, 1) := by decide +kernel
theorem dX6_sends_137 : decode cX6_sends 137 = .ok (.iconst 4, 1) := by decide +kernel
theorem dX6_sends_138 : decode cX6_sends 138 = .ok (.bipush (-4), 2) := by decide +kernel
theorem dX6_sends_140 : decode cX6_sends 140 = .ok (.invokevirtual 32, 3) := by decide +kernel
theorem dX6_sends_143 : decode cX6_sends 143 = .ok (.ireturn, 1) := by decide +kernel
theorem dX6_sends_144 : decode cX6_sends 144 = .ok (.aload_n 0, 1) := by decide +kernel
theorem dX6_sends_145 : decode cX6_sends 145 = .ok (.invokevirtual 115, 3) := by decide +kernel
theorem dX6_sends_148 : decode cX6_sends 148 = .ok (.aload_n 0, 1) := by decide +kernel
theorem dX6_sends_149 : decode cX6_sends 149 = .ok (.iload_n 1, 1) := by decide +kernel
theorem dX6_sends_150 : decode cX6_sends 150 = .ok (.iload_n 3, 1) := by decide +kernel
theorem dX6_sends_151 : decode cX6_sends 151 = .ok (.iload 4, 2) := by decide +kernel
theorem dX6_sends_153 : decode cX6_sends 153 = .ok (.iload 5, 2) := by decide +kernel
theorem dX6_sends_155 : decode cX6_sends 155 = .ok (.invokevirtual 136, 3) := by decide +kernel
theorem dX6_sends_158 : decode cX6_sends 158 = .ok (.ireturn, 1) := by decide +kernel
theorem dX6_ends_0 : decode cX6_ends 0 = .ok (.aload_n 0, 1) := by decide +kernel
theorem dX6_ends_1 : decode cX6_ends 1 = .ok (.iload_n 1, 1) := by decide +kernel
theorem dX6_ends_2 : decode cX6_ends 2 = .ok (.iload_n 2, 1) := by decide +kernel
theorem dX6_ends_3 : decode cX6_ends 3 = .ok (.invokevirtual 118, 3) := by decide +kernel
theorem dX6_ends_6 : decode cX6_ends 6 = .ok (.ifCond .eq 12, 3) := by decide +kernel
theorem dX6_ends_9 : decode cX6_ends 9 = .ok (.iload_n 3, 1) := by decide +kernel
theorem dX6_ends_10 : decode cX6_ends 10 = .ok (.iconst 0, 1) := by decide +kernel
theorem dX6_ends_11 : decode cX6_ends 11 = .ok (.iconst 1, 1) := by decide +kernel
theorem dX6_ends_12 : decode cX6_ends 12 = .ok (.invokestatic 36, 3) := by decide +kernel
theorem dX6_ends_15 : decode cX6_ends 15 = .ok (.ifCond .ne 8, 3) := by decide +kernel
theorem dX6_ends_18 : decode cX6_ends 18 = .ok (.aload_n 0, 1) := by decide +kernel
theorem dX6_ends_19 : decode cX6_ends 19 = .ok (.invokevirtual 111, 3) := by decide +kernel
theorem dX6_ends_22 : decode cX6_ends 22 = .ok (.ireturn, 1) := by decide +kernel
theorem dX6_ends_23 : decode cX6_ends 23 = .ok (.iload_n 2, 1) := by decide +kernel
theorem dX6_ends_24 : decode cX6_ends 24 = .ok (.aload_n 0, 1) := by decide +kernel
theorem dX6_ends_25 : decode cX6_ends 25 = .ok (.iload_n 1, 1) := by decide +kernel
theorem dX6_ends_26 : decode cX6_ends 26 = .ok (.iconst 0, 1) := by decide +kernel
theorem dX6_ends_27 : decode cX6_ends 27 = .ok (.invokevirtual 56, 3) := by decide +kernel
theorem dX6_ends_30 : decode cX6_ends 30 = .ok (.if_icmp .ge 11, 3) := by decide +kernel
theorem dX6_ends_33 : decode cX6_ends 33 = .ok (.aload_n 0, 1) := by decide +kernel
theorem dX6_ends_34 : decode cX6_ends 34 = .ok (.iconst 1, 1) := by decide +kernel
theorem dX6_ends_35 : decode cX6_ends 35 = .ok (.bipush (-6), 2) := by decide +kernel
theorem dX6_ends_37 : decode cX6_ends 37 = .ok (.invokevirtual 32, 3) := by decide +kernel
theorem dX6_ends_40 : decode cX6_ends 40 = .ok (.ireturn, 1) := by decide +kernel
theorem dX6_ends_41 : decode cX6_ends 41 = .ok (.aload_n 0, 1) := by decide +kernel
theorem dX6_ends_42 : decode cX6_ends 42 = .ok (.iload_n 1, 1) := by decide +kernel
theorem dX6_ends_43 : decode cX6_ends 43 = .ok (.iconst 1, 1) := by decide +kernel
theorem dX6_ends_44 : decode cX6_ends 44 = .ok (.invokevirtual 56, 3) := by decide +kernel
theorem dX6_ends_47 : decode cX6_ends 47 = .ok (.iconst 1, 1) := by decide +kernel
theorem dX6_ends_48 : decode cX6_ends 48 = .ok (.if_icmp .eq 11, 3) := by decide +kernel
theorem dX6_ends_51 : decode cX6_ends 51 = .ok (.aload_n 0, 1) := by decide +kernel
theorem dX6_ends_52 : decode cX6_ends 52 = .ok (.iconst 2, 1) := by decide +kernel
theorem dX6_ends_53 : decode cX6_ends 53 = .ok (.bipush (-3), 2) := by decide +kernel
theorem dX6_ends_55 : decode cX6_ends 55 = .ok (.invokevirtual 32, 3) := by decide +kernel
theorem dX6_ends_58 : decode cX6_ends 58 = .ok (.ireturn, 1) := by decide +kernel
theorem dX6_ends_59 : decode cX6_ends 59 = .ok (.aload_n 0, 1) := by decide +kernel
theorem dX6_ends_60 : decode cX6_ends 60 = .ok (.invokevirtual 115, 3) := by decide +kernel
theorem dX6_ends_63 : decode cX6_ends 63 = .ok (.aload_n 0, 1) := by decide +kernel
theorem dX6_ends_64 : decode cX6_ends 64 = .ok (.iload_n 1, 1) := by decide +kernel
theorem dX6_ends_65 : decode cX6_ends 65 = .ok (.iconst 2, 1) := by decide +kernel
theorem dX6_ends_66 : decode cX6_ends 66 = .ok (.invokevirtual 56, 3) := by decide +kernel
theorem dX6_ends_69 : decode cX6_ends 69 = .ok (.invokestatic 140, 3) := by decide +kernel
theorem dX6_ends_72 : decode cX6_ends 72 = .ok (.istore 4, 2) := by decide +kernel
theorem dX6_ends_74 : decode cX6_ends 74 = .ok (.aload_n 0, 1) := by decide +kernel
theorem dX6_ends_75 : decode cX6_ends 75 = .ok (.iload_n 1, 1) := by decide +kernel
theorem dX6_ends_76 : decode cX6_ends 76 = .ok (.iload_n 3, 1) := by decide +kernel
theorem dX6_ends_77 : decode cX6_ends 77 = .ok (.invokevirtual 104, 3) := by decide +kernel
theorem dX6_ends_80 : decode cX6_ends 80 = .ok (.iload 4, 2) := by decide +kernel
theorem dX6_ends_82 : decode cX6_ends 82 = .ok (.ireturn, 1) := by decide +kernel
theorem dX6_carries_0 : decode cX6_carries 0 = .ok (.aload_n 0, 1) := by decide +kernel
theorem dX6_carries_1 : decode cX6_carries 1 = .ok (.iload_n 1, 1) := by decide +kernel
theorem dX6_carries_2 : decode cX6_carries 2 = .ok (.iload_n 2, 1) := by decide +kernel
theorem dX6_carries_3 : decode cX6_carries 3 = .ok (.invokevirtual 118, 3) := by decide +kernel
theorem dX6_carries_6 : decode cX6_carries 6 = .ok (.ifCond .eq 18, 3) := by decide +kernel
theorem dX6_carries_9 : decode cX6_carries 9 = .ok (.iload_n 3, 1) := by decide +kernel
theorem dX6_carries_10 : decode cX6_carries 10 = .ok (.invokestatic 143, 3) := by decide +kernel
theorem dX6_carries_13 : decode cX6_carries 13 = .ok (.ifCond .eq 11, 3) := by decide +kernel
theorem dX6_carries_16 : decode cX6_carries 16 = .ok (.iload 4, 2) := by decide +kernel
theorem dX6_carries_18 : decode cX6_carries 18 = .ok (.invokestatic 124, 3) := by decide +kernel
theorem dX6_carries_21 : decode cX6_carries 21 = .ok (.ifCond .ne 8, 3) := by decide +kernel
theorem dX6_carries_24 : decode cX6_carries 24 = .ok (.aload_n 0, 1) := by decide +kernel
theorem dX6_carries_25 : decode cX6_carries 25 = .ok (.invokevirtual 111, 3) := by decide +kernel
theorem dX6_carries_28 : decode cX6_carries 28 = .ok (.ireturn, 1) := by decide +kernel
theorem dX6_carries_29 : decode cX6_carries 29 = .ok (.iload_n 2, 1) := by decide +kernel
theorem dX6_carries_30 : decode cX6_carries 30 = .ok (.aload_n 0, 1) := by decide +kernel
theorem dX6_carries_31 : decode cX6_carries 31 = .ok (.iload_n 1, 1) := by decide +kernel
theorem dX6_carries_32 : decode cX6_carries 32 = .ok (.iconst 0, 1) := by decide +kernel
theorem dX6_carries_33 : decode cX6_carries 33 = .ok (.invokevirtual 56, 3) := by decide +kernel
theorem dX6_carries_36 : decode cX6_carries 36 = .ok (.if_icmp .ge 11, 3) := by decide +kernel
theorem dX6_carries_39 : decode cX6_carries 39 = .ok (.aload_n 0, 1) := by decide +kernel
theorem dX6_carries_40 : decode cX6_carries 40 = .ok (.iconst 1, 1) := by decide +kernel
theorem dX6_carries_41 : decode cX6_carries 41 = .ok (.bipush (-6), 2) := by decide +kernel
theorem dX6_carries_43 : decode cX6_carries 43 = .ok (.invokevirtual 32, 3) := by decide +kernel
theorem dX6_carries_46 : decode cX6_carries 46 = .ok (.ireturn, 1) := by decide +kernel
theorem dX6_carries_47 : decode cX6_carries 47 = .ok (.aload_n 0, 1) := by decide +kernel
theorem dX6_carries_48 : decode cX6_carries 48 = .ok (.iload_n 1, 1) := by decide +kernel
theorem dX6_carries_49 : decode cX6_carries 49 = .ok (.iconst 1, 1) := by decide +kernel
theorem dX6_carries_50 : decode cX6_carries 50 = .ok (.invokevirtual 56, 3) := by decide +kernel
theorem dX6_carries_53 : decode cX6_carries 53 = .ok (.iconst 1, 1) := by decide +kernel
theorem dX6_carries_54 : decode cX6_carries 54 = .ok (.if_icmp .eq 11, 3) := by decide +kernel
theorem dX6_carries_57 : decode cX6_carries 57 = .ok (.aload_n 0, 1) := by decide +kernel
theorem dX6_carries_58 : decode cX6_carries 58 = .ok (.iconst 2, 1) := by decide +kernel
theorem dX6_carries_59 : decode cX6_carries 59 = .ok (.bipush (-3), 2) := by decide +kernel
theorem dX6_carries_61 : decode cX6_carries 61 = .ok (.invokevirtual 32, 3) := by decide +kernel
theorem dX6_carries_64 : decode cX6_carries 64 = .ok (.ireturn, 1) := by decide +kernel
theorem dX6_carries_65 : decode cX6_carries 65 = .ok (.aload_n 0, 1) := by decide +kernel
theorem dX6_carries_66 : decode cX6_carries 66 = .ok (.invokevirtual 115, 3) := by decide +kernel
theorem dX6_carries_69 : decode cX6_carries 69 = .ok (.aload_n 0, 1) := by decide +kernel
theorem dX6_carries_70 : decode cX6_carries 70 = .ok (.getfield 7, 3) := by decide +kernel
theorem dX6_carries_73 : decode cX6_carries 73 = .ok (.bipush 69, 2) := by decide +kernel
theorem dX6_carries_75 : decode cX6_carries 75 = .ok (.bipush 6, 2) := by decide +kernel
theorem dX6_carries_77 : decode cX6_carries 77 = .ok (.iload_n 3, 1) := by decide +kernel
theorem dX6_carries_78 : decode cX6_carries 78 = .ok (.imul, 1) := by decide +kernel
theorem dX6_carries_79 : decode cX6_carries 79 = .ok (.iadd, 1) := by decide +kernel
theorem dX6_carries_80 : decode cX6_carries 80 = .ok (.iload 4, 2) := by decide +kernel
theorem dX6_carries_82 : decode cX6_carries 82 = .ok (.iadd, 1) := by decide +kernel
theorem dX6_carries_83 : decode cX6_carries 83 = .ok (.iaload, 1) := by decide +kernel
theorem dX6_carries_84 : decode cX6_carries 84 = .ok (.istore 5, 2) := by decide +kernel
theorem dX6_carries_86 : decode cX6_carries 86 = .ok (.aload_n 0, 1) := by decide +kernel
theorem dX6_carries_87 : decode cX6_carries 87 = .ok (.iload_n 1, 1) := by decide +kernel
theorem dX6_carries_88 : decode cX6_carries 88 = .ok (.bipush 10, 2) := by decide +kernel
theorem dX6_carries_90 : decode cX6_carries 90 = .ok (.iconst 3, 1) := by decide +kernel
theorem dX6_carries_91 : decode cX6_carries 91 = .ok (.iload_n 3, 1) := by decide +kernel
theorem dX6_carries_92 : decode cX6_carries 92 = .ok (.imul, 1) := by decide +kernel
theorem dX6_carries_93 : decode cX6_carries 93 = .ok (.iadd, 1) := by decide +kernel
theorem dX6_carries_94 : decode cX6_carries 94 = .ok (.iload 4, 2) := by decide +kernel
theorem dX6_carries_96 : decode cX6_carries 96 = .ok (.iadd, 1) := by decide +kernel
theorem dX6_carries_97 : decode cX6_carries 97 = .ok (.iload 5, 2) := by decide +kernel
theorem dX6_carries_99 : decode cX6_carries 99 = .ok (.invokevirtual 28, 3) := by decide +kernel
theorem dX6_carries_102 : decode cX6_carries 102 = .ok (.iload 5, 2) := by decide +kernel
theorem dX6_carries_104 : decode cX6_carries 104 = .ok (.ireturn, 1) := by decide +kernel
theorem dX6_ticks_0 : decode cX6_ticks 0 = .ok (.iload_n 1, 1) := by decide +kernel
theorem dX6_ticks_1 : decode cX6_ticks 1 = .ok (.iconst 1, 1) := by decide +kernel
theorem dX6_ticks_2 : decode cX6_ticks 2 = .ok (.bipush 20, 2) := by decide +kernel
theorem dX6_ticks_4 : decode cX6_ticks 4 = .ok (.invokestatic 36, 3) := by decide +kernel
theorem dX6_ticks_7 : decode cX6_ticks 7 = .ok (.ifCond .ne 8, 3) := by decide +kernel
theorem dX6_ticks_10 : decode cX6_ticks 10 = .ok (.aload_n 0, 1) := by decide +kernel
theorem dX6_ticks_11 : decode cX6_ticks 11 = .ok (.invokevirtual 111, 3) := by decide +kernel
theorem dX6_ticks_14 : decode cX6_ticks 14 = .ok (.ireturn, 1) := by decide +kernel
theorem dX6_ticks_15 : decode cX6_ticks 15 = .ok (.aload_n 0, 1) := by decide +kernel
theorem dX6_ticks_16 : decode cX6_ticks 16 = .ok (.invokevirtual 115, 3) := by decide +kernel
theorem dX6_ticks_19 : decode cX6_ticks 19 = .ok (.iconst 0, 1) := by decide +kernel
theorem dX6_ticks_20 : decode cX6_ticks 20 = .ok (.istore_n 2, 1) := by decide +kernel
theorem dX6_ticks_21 : decode cX6_ticks 21 = .ok (.iconst 0, 1) := by decide +kernel
theorem dX6_ticks_22 : decode cX6_ticks 22 = .ok (.istore_n 3, 1) := by decide +kernel
theorem dX6_ticks_23 : decode cX6_ticks 23 = .ok (.iload_n 3, 1) := by decide +kernel
theorem dX6_ticks_24 : decode cX6_ticks 24 = .ok (.iload_n 1, 1) := by decide +kernel
theorem dX6_ticks_25 : decode cX6_ticks 25 = .ok (.if_icmp .ge 16, 3) := by decide +kernel
theorem dX6_ticks_28 : decode cX6_ticks 28 = .ok (.iload_n 2, 1) := by decide +kernel
theorem dX6_ticks_29 : decode cX6_ticks 29 = .ok (.aload_n 0, 1) := by decide +kernel
theorem dX6_ticks_30 : decode cX6_ticks 30 = .ok (.invokevirtual 146, 3) := by decide +kernel
theorem dX6_ticks_33 : decode cX6_ticks 33 = .ok (.iadd, 1) := by decide +kernel
theorem dX6_ticks_34 : decode cX6_ticks 34 = .ok (.istore_n 2, 1) := by decide +kernel
theorem dX6_ticks_35 : decode cX6_ticks 35 = .ok (.iinc 3 1, 3) := by decide +kernel
theorem dX6_ticks_38 : decode cX6_ticks 38 = .ok (.goto (-15), 3) := by decide +kernel
theorem dX6_ticks_41 : decode cX6_ticks 41 = .ok (.iload_n 2, 1) := by decide +kernel
theorem dX6_ticks_42 : decode cX6_ticks 42 = .ok (.ireturn, 1) := by decide +kernel
theorem dX6_limit_0 : decode cX6_limit 0 = .ok (.iload_n 1, 1) := by decide +kernel
theorem dX6_limit_1 : decode cX6_limit 1 = .ok (.iconst 1, 1) := by decide +kernel
theorem dX6_limit_2 : decode cX6_limit 2 = .ok (.bipush 20, 2) := by decide +kernel
theorem dX6_limit_4 : decode cX6_limit 4 = .ok (.invokestatic 36, 3) := by decide +kernel
theorem dX6_limit_7 : decode cX6_limit 7 = .ok (.ifCond .ne 8, 3) := by decide +kernel
theorem dX6_limit_10 : decode cX6_limit 10 = .ok (.aload_n 0, 1) := by decide +kernel
theorem dX6_limit_11 : decode cX6_limit 11 = .ok (.invokevirtual 111, 3) := by decide +kernel
theorem dX6_limit_14 : decode cX6_limit 14 = .ok (.ireturn, 1) := by decide +kernel
theorem dX6_limit_15 : decode cX6_limit 15 = .ok (.aload_n 0, 1) := by decide +kernel
theorem dX6_limit_16 : decode cX6_limit 16 = .ok (.invokevirtual 115, 3) := by decide +kernel
theorem dX6_limit_19 : decode cX6_limit 19 = .ok (.aload_n 0, 1) := by decide +kernel
theorem dX6_limit_20 : decode cX6_limit 20 = .ok (.getfield 7, 3) := by decide +kernel
theorem dX6_limit_23 : decode cX6_limit 23 = .ok (.iconst 1, 1) := by decide +kernel
theorem dX6_limit_24 : decode cX6_limit 24 = .ok (.iaload, 1) := by decide +kernel
theorem dX6_limit_25 : decode cX6_limit 25 = .ok (.istore_n 2, 1) := by decide +kernel
theorem dX6_limit_26 : decode cX6_limit 26 = .ok (.aload_n 0, 1) := by decide +kernel
theorem dX6_limit_27 : decode cX6_limit 27 = .ok (.getfield 7, 3) := by decide +kernel
theorem dX6_limit_30 : decode cX6_limit 30 = .ok (.iconst 1, 1) := by decide +kernel
theorem dX6_limit_31 : decode cX6_limit 31 = .ok (.iload_n 1, 1) := by decide +kernel
theorem dX6_limit_32 : decode cX6_limit 32 = .ok (.iastore, 1) := by decide +kernel
theorem dX6_limit_33 : decode cX6_limit 33 = .ok (.iload_n 2, 1) := by decide +kernel
theorem dX6_limit_34 : decode cX6_limit 34 = .ok (.ireturn, 1) := by decide +kernel
theorem dX6_toCome_0 : decode cX6_toCome 0 = .ok (.aload_n 0, 1) := by decide +kernel
theorem dX6_toCome_1 : decode cX6_toCome 1 = .ok (.iload_n 1, 1) := by decide +kernel
theorem dX6_toCome_2 : decode cX6_toCome 2 = .ok (.iconst 1, 1) := by decide +kernel
theorem dX6_toCome_3 : decode cX6_toCome 3 = .ok (.invokevirtual 56, 3) := by decide +kernel
theorem dX6_toCome_6 : decode cX6_toCome 6 = .ok (.iconst 2, 1) := by decide +kernel
theorem dX6_toCome_7 : decode cX6_toCome 7 = .ok (.if_icmp .ne 24, 3) := by decide +kernel
theorem dX6_toCome_10 : decode cX6_toCome 10 = .ok (.aload_n 0, 1) := by decide +kernel
theorem dX6_toCome_11 : decode cX6_toCome 11 = .ok (.iload_n 1, 1) := by decide +kernel
theorem dX6_toCome_12 : decode cX6_toCome 12 = .ok (.iconst 2, 1) := by decide +kernel
theorem dX6_toCome_13 : decode cX6_toCome 13 = .ok (.invokevirtual 56, 3) := by decide +kernel
theorem dX6_toCome_16 : decode cX6_toCome 16 = .ok (.aload_n 0, 1) := by decide +kernel
theorem dX6_toCome_17 : decode cX6_toCome 17 = .ok (.iload_n 1, 1) := by decide +kernel
theorem dX6_toCome_18 : decode cX6_toCome 18 = .ok (.iconst 3, 1) := by decide +kernel
theorem dX6_toCome_19 : decode cX6_toCome 19 = .ok (.invokevirtual 56, 3) := by decide +kernel
theorem dX6_toCome_22 : decode cX6_toCome 22 = .ok (.iconst (-1), 1) := by decide +kernel
theorem dX6_toCome_23 : decode cX6_toCome 23 = .ok (.ixor, 1) := by decide +kernel
theorem dX6_toCome_24 : decode cX6_toCome 24 = .ok (.iand, 1) := by decide +kernel
theorem dX6_toCome_25 : decode cX6_toCome 25 = .ok (.invokestatic 140, 3) := by decide +kernel
theorem dX6_toCome_28 : decode cX6_toCome 28 = .ok (.goto 4, 3) := by decide +kernel
theorem dX6_toCome_31 : decode cX6_toCome 31 = .ok (.iconst 0, 1) := by decide +kernel
theorem dX6_toCome_32 : decode cX6_toCome 32 = .ok (.ireturn, 1) := by decide +kernel
theorem dX6_tellWriter_0 : decode cX6_tellWriter 0 = .ok (.iload_n 2, 1) := by decide +kernel
theorem dX6_tellWriter_1 : decode cX6_tellWriter 1 = .ok (.tableswitch 115 0 5 #[39, 46, 53, 60, 66, 87], 39) := by decide +kernel
theorem dX6_tellWriter_40 : decode cX6_tellWriter 40 = .ok (.aload_n 0, 1) := by decide +kernel
theorem dX6_tellWriter_41 : decode cX6_tellWriter 41 = .ok (.iload_n 1, 1) := by decide +kernel
theorem dX6_tellWriter_42 : decode cX6_tellWriter 42 = .ok (.iconst 0, 1) := by decide +kernel
theorem dX6_tellWriter_43 : decode cX6_tellWriter 43 = .ok (.invokevirtual 56, 3) := by decide +kernel
theorem dX6_tellWriter_46 : decode cX6_tellWriter 46 = .ok (.ireturn, 1) := by decide +kernel
theorem dX6_tellWriter_47 : decode cX6_tellWriter 47 = .ok (.aload_n 0, 1) := by decide +kernel
theorem dX6_tellWriter_48 : decode cX6_tellWriter 48 = .ok (.iload_n 1, 1) := by decide +kernel
theorem dX6_tellWriter_49 : decode cX6_tellWriter 49 = .ok (.iconst 1, 1) := by decide +kernel
theorem dX6_tellWriter_50 : decode cX6_tellWriter 50 = .ok (.invokevirtual 56, 3) := by decide +kernel
theorem dX6_tellWriter_53 : decode cX6_tellWriter 53 = .ok (.ireturn, 1) := by decide +kernel
theorem dX6_tellWriter_54 : decode cX6_tellWriter 54 = .ok (.aload_n 0, 1) := by decide +kernel
theorem dX6_tellWriter_55 : decode cX6_tellWriter 55 = .ok (.iload_n 1, 1) := by decide +kernel
theorem dX6_tellWriter_56 : decode cX6_tellWriter 56 = .ok (.iconst 2, 1) := by decide +kernel
theorem dX6_tellWriter_57 : decode cX6_tellWriter 57 = .ok (.invokevirtual 56, 3) := by decide +kernel
theorem dX6_tellWriter_60 : decode cX6_tellWriter 60 = .ok (.ireturn, 1) := by decide +kernel
theorem dX6_tellWriter_61 : decode cX6_tellWriter 61 = .ok (.aload_n 0, 1) := by decide +kernel
theorem dX6_tellWriter_62 : decode cX6_tellWriter 62 = .ok (.iload_n 1, 1) := by decide +kernel
theorem dX6_tellWriter_63 : decode cX6_tellWriter 63 = .ok (.invokevirtual 149, 3) := by decide +kernel
theorem dX6_tellWriter_66 : decode cX6_tellWriter 66 = .ok (.ireturn, 1) := by decide +kernel
theorem dX6_tellWriter_67 : decode cX6_tellWriter 67 = .ok (.aload_n 0, 1) := by decide +kernel
theorem dX6_tellWriter_68 : decode cX6_tellWriter 68 = .ok (.iload_n 1, 1) := by decide +kernel
theorem dX6_tellWriter_69 : decode cX6_tellWriter 69 = .ok (.iconst 1, 1) := by decide +kernel
theorem dX6_tellWriter_70 : decode cX6_tellWriter 70 = .ok (.invokevirtual 56, 3) := by decide +kernel
theorem dX6_tellWriter_73 : decode cX6_tellWriter 73 = .ok (.iconst 2, 1) := by decide +kernel
theorem dX6_tellWriter_74 : decode cX6_tellWriter 74 = .ok (.if_icmp .ne 12, 3) := by decide +kernel
theorem dX6_tellWriter_77 : decode cX6_tellWriter 77 = .ok (.aload_n 0, 1) := by decide +kernel
theorem dX6_tellWriter_78 : decode cX6_tellWriter 78 = .ok (.iload_n 1, 1) := by decide +kernel
theorem dX6_tellWriter_79 : decode cX6_tellWriter 79 = .ok (.iconst 4, 1) := by decide +kernel
theorem dX6_tellWriter_80 : decode cX6_tellWriter 80 = .ok (.invokevirtual 56, 3) := by decide +kernel
theorem dX6_tellWriter_83 : decode cX6_tellWriter 83 = .ok (.goto 4, 3) := by decide +kernel
theorem dX6_tellWriter_86 : decode cX6_tellWriter 86 = .ok (.iconst 0, 1) := by decide +kernel
theorem dX6_tellWriter_87 : decode cX6_tellWriter 87 = .ok (.ireturn, 1) := by decide +kernel
theorem dX6_tellWriter_88 : decode cX6_tellWriter 88 = .ok (.aload_n 0, 1) := by decide +kernel
theorem dX6_tellWriter_89 : decode cX6_tellWriter 89 = .ok (.iload_n 1, 1) := by decide +kernel
theorem dX6_tellWriter_90 : decode cX6_tellWriter 90 = .ok (.iconst 1, 1) := by decide +kernel
theorem dX6_tellWriter_91 : decode cX6_tellWriter 91 = .ok (.invokevirtual 56, 3) := by decide +kernel
theorem dX6_tellWriter_94 : decode cX6_tellWriter 94 = .ok (.iconst 1, 1) := by decide +kernel
theorem dX6_tellWriter_95 : decode cX6_tellWriter 95 = .ok (.if_icmp .ne 19, 3) := by decide +kernel
theorem dX6_tellWriter_98 : decode cX6_tellWriter 98 = .ok (.aload_n 0, 1) := by decide +kernel
theorem dX6_tellWriter_99 : decode cX6_tellWriter 99 = .ok (.getfield 7, 3) := by decide +kernel
theorem dX6_tellWriter_102 : decode cX6_tellWriter 102 = .ok (.iconst 0, 1) := by decide +kernel
theorem dX6_tellWriter_103 : decode cX6_tellWriter 103 = .ok (.iaload, 1) := by decide +kernel
theorem dX6_tellWriter_104 : decode cX6_tellWriter 104 = .ok (.aload_n 0, 1) := by decide +kernel
theorem dX6_tellWriter_105 : decode cX6_tellWriter 105 = .ok (.iload_n 1, 1) := by decide +kernel
theorem dX6_tellWriter_106 : decode cX6_tellWriter 106 = .ok (.iconst 5, 1) := by decide +kernel
theorem dX6_tellWriter_107 : decode cX6_tellWriter 107 = .ok (.invokevirtual 56, 3) := by decide +kernel
theorem dX6_tellWriter_110 : decode cX6_tellWriter 110 = .ok (.isub, 1) := by decide +kernel
theorem dX6_tellWriter_111 : decode cX6_tellWriter 111 = .ok (.goto 4, 3) := by decide +kernel
theorem dX6_tellWriter_114 : decode cX6_tellWriter 114 = .ok (.iconst (-1), 1) := by decide +kernel
theorem dX6_tellWriter_115 : decode cX6_tellWriter 115 = .ok (.ireturn, 1) := by decide +kernel
theorem dX6_tellWriter_116 : decode cX6_tellWriter 116 = .ok (.aload_n 0, 1) := by decide +kernel
theorem dX6_tellWriter_117 : decode cX6_tellWriter 117 = .ok (.iload_n 1, 1) := by decide +kernel
theorem dX6_tellWriter_118 : decode cX6_tellWriter 118 = .ok (.iload_n 2, 1) := by decide +kernel
theorem dX6_tellWriter_119 : decode cX6_tellWriter 119 = .ok (.bipush 6, 2) := by decide +kernel
theorem dX6_tellWriter_121 : decode cX6_tellWriter 121 = .ok (.isub, 1) := by decide +kernel
theorem dX6_tellWriter_122 : decode cX6_tellWriter 122 = .ok (.invokevirtual 130, 3) := by decide +kernel
theorem dX6_tellWriter_125 : decode cX6_tellWriter 125 = .ok (.ireturn, 1) := by decide +kernel
theorem dX6_writer_0 : decode cX6_writer 0 = .ok (.iload_n 1, 1) := by decide +kernel
theorem dX6_writer_1 : decode cX6_writer 1 = .ok (.invokestatic 107, 3) := by decide +kernel
theorem dX6_writer_4 : decode cX6_writer 4 = .ok (.ifCond .eq 22, 3) := by decide +kernel
theorem dX6_writer_7 : decode cX6_writer 7 = .ok (.iload_n 2, 1) := by decide +kernel
theorem dX6_writer_8 : decode cX6_writer 8 = .ok (.iconst 0, 1) := by decide +kernel
theorem dX6_writer_9 : decode cX6_writer 9 = .ok (.bipush 8, 2) := by decide +kernel
theorem dX6_writer_11 : decode cX6_writer 11 = .ok (.invokestatic 36, 3) := by decide +kernel
theorem dX6_writer_14 : decode cX6_writer 14 = .ok (.ifCond .eq 12, 3) := by decide +kernel
theorem dX6_writer_17 : decode cX6_writer 17 = .ok (.aload_n 0, 1) := by decide +kernel
theorem dX6_writer_18 : decode cX6_writer 18 = .ok (.iload_n 1, 1) := by decide +kernel
theorem dX6_writer_19 : decode cX6_writer 19 = .ok (.iload_n 2, 1) := by decide +kernel
theorem dX6_writer_20 : decode cX6_writer 20 = .ok (.invokevirtual 152, 3) := by decide +kernel
theorem dX6_writer_23 : decode cX6_writer 23 = .ok (.goto 7, 3) := by decide +kernel
theorem dX6_writer_26 : decode cX6_writer 26 = .ok (.aload_n 0, 1) := by decide +kernel
theorem dX6_writer_27 : decode cX6_writer 27 = .ok (.invokevirtual 111, 3) := by decide +kernel
theorem dX6_writer_30 : decode cX6_writer 30 = .ok (.ireturn, 1) := by decide +kernel
theorem dX6_tellEntry_0 : decode cX6_tellEntry 0 = .ok (.aload_n 0, 1) := by decide +kernel
theorem dX6_tellEntry_1 : decode cX6_tellEntry 1 = .ok (.iload_n 1, 1) := by decide +kernel
theorem dX6_tellEntry_2 : decode cX6_tellEntry 2 = .ok (.iload_n 2, 1) := by decide +kernel
theorem dX6_tellEntry_3 : decode cX6_tellEntry 3 = .ok (.iconst 0, 1) := by decide +kernel
theorem dX6_tellEntry_4 : decode cX6_tellEntry 4 = .ok (.invokevirtual 73, 3) := by decide +kernel
theorem dX6_tellEntry_7 : decode cX6_tellEntry 7 = .ok (.iconst 1, 1) := by decide +kernel
theorem dX6_tellEntry_8 : decode cX6_tellEntry 8 = .ok (.if_icmp .ne 7, 3) := by decide +kernel
theorem dX6_tellEntry_11 : decode cX6_tellEntry 11 = .ok (.iconst 1, 1) := by decide +kernel
theorem dX6_tellEntry_12 : decode cX6_tellEntry 12 = .ok (.goto 4, 3) := by decide +kernel
theorem dX6_tellEntry_15 : decode cX6_tellEntry 15 = .ok (.iconst 0, 1) := by decide +kernel
theorem dX6_tellEntry_16 : decode cX6_tellEntry 16 = .ok (.istore 4, 2) := by decide +kernel
theorem dX6_tellEntry_18 : decode cX6_tellEntry 18 = .ok (.iload_n 3, 1) := by decide +kernel
theorem dX6_tellEntry_19 : decode cX6_tellEntry 19 = .ok (.lookupswitch 62 #[(5, 25), (6, 42)], 25) := by decide +kernel
theorem dX6_tellEntry_44 : decode cX6_tellEntry 44 = .ok (.iload 4, 2) := by decide +kernel
theorem dX6_tellEntry_46 : decode cX6_tellEntry 46 = .ok (.ifCond .eq 7, 3) := by decide +kernel
theorem dX6_tellEntry_49 : decode cX6_tellEntry 49 = .ok (.iconst (-1), 1) := by decide +kernel
theorem dX6_tellEntry_50 : decode cX6_tellEntry 50 = .ok (.goto 10, 3) := by decide +kernel
theorem dX6_tellEntry_53 : decode cX6_tellEntry 53 = .ok (.aload_n 0, 1) := by decide +kernel
theorem dX6_tellEntry_54 : decode cX6_tellEntry 54 = .ok (.iload_n 1, 1) := by decide +kernel
theorem dX6_tellEntry_55 : decode cX6_tellEntry 55 = .ok (.iload_n 2, 1) := by decide +kernel
theorem dX6_tellEntry_56 : decode cX6_tellEntry 56 = .ok (.iconst 5, 1) := by decide +kernel
theorem dX6_tellEntry_57 : decode cX6_tellEntry 57 = .ok (.invokevirtual 73, 3) := by decide +kernel
theorem dX6_tellEntry_60 : decode cX6_tellEntry 60 = .ok (.ireturn, 1) := by decide +kernel
theorem dX6_tellEntry_61 : decode cX6_tellEntry 61 = .ok (.aload_n 0, 1) := by decide +kernel
theorem dX6_tellEntry_62 : decode cX6_tellEntry 62 = .ok (.iload_n 1, 1) := by decide +kernel
theorem dX6_tellEntry_63 : decode cX6_tellEntry 63 = .ok (.iload_n 2, 1) := by decide +kernel
theorem dX6_tellEntry_64 : decode cX6_tellEntry 64 = .ok (.aload_n 0, 1) := by decide +kernel
theorem dX6_tellEntry_65 : decode cX6_tellEntry 65 = .ok (.iload_n 1, 1) := by decide +kernel
theorem dX6_tellEntry_66 : decode cX6_tellEntry 66 = .ok (.invokevirtual 77, 3) := by decide +kernel
theorem dX6_tellEntry_69 : decode cX6_tellEntry 69 = .ok (.invokevirtual 80, 3) := by decide +kernel
theorem dX6_tellEntry_72 : decode cX6_tellEntry 72 = .ok (.ifCond .eq 7, 3) := by decide +kernel
theorem dX6_tellEntry_75 : decode cX6_tellEntry 75 = .ok (.iconst 1, 1) := by decide +kernel
theorem dX6_tellEntry_76 : decode cX6_tellEntry 76 = .ok (.goto 4, 3) := by decide +kernel
theorem dX6_tellEntry_79 : decode cX6_tellEntry 79 = .ok (.iconst 0, 1) := by decide +kernel
theorem dX6_tellEntry_80 : decode cX6_tellEntry 80 = .ok (.ireturn, 1) := by decide +kernel
theorem dX6_tellEntry_81 : decode cX6_tellEntry 81 = .ok (.aload_n 0, 1) := by decide +kernel
theorem dX6_tellEntry_82 : decode cX6_tellEntry 82 = .ok (.iload_n 1, 1) := by decide +kernel
theorem dX6_tellEntry_83 : decode cX6_tellEntry 83 = .ok (.iload_n 2, 1) := by decide +kernel
theorem dX6_tellEntry_84 : decode cX6_tellEntry 84 = .ok (.iload_n 3, 1) := by decide +kernel
theorem dX6_tellEntry_85 : decode cX6_tellEntry 85 = .ok (.invokevirtual 73, 3) := by decide +kernel
theorem dX6_tellEntry_88 : decode cX6_tellEntry 88 = .ok (.ireturn, 1) := by decide +kernel
theorem dX6_entry_0 : decode cX6_entry 0 = .ok (.iload_n 1, 1) := by decide +kernel
theorem dX6_entry_1 : decode cX6_entry 1 = .ok (.invokestatic 124, 3) := by decide +kernel
theorem dX6_entry_4 : decode cX6_entry 4 = .ok (.ifCond .eq 28, 3) := by decide +kernel
theorem dX6_entry_7 : decode cX6_entry 7 = .ok (.iload_n 2, 1) := by decide +kernel
theorem dX6_entry_8 : decode cX6_entry 8 = .ok (.iconst 0, 1) := by decide +kernel
theorem dX6_entry_9 : decode cX6_entry 9 = .ok (.aload_n 0, 1) := by decide +kernel
theorem dX6_entry_10 : decode cX6_entry 10 = .ok (.iload_n 1, 1) := by decide +kernel
theorem dX6_entry_11 : decode cX6_entry 11 = .ok (.invokevirtual 70, 3) := by decide +kernel
theorem dX6_entry_14 : decode cX6_entry 14 = .ok (.iconst 1, 1) := by decide +kernel
theorem dX6_entry_15 : decode cX6_entry 15 = .ok (.isub, 1) := by decide +kernel
theorem dX6_entry_16 : decode cX6_entry 16 = .ok (.invokestatic 36, 3) := by decide +kernel
theorem dX6_entry_19 : decode cX6_entry 19 = .ok (.ifCond .eq 13, 3) := by decide +kernel
theorem dX6_entry_22 : decode cX6_entry 22 = .ok (.iload_n 3, 1) := by decide +kernel
theorem dX6_entry_23 : decode cX6_entry 23 = .ok (.iconst 0, 1) := by decide +kernel
theorem dX6_entry_24 : decode cX6_entry 24 = .ok (.bipush 6, 2) := by decide +kernel
theorem dX6_entry_26 : decode cX6_entry 26 = .ok (.invokestatic 36, 3) := by decide +kernel
theorem dX6_entry_29 : decode cX6_entry 29 = .ok (.ifCond .ne 8, 3) := by decide +kernel
theorem dX6_entry_32 : decode cX6_entry 32 = .ok (.aload_n 0, 1) := by decide +kernel
theorem dX6_entry_33 : decode cX6_entry 33 = .ok (.invokevirtual 111, 3) := by decide +kernel
theorem dX6_entry_36 : decode cX6_entry 36 = .ok (.ireturn, 1) := by decide +kernel
theorem dX6_entry_37 : decode cX6_entry 37 = .ok (.aload_n 0, 1) := by decide +kernel
theorem dX6_entry_38 : decode cX6_entry 38 = .ok (.iload_n 1, 1) := by decide +kernel
theorem dX6_entry_39 : decode cX6_entry 39 = .ok (.iload_n 2, 1) := by decide +kernel
theorem dX6_entry_40 : decode cX6_entry 40 = .ok (.iload_n 3, 1) := by decide +kernel
theorem dX6_entry_41 : decode cX6_entry 41 = .ok (.invokevirtual 155, 3) := by decide +kernel
theorem dX6_entry_44 : decode cX6_entry 44 = .ok (.ireturn, 1) := by decide +kernel
theorem dX6_isAbort_0 : decode cX6_isAbort 0 = .ok (.aload_n 0, 1) := by decide +kernel
theorem dX6_isAbort_1 : decode cX6_isAbort 1 = .ok (.iload_n 1, 1) := by decide +kernel
theorem dX6_isAbort_2 : decode cX6_isAbort 2 = .ok (.iload_n 2, 1) := by decide +kernel
theorem dX6_isAbort_3 : decode cX6_isAbort 3 = .ok (.iconst 0, 1) := by decide +kernel
theorem dX6_isAbort_4 : decode cX6_isAbort 4 = .ok (.invokevirtual 73, 3) := by decide +kernel
theorem dX6_isAbort_7 : decode cX6_isAbort 7 = .ok (.iconst 1, 1) := by decide +kernel
theorem dX6_isAbort_8 : decode cX6_isAbort 8 = .ok (.if_icmp .ne 17, 3) := by decide +kernel
theorem dX6_isAbort_11 : decode cX6_isAbort 11 = .ok (.aload_n 0, 1) := by decide +kernel
theorem dX6_isAbort_12 : decode cX6_isAbort 12 = .ok (.iload_n 1, 1) := by decide +kernel
theorem dX6_isAbort_13 : decode cX6_isAbort 13 = .ok (.iload_n 2, 1) := by decide +kernel
theorem dX6_isAbort_14 : decode cX6_isAbort 14 = .ok (.iconst 4, 1) := by decide +kernel
theorem dX6_isAbort_15 : decode cX6_isAbort 15 = .ok (.invokevirtual 73, 3) := by decide +kernel
theorem dX6_isAbort_18 : decode cX6_isAbort 18 = .ok (.ifCond .ne 7, 3) := by decide +kernel
theorem dX6_isAbort_21 : decode cX6_isAbort 21 = .ok (.iconst 1, 1) := by decide +kernel
theorem dX6_isAbort_22 : decode cX6_isAbort 22 = .ok (.goto 4, 3) := by decide +kernel
theorem dX6_isAbort_25 : decode cX6_isAbort 25 = .ok (.iconst 0, 1) := by decide +kernel
theorem dX6_isAbort_26 : decode cX6_isAbort 26 = .ok (.ireturn, 1) := by decide +kernel
theorem dX6_marksIn_0 : decode cX6_marksIn 0 = .ok (.iconst 0, 1) := by decide +kernel
theorem dX6_marksIn_1 : decode cX6_marksIn 1 = .ok (.istore_n 3, 1) := by decide +kernel
theorem dX6_marksIn_2 : decode cX6_marksIn 2 = .ok (.iconst 0, 1) := by decide +kernel
theorem dX6_marksIn_3 : decode cX6_marksIn 3 = .ok (.istore 4, 2) := by decide +kernel
theorem dX6_marksIn_5 : decode cX6_marksIn 5 = .ok (.iload 4, 2) := by decide +kernel
theorem dX6_marksIn_7 : decode cX6_marksIn 7 = .ok (.aload_n 0, 1) := by decide +kernel
theorem dX6_marksIn_8 : decode cX6_marksIn 8 = .ok (.iload_n 1, 1) := by decide +kernel
theorem dX6_marksIn_9 : decode cX6_marksIn 9 = .ok (.invokevirtual 70, 3) := by decide +kernel
theorem dX6_marksIn_12 : decode cX6_marksIn 12 = .ok (.if_icmp .ge 43, 3) := by decide +kernel
theorem dX6_marksIn_15 : decode cX6_marksIn 15 = .ok (.iload_n 3, 1) := by decide +kernel
theorem dX6_marksIn_16 : decode cX6_marksIn 16 = .ok (.aload_n 0, 1) := by decide +kernel
theorem dX6_marksIn_17 : decode cX6_marksIn 17 = .ok (.iload_n 1, 1) := by decide +kernel
theorem dX6_marksIn_18 : decode cX6_marksIn 18 = .ok (.iload 4, 2) := by decide +kernel
theorem dX6_marksIn_20 : decode cX6_marksIn 20 = .ok (.iconst 0, 1) := by decide +kernel
theorem dX6_marksIn_21 : decode cX6_marksIn 21 = .ok (.invokevirtual 73, 3) := by decide +kernel
theorem dX6_marksIn_24 : decode cX6_marksIn 24 = .ok (.iconst 1, 1) := by decide +kernel
theorem dX6_marksIn_25 : decode cX6_marksIn 25 = .ok (.if_icmp .ne 21, 3) := by decide +kernel
theorem dX6_marksIn_28 : decode cX6_marksIn 28 = .ok (.iload_n 2, 1) := by decide +kernel
theorem dX6_marksIn_29 : decode cX6_marksIn 29 = .ok (.ifCond .eq 13, 3) := by decide +kernel
theorem dX6_marksIn_32 : decode cX6_marksIn 32 = .ok (.aload_n 0, 1) := by decide +kernel
theorem dX6_marksIn_33 : decode cX6_marksIn 33 = .ok (.iload_n 1, 1) := by decide +kernel
theorem dX6_marksIn_34 : decode cX6_marksIn 34 = .ok (.iload 4, 2) := by decide +kernel
theorem dX6_marksIn_36 : decode cX6_marksIn 36 = .ok (.invokevirtual 158, 3) := by decide +kernel
theorem dX6_marksIn_39 : decode cX6_marksIn 39 = .ok (.ifCond .eq 7, 3) := by decide +kernel
theorem dX6_marksIn_42 : decode cX6_marksIn 42 = .ok (.iconst 1, 1) := by decide +kernel
theorem dX6_marksIn_43 : decode cX6_marksIn 43 = .ok (.goto 4, 3) := by decide +kernel
theorem dX6_marksIn_46 : decode cX6_marksIn 46 = .ok (.iconst 0, 1) := by decide +kernel
theorem dX6_marksIn_47 : decode cX6_marksIn 47 = .ok (.iadd, 1) := by decide +kernel
theorem dX6_marksIn_48 : decode cX6_marksIn 48 = .ok (.istore_n 3, 1) := by decide +kernel
theorem dX6_marksIn_49 : decode cX6_marksIn 49 = .ok (.iinc 4 1, 3) := by decide +kernel
theorem dX6_marksIn_52 : decode cX6_marksIn 52 = .ok (.goto (-47), 3) := by decide +kernel
theorem dX6_marksIn_55 : decode cX6_marksIn 55 = .ok (.iload_n 3, 1) := by decide +kernel
theorem dX6_marksIn_56 : decode cX6_marksIn 56 = .ok (.ireturn, 1) := by decide +kernel
theorem dX6_tellPart_0 : decode cX6_tellPart 0 = .ok (.iload_n 2, 1) := by decide +kernel
theorem dX6_tellPart_1 : decode cX6_tellPart 1 = .ok (.tableswitch 66 0 4 #[35, 41, 47, 54, 60], 35) := by decide +kernel
theorem dX6_tellPart_36 : decode cX6_tellPart 36 = .ok (.aload_n 0, 1) := by decide +kernel
theorem dX6_tellPart_37 : decode cX6_tellPart 37 = .ok (.iload_n 1, 1) := by decide +kernel
theorem dX6_tellPart_38 : decode cX6_tellPart 38 = .ok (.invokevirtual 70, 3) := by decide +kernel
theorem dX6_tellPart_41 : decode cX6_tellPart 41 = .ok (.ireturn, 1) := by decide +kernel
theorem dX6_tellPart_42 : decode cX6_tellPart 42 = .ok (.aload_n 0, 1) := by decide +kernel
theorem dX6_tellPart_43 : decode cX6_tellPart 43 = .ok (.iload_n 1, 1) := by decide +kernel
theorem dX6_tellPart_44 : decode cX6_tellPart 44 = .ok (.invokevirtual 77, 3) := by decide +kernel
theorem dX6_tellPart_47 : decode cX6_tellPart 47 = .ok (.ireturn, 1) := by decide +kernel
theorem dX6_tellPart_48 : decode cX6_tellPart 48 = .ok (.aload_n 0, 1) := by decide +kernel
theorem dX6_tellPart_49 : decode cX6_tellPart 49 = .ok (.iload_n 1, 1) := by decide +kernel
theorem dX6_tellPart_50 : decode cX6_tellPart 50 = .ok (.iconst 0, 1) := by decide +kernel
theorem dX6_tellPart_51 : decode cX6_tellPart 51 = .ok (.invokevirtual 161, 3) := by decide +kernel
theorem dX6_tellPart_54 : decode cX6_tellPart 54 = .ok (.ireturn, 1) := by decide +kernel
theorem dX6_tellPart_55 : decode cX6_tellPart 55 = .ok (.aload_n 0, 1) := by decide +kernel
theorem dX6_tellPart_56 : decode cX6_tellPart 56 = .ok (.iload_n 1, 1) := by decide +kernel
theorem dX6_tellPart_57 : decode cX6_tellPart 57 = .ok (.invokevirtual 133, 3) := by decide +kernel
theorem dX6_tellPart_60 : decode cX6_tellPart 60 = .ok (.ireturn, 1) := by decide +kernel
theorem dX6_tellPart_61 : decode cX6_tellPart 61 = .ok (.aload_n 0, 1) := by decide +kernel
theorem dX6_tellPart_62 : decode cX6_tellPart 62 = .ok (.iload_n 1, 1) := by decide +kernel
theorem dX6_tellPart_63 : decode cX6_tellPart 63 = .ok (.invokevirtual 66, 3) := by decide +kernel
theorem dX6_tellPart_66 : decode cX6_tellPart 66 = .ok (.ireturn, 1) := by decide +kernel
theorem dX6_tellPart_67 : decode cX6_tellPart 67 = .ok (.aload_n 0, 1) := by decide +kernel
theorem dX6_tellPart_68 : decode cX6_tellPart 68 = .ok (.iload_n 1, 1) := by decide +kernel
theorem dX6_tellPart_69 : decode cX6_tellPart 69 = .ok (.iconst 1, 1) := by decide +kernel
theorem dX6_tellPart_70 : decode cX6_tellPart 70 = .ok (.invokevirtual 164, 3) := by decide +kernel
theorem dX6_tellPart_73 : decode cX6_tellPart 73 = .ok (.ireturn, 1) := by decide +kernel
theorem dX6_part_0 : decode cX6_part 0 = .ok (.iload_n 1, 1) := by decide +kernel
theorem dX6_part_1 : decode cX6_part 1 = .ok (.invokestatic 124, 3) := by decide +kernel
theorem dX6_part_4 : decode cX6_part 4 = .ok (.ifCond .eq 21, 3) := by decide +kernel
theorem dX6_part_7 : decode cX6_part 7 = .ok (.iload_n 2, 1) := by decide +kernel
theorem dX6_part_8 : decode cX6_part 8 = .ok (.iconst 0, 1) := by decide +kernel
theorem dX6_part_9 : decode cX6_part 9 = .ok (.iconst 5, 1) := by decide +kernel
theorem dX6_part_10 : decode cX6_part 10 = .ok (.invokestatic 36, 3) := by decide +kernel
theorem dX6_part_13 : decode cX6_part 13 = .ok (.ifCond .eq 12, 3) := by decide +kernel
theorem dX6_part_16 : decode cX6_part 16 = .ok (.aload_n 0, 1) := by decide +kernel
theorem dX6_part_17 : decode cX6_part 17 = .ok (.iload_n 1, 1) := by decide +kernel
theorem dX6_part_18 : decode cX6_part 18 = .ok (.iload_n 2, 1) := by decide +kernel
theorem dX6_part_19 : decode cX6_part 19 = .ok (.invokevirtual 168, 3) := by decide +kernel
theorem dX6_part_22 : decode cX6_part 22 = .ok (.goto 7, 3) := by decide +kernel
theorem dX6_part_25 : decode cX6_part 25 = .ok (.aload_n 0, 1) := by decide +kernel
theorem dX6_part_26 : decode cX6_part 26 = .ok (.invokevirtual 111, 3) := by decide +kernel
theorem dX6_part_29 : decode cX6_part 29 = .ok (.ireturn, 1) := by decide +kernel
theorem dX6_aheadOf_0 : decode cX6_aheadOf 0 = .ok (.iconst 0, 1) := by decide +kernel
theorem dX6_aheadOf_1 : decode cX6_aheadOf 1 = .ok (.istore_n 3, 1) := by decide +kernel
theorem dX6_aheadOf_2 : decode cX6_aheadOf 2 = .ok (.iconst 0, 1) := by decide +kernel
theorem dX6_aheadOf_3 : decode cX6_aheadOf 3 = .ok (.istore 4, 2) := by decide +kernel
theorem dX6_aheadOf_5 : decode cX6_aheadOf 5 = .ok (.iload 4, 2) := by decide +kernel
theorem dX6_aheadOf_7 : decode cX6_aheadOf 7 = .ok (.aload_n 0, 1) := by decide +kernel
theorem dX6_aheadOf_8 : decode cX6_aheadOf 8 = .ok (.iload_n 1, 1) := by decide +kernel
theorem dX6_aheadOf_9 : decode cX6_aheadOf 9 = .ok (.invokevirtual 70, 3) := by decide +kernel
theorem dX6_aheadOf_12 : decode cX6_aheadOf 12 = .ok (.if_icmp .ge 45, 3) := by decide +kernel
theorem dX6_aheadOf_15 : decode cX6_aheadOf 15 = .ok (.iload_n 3, 1) := by decide +kernel
theorem dX6_aheadOf_16 : decode cX6_aheadOf 16 = .ok (.aload_n 0, 1) := by decide +kernel
theorem dX6_aheadOf_17 : decode cX6_aheadOf 17 = .ok (.iload_n 1, 1) := by decide +kernel
theorem dX6_aheadOf_18 : decode cX6_aheadOf 18 = .ok (.iload 4, 2) := by decide +kernel
theorem dX6_aheadOf_20 : decode cX6_aheadOf 20 = .ok (.invokevirtual 158, 3) := by decide +kernel
theorem dX6_aheadOf_23 : decode cX6_aheadOf 23 = .ok (.ifCond .eq 25, 3) := by decide +kernel
theorem dX6_aheadOf_26 : decode cX6_aheadOf 26 = .ok (.aload_n 0, 1) := by decide +kernel
theorem dX6_aheadOf_27 : decode cX6_aheadOf 27 = .ok (.iload_n 1, 1) := by decide +kernel
theorem dX6_aheadOf_28 : decode cX6_aheadOf 28 = .ok (.iload 4, 2) := by decide +kernel
theorem dX6_aheadOf_30 : decode cX6_aheadOf 30 = .ok (.iconst 5, 1) := by decide +kernel
theorem dX6_aheadOf_31 : decode cX6_aheadOf 31 = .ok (.invokevirtual 73, 3) := by decide +kernel
theorem dX6_aheadOf_34 : decode cX6_aheadOf 34 = .ok (.aload_n 0, 1) := by decide +kernel
theorem dX6_aheadOf_35 : decode cX6_aheadOf 35 = .ok (.iload_n 1, 1) := by decide +kernel
theorem dX6_aheadOf_36 : decode cX6_aheadOf 36 = .ok (.iload_n 2, 1) := by decide +kernel
theorem dX6_aheadOf_37 : decode cX6_aheadOf 37 = .ok (.iconst 5, 1) := by decide +kernel
theorem dX6_aheadOf_38 : decode cX6_aheadOf 38 = .ok (.invokevirtual 73, 3) := by decide +kernel
theorem dX6_aheadOf_41 : decode cX6_aheadOf 41 = .ok (.if_icmp .ge 7, 3) := by decide +kernel
theorem dX6_aheadOf_44 : decode cX6_aheadOf 44 = .ok (.iconst 1, 1) := by decide +kernel
theorem dX6_aheadOf_45 : decode cX6_aheadOf 45 = .ok (.goto 4, 3) := by decide +kernel
theorem dX6_aheadOf_48 : decode cX6_aheadOf 48 = .ok (.iconst 0, 1) := by decide +kernel
theorem dX6_aheadOf_49 : decode cX6_aheadOf 49 = .ok (.iadd, 1) := by decide +kernel
theorem dX6_aheadOf_50 : decode cX6_aheadOf 50 = .ok (.istore_n 3, 1) := by decide +kernel
theorem dX6_aheadOf_51 : decode cX6_aheadOf 51 = .ok (.iinc 4 1, 3) := by decide +kernel
theorem dX6_aheadOf_54 : decode cX6_aheadOf 54 = .ok (.goto (-49), 3) := by decide +kernel
theorem dX6_aheadOf_57 : decode cX6_aheadOf 57 = .ok (.iload_n 3, 1) := by decide +kernel
theorem dX6_aheadOf_58 : decode cX6_aheadOf 58 = .ok (.ireturn, 1) := by decide +kernel
theorem dX6_tellAborted_0 : decode cX6_tellAborted 0 = .ok (.iconst 0, 1) := by decide +kernel
theorem dX6_tellAborted_1 : decode cX6_tellAborted 1 = .ok (.istore 4, 2) := by decide +kernel
theorem dX6_tellAborted_3 : decode cX6_tellAborted 3 = .ok (.iload 4, 2) := by decide +kernel
theorem dX6_tellAborted_5 : decode cX6_tellAborted 5 = .ok (.aload_n 0, 1) := by decide +kernel
theorem dX6_tellAborted_6 : decode cX6_tellAborted 6 = .ok (.iload_n 1, 1) := by decide +kernel
theorem dX6_tellAborted_7 : decode cX6_tellAborted 7 = .ok (.invokevirtual 70, 3) := by decide +kernel
theorem dX6_tellAborted_10 : decode cX6_tellAborted 10 = .ok (.if_icmp .ge 64, 3) := by decide +kernel
theorem dX6_tellAborted_13 : decode cX6_tellAborted 13 = .ok (.aload_n 0, 1) := by decide +kernel
theorem dX6_tellAborted_14 : decode cX6_tellAborted 14 = .ok (.iload_n 1, 1) := by decide +kernel
theorem dX6_tellAborted_15 : decode cX6_tellAborted 15 = .ok (.iload 4, 2) := by decide +kernel
theorem dX6_tellAborted_17 : decode cX6_tellAborted 17 = .ok (.invokevirtual 158, 3) := by decide +kernel
theorem dX6_tellAborted_20 : decode cX6_tellAborted 20 = .ok (.ifCond .eq 48, 3) := by decide +kernel
theorem dX6_tellAborted_23 : decode cX6_tellAborted 23 = .ok (.aload_n 0, 1) := by decide +kernel
theorem dX6_tellAborted_24 : decode cX6_tellAborted 24 = .ok (.iload_n 1, 1) := by decide +kernel
theorem dX6_tellAborted_25 : decode cX6_tellAborted 25 = .ok (.iload 4, 2) := by decide +kernel
theorem dX6_tellAborted_27 : decode cX6_tellAborted 27 = .ok (.invokevirtual 171, 3) := by decide +kernel
theorem dX6_tellAborted_30 : decode cX6_tellAborted 30 = .ok (.iload_n 2, 1) := by decide +kernel
theorem dX6_tellAborted_31 : decode cX6_tellAborted 31 = .ok (.if_icmp .ne 37, 3) := by decide +kernel
theorem dX6_tellAborted_34 : decode cX6_tellAborted 34 = .ok (.iload_n 3, 1) := by decide +kernel
theorem dX6_tellAborted_35 : decode cX6_tellAborted 35 = .ok (.ifCond .ne 14, 3) := by decide +kernel
theorem dX6_tellAborted_38 : decode cX6_tellAborted 38 = .ok (.aload_n 0, 1) := by decide +kernel
theorem dX6_tellAborted_39 : decode cX6_tellAborted 39 = .ok (.iload_n 1, 1) := by decide +kernel
theorem dX6_tellAborted_40 : decode cX6_tellAborted 40 = .ok (.iload 4, 2) := by decide +kernel
theorem dX6_tellAborted_42 : decode cX6_tellAborted 42 = .ok (.iconst 1, 1) := by decide +kernel
theorem dX6_tellAborted_43 : decode cX6_tellAborted 43 = .ok (.invokevirtual 73, 3) := by decide +kernel
theorem dX6_tellAborted_46 : decode cX6_tellAborted 46 = .ok (.goto 21, 3) := by decide +kernel
theorem dX6_tellAborted_49 : decode cX6_tellAborted 49 = .ok (.iload_n 3, 1) := by decide +kernel
theorem dX6_tellAborted_50 : decode cX6_tellAborted 50 = .ok (.iconst 1, 1) := by decide +kernel
theorem dX6_tellAborted_51 : decode cX6_tellAborted 51 = .ok (.if_icmp .ne 14, 3) := by decide +kernel
theorem dX6_tellAborted_54 : decode cX6_tellAborted 54 = .ok (.aload_n 0, 1) := by decide +kernel
theorem dX6_tellAborted_55 : decode cX6_tellAborted 55 = .ok (.iload_n 1, 1) := by decide +kernel
theorem dX6_tellAborted_56 : decode cX6_tellAborted 56 = .ok (.iload 4, 2) := by decide +kernel
theorem dX6_tellAborted_58 : decode cX6_tellAborted 58 = .ok (.iconst 5, 1) := by decide +kernel
theorem dX6_tellAborted_59 : decode cX6_tellAborted 59 = .ok (.invokevirtual 73, 3) := by decide +kernel
theorem dX6_tellAborted_62 : decode cX6_tellAborted 62 = .ok (.goto 5, 3) := by decide +kernel
theorem dX6_tellAborted_65 : decode cX6_tellAborted 65 = .ok (.iload 4, 2) := by decide +kernel
theorem dX6_tellAborted_67 : decode cX6_tellAborted 67 = .ok (.ireturn, 1) := by decide +kernel
theorem dX6_tellAborted_68 : decode cX6_tellAborted 68 = .ok (.iinc 4 1, 3) := by decide +kernel
theorem dX6_tellAborted_71 : decode cX6_tellAborted 71 = .ok (.goto (-68), 3) := by decide +kernel
theorem dX6_tellAborted_74 : decode cX6_tellAborted 74 = .ok (.iconst (-1), 1) := by decide +kernel
theorem dX6_tellAborted_75 : decode cX6_tellAborted 75 = .ok (.ireturn, 1) := by decide +kernel
theorem dX6_aborted_0 : decode cX6_aborted 0 = .ok (.iload_n 1, 1) := by decide +kernel
theorem dX6_aborted_1 : decode cX6_aborted 1 = .ok (.invokestatic 124, 3) := by decide +kernel
theorem dX6_aborted_4 : decode cX6_aborted 4 = .ok (.ifCond .eq 26, 3) := by decide +kernel
theorem dX6_aborted_7 : decode cX6_aborted 7 = .ok (.iload_n 2, 1) := by decide +kernel
theorem dX6_aborted_8 : decode cX6_aborted 8 = .ok (.ifCond .lt 22, 3) := by decide +kernel
theorem dX6_aborted_11 : decode cX6_aborted 11 = .ok (.iload_n 3, 1) := by decide +kernel
theorem dX6_aborted_12 : decode cX6_aborted 12 = .ok (.iconst 0, 1) := by decide +kernel
theorem dX6_aborted_13 : decode cX6_aborted 13 = .ok (.iconst 2, 1) := by decide +kernel
theorem dX6_aborted_14 : decode cX6_aborted 14 = .ok (.invokestatic 36, 3) := by decide +kernel
theorem dX6_aborted_17 : decode cX6_aborted 17 = .ok (.ifCond .eq 13, 3) := by decide +kernel
theorem dX6_aborted_20 : decode cX6_aborted 20 = .ok (.aload_n 0, 1) := by decide +kernel
theorem dX6_aborted_21 : decode cX6_aborted 21 = .ok (.iload_n 1, 1) := by decide +kernel
theorem dX6_aborted_22 : decode cX6_aborted 22 = .ok (.iload_n 2, 1) := by decide +kernel
theorem dX6_aborted_23 : decode cX6_aborted 23 = .ok (.iload_n 3, 1) := by decide +kernel
theorem dX6_aborted_24 : decode cX6_aborted 24 = .ok (.invokevirtual 174, 3) := by decide +kernel
theorem dX6_aborted_27 : decode cX6_aborted 27 = .ok (.goto 7, 3) := by decide +kernel
theorem dX6_aborted_30 : decode cX6_aborted 30 = .ok (.aload_n 0, 1) := by decide +kernel
theorem dX6_aborted_31 : decode cX6_aborted 31 = .ok (.invokevirtual 111, 3) := by decide +kernel
theorem dX6_aborted_34 : decode cX6_aborted 34 = .ok (.ireturn, 1) := by decide +kernel
theorem dX6_reads_0 : decode cX6_reads 0 = .ok (.iload_n 1, 1) := by decide +kernel
theorem dX6_reads_1 : decode cX6_reads 1 = .ok (.invokestatic 143, 3) := by decide +kernel
theorem dX6_reads_4 : decode cX6_reads 4 = .ok (.ifCond .eq 10, 3) := by decide +kernel
theorem dX6_reads_7 : decode cX6_reads 7 = .ok (.iload_n 2, 1) := by decide +kernel
theorem dX6_reads_8 : decode cX6_reads 8 = .ok (.invokestatic 124, 3) := by decide +kernel
theorem dX6_reads_11 : decode cX6_reads 11 = .ok (.ifCond .ne 8, 3) := by decide +kernel
theorem dX6_reads_14 : decode cX6_reads 14 = .ok (.aload_n 0, 1) := by decide +kernel
theorem dX6_reads_15 : decode cX6_reads 15 = .ok (.invokevirtual 111, 3) := by decide +kernel
theorem dX6_reads_18 : decode cX6_reads 18 = .ok (.ireturn, 1) := by decide +kernel
theorem dX6_reads_19 : decode cX6_reads 19 = .ok (.bipush 69, 2) := by decide +kernel
theorem dX6_reads_21 : decode cX6_reads 21 = .ok (.bipush 6, 2) := by decide +kernel
theorem dX6_reads_23 : decode cX6_reads 23 = .ok (.iload_n 1, 1) := by decide +kernel
