theorem dX6_reads_24 : decode cX6_reads 24 = .ok (.imul, 1) := by decide +kernel
theorem dX6_reads_25 : decode cX6_reads 25 = .ok (.iadd, 1) := by decide +kernel
theorem dX6_reads_26 : decode cX6_reads 26 = .ok (.iload_n 2, 1) := by decide +kernel
theorem dX6_reads_27 : decode cX6_reads 27 = .ok (.iadd, 1) := by decide +kernel
theorem dX6_reads_28 : decode cX6_reads 28 = .ok (.istore_n 3, 1) := by decide +kernel
theorem dX6_reads_29 : decode cX6_reads 29 = .ok (.aload_n 0, 1) := by decide +kernel
theorem dX6_reads_30 : decode cX6_reads 30 = .ok (.iload_n 2, 1) := by decide +kernel
theorem dX6_reads_31 : decode cX6_reads 31 = .ok (.aload_n 0, 1) := by decide +kernel
theorem dX6_reads_32 : decode cX6_reads 32 = .ok (.getfield 7, 3) := by decide +kernel
theorem dX6_reads_35 : decode cX6_reads 35 = .ok (.iload_n 3, 1) := by decide +kernel
theorem dX6_reads_36 : decode cX6_reads 36 = .ok (.iaload, 1) := by decide +kernel
theorem dX6_reads_37 : decode cX6_reads 37 = .ok (.invokevirtual 177, 3) := by decide +kernel
theorem dX6_reads_40 : decode cX6_reads 40 = .ok (.istore 4, 2) := by decide +kernel
theorem dX6_reads_42 : decode cX6_reads 42 = .ok (.iload 4, 2) := by decide +kernel
theorem dX6_reads_44 : decode cX6_reads 44 = .ok (.iconst (-1), 1) := by decide +kernel
theorem dX6_reads_45 : decode cX6_reads 45 = .ok (.if_icmp .ne 5, 3) := by decide +kernel
theorem dX6_reads_48 : decode cX6_reads 48 = .ok (.iconst (-1), 1) := by decide +kernel
theorem dX6_reads_49 : decode cX6_reads 49 = .ok (.ireturn, 1) := by decide +kernel
theorem dX6_reads_50 : decode cX6_reads 50 = .ok (.aload_n 0, 1) := by decide +kernel
theorem dX6_reads_51 : decode cX6_reads 51 = .ok (.invokevirtual 115, 3) := by decide +kernel
theorem dX6_reads_54 : decode cX6_reads 54 = .ok (.aload_n 0, 1) := by decide +kernel
theorem dX6_reads_55 : decode cX6_reads 55 = .ok (.getfield 7, 3) := by decide +kernel
theorem dX6_reads_58 : decode cX6_reads 58 = .ok (.iload_n 3, 1) := by decide +kernel
theorem dX6_reads_59 : decode cX6_reads 59 = .ok (.iload 4, 2) := by decide +kernel
theorem dX6_reads_61 : decode cX6_reads 61 = .ok (.iconst 1, 1) := by decide +kernel
theorem dX6_reads_62 : decode cX6_reads 62 = .ok (.iadd, 1) := by decide +kernel
theorem dX6_reads_63 : decode cX6_reads 63 = .ok (.iastore, 1) := by decide +kernel
theorem dX6_reads_64 : decode cX6_reads 64 = .ok (.aload_n 0, 1) := by decide +kernel
theorem dX6_reads_65 : decode cX6_reads 65 = .ok (.iload_n 2, 1) := by decide +kernel
theorem dX6_reads_66 : decode cX6_reads 66 = .ok (.iload 4, 2) := by decide +kernel
theorem dX6_reads_68 : decode cX6_reads 68 = .ok (.iconst 4, 1) := by decide +kernel
theorem dX6_reads_69 : decode cX6_reads 69 = .ok (.invokevirtual 73, 3) := by decide +kernel
theorem dX6_reads_72 : decode cX6_reads 72 = .ok (.ireturn, 1) := by decide +kernel
theorem dX6_rewinds_0 : decode cX6_rewinds 0 = .ok (.iload_n 1, 1) := by decide +kernel
theorem dX6_rewinds_1 : decode cX6_rewinds 1 = .ok (.invokestatic 143, 3) := by decide +kernel
theorem dX6_rewinds_4 : decode cX6_rewinds 4 = .ok (.ifCond .ne 8, 3) := by decide +kernel
theorem dX6_rewinds_7 : decode cX6_rewinds 7 = .ok (.aload_n 0, 1) := by decide +kernel
theorem dX6_rewinds_8 : decode cX6_rewinds 8 = .ok (.invokevirtual 111, 3) := by decide +kernel
theorem dX6_rewinds_11 : decode cX6_rewinds 11 = .ok (.ireturn, 1) := by decide +kernel
theorem dX6_rewinds_12 : decode cX6_rewinds 12 = .ok (.aload_n 0, 1) := by decide +kernel
theorem dX6_rewinds_13 : decode cX6_rewinds 13 = .ok (.invokevirtual 115, 3) := by decide +kernel
theorem dX6_rewinds_16 : decode cX6_rewinds 16 = .ok (.iconst 0, 1) := by decide +kernel
theorem dX6_rewinds_17 : decode cX6_rewinds 17 = .ok (.istore_n 2, 1) := by decide +kernel
theorem dX6_rewinds_18 : decode cX6_rewinds 18 = .ok (.iconst 0, 1) := by decide +kernel
theorem dX6_rewinds_19 : decode cX6_rewinds 19 = .ok (.istore_n 3, 1) := by decide +kernel
theorem dX6_rewinds_20 : decode cX6_rewinds 20 = .ok (.iload_n 3, 1) := by decide +kernel
theorem dX6_rewinds_21 : decode cX6_rewinds 21 = .ok (.iconst 3, 1) := by decide +kernel
theorem dX6_rewinds_22 : decode cX6_rewinds 22 = .ok (.if_icmp .ge 63, 3) := by decide +kernel
theorem dX6_rewinds_25 : decode cX6_rewinds 25 = .ok (.bipush 69, 2) := by decide +kernel
theorem dX6_rewinds_27 : decode cX6_rewinds 27 = .ok (.bipush 6, 2) := by decide +kernel
theorem dX6_rewinds_29 : decode cX6_rewinds 29 = .ok (.iload_n 1, 1) := by decide +kernel
theorem dX6_rewinds_30 : decode cX6_rewinds 30 = .ok (.imul, 1) := by decide +kernel
theorem dX6_rewinds_31 : decode cX6_rewinds 31 = .ok (.iadd, 1) := by decide +kernel
theorem dX6_rewinds_32 : decode cX6_rewinds 32 = .ok (.iload_n 3, 1) := by decide +kernel
theorem dX6_rewinds_33 : decode cX6_rewinds 33 = .ok (.iadd, 1) := by decide +kernel
theorem dX6_rewinds_34 : decode cX6_rewinds 34 = .ok (.istore 4, 2) := by decide +kernel
theorem dX6_rewinds_36 : decode cX6_rewinds 36 = .ok (.iload_n 2, 1) := by decide +kernel
theorem dX6_rewinds_37 : decode cX6_rewinds 37 = .ok (.aload_n 0, 1) := by decide +kernel
theorem dX6_rewinds_38 : decode cX6_rewinds 38 = .ok (.getfield 7, 3) := by decide +kernel
theorem dX6_rewinds_41 : decode cX6_rewinds 41 = .ok (.iload 4, 2) := by decide +kernel
theorem dX6_rewinds_43 : decode cX6_rewinds 43 = .ok (.iaload, 1) := by decide +kernel
theorem dX6_rewinds_44 : decode cX6_rewinds 44 = .ok (.aload_n 0, 1) := by decide +kernel
theorem dX6_rewinds_45 : decode cX6_rewinds 45 = .ok (.getfield 7, 3) := by decide +kernel
theorem dX6_rewinds_48 : decode cX6_rewinds 48 = .ok (.iload 4, 2) := by decide +kernel
theorem dX6_rewinds_50 : decode cX6_rewinds 50 = .ok (.iconst 3, 1) := by decide +kernel
theorem dX6_rewinds_51 : decode cX6_rewinds 51 = .ok (.iadd, 1) := by decide +kernel
theorem dX6_rewinds_52 : decode cX6_rewinds 52 = .ok (.iaload, 1) := by decide +kernel
theorem dX6_rewinds_53 : decode cX6_rewinds 53 = .ok (.if_icmp .ne 7, 3) := by decide +kernel
theorem dX6_rewinds_56 : decode cX6_rewinds 56 = .ok (.iconst 0, 1) := by decide +kernel
theorem dX6_rewinds_57 : decode cX6_rewinds 57 = .ok (.goto 4, 3) := by decide +kernel
theorem dX6_rewinds_60 : decode cX6_rewinds 60 = .ok (.iconst 1, 1) := by decide +kernel
theorem dX6_rewinds_61 : decode cX6_rewinds 61 = .ok (.iadd, 1) := by decide +kernel
theorem dX6_rewinds_62 : decode cX6_rewinds 62 = .ok (.istore_n 2, 1) := by decide +kernel
theorem dX6_rewinds_63 : decode cX6_rewinds 63 = .ok (.aload_n 0, 1) := by decide +kernel
theorem dX6_rewinds_64 : decode cX6_rewinds 64 = .ok (.getfield 7, 3) := by decide +kernel
theorem dX6_rewinds_67 : decode cX6_rewinds 67 = .ok (.iload 4, 2) := by decide +kernel
theorem dX6_rewinds_69 : decode cX6_rewinds 69 = .ok (.aload_n 0, 1) := by decide +kernel
theorem dX6_rewinds_70 : decode cX6_rewinds 70 = .ok (.getfield 7, 3) := by decide +kernel
theorem dX6_rewinds_73 : decode cX6_rewinds 73 = .ok (.iload 4, 2) := by decide +kernel
theorem dX6_rewinds_75 : decode cX6_rewinds 75 = .ok (.iconst 3, 1) := by decide +kernel
theorem dX6_rewinds_76 : decode cX6_rewinds 76 = .ok (.iadd, 1) := by decide +kernel
theorem dX6_rewinds_77 : decode cX6_rewinds 77 = .ok (.iaload, 1) := by decide +kernel
theorem dX6_rewinds_78 : decode cX6_rewinds 78 = .ok (.iastore, 1) := by decide +kernel
theorem dX6_rewinds_79 : decode cX6_rewinds 79 = .ok (.iinc 3 1, 3) := by decide +kernel
theorem dX6_rewinds_82 : decode cX6_rewinds 82 = .ok (.goto (-62), 3) := by decide +kernel
theorem dX6_rewinds_85 : decode cX6_rewinds 85 = .ok (.iload_n 2, 1) := by decide +kernel
theorem dX6_rewinds_86 : decode cX6_rewinds 86 = .ok (.ireturn, 1) := by decide +kernel
theorem dX6_tellReader_0 : decode cX6_tellReader 0 = .ok (.bipush 69, 2) := by decide +kernel
theorem dX6_tellReader_2 : decode cX6_tellReader 2 = .ok (.bipush 6, 2) := by decide +kernel
theorem dX6_tellReader_4 : decode cX6_tellReader 4 = .ok (.iload_n 1, 1) := by decide +kernel
theorem dX6_tellReader_5 : decode cX6_tellReader 5 = .ok (.imul, 1) := by decide +kernel
theorem dX6_tellReader_6 : decode cX6_tellReader 6 = .ok (.iadd, 1) := by decide +kernel
theorem dX6_tellReader_7 : decode cX6_tellReader 7 = .ok (.iload_n 2, 1) := by decide +kernel
theorem dX6_tellReader_8 : decode cX6_tellReader 8 = .ok (.iadd, 1) := by decide +kernel
theorem dX6_tellReader_9 : decode cX6_tellReader 9 = .ok (.istore 4, 2) := by decide +kernel
theorem dX6_tellReader_11 : decode cX6_tellReader 11 = .ok (.iload_n 3, 1) := by decide +kernel
theorem dX6_tellReader_12 : decode cX6_tellReader 12 = .ok (.ifCond .ne 13, 3) := by decide +kernel
theorem dX6_tellReader_15 : decode cX6_tellReader 15 = .ok (.aload_n 0, 1) := by decide +kernel
theorem dX6_tellReader_16 : decode cX6_tellReader 16 = .ok (.getfield 7, 3) := by decide +kernel
theorem dX6_tellReader_19 : decode cX6_tellReader 19 = .ok (.iload 4, 2) := by decide +kernel
theorem dX6_tellReader_21 : decode cX6_tellReader 21 = .ok (.iaload, 1) := by decide +kernel
theorem dX6_tellReader_22 : decode cX6_tellReader 22 = .ok (.goto 52, 3) := by decide +kernel
theorem dX6_tellReader_25 : decode cX6_tellReader 25 = .ok (.iload_n 3, 1) := by decide +kernel
theorem dX6_tellReader_26 : decode cX6_tellReader 26 = .ok (.iconst 1, 1) := by decide +kernel
theorem dX6_tellReader_27 : decode cX6_tellReader 27 = .ok (.if_icmp .ne 15, 3) := by decide +kernel
theorem dX6_tellReader_30 : decode cX6_tellReader 30 = .ok (.aload_n 0, 1) := by decide +kernel
theorem dX6_tellReader_31 : decode cX6_tellReader 31 = .ok (.getfield 7, 3) := by decide +kernel
theorem dX6_tellReader_34 : decode cX6_tellReader 34 = .ok (.iload 4, 2) := by decide +kernel
theorem dX6_tellReader_36 : decode cX6_tellReader 36 = .ok (.iconst 3, 1) := by decide +kernel
theorem dX6_tellReader_37 : decode cX6_tellReader 37 = .ok (.iadd, 1) := by decide +kernel
theorem dX6_tellReader_38 : decode cX6_tellReader 38 = .ok (.iaload, 1) := by decide +kernel
theorem dX6_tellReader_39 : decode cX6_tellReader 39 = .ok (.goto 35, 3) := by decide +kernel
theorem dX6_tellReader_42 : decode cX6_tellReader 42 = .ok (.iload_n 3, 1) := by decide +kernel
theorem dX6_tellReader_43 : decode cX6_tellReader 43 = .ok (.iconst 2, 1) := by decide +kernel
theorem dX6_tellReader_44 : decode cX6_tellReader 44 = .ok (.if_icmp .ne 18, 3) := by decide +kernel
theorem dX6_tellReader_47 : decode cX6_tellReader 47 = .ok (.aload_n 0, 1) := by decide +kernel
theorem dX6_tellReader_48 : decode cX6_tellReader 48 = .ok (.iload_n 2, 1) := by decide +kernel
theorem dX6_tellReader_49 : decode cX6_tellReader 49 = .ok (.aload_n 0, 1) := by decide +kernel
theorem dX6_tellReader_50 : decode cX6_tellReader 50 = .ok (.getfield 7, 3) := by decide +kernel
theorem dX6_tellReader_53 : decode cX6_tellReader 53 = .ok (.iload 4, 2) := by decide +kernel
theorem dX6_tellReader_55 : decode cX6_tellReader 55 = .ok (.iaload, 1) := by decide +kernel
theorem dX6_tellReader_56 : decode cX6_tellReader 56 = .ok (.invokevirtual 161, 3) := by decide +kernel
theorem dX6_tellReader_59 : decode cX6_tellReader 59 = .ok (.goto 15, 3) := by decide +kernel
theorem dX6_tellReader_62 : decode cX6_tellReader 62 = .ok (.aload_n 0, 1) := by decide +kernel
theorem dX6_tellReader_63 : decode cX6_tellReader 63 = .ok (.iload_n 2, 1) := by decide +kernel
theorem dX6_tellReader_64 : decode cX6_tellReader 64 = .ok (.aload_n 0, 1) := by decide +kernel
theorem dX6_tellReader_65 : decode cX6_tellReader 65 = .ok (.getfield 7, 3) := by decide +kernel
theorem dX6_tellReader_68 : decode cX6_tellReader 68 = .ok (.iload 4, 2) := by decide +kernel
theorem dX6_tellReader_70 : decode cX6_tellReader 70 = .ok (.iaload, 1) := by decide +kernel
theorem dX6_tellReader_71 : decode cX6_tellReader 71 = .ok (.invokevirtual 177, 3) := by decide +kernel
theorem dX6_tellReader_74 : decode cX6_tellReader 74 = .ok (.ireturn, 1) := by decide +kernel
theorem dX6_reader_0 : decode cX6_reader 0 = .ok (.iload_n 1, 1) := by decide +kernel
theorem dX6_reader_1 : decode cX6_reader 1 = .ok (.invokestatic 143, 3) := by decide +kernel
theorem dX6_reader_4 : decode cX6_reader 4 = .ok (.ifCond .eq 29, 3) := by decide +kernel
theorem dX6_reader_7 : decode cX6_reader 7 = .ok (.iload_n 2, 1) := by decide +kernel
theorem dX6_reader_8 : decode cX6_reader 8 = .ok (.invokestatic 124, 3) := by decide +kernel
theorem dX6_reader_11 : decode cX6_reader 11 = .ok (.ifCond .eq 22, 3) := by decide +kernel
theorem dX6_reader_14 : decode cX6_reader 14 = .ok (.iload_n 3, 1) := by decide +kernel
theorem dX6_reader_15 : decode cX6_reader 15 = .ok (.iconst 0, 1) := by decide +kernel
theorem dX6_reader_16 : decode cX6_reader 16 = .ok (.iconst 3, 1) := by decide +kernel
theorem dX6_reader_17 : decode cX6_reader 17 = .ok (.invokestatic 36, 3) := by decide +kernel
theorem dX6_reader_20 : decode cX6_reader 20 = .ok (.ifCond .eq 13, 3) := by decide +kernel
theorem dX6_reader_23 : decode cX6_reader 23 = .ok (.aload_n 0, 1) := by decide +kernel
theorem dX6_reader_24 : decode cX6_reader 24 = .ok (.iload_n 1, 1) := by decide +kernel
theorem dX6_reader_25 : decode cX6_reader 25 = .ok (.iload_n 2, 1) := by decide +kernel
theorem dX6_reader_26 : decode cX6_reader 26 = .ok (.iload_n 3, 1) := by decide +kernel
theorem dX6_reader_27 : decode cX6_reader 27 = .ok (.invokevirtual 180, 3) := by decide +kernel
theorem dX6_reader_30 : decode cX6_reader 30 = .ok (.goto 7, 3) := by decide +kernel
theorem dX6_reader_33 : decode cX6_reader 33 = .ok (.aload_n 0, 1) := by decide +kernel
theorem dX6_reader_34 : decode cX6_reader 34 = .ok (.invokevirtual 111, 3) := by decide +kernel
theorem dX6_reader_37 : decode cX6_reader 37 = .ok (.ireturn, 1) := by decide +kernel
theorem dX6_type_0 : decode cX6_type 0 = .ok (.iload_n 1, 1) := by decide +kernel
theorem dX6_type_1 : decode cX6_type 1 = .ok (.iconst 0, 1) := by decide +kernel
theorem dX6_type_2 : decode cX6_type 2 = .ok (.bipush 127, 2) := by decide +kernel
theorem dX6_type_4 : decode cX6_type 4 = .ok (.invokestatic 36, 3) := by decide +kernel
theorem dX6_type_7 : decode cX6_type 7 = .ok (.ifCond .ne 8, 3) := by decide +kernel
theorem dX6_type_10 : decode cX6_type 10 = .ok (.aload_n 0, 1) := by decide +kernel
theorem dX6_type_11 : decode cX6_type 11 = .ok (.invokevirtual 111, 3) := by decide +kernel
theorem dX6_type_14 : decode cX6_type 14 = .ok (.ireturn, 1) := by decide +kernel
theorem dX6_type_15 : decode cX6_type 15 = .ok (.aload_n 0, 1) := by decide +kernel
theorem dX6_type_16 : decode cX6_type 16 = .ok (.getfield 183, 3) := by decide +kernel
theorem dX6_type_19 : decode cX6_type 19 = .ok (.bipush 120, 2) := by decide +kernel
theorem dX6_type_21 : decode cX6_type 21 = .ok (.if_icmp .ne 11, 3) := by decide +kernel
theorem dX6_type_24 : decode cX6_type 24 = .ok (.aload_n 0, 1) := by decide +kernel
theorem dX6_type_25 : decode cX6_type 25 = .ok (.iconst 4, 1) := by decide +kernel
theorem dX6_type_26 : decode cX6_type 26 = .ok (.bipush (-4), 2) := by decide +kernel
theorem dX6_type_28 : decode cX6_type 28 = .ok (.invokevirtual 32, 3) := by decide +kernel
theorem dX6_type_31 : decode cX6_type 31 = .ok (.ireturn, 1) := by decide +kernel
theorem dX6_type_32 : decode cX6_type 32 = .ok (.aload_n 0, 1) := by decide +kernel
theorem dX6_type_33 : decode cX6_type 33 = .ok (.getfield 19, 3) := by decide +kernel
theorem dX6_type_36 : decode cX6_type 36 = .ok (.aload_n 0, 1) := by decide +kernel
theorem dX6_type_37 : decode cX6_type 37 = .ok (.getfield 183, 3) := by decide +kernel
theorem dX6_type_40 : decode cX6_type 40 = .ok (.iload_n 1, 1) := by decide +kernel
theorem dX6_type_41 : decode cX6_type 41 = .ok (.iastore, 1) := by decide +kernel
theorem dX6_type_42 : decode cX6_type 42 = .ok (.aload_n 0, 1) := by decide +kernel
theorem dX6_type_43 : decode cX6_type 43 = .ok (.dup, 1) := by decide +kernel
theorem dX6_type_44 : decode cX6_type 44 = .ok (.getfield 183, 3) := by decide +kernel
theorem dX6_type_47 : decode cX6_type 47 = .ok (.iconst 1, 1) := by decide +kernel
theorem dX6_type_48 : decode cX6_type 48 = .ok (.iadd, 1) := by decide +kernel
theorem dX6_type_49 : decode cX6_type 49 = .ok (.putfield 183, 3) := by decide +kernel
theorem dX6_type_52 : decode cX6_type 52 = .ok (.aload_n 0, 1) := by decide +kernel
theorem dX6_type_53 : decode cX6_type 53 = .ok (.getfield 183, 3) := by decide +kernel
theorem dX6_type_56 : decode cX6_type 56 = .ok (.ireturn, 1) := by decide +kernel
theorem dX6_clear_0 : decode cX6_clear 0 = .ok (.aload_n 0, 1) := by decide +kernel
theorem dX6_clear_1 : decode cX6_clear 1 = .ok (.getfield 183, 3) := by decide +kernel
theorem dX6_clear_4 : decode cX6_clear 4 = .ok (.istore_n 1, 1) := by decide +kernel
theorem dX6_clear_5 : decode cX6_clear 5 = .ok (.aload_n 0, 1) := by decide +kernel
theorem dX6_clear_6 : decode cX6_clear 6 = .ok (.iconst 0, 1) := by decide +kernel
theorem dX6_clear_7 : decode cX6_clear 7 = .ok (.putfield 183, 3) := by decide +kernel
theorem dX6_clear_10 : decode cX6_clear 10 = .ok (.iload_n 1, 1) := by decide +kernel
theorem dX6_clear_11 : decode cX6_clear 11 = .ok (.ireturn, 1) := by decide +kernel
theorem dX6_here_0 : decode cX6_here 0 = .ok (.aload_n 0, 1) := by decide +kernel
theorem dX6_here_1 : decode cX6_here 1 = .ok (.getfield 186, 3) := by decide +kernel
theorem dX6_here_4 : decode cX6_here 4 = .ok (.aload_n 0, 1) := by decide +kernel
theorem dX6_here_5 : decode cX6_here 5 = .ok (.getfield 183, 3) := by decide +kernel
theorem dX6_here_8 : decode cX6_here 8 = .ok (.if_icmp .ge 15, 3) := by decide +kernel
theorem dX6_here_11 : decode cX6_here 11 = .ok (.aload_n 0, 1) := by decide +kernel
theorem dX6_here_12 : decode cX6_here 12 = .ok (.getfield 19, 3) := by decide +kernel
theorem dX6_here_15 : decode cX6_here 15 = .ok (.aload_n 0, 1) := by decide +kernel
theorem dX6_here_16 : decode cX6_here 16 = .ok (.getfield 186, 3) := by decide +kernel
theorem dX6_here_19 : decode cX6_here 19 = .ok (.iaload, 1) := by decide +kernel
theorem dX6_here_20 : decode cX6_here 20 = .ok (.goto 4, 3) := by decide +kernel
theorem dX6_here_23 : decode cX6_here 23 = .ok (.iconst (-1), 1) := by decide +kernel
theorem dX6_here_24 : decode cX6_here 24 = .ok (.ireturn, 1) := by decide +kernel
theorem dX6_skips_0 : decode cX6_skips 0 = .ok (.aload_n 0, 1) := by decide +kernel
theorem dX6_skips_1 : decode cX6_skips 1 = .ok (.invokevirtual 189, 3) := by decide +kernel
theorem dX6_skips_4 : decode cX6_skips 4 = .ok (.bipush 32, 2) := by decide +kernel
theorem dX6_skips_6 : decode cX6_skips 6 = .ok (.if_icmp .ne 16, 3) := by decide +kernel
theorem dX6_skips_9 : decode cX6_skips 9 = .ok (.aload_n 0, 1) := by decide +kernel
theorem dX6_skips_10 : decode cX6_skips 10 = .ok (.dup, 1) := by decide +kernel
theorem dX6_skips_11 : decode cX6_skips 11 = .ok (.getfield 186, 3) := by decide +kernel
theorem dX6_skips_14 : decode cX6_skips 14 = .ok (.iconst 1, 1) := by decide +kernel
theorem dX6_skips_15 : decode cX6_skips 15 = .ok (.iadd, 1) := by decide +kernel
theorem dX6_skips_16 : decode cX6_skips 16 = .ok (.putfield 186, 3) := by decide +kernel
theorem dX6_skips_19 : decode cX6_skips 19 = .ok (.goto (-19), 3) := by decide +kernel
theorem dX6_skips_22 : decode cX6_skips 22 = .ok (.return_, 1) := by decide +kernel
theorem dX6_isFigure_0 : decode cX6_isFigure 0 = .ok (.aload_n 0, 1) := by decide +kernel
theorem dX6_isFigure_1 : decode cX6_isFigure 1 = .ok (.invokevirtual 189, 3) := by decide +kernel
theorem dX6_isFigure_4 : decode cX6_isFigure 4 = .ok (.bipush 48, 2) := by decide +kernel
theorem dX6_isFigure_6 : decode cX6_isFigure 6 = .ok (.bipush 57, 2) := by decide +kernel
theorem dX6_isFigure_8 : decode cX6_isFigure 8 = .ok (.invokestatic 36, 3) := by decide +kernel
theorem dX6_isFigure_11 : decode cX6_isFigure 11 = .ok (.ireturn, 1) := by decide +kernel
theorem dX6_stopsHere_0 : decode cX6_stopsHere 0 = .ok (.aload_n 0, 1) := by decide +kernel
theorem dX6_stopsHere_1 : decode cX6_stopsHere 1 = .ok (.aload_n 0, 1) := by decide +kernel
theorem dX6_stopsHere_2 : decode cX6_stopsHere 2 = .ok (.getfield 186, 3) := by decide +kernel
theorem dX6_stopsHere_5 : decode cX6_stopsHere 5 = .ok (.putfield 192, 3) := by decide +kernel
theorem dX6_stopsHere_8 : decode cX6_stopsHere 8 = .ok (.iconst 0, 1) := by decide +kernel
theorem dX6_stopsHere_9 : decode cX6_stopsHere 9 = .ok (.ireturn, 1) := by decide +kernel
theorem dX6_numbersOf_0 : decode cX6_numbersOf 0 = .ok (.iload_n 0, 1) := by decide +kernel
theorem dX6_numbersOf_1 : decode cX6_numbersOf 1 = .ok (.tableswitch 101 98 116 #[91, 97, 101, 95, 101, 101, 101, 101, 101, 101, 101, 101, 101, 93, 101, 101, 93, 99, 91], 91) := by decide +kernel
theorem dX6_numbersOf_92 : decode cX6_numbersOf 92 = .ok (.iconst 1, 1) := by decide +kernel
theorem dX6_numbersOf_93 : decode cX6_numbersOf 93 = .ok (.ireturn, 1) := by decide +kernel
theorem dX6_numbersOf_94 : decode cX6_numbersOf 94 = .ok (.iconst 2, 1) := by decide +kernel
theorem dX6_numbersOf_95 : decode cX6_numbersOf 95 = .ok (.ireturn, 1) := by decide +kernel
theorem dX6_numbersOf_96 : decode cX6_numbersOf 96 = .ok (.iconst 3, 1) := by decide +kernel
theorem dX6_numbersOf_97 : decode cX6_numbersOf 97 = .ok (.ireturn, 1) := by decide +kernel
theorem dX6_numbersOf_98 : decode cX6_numbersOf 98 = .ok (.iconst 4, 1) := by decide +kernel
theorem dX6_numbersOf_99 : decode cX6_numbersOf 99 = .ok (.ireturn, 1) := by decide +kernel
theorem dX6_numbersOf_100 : decode cX6_numbersOf 100 = .ok (.iconst 5, 1) := by decide +kernel
theorem dX6_numbersOf_101 : decode cX6_numbersOf 101 = .ok (.ireturn, 1) := by decide +kernel
theorem dX6_numbersOf_102 : decode cX6_numbersOf 102 = .ok (.iconst (-1), 1) := by decide +kernel
theorem dX6_numbersOf_103 : decode cX6_numbersOf 103 = .ok (.ireturn, 1) := by decide +kernel
theorem dX6_number_0 : decode cX6_number 0 = .ok (.aload_n 0, 1) := by decide +kernel
theorem dX6_number_1 : decode cX6_number 1 = .ok (.invokevirtual 195, 3) := by decide +kernel
theorem dX6_number_4 : decode cX6_number 4 = .ok (.aload_n 0, 1) := by decide +kernel
theorem dX6_number_5 : decode cX6_number 5 = .ok (.invokevirtual 198, 3) := by decide +kernel
theorem dX6_number_8 : decode cX6_number 8 = .ok (.ifCond .ne 8, 3) := by decide +kernel
theorem dX6_number_11 : decode cX6_number 11 = .ok (.aload_n 0, 1) := by decide +kernel
theorem dX6_number_12 : decode cX6_number 12 = .ok (.invokevirtual 202, 3) := by decide +kernel
theorem dX6_number_15 : decode cX6_number 15 = .ok (.ireturn, 1) := by decide +kernel
theorem dX6_number_16 : decode cX6_number 16 = .ok (.aload_n 0, 1) := by decide +kernel
theorem dX6_number_17 : decode cX6_number 17 = .ok (.invokevirtual 189, 3) := by decide +kernel
theorem dX6_number_20 : decode cX6_number 20 = .ok (.bipush 48, 2) := by decide +kernel
theorem dX6_number_22 : decode cX6_number 22 = .ok (.isub, 1) := by decide +kernel
theorem dX6_number_23 : decode cX6_number 23 = .ok (.istore_n 2, 1) := by decide +kernel
theorem dX6_number_24 : decode cX6_number 24 = .ok (.aload_n 0, 1) := by decide +kernel
theorem dX6_number_25 : decode cX6_number 25 = .ok (.dup, 1) := by decide +kernel
theorem dX6_number_26 : decode cX6_number 26 = .ok (.getfield 186, 3) := by decide +kernel
theorem dX6_number_29 : decode cX6_number 29 = .ok (.iconst 1, 1) := by decide +kernel
theorem dX6_number_30 : decode cX6_number 30 = .ok (.iadd, 1) := by decide +kernel
theorem dX6_number_31 : decode cX6_number 31 = .ok (.putfield 186, 3) := by decide +kernel
theorem dX6_number_34 : decode cX6_number 34 = .ok (.aload_n 0, 1) := by decide +kernel
theorem dX6_number_35 : decode cX6_number 35 = .ok (.invokevirtual 198, 3) := by decide +kernel
theorem dX6_number_38 : decode cX6_number 38 = .ok (.ifCond .eq 26, 3) := by decide +kernel
theorem dX6_number_41 : decode cX6_number 41 = .ok (.bipush 10, 2) := by decide +kernel
theorem dX6_number_43 : decode cX6_number 43 = .ok (.iload_n 2, 1) := by decide +kernel
theorem dX6_number_44 : decode cX6_number 44 = .ok (.imul, 1) := by decide +kernel
theorem dX6_number_45 : decode cX6_number 45 = .ok (.aload_n 0, 1) := by decide +kernel
theorem dX6_number_46 : decode cX6_number 46 = .ok (.invokevirtual 189, 3) := by decide +kernel
theorem dX6_number_49 : decode cX6_number 49 = .ok (.iadd, 1) := by decide +kernel
theorem dX6_number_50 : decode cX6_number 50 = .ok (.bipush 48, 2) := by decide +kernel
theorem dX6_number_52 : decode cX6_number 52 = .ok (.isub, 1) := by decide +kernel
theorem dX6_number_53 : decode cX6_number 53 = .ok (.istore_n 2, 1) := by decide +kernel
theorem dX6_number_54 : decode cX6_number 54 = .ok (.aload_n 0, 1) := by decide +kernel
theorem dX6_number_55 : decode cX6_number 55 = .ok (.dup, 1) := by decide +kernel
theorem dX6_number_56 : decode cX6_number 56 = .ok (.getfield 186, 3) := by decide +kernel
theorem dX6_number_59 : decode cX6_number 59 = .ok (.iconst 1, 1) := by decide +kernel
theorem dX6_number_60 : decode cX6_number 60 = .ok (.iadd, 1) := by decide +kernel
theorem dX6_number_61 : decode cX6_number 61 = .ok (.putfield 186, 3) := by decide +kernel
theorem dX6_number_64 : decode cX6_number 64 = .ok (.aload_n 0, 1) := by decide +kernel
theorem dX6_number_65 : decode cX6_number 65 = .ok (.invokevirtual 198, 3) := by decide +kernel
theorem dX6_number_68 : decode cX6_number 68 = .ok (.ifCond .eq 8, 3) := by decide +kernel
theorem dX6_number_71 : decode cX6_number 71 = .ok (.aload_n 0, 1) := by decide +kernel
theorem dX6_number_72 : decode cX6_number 72 = .ok (.invokevirtual 202, 3) := by decide +kernel
theorem dX6_number_75 : decode cX6_number 75 = .ok (.ireturn, 1) := by decide +kernel
theorem dX6_number_76 : decode cX6_number 76 = .ok (.aload_n 0, 1) := by decide +kernel
theorem dX6_number_77 : decode cX6_number 77 = .ok (.getfield 25, 3) := by decide +kernel
theorem dX6_number_80 : decode cX6_number 80 = .ok (.iload_n 1, 1) := by decide +kernel
theorem dX6_number_81 : decode cX6_number 81 = .ok (.iload_n 2, 1) := by decide +kernel
theorem dX6_number_82 : decode cX6_number 82 = .ok (.iastore, 1) := by decide +kernel
theorem dX6_number_83 : decode cX6_number 83 = .ok (.iconst 1, 1) := by decide +kernel
theorem dX6_number_84 : decode cX6_number 84 = .ok (.ireturn, 1) := by decide +kernel
theorem dX6_order_0 : decode cX6_order 0 = .ok (.aload_n 0, 1) := by decide +kernel
theorem dX6_order_1 : decode cX6_order 1 = .ok (.invokevirtual 189, 3) := by decide +kernel
theorem dX6_order_4 : decode cX6_order 4 = .ok (.istore_n 1, 1) := by decide +kernel
theorem dX6_order_5 : decode cX6_order 5 = .ok (.iload_n 1, 1) := by decide +kernel
theorem dX6_order_6 : decode cX6_order 6 = .ok (.invokestatic 205, 3) := by decide +kernel
theorem dX6_order_9 : decode cX6_order 9 = .ok (.istore_n 2, 1) := by decide +kernel
theorem dX6_order_10 : decode cX6_order 10 = .ok (.iload_n 2, 1) := by decide +kernel
theorem dX6_order_11 : decode cX6_order 11 = .ok (.iconst (-1), 1) := by decide +kernel
theorem dX6_order_12 : decode cX6_order 12 = .ok (.if_icmp .ne 8, 3) := by decide +kernel
theorem dX6_order_15 : decode cX6_order 15 = .ok (.aload_n 0, 1) := by decide +kernel
theorem dX6_order_16 : decode cX6_order 16 = .ok (.invokevirtual 202, 3) := by decide +kernel
theorem dX6_order_19 : decode cX6_order 19 = .ok (.ireturn, 1) := by decide +kernel
theorem dX6_order_20 : decode cX6_order 20 = .ok (.aload_n 0, 1) := by decide +kernel
theorem dX6_order_21 : decode cX6_order 21 = .ok (.dup, 1) := by decide +kernel
theorem dX6_order_22 : decode cX6_order 22 = .ok (.getfield 186, 3) := by decide +kernel
theorem dX6_order_25 : decode cX6_order 25 = .ok (.iconst 1, 1) := by decide +kernel
theorem dX6_order_26 : decode cX6_order 26 = .ok (.iadd, 1) := by decide +kernel
theorem dX6_order_27 : decode cX6_order 27 = .ok (.putfield 186, 3) := by decide +kernel
theorem dX6_order_30 : decode cX6_order 30 = .ok (.iconst 0, 1) := by decide +kernel
theorem dX6_order_31 : decode cX6_order 31 = .ok (.istore_n 3, 1) := by decide +kernel
theorem dX6_order_32 : decode cX6_order 32 = .ok (.iload_n 3, 1) := by decide +kernel
theorem dX6_order_33 : decode cX6_order 33 = .ok (.iload_n 2, 1) := by decide +kernel
theorem dX6_order_34 : decode cX6_order 34 = .ok (.if_icmp .ge 26, 3) := by decide +kernel
theorem dX6_order_37 : decode cX6_order 37 = .ok (.aload_n 0, 1) := by decide +kernel
theorem dX6_order_38 : decode cX6_order 38 = .ok (.iconst 5, 1) := by decide +kernel
theorem dX6_order_39 : decode cX6_order 39 = .ok (.aload_n 0, 1) := by decide +kernel
theorem dX6_order_40 : decode cX6_order 40 = .ok (.getfield 208, 3) := by decide +kernel
theorem dX6_order_43 : decode cX6_order 43 = .ok (.imul, 1) := by decide +kernel
theorem dX6_order_44 : decode cX6_order 44 = .ok (.iload_n 3, 1) := by decide +kernel
theorem dX6_order_45 : decode cX6_order 45 = .ok (.iadd, 1) := by decide +kernel
theorem dX6_order_46 : decode cX6_order 46 = .ok (.invokevirtual 211, 3) := by decide +kernel
theorem dX6_order_49 : decode cX6_order 49 = .ok (.ifCond .ne 5, 3) := by decide +kernel
theorem dX6_order_52 : decode cX6_order 52 = .ok (.iconst 0, 1) := by decide +kernel
theorem dX6_order_53 : decode cX6_order 53 = .ok (.ireturn, 1) := by decide +kernel
theorem dX6_order_54 : decode cX6_order 54 = .ok (.iinc 3 1, 3) := by decide +kernel
theorem dX6_order_57 : decode cX6_order 57 = .ok (.goto (-25), 3) := by decide +kernel
theorem dX6_order_60 : decode cX6_order 60 = .ok (.aload_n 0, 1) := by decide +kernel
theorem dX6_order_61 : decode cX6_order 61 = .ok (.invokevirtual 195, 3) := by decide +kernel
theorem dX6_order_64 : decode cX6_order 64 = .ok (.aload_n 0, 1) := by decide +kernel
theorem dX6_order_65 : decode cX6_order 65 = .ok (.invokevirtual 189, 3) := by decide +kernel
theorem dX6_order_68 : decode cX6_order 68 = .ok (.bipush 59, 2) := by decide +kernel
theorem dX6_order_70 : decode cX6_order 70 = .ok (.if_icmp .eq 8, 3) := by decide +kernel
theorem dX6_order_73 : decode cX6_order 73 = .ok (.aload_n 0, 1) := by decide +kernel
theorem dX6_order_74 : decode cX6_order 74 = .ok (.invokevirtual 202, 3) := by decide +kernel
theorem dX6_order_77 : decode cX6_order 77 = .ok (.ireturn, 1) := by decide +kernel
theorem dX6_order_78 : decode cX6_order 78 = .ok (.aload_n 0, 1) := by decide +kernel
theorem dX6_order_79 : decode cX6_order 79 = .ok (.dup, 1) := by decide +kernel
theorem dX6_order_80 : decode cX6_order 80 = .ok (.getfield 186, 3) := by decide +kernel
theorem dX6_order_83 : decode cX6_order 83 = .ok (.iconst 1, 1) := by decide +kernel
theorem dX6_order_84 : decode cX6_order 84 = .ok (.iadd, 1) := by decide +kernel
theorem dX6_order_85 : decode cX6_order 85 = .ok (.putfield 186, 3) := by decide +kernel
theorem dX6_order_88 : decode cX6_order 88 = .ok (.aload_n 0, 1) := by decide +kernel
theorem dX6_order_89 : decode cX6_order 89 = .ok (.getfield 22, 3) := by decide +kernel
theorem dX6_order_92 : decode cX6_order 92 = .ok (.aload_n 0, 1) := by decide +kernel
theorem dX6_order_93 : decode cX6_order 93 = .ok (.getfield 208, 3) := by decide +kernel
theorem dX6_order_96 : decode cX6_order 96 = .ok (.iload_n 1, 1) := by decide +kernel
theorem dX6_order_97 : decode cX6_order 97 = .ok (.iastore, 1) := by decide +kernel
theorem dX6_order_98 : decode cX6_order 98 = .ok (.aload_n 0, 1) := by decide +kernel
theorem dX6_order_99 : decode cX6_order 99 = .ok (.dup, 1) := by decide +kernel
theorem dX6_order_100 : decode cX6_order 100 = .ok (.getfield 208, 3) := by decide +kernel
theorem dX6_order_103 : decode cX6_order 103 = .ok (.iconst 1, 1) := by decide +kernel
theorem dX6_order_104 : decode cX6_order 104 = .ok (.iadd, 1) := by decide +kernel
theorem dX6_order_105 : decode cX6_order 105 = .ok (.putfield 208, 3) := by decide +kernel
theorem dX6_order_108 : decode cX6_order 108 = .ok (.iconst 1, 1) := by decide +kernel
theorem dX6_order_109 : decode cX6_order 109 = .ok (.ireturn, 1) := by decide +kernel
theorem dX6_parses_0 : decode cX6_parses 0 = .ok (.aload_n 0, 1) := by decide +kernel
theorem dX6_parses_1 : decode cX6_parses 1 = .ok (.iconst 0, 1) := by decide +kernel
theorem dX6_parses_2 : decode cX6_parses 2 = .ok (.putfield 186, 3) := by decide +kernel
theorem dX6_parses_5 : decode cX6_parses 5 = .ok (.aload_n 0, 1) := by decide +kernel
theorem dX6_parses_6 : decode cX6_parses 6 = .ok (.iconst 0, 1) := by decide +kernel
theorem dX6_parses_7 : decode cX6_parses 7 = .ok (.putfield 208, 3) := by decide +kernel
theorem dX6_parses_10 : decode cX6_parses 10 = .ok (.iconst 1, 1) := by decide +kernel
theorem dX6_parses_11 : decode cX6_parses 11 = .ok (.istore_n 1, 1) := by decide +kernel
theorem dX6_parses_12 : decode cX6_parses 12 = .ok (.aload_n 0, 1) := by decide +kernel
theorem dX6_parses_13 : decode cX6_parses 13 = .ok (.invokevirtual 195, 3) := by decide +kernel
theorem dX6_parses_16 : decode cX6_parses 16 = .ok (.iload_n 1, 1) := by decide +kernel
theorem dX6_parses_17 : decode cX6_parses 17 = .ok (.ifCond .eq 37, 3) := by decide +kernel
theorem dX6_parses_20 : decode cX6_parses 20 = .ok (.aload_n 0, 1) := by decide +kernel
theorem dX6_parses_21 : decode cX6_parses 21 = .ok (.getfield 208, 3) := by decide +kernel
theorem dX6_parses_24 : decode cX6_parses 24 = .ok (.ifCond .eq 14, 3) := by decide +kernel
theorem dX6_parses_27 : decode cX6_parses 27 = .ok (.aload_n 0, 1) := by decide +kernel
theorem dX6_parses_28 : decode cX6_parses 28 = .ok (.getfield 186, 3) := by decide +kernel
theorem dX6_parses_31 : decode cX6_parses 31 = .ok (.aload_n 0, 1) := by decide +kernel
theorem dX6_parses_32 : decode cX6_parses 32 = .ok (.getfield 183, 3) := by decide +kernel
theorem dX6_parses_35 : decode cX6_parses 35 = .ok (.if_icmp .ge 19, 3) := by decide +kernel
theorem dX6_parses_38 : decode cX6_parses 38 = .ok (.aload_n 0, 1) := by decide +kernel
theorem dX6_parses_39 : decode cX6_parses 39 = .ok (.invokevirtual 214, 3) := by decide +kernel
theorem dX6_parses_42 : decode cX6_parses 42 = .ok (.istore_n 1, 1) := by decide +kernel
theorem dX6_parses_43 : decode cX6_parses 43 = .ok (.iload_n 1, 1) := by decide +kernel
theorem dX6_parses_44 : decode cX6_parses 44 = .ok (.ifCond .eq (-28), 3) := by decide +kernel
theorem dX6_parses_47 : decode cX6_parses 47 = .ok (.aload_n 0, 1) := by decide +kernel
theorem dX6_parses_48 : decode cX6_parses 48 = .ok (.invokevirtual 195, 3) := by decide +kernel
theorem dX6_parses_51 : decode cX6_parses 51 = .ok (.goto (-35), 3) := by decide +kernel
theorem dX6_parses_54 : decode cX6_parses 54 = .ok (.iload_n 1, 1) := by decide +kernel
theorem dX6_parses_55 : decode cX6_parses 55 = .ok (.ireturn, 1) := by decide +kernel
theorem dX6_answers_0 : decode cX6_answers 0 = .ok (.iconst 5, 1) := by decide +kernel
theorem dX6_answers_1 : decode cX6_answers 1 = .ok (.iload_n 1, 1) := by decide +kernel
theorem dX6_answers_2 : decode cX6_answers 2 = .ok (.imul, 1) := by decide +kernel
theorem dX6_answers_3 : decode cX6_answers 3 = .ok (.istore_n 2, 1) := by decide +kernel
theorem dX6_answers_4 : decode cX6_answers 4 = .ok (.aload_n 0, 1) := by decide +kernel
theorem dX6_answers_5 : decode cX6_answers 5 = .ok (.getfield 25, 3) := by decide +kernel
theorem dX6_answers_8 : decode cX6_answers 8 = .ok (.iload_n 2, 1) := by decide +kernel
theorem dX6_answers_9 : decode cX6_answers 9 = .ok (.iaload, 1) := by decide +kernel
theorem dX6_answers_10 : decode cX6_answers 10 = .ok (.istore_n 3, 1) := by decide +kernel
theorem dX6_answers_11 : decode cX6_answers 11 = .ok (.aload_n 0, 1) := by decide +kernel
theorem dX6_answers_12 : decode cX6_answers 12 = .ok (.getfield 25, 3) := by decide +kernel
theorem dX6_answers_15 : decode cX6_answers 15 = .ok (.iload_n 2, 1) := by decide +kernel
theorem dX6_answers_16 : decode cX6_answers 16 = .ok (.iconst 1, 1) := by decide +kernel
theorem dX6_answers_17 : decode cX6_answers 17 = .ok (.iadd, 1) := by decide +kernel
theorem dX6_answers_18 : decode cX6_answers 18 = .ok (.iaload, 1) := by decide +kernel
theorem dX6_answers_19 : decode cX6_answers 19 = .ok (.istore 4, 2) := by decide +kernel
theorem dX6_answers_21 : decode cX6_answers 21 = .ok (.aload_n 0, 1) := by decide +kernel
theorem dX6_answers_22 : decode cX6_answers 22 = .ok (.getfield 25, 3) := by decide +kernel
theorem dX6_answers_25 : decode cX6_answers 25 = .ok (.iload_n 2, 1) := by decide +kernel
theorem dX6_answers_26 : decode cX6_answers 26 = .ok (.iconst 2, 1) := by decide +kernel
theorem dX6_answers_27 : decode cX6_answers 27 = .ok (.iadd, 1) := by decide +kernel
theorem dX6_answers_28 : decode cX6_answers 28 = .ok (.iaload, 1) := by decide +kernel
theorem dX6_answers_29 : decode cX6_answers 29 = .ok (.istore 5, 2) := by decide +kernel
theorem dX6_answers_31 : decode cX6_answers 31 = .ok (.aload_n 0, 1) := by decide +kernel
theorem dX6_answers_32 : decode cX6_answers 32 = .ok (.getfield 25, 3) := by decide +kernel
theorem dX6_answers_35 : decode cX6_answers 35 = .ok (.iload_n 2, 1) := by decide +kernel
theorem dX6_answers_36 : decode cX6_answers 36 = .ok (.iconst 3, 1) := by decide +kernel
theorem dX6_answers_37 : decode cX6_answers 37 = .ok (.iadd, 1) := by decide +kernel
theorem dX6_answers_38 : decode cX6_answers 38 = .ok (.iaload, 1) := by decide +kernel
theorem dX6_answers_39 : decode cX6_answers 39 = .ok (.istore 6, 2) := by decide +kernel
theorem dX6_answers_41 : decode cX6_answers 41 = .ok (.aload_n 0, 1) := by decide +kernel
theorem dX6_answers_42 : decode cX6_answers 42 = .ok (.getfield 22, 3) := by decide +kernel
theorem dX6_answers_45 : decode cX6_answers 45 = .ok (.iload_n 1, 1) := by decide +kernel
theorem dX6_answers_46 : decode cX6_answers 46 = .ok (.iaload, 1) := by decide +kernel
theorem dX6_answers_47 : decode cX6_answers 47 = .ok (.tableswitch 147 98 116 #[89, 147, 147, 123, 147, 147, 147, 147, 147, 147, 147, 147, 147, 95, 147, 147, 139, 103, 133], 89) := by decide +kernel
theorem dX6_answers_136 : decode cX6_answers 136 = .ok (.aload_n 0, 1) := by decide +kernel
theorem dX6_answers_137 : decode cX6_answers 137 = .ok (.iload_n 3, 1) := by decide +kernel
theorem dX6_answers_138 : decode cX6_answers 138 = .ok (.invokevirtual 217, 3) := by decide +kernel
theorem dX6_answers_141 : decode cX6_answers 141 = .ok (.ireturn, 1) := by decide +kernel
theorem dX6_answers_142 : decode cX6_answers 142 = .ok (.aload_n 0, 1) := by decide +kernel
theorem dX6_answers_143 : decode cX6_answers 143 = .ok (.iload_n 3, 1) := by decide +kernel
theorem dX6_answers_144 : decode cX6_answers 144 = .ok (.iload 4, 2) := by decide +kernel
theorem dX6_answers_146 : decode cX6_answers 146 = .ok (.invokevirtual 220, 3) := by decide +kernel
theorem dX6_answers_149 : decode cX6_answers 149 = .ok (.ireturn, 1) := by decide +kernel
theorem dX6_answers_150 : decode cX6_answers 150 = .ok (.aload_n 0, 1) := by decide +kernel
theorem dX6_answers_151 : decode cX6_answers 151 = .ok (.iload_n 3, 1) := by decide +kernel
theorem dX6_answers_152 : decode cX6_answers 152 = .ok (.iload 4, 2) := by decide +kernel
theorem dX6_answers_154 : decode cX6_answers 154 = .ok (.iload 5, 2) := by decide +kernel
theorem dX6_answers_156 : decode cX6_answers 156 = .ok (.iload 6, 2) := by decide +kernel
theorem dX6_answers_158 : decode cX6_answers 158 = .ok (.aload_n 0, 1) := by decide +kernel
theorem dX6_answers_159 : decode cX6_answers 159 = .ok (.getfield 25, 3) := by decide +kernel
theorem dX6_answers_162 : decode cX6_answers 162 = .ok (.iload_n 2, 1) := by decide +kernel
theorem dX6_answers_163 : decode cX6_answers 163 = .ok (.iconst 4, 1) := by decide +kernel
theorem dX6_answers_164 : decode cX6_answers 164 = .ok (.iadd, 1) := by decide +kernel
theorem dX6_answers_165 : decode cX6_answers 165 = .ok (.iaload, 1) := by decide +kernel
theorem dX6_answers_166 : decode cX6_answers 166 = .ok (.invokevirtual 223, 3) := by decide +kernel
theorem dX6_answers_169 : decode cX6_answers 169 = .ok (.ireturn, 1) := by decide +kernel
theorem dX6_answers_170 : decode cX6_answers 170 = .ok (.aload_n 0, 1) := by decide +kernel
theorem dX6_answers_171 : decode cX6_answers 171 = .ok (.iload_n 3, 1) := by decide +kernel
theorem dX6_answers_172 : decode cX6_answers 172 = .ok (.iload 4, 2) := by decide +kernel
theorem dX6_answers_174 : decode cX6_answers 174 = .ok (.iload 5, 2) := by decide +kernel
theorem dX6_answers_176 : decode cX6_answers 176 = .ok (.invokevirtual 227, 3) := by decide +kernel
theorem dX6_answers_179 : decode cX6_answers 179 = .ok (.ireturn, 1) := by decide +kernel
theorem dX6_answers_180 : decode cX6_answers 180 = .ok (.aload_n 0, 1) := by decide +kernel
theorem dX6_answers_181 : decode cX6_answers 181 = .ok (.iload_n 3, 1) := by decide +kernel
theorem dX6_answers_182 : decode cX6_answers 182 = .ok (.invokevirtual 230, 3) := by decide +kernel
theorem dX6_answers_185 : decode cX6_answers 185 = .ok (.ireturn, 1) := by decide +kernel
theorem dX6_answers_186 : decode cX6_answers 186 = .ok (.aload_n 0, 1) := by decide +kernel
theorem dX6_answers_187 : decode cX6_answers 187 = .ok (.iload_n 3, 1) := by decide +kernel
theorem dX6_answers_188 : decode cX6_answers 188 = .ok (.iload 4, 2) := by decide +kernel
theorem dX6_answers_190 : decode cX6_answers 190 = .ok (.invokevirtual 233, 3) := by decide +kernel
theorem dX6_answers_193 : decode cX6_answers 193 = .ok (.ireturn, 1) := by decide +kernel
theorem dX6_answers_194 : decode cX6_answers 194 = .ok (.aload_n 0, 1) := by decide +kernel
theorem dX6_answers_195 : decode cX6_answers 195 = .ok (.iload_n 3, 1) := by decide +kernel
theorem dX6_answers_196 : decode cX6_answers 196 = .ok (.iload 4, 2) := by decide +kernel
theorem dX6_answers_198 : decode cX6_answers 198 = .ok (.iload 5, 2) := by decide +kernel
theorem dX6_answers_200 : decode cX6_answers 200 = .ok (.iload 6, 2) := by decide +kernel
theorem dX6_answers_202 : decode cX6_answers 202 = .ok (.invokevirtual 236, 3) := by decide +kernel
theorem dX6_answers_205 : decode cX6_answers 205 = .ok (.ireturn, 1) := by decide +kernel
theorem dX6_does_0 : decode cX6_does 0 = .ok (.aload_n 0, 1) := by decide +kernel
theorem dX6_does_1 : decode cX6_does 1 = .ok (.invokevirtual 239, 3) := by decide +kernel
theorem dX6_does_4 : decode cX6_does 4 = .ok (.ifCond .ne 11, 3) := by decide +kernel
theorem dX6_does_7 : decode cX6_does 7 = .ok (.bipush (-10), 2) := by decide +kernel
theorem dX6_does_9 : decode cX6_does 9 = .ok (.aload_n 0, 1) := by decide +kernel
theorem dX6_does_10 : decode cX6_does 10 = .ok (.getfield 192, 3) := by decide +kernel
theorem dX6_does_13 : decode cX6_does 13 = .ok (.isub, 1) := by decide +kernel
theorem dX6_does_14 : decode cX6_does 14 = .ok (.ireturn, 1) := by decide +kernel
theorem dX6_does_15 : decode cX6_does 15 = .ok (.aload_n 0, 1) := by decide +kernel
theorem dX6_does_16 : decode cX6_does 16 = .ok (.aload_n 0, 1) := by decide +kernel
theorem dX6_does_17 : decode cX6_does 17 = .ok (.getfield 7, 3) := by decide +kernel
theorem dX6_does_20 : decode cX6_does 20 = .ok (.iconst 0, 1) := by decide +kernel
theorem dX6_does_21 : decode cX6_does 21 = .ok (.aload_n 0, 1) := by decide +kernel
theorem dX6_does_22 : decode cX6_does 22 = .ok (.getfield 13, 3) := by decide +kernel
theorem dX6_does_25 : decode cX6_does 25 = .ok (.sipush 5670, 3) := by decide +kernel
theorem dX6_does_28 : decode cX6_does 28 = .ok (.invokevirtual 44, 3) := by decide +kernel
theorem dX6_does_31 : decode cX6_does 31 = .ok (.aload_n 0, 1) := by decide +kernel
theorem dX6_does_32 : decode cX6_does 32 = .ok (.iconst 1, 1) := by decide +kernel
theorem dX6_does_33 : decode cX6_does 33 = .ok (.putfield 48, 3) := by decide +kernel
theorem dX6_does_36 : decode cX6_does 36 = .ok (.iconst 0, 1) := by decide +kernel
theorem dX6_does_37 : decode cX6_does 37 = .ok (.istore_n 1, 1) := by decide +kernel
theorem dX6_does_38 : decode cX6_does 38 = .ok (.iconst 0, 1) := by decide +kernel
theorem dX6_does_39 : decode cX6_does 39 = .ok (.istore_n 2, 1) := by decide +kernel
theorem dX6_does_40 : decode cX6_does 40 = .ok (.iload_n 2, 1) := by decide +kernel
theorem dX6_does_41 : decode cX6_does 41 = .ok (.aload_n 0, 1) := by decide +kernel
theorem dX6_does_42 : decode cX6_does 42 = .ok (.getfield 208, 3) := by decide +kernel
theorem dX6_does_45 : decode cX6_does 45 = .ok (.if_icmp .ge 33, 3) := by decide +kernel
theorem dX6_does_48 : decode cX6_does 48 = .ok (.aload_n 0, 1) := by decide +kernel
theorem dX6_does_49 : decode cX6_does 49 = .ok (.aload_n 0, 1) := by decide +kernel
theorem dX6_does_50 : decode cX6_does 50 = .ok (.iload_n 2, 1) := by decide +kernel
theorem dX6_does_51 : decode cX6_does 51 = .ok (.invokevirtual 242, 3) := by decide +kernel
theorem dX6_does_54 : decode cX6_does 54 = .ok (.putfield 245, 3) := by decide +kernel
theorem dX6_does_57 : decode cX6_does 57 = .ok (.iload_n 1, 1) := by decide +kernel
theorem dX6_does_58 : decode cX6_does 58 = .ok (.aload_n 0, 1) := by decide +kernel
theorem dX6_does_59 : decode cX6_does 59 = .ok (.getfield 245, 3) := by decide +kernel
theorem dX6_does_62 : decode cX6_does 62 = .ok (.ifCond .lt 7, 3) := by decide +kernel
theorem dX6_does_65 : decode cX6_does 65 = .ok (.iconst 1, 1) := by decide +kernel
theorem dX6_does_66 : decode cX6_does 66 = .ok (.goto 4, 3) := by decide +kernel
theorem dX6_does_69 : decode cX6_does 69 = .ok (.iconst 0, 1) := by decide +kernel
theorem dX6_does_70 : decode cX6_does 70 = .ok (.iadd, 1) := by decide +kernel
theorem dX6_does_71 : decode cX6_does 71 = .ok (.istore_n 1, 1) := by decide +kernel
theorem dX6_does_72 : decode cX6_does 72 = .ok (.iinc 2 1, 3) := by decide +kernel
theorem dX6_does_75 : decode cX6_does 75 = .ok (.goto (-35), 3) := by decide +kernel
theorem dX6_does_78 : decode cX6_does 78 = .ok (.aload_n 0, 1) := by decide +kernel
theorem dX6_does_79 : decode cX6_does 79 = .ok (.iconst 0, 1) := by decide +kernel
theorem dX6_does_80 : decode cX6_does 80 = .ok (.putfield 48, 3) := by decide +kernel
theorem dX6_does_83 : decode cX6_does 83 = .ok (.aload_n 0, 1) := by decide +kernel
theorem dX6_does_84 : decode cX6_does 84 = .ok (.aload_n 0, 1) := by decide +kernel
theorem dX6_does_85 : decode cX6_does 85 = .ok (.getfield 13, 3) := by decide +kernel
theorem dX6_does_88 : decode cX6_does 88 = .ok (.sipush 5670, 3) := by decide +kernel
theorem dX6_does_91 : decode cX6_does 91 = .ok (.invokevirtual 52, 3) := by decide +kernel
theorem dX6_does_94 : decode cX6_does 94 = .ok (.iload_n 1, 1) := by decide +kernel
theorem dX6_does_95 : decode cX6_does 95 = .ok (.ireturn, 1) := by decide +kernel
theorem dX6_asked_0 : decode cX6_asked 0 = .ok (.aload_n 0, 1) := by decide +kernel
theorem dX6_asked_1 : decode cX6_asked 1 = .ok (.getfield 245, 3) := by decide +kernel
theorem dX6_asked_4 : decode cX6_asked 4 = .ok (.ireturn, 1) := by decide +kernel
theorem dX6_sumOf_0 : decode cX6_sumOf 0 = .ok (.iconst 0, 1) := by decide +kernel
theorem dX6_sumOf_1 : decode cX6_sumOf 1 = .ok (.istore_n 2, 1) := by decide +kernel
theorem dX6_sumOf_2 : decode cX6_sumOf 2 = .ok (.iconst 0, 1) := by decide +kernel
theorem dX6_sumOf_3 : decode cX6_sumOf 3 = .ok (.istore_n 3, 1) := by decide +kernel
theorem dX6_sumOf_4 : decode cX6_sumOf 4 = .ok (.iload_n 3, 1) := by decide +kernel
theorem dX6_sumOf_5 : decode cX6_sumOf 5 = .ok (.iconst 3, 1) := by decide +kernel
theorem dX6_sumOf_6 : decode cX6_sumOf 6 = .ok (.if_icmp .ge 45, 3) := by decide +kernel
theorem dX6_sumOf_9 : decode cX6_sumOf 9 = .ok (.iload_n 2, 1) := by decide +kernel
theorem dX6_sumOf_10 : decode cX6_sumOf 10 = .ok (.iload_n 1, 1) := by decide +kernel
theorem dX6_sumOf_11 : decode cX6_sumOf 11 = .ok (.iconst 4, 1) := by decide +kernel
theorem dX6_sumOf_12 : decode cX6_sumOf 12 = .ok (.if_icmp .ne 11, 3) := by decide +kernel
theorem dX6_sumOf_15 : decode cX6_sumOf 15 = .ok (.aload_n 0, 1) := by decide +kernel
theorem dX6_sumOf_16 : decode cX6_sumOf 16 = .ok (.iload_n 3, 1) := by decide +kernel
theorem dX6_sumOf_17 : decode cX6_sumOf 17 = .ok (.invokevirtual 70, 3) := by decide +kernel
theorem dX6_sumOf_20 : decode cX6_sumOf 20 = .ok (.goto 23, 3) := by decide +kernel
theorem dX6_sumOf_23 : decode cX6_sumOf 23 = .ok (.iload_n 1, 1) := by decide +kernel
theorem dX6_sumOf_24 : decode cX6_sumOf 24 = .ok (.iconst 5, 1) := by decide +kernel
theorem dX6_sumOf_25 : decode cX6_sumOf 25 = .ok (.if_icmp .ne 12, 3) := by decide +kernel
theorem dX6_sumOf_28 : decode cX6_sumOf 28 = .ok (.aload_n 0, 1) := by decide +kernel
theorem dX6_sumOf_29 : decode cX6_sumOf 29 = .ok (.iload_n 3, 1) := by decide +kernel
theorem dX6_sumOf_30 : decode cX6_sumOf 30 = .ok (.iconst 0, 1) := by decide +kernel
theorem dX6_sumOf_31 : decode cX6_sumOf 31 = .ok (.invokevirtual 164, 3) := by decide +kernel
theorem dX6_sumOf_34 : decode cX6_sumOf 34 = .ok (.goto 9, 3) := by decide +kernel
theorem dX6_sumOf_37 : decode cX6_sumOf 37 = .ok (.aload_n 0, 1) := by decide +kernel
theorem dX6_sumOf_38 : decode cX6_sumOf 38 = .ok (.iload_n 3, 1) := by decide +kernel
theorem dX6_sumOf_39 : decode cX6_sumOf 39 = .ok (.iconst 0, 1) := by decide +kernel
theorem dX6_sumOf_40 : decode cX6_sumOf 40 = .ok (.invokevirtual 161, 3) := by decide +kernel
theorem dX6_sumOf_43 : decode cX6_sumOf 43 = .ok (.iadd, 1) := by decide +kernel
theorem dX6_sumOf_44 : decode cX6_sumOf 44 = .ok (.istore_n 2, 1) := by decide +kernel
theorem dX6_sumOf_45 : decode cX6_sumOf 45 = .ok (.iinc 3 1, 3) := by decide +kernel
theorem dX6_sumOf_48 : decode cX6_sumOf 48 = .ok (.goto (-44), 3) := by decide +kernel
theorem dX6_sumOf_51 : decode cX6_sumOf 51 = .ok (.iload_n 2, 1) := by decide +kernel
theorem dX6_sumOf_52 : decode cX6_sumOf 52 = .ok (.ireturn, 1) := by decide +kernel
theorem dX6_dues_0 : decode cX6_dues 0 = .ok (.iconst 0, 1) := by decide +kernel
theorem dX6_dues_1 : decode cX6_dues 1 = .ok (.istore_n 1, 1) := by decide +kernel
theorem dX6_dues_2 : decode cX6_dues 2 = .ok (.iconst 0, 1) := by decide +kernel
theorem dX6_dues_3 : decode cX6_dues 3 = .ok (.istore_n 2, 1) := by decide +kernel
theorem dX6_dues_4 : decode cX6_dues 4 = .ok (.iload_n 2, 1) := by decide +kernel
theorem dX6_dues_5 : decode cX6_dues 5 = .ok (.iconst 4, 1) := by decide +kernel
theorem dX6_dues_6 : decode cX6_dues 6 = .ok (.if_icmp .ge 17, 3) := by decide +kernel
theorem dX6_dues_9 : decode cX6_dues 9 = .ok (.iload_n 1, 1) := by decide +kernel
theorem dX6_dues_10 : decode cX6_dues 10 = .ok (.aload_n 0, 1) := by decide +kernel
theorem dX6_dues_11 : decode cX6_dues 11 = .ok (.iload_n 2, 1) := by decide +kernel
theorem dX6_dues_12 : decode cX6_dues 12 = .ok (.invokevirtual 149, 3) := by decide +kernel
theorem dX6_dues_15 : decode cX6_dues 15 = .ok (.iadd, 1) := by decide +kernel
theorem dX6_dues_16 : decode cX6_dues 16 = .ok (.istore_n 1, 1) := by decide +kernel
theorem dX6_dues_17 : decode cX6_dues 17 = .ok (.iinc 2 1, 3) := by decide +kernel
theorem dX6_dues_20 : decode cX6_dues 20 = .ok (.goto (-16), 3) := by decide +kernel
theorem dX6_dues_23 : decode cX6_dues 23 = .ok (.iload_n 1, 1) := by decide +kernel
theorem dX6_dues_24 : decode cX6_dues 24 = .ok (.ireturn, 1) := by decide +kernel
theorem dX6_tellAll_0 : decode cX6_tellAll 0 = .ok (.iload_n 1, 1) := by decide +kernel
theorem dX6_tellAll_1 : decode cX6_tellAll 1 = .ok (.tableswitch 78 0 7 #[47, 54, 61, 67, 78, 78, 78, 73], 47) := by decide +kernel
theorem dX6_tellAll_48 : decode cX6_tellAll 48 = .ok (.aload_n 0, 1) := by decide +kernel
theorem dX6_tellAll_49 : decode cX6_tellAll 49 = .ok (.getfield 7, 3) := by decide +kernel
theorem dX6_tellAll_52 : decode cX6_tellAll 52 = .ok (.iconst 0, 1) := by decide +kernel
theorem dX6_tellAll_53 : decode cX6_tellAll 53 = .ok (.iaload, 1) := by decide +kernel
theorem dX6_tellAll_54 : decode cX6_tellAll 54 = .ok (.ireturn, 1) := by decide +kernel
theorem dX6_tellAll_55 : decode cX6_tellAll 55 = .ok (.aload_n 0, 1) := by decide +kernel
theorem dX6_tellAll_56 : decode cX6_tellAll 56 = .ok (.getfield 7, 3) := by decide +kernel
theorem dX6_tellAll_59 : decode cX6_tellAll 59 = .ok (.iconst 1, 1) := by decide +kernel
theorem dX6_tellAll_60 : decode cX6_tellAll 60 = .ok (.iaload, 1) := by decide +kernel
theorem dX6_tellAll_61 : decode cX6_tellAll 61 = .ok (.ireturn, 1) := by decide +kernel
theorem dX6_tellAll_62 : decode cX6_tellAll 62 = .ok (.aload_n 0, 1) := by decide +kernel
theorem dX6_tellAll_63 : decode cX6_tellAll 63 = .ok (.iconst 1, 1) := by decide +kernel
theorem dX6_tellAll_64 : decode cX6_tellAll 64 = .ok (.invokevirtual 121, 3) := by decide +kernel
theorem dX6_tellAll_67 : decode cX6_tellAll 67 = .ok (.ireturn, 1) := by decide +kernel
theorem dX6_tellAll_68 : decode cX6_tellAll 68 = .ok (.aload_n 0, 1) := by decide +kernel
theorem dX6_tellAll_69 : decode cX6_tellAll 69 = .ok (.iconst 2, 1) := by decide +kernel
theorem dX6_tellAll_70 : decode cX6_tellAll 70 = .ok (.invokevirtual 121, 3) := by decide +kernel
theorem dX6_tellAll_73 : decode cX6_tellAll 73 = .ok (.ireturn, 1) := by decide +kernel
theorem dX6_tellAll_74 : decode cX6_tellAll 74 = .ok (.aload_n 0, 1) := by decide +kernel
theorem dX6_tellAll_75 : decode cX6_tellAll 75 = .ok (.invokevirtual 248, 3) := by decide +kernel
theorem dX6_tellAll_78 : decode cX6_tellAll 78 = .ok (.ireturn, 1) := by decide +kernel
theorem dX6_tellAll_79 : decode cX6_tellAll 79 = .ok (.aload_n 0, 1) := by decide +kernel
theorem dX6_tellAll_80 : decode cX6_tellAll 80 = .ok (.iload_n 1, 1) := by decide +kernel
theorem dX6_tellAll_81 : decode cX6_tellAll 81 = .ok (.invokevirtual 251, 3) := by decide +kernel
theorem dX6_tellAll_84 : decode cX6_tellAll 84 = .ok (.ireturn, 1) := by decide +kernel
theorem dX6_all_0 : decode cX6_all 0 = .ok (.iload_n 1, 1) := by decide +kernel
theorem dX6_all_1 : decode cX6_all 1 = .ok (.iconst 0, 1) := by decide +kernel
theorem dX6_all_2 : decode cX6_all 2 = .ok (.bipush 7, 2) := by decide +kernel
theorem dX6_all_4 : decode cX6_all 4 = .ok (.invokestatic 36, 3) := by decide +kernel
theorem dX6_all_7 : decode cX6_all 7 = .ok (.ifCond .eq 11, 3) := by decide +kernel
theorem dX6_all_10 : decode cX6_all 10 = .ok (.aload_n 0, 1) := by decide +kernel
theorem dX6_all_11 : decode cX6_all 11 = .ok (.iload_n 1, 1) := by decide +kernel
theorem dX6_all_12 : decode cX6_all 12 = .ok (.invokevirtual 254, 3) := by decide +kernel
theorem dX6_all_15 : decode cX6_all 15 = .ok (.goto 7, 3) := by decide +kernel
theorem dX6_all_18 : decode cX6_all 18 = .ok (.aload_n 0, 1) := by decide +kernel
theorem dX6_all_19 : decode cX6_all 19 = .ok (.invokevirtual 111, 3) := by decide +kernel
theorem dX6_all_22 : decode cX6_all 22 = .ok (.ireturn, 1) := by decide +kernel
theorem dX6_back_0 : decode cX6_back 0 = .ok (.aload_n 0, 1) := by decide +kernel
theorem dX6_back_1 : decode cX6_back 1 = .ok (.getfield 40, 3) := by decide +kernel
theorem dX6_back_4 : decode cX6_back 4 = .ok (.ifCond .ne 11, 3) := by decide +kernel
theorem dX6_back_7 : decode cX6_back 7 = .ok (.aload_n 0, 1) := by decide +kernel
theorem dX6_back_8 : decode cX6_back 8 = .ok (.iconst 2, 1) := by decide +kernel
theorem dX6_back_9 : decode cX6_back 9 = .ok (.bipush (-3), 2) := by decide +kernel
theorem dX6_back_11 : decode cX6_back 11 = .ok (.invokevirtual 32, 3) := by decide +kernel
theorem dX6_back_14 : decode cX6_back 14 = .ok (.ireturn, 1) := by decide +kernel
theorem dX6_back_15 : decode cX6_back 15 = .ok (.aload_n 0, 1) := by decide +kernel
theorem dX6_back_16 : decode cX6_back 16 = .ok (.dup, 1) := by decide +kernel
theorem dX6_back_17 : decode cX6_back 17 = .ok (.getfield 40, 3) := by decide +kernel
theorem dX6_back_20 : decode cX6_back 20 = .ok (.iconst 1, 1) := by decide +kernel
theorem dX6_back_21 : decode cX6_back 21 = .ok (.isub, 1) := by decide +kernel
theorem dX6_back_22 : decode cX6_back 22 = .ok (.putfield 40, 3) := by decide +kernel
theorem dX6_back_25 : decode cX6_back 25 = .ok (.aload_n 0, 1) := by decide +kernel
theorem dX6_back_26 : decode cX6_back 26 = .ok (.aload_n 0, 1) := by decide +kernel
theorem dX6_back_27 : decode cX6_back 27 = .ok (.getfield 13, 3) := by decide +kernel
theorem dX6_back_30 : decode cX6_back 30 = .ok (.sipush 945, 3) := by decide +kernel
theorem dX6_back_33 : decode cX6_back 33 = .ok (.aload_n 0, 1) := by decide +kernel
theorem dX6_back_34 : decode cX6_back 34 = .ok (.getfield 40, 3) := by decide +kernel
theorem dX6_back_37 : decode cX6_back 37 = .ok (.imul, 1) := by decide +kernel
theorem dX6_back_38 : decode cX6_back 38 = .ok (.aload_n 0, 1) := by decide +kernel
theorem dX6_back_39 : decode cX6_back 39 = .ok (.getfield 7, 3) := by decide +kernel
theorem dX6_back_42 : decode cX6_back 42 = .ok (.iconst 0, 1) := by decide +kernel
theorem dX6_back_43 : decode cX6_back 43 = .ok (.invokevirtual 44, 3) := by decide +kernel
theorem dX6_back_46 : decode cX6_back 46 = .ok (.aload_n 0, 1) := by decide +kernel
theorem dX6_back_47 : decode cX6_back 47 = .ok (.getfield 40, 3) := by decide +kernel
theorem dX6_back_50 : decode cX6_back 50 = .ok (.ireturn, 1) := by decide +kernel
theorem dX6_tell_0 : decode cX6_tell 0 = .ok (.iload_n 1, 1) := by decide +kernel
theorem dX6_tell_1 : decode cX6_tell 1 = .ok (.iconst 5, 1) := by decide +kernel
theorem dX6_tell_2 : decode cX6_tell 2 = .ok (.if_icmp .ge 12, 3) := by decide +kernel
theorem dX6_tell_5 : decode cX6_tell 5 = .ok (.aload_n 0, 1) := by decide +kernel
theorem dX6_tell_6 : decode cX6_tell 6 = .ok (.getfield 16, 3) := by decide +kernel
theorem dX6_tell_9 : decode cX6_tell 9 = .ok (.iload_n 1, 1) := by decide +kernel
theorem dX6_tell_10 : decode cX6_tell 10 = .ok (.iaload, 1) := by decide +kernel
theorem dX6_tell_11 : decode cX6_tell 11 = .ok (.goto 19, 3) := by decide +kernel
theorem dX6_tell_14 : decode cX6_tell 14 = .ok (.iload_n 1, 1) := by decide +kernel
theorem dX6_tell_15 : decode cX6_tell 15 = .ok (.iconst 5, 1) := by decide +kernel
theorem dX6_tell_16 : decode cX6_tell 16 = .ok (.if_icmp .ne 10, 3) := by decide +kernel
theorem dX6_tell_19 : decode cX6_tell 19 = .ok (.aload_n 0, 1) := by decide +kernel
theorem dX6_tell_20 : decode cX6_tell 20 = .ok (.getfield 183, 3) := by decide +kernel
theorem dX6_tell_23 : decode cX6_tell 23 = .ok (.goto 7, 3) := by decide +kernel
theorem dX6_tell_26 : decode cX6_tell 26 = .ok (.aload_n 0, 1) := by decide +kernel
theorem dX6_tell_27 : decode cX6_tell 27 = .ok (.getfield 40, 3) := by decide +kernel
theorem dX6_tell_30 : decode cX6_tell 30 = .ok (.ireturn, 1) := by decide +kernel
theorem dX6_told_0 : decode cX6_told 0 = .ok (.iload_n 1, 1) := by decide +kernel
theorem dX6_told_1 : decode cX6_told 1 = .ok (.iconst 0, 1) := by decide +kernel
theorem dX6_told_2 : decode cX6_told 2 = .ok (.bipush 6, 2) := by decide +kernel
theorem dX6_told_4 : decode cX6_told 4 = .ok (.invokestatic 36, 3) := by decide +kernel
theorem dX6_told_7 : decode cX6_told 7 = .ok (.ifCond .eq 11, 3) := by decide +kernel
theorem dX6_told_10 : decode cX6_told 10 = .ok (.aload_n 0, 1) := by decide +kernel
theorem dX6_told_11 : decode cX6_told 11 = .ok (.iload_n 1, 1) := by decide +kernel
theorem dX6_told_12 : decode cX6_told 12 = .ok (.invokevirtual 257, 3) := by decide +kernel
theorem dX6_told_15 : decode cX6_told 15 = .ok (.goto 7, 3) := by decide +kernel
theorem dX6_told_18 : decode cX6_told 18 = .ok (.aload_n 0, 1) := by decide +kernel
theorem dX6_told_19 : decode cX6_told 19 = .ok (.invokevirtual 111, 3) := by decide +kernel
theorem dX6_told_22 : decode cX6_told 22 = .ok (.ireturn, 1) := by decide +kernel
theorem dX6_more_0 : decode cX6_more 0 = .ok (.aload_n 0, 1) := by decide +kernel
theorem dX6_more_1 : decode cX6_more 1 = .ok (.ldc2_w 260, 3) := by decide +kernel
theorem dX6_more_4 : decode cX6_more 4 = .ok (.aload_n 0, 1) := by decide +kernel
theorem dX6_more_5 : decode cX6_more 5 = .ok (.getfield 262, 3) := by decide +kernel
theorem dX6_more_8 : decode cX6_more 8 = .ok (.lmul, 1) := by decide +kernel
theorem dX6_more_9 : decode cX6_more 9 = .ok (.iload_n 1, 1) := by decide +kernel
theorem dX6_more_10 : decode cX6_more 10 = .ok (.i2l, 1) := by decide +kernel
theorem dX6_more_11 : decode cX6_more 11 = .ok (.ladd, 1) := by decide +kernel
theorem dX6_more_12 : decode cX6_more 12 = .ok (.putfield 262, 3) := by decide +kernel
theorem dX6_more_15 : decode cX6_more 15 = .ok (.return_, 1) := by decide +kernel
theorem dX6_morePart_0 : decode cX6_morePart 0 = .ok (.iconst 0, 1) := by decide +kernel
theorem dX6_morePart_1 : decode cX6_morePart 1 = .ok (.istore_n 2, 1) := by decide +kernel
theorem dX6_morePart_2 : decode cX6_morePart 2 = .ok (.iload_n 2, 1) := by decide +kernel
theorem dX6_morePart_3 : decode cX6_morePart 3 = .ok (.bipush 6, 2) := by decide +kernel
theorem dX6_morePart_5 : decode cX6_morePart 5 = .ok (.if_icmp .ge 19, 3) := by decide +kernel
theorem dX6_morePart_8 : decode cX6_morePart 8 = .ok (.aload_n 0, 1) := by decide +kernel
theorem dX6_morePart_9 : decode cX6_morePart 9 = .ok (.aload_n 0, 1) := by decide +kernel
theorem dX6_morePart_10 : decode cX6_morePart 10 = .ok (.iload_n 1, 1) := by decide +kernel
theorem dX6_morePart_11 : decode cX6_morePart 11 = .ok (.iload_n 2, 1) := by decide +kernel
theorem dX6_morePart_12 : decode cX6_morePart 12 = .ok (.invokevirtual 168, 3) := by decide +kernel
theorem dX6_morePart_15 : decode cX6_morePart 15 = .ok (.invokevirtual 266, 3) := by decide +kernel
theorem dX6_morePart_18 : decode cX6_morePart 18 = .ok (.iinc 2 1, 3) := by decide +kernel
theorem dX6_morePart_21 : decode cX6_morePart 21 = .ok (.goto (-19), 3) := by decide +kernel
theorem dX6_morePart_24 : decode cX6_morePart 24 = .ok (.iconst 0, 1) := by decide +kernel
theorem dX6_morePart_25 : decode cX6_morePart 25 = .ok (.istore_n 2, 1) := by decide +kernel
theorem dX6_morePart_26 : decode cX6_morePart 26 = .ok (.iload_n 2, 1) := by decide +kernel
theorem dX6_morePart_27 : decode cX6_morePart 27 = .ok (.aload_n 0, 1) := by decide +kernel
theorem dX6_morePart_28 : decode cX6_morePart 28 = .ok (.iload_n 1, 1) := by decide +kernel
theorem dX6_morePart_29 : decode cX6_morePart 29 = .ok (.invokevirtual 70, 3) := by decide +kernel
theorem dX6_morePart_32 : decode cX6_morePart 32 = .ok (.if_icmp .ge 34, 3) := by decide +kernel
theorem dX6_morePart_35 : decode cX6_morePart 35 = .ok (.iconst 0, 1) := by decide +kernel
theorem dX6_morePart_36 : decode cX6_morePart 36 = .ok (.istore_n 3, 1) := by decide +kernel
theorem dX6_morePart_37 : decode cX6_morePart 37 = .ok (.iload_n 3, 1) := by decide +kernel
theorem dX6_morePart_38 : decode cX6_morePart 38 = .ok (.bipush 7, 2) := by decide +kernel
theorem dX6_morePart_40 : decode cX6_morePart 40 = .ok (.if_icmp .ge 20, 3) := by decide +kernel
theorem dX6_morePart_43 : decode cX6_morePart 43 = .ok (.aload_n 0, 1) := by decide +kernel
theorem dX6_morePart_44 : decode cX6_morePart 44 = .ok (.aload_n 0, 1) := by decide +kernel
theorem dX6_morePart_45 : decode cX6_morePart 45 = .ok (.iload_n 1, 1) := by decide +kernel
theorem dX6_morePart_46 : decode cX6_morePart 46 = .ok (.iload_n 2, 1) := by decide +kernel
theorem dX6_morePart_47 : decode cX6_morePart 47 = .ok (.iload_n 3, 1) := by decide +kernel
theorem dX6_morePart_48 : decode cX6_morePart 48 = .ok (.invokevirtual 155, 3) := by decide +kernel
theorem dX6_morePart_51 : decode cX6_morePart 51 = .ok (.invokevirtual 266, 3) := by decide +kernel
theorem dX6_morePart_54 : decode cX6_morePart 54 = .ok (.iinc 3 1, 3) := by decide +kernel
theorem dX6_morePart_57 : decode cX6_morePart 57 = .ok (.goto (-20), 3) := by decide +kernel
theorem dX6_morePart_60 : decode cX6_morePart 60 = .ok (.iinc 2 1, 3) := by decide +kernel
theorem dX6_morePart_63 : decode cX6_morePart 63 = .ok (.goto (-37), 3) := by decide +kernel
theorem dX6_morePart_66 : decode cX6_morePart 66 = .ok (.iconst 0, 1) := by decide +kernel
theorem dX6_morePart_67 : decode cX6_morePart 67 = .ok (.istore_n 2, 1) := by decide +kernel
theorem dX6_morePart_68 : decode cX6_morePart 68 = .ok (.iload_n 2, 1) := by decide +kernel
theorem dX6_morePart_69 : decode cX6_morePart 69 = .ok (.aload_n 0, 1) := by decide +kernel
theorem dX6_morePart_70 : decode cX6_morePart 70 = .ok (.iload_n 1, 1) := by decide +kernel
theorem dX6_morePart_71 : decode cX6_morePart 71 = .ok (.iconst 1, 1) := by decide +kernel
theorem dX6_morePart_72 : decode cX6_morePart 72 = .ok (.invokevirtual 164, 3) := by decide +kernel
theorem dX6_morePart_75 : decode cX6_morePart 75 = .ok (.if_icmp .ge 33, 3) := by decide +kernel
theorem dX6_morePart_78 : decode cX6_morePart 78 = .ok (.iconst 0, 1) := by decide +kernel
theorem dX6_morePart_79 : decode cX6_morePart 79 = .ok (.istore_n 3, 1) := by decide +kernel
theorem dX6_morePart_80 : decode cX6_morePart 80 = .ok (.iload_n 3, 1) := by decide +kernel
theorem dX6_morePart_81 : decode cX6_morePart 81 = .ok (.iconst 3, 1) := by decide +kernel
theorem dX6_morePart_82 : decode cX6_morePart 82 = .ok (.if_icmp .ge 20, 3) := by decide +kernel
theorem dX6_morePart_85 : decode cX6_morePart 85 = .ok (.aload_n 0, 1) := by decide +kernel
theorem dX6_morePart_86 : decode cX6_morePart 86 = .ok (.aload_n 0, 1) := by decide +kernel
theorem dX6_morePart_87 : decode cX6_morePart 87 = .ok (.iload_n 1, 1) := by decide +kernel
theorem dX6_morePart_88 : decode cX6_morePart 88 = .ok (.iload_n 2, 1) := by decide +kernel
theorem dX6_morePart_89 : decode cX6_morePart 89 = .ok (.iload_n 3, 1) := by decide +kernel
theorem dX6_morePart_90 : decode cX6_morePart 90 = .ok (.invokevirtual 174, 3) := by decide +kernel
theorem dX6_morePart_93 : decode cX6_morePart 93 = .ok (.invokevirtual 266, 3) := by decide +kernel
theorem dX6_morePart_96 : decode cX6_morePart 96 = .ok (.iinc 3 1, 3) := by decide +kernel
theorem dX6_morePart_99 : decode cX6_morePart 99 = .ok (.goto (-19), 3) := by decide +kernel
theorem dX6_morePart_102 : decode cX6_morePart 102 = .ok (.iinc 2 1, 3) := by decide +kernel
theorem dX6_morePart_105 : decode cX6_morePart 105 = .ok (.goto (-37), 3) := by decide +kernel
theorem dX6_morePart_108 : decode cX6_morePart 108 = .ok (.return_, 1) := by decide +kernel
theorem dX6_digest_0 : decode cX6_digest 0 = .ok (.aload_n 0, 1) := by decide +kernel
theorem dX6_digest_1 : decode cX6_digest 1 = .ok (.ldc2_w 269, 3) := by decide +kernel
theorem dX6_digest_4 : decode cX6_digest 4 = .ok (.putfield 262, 3) := by decide +kernel
theorem dX6_digest_7 : decode cX6_digest 7 = .ok (.iconst 0, 1) := by decide +kernel
theorem dX6_digest_8 : decode cX6_digest 8 = .ok (.istore_n 1, 1) := by decide +kernel
theorem dX6_digest_9 : decode cX6_digest 9 = .ok (.iload_n 1, 1) := by decide +kernel
theorem dX6_digest_10 : decode cX6_digest 10 = .ok (.bipush 7, 2) := by decide +kernel
theorem dX6_digest_12 : decode cX6_digest 12 = .ok (.if_icmp .ge 18, 3) := by decide +kernel
theorem dX6_digest_15 : decode cX6_digest 15 = .ok (.aload_n 0, 1) := by decide +kernel
theorem dX6_digest_16 : decode cX6_digest 16 = .ok (.aload_n 0, 1) := by decide +kernel
theorem dX6_digest_17 : decode cX6_digest 17 = .ok (.iload_n 1, 1) := by decide +kernel
theorem dX6_digest_18 : decode cX6_digest 18 = .ok (.invokevirtual 257, 3) := by decide +kernel
theorem dX6_digest_21 : decode cX6_digest 21 = .ok (.invokevirtual 266, 3) := by decide +kernel
theorem dX6_digest_24 : decode cX6_digest 24 = .ok (.iinc 1 1, 3) := by decide +kernel
theorem dX6_digest_27 : decode cX6_digest 27 = .ok (.goto (-18), 3) := by decide +kernel
theorem dX6_digest_30 : decode cX6_digest 30 = .ok (.iconst 0, 1) := by decide +kernel
theorem dX6_digest_31 : decode cX6_digest 31 = .ok (.istore_n 1, 1) := by decide +kernel
theorem dX6_digest_32 : decode cX6_digest 32 = .ok (.iload_n 1, 1) := by decide +kernel
theorem dX6_digest_33 : decode cX6_digest 33 = .ok (.bipush 8, 2) := by decide +kernel
theorem dX6_digest_35 : decode cX6_digest 35 = .ok (.if_icmp .ge 18, 3) := by decide +kernel
theorem dX6_digest_38 : decode cX6_digest 38 = .ok (.aload_n 0, 1) := by decide +kernel
theorem dX6_digest_39 : decode cX6_digest 39 = .ok (.aload_n 0, 1) := by decide +kernel
theorem dX6_digest_40 : decode cX6_digest 40 = .ok (.iload_n 1, 1) := by decide +kernel
theorem dX6_digest_41 : decode cX6_digest 41 = .ok (.invokevirtual 254, 3) := by decide +kernel
theorem dX6_digest_44 : decode cX6_digest 44 = .ok (.invokevirtual 266, 3) := by decide +kernel
theorem dX6_digest_47 : decode cX6_digest 47 = .ok (.iinc 1 1, 3) := by decide +kernel
theorem dX6_digest_50 : decode cX6_digest 50 = .ok (.goto (-18), 3) := by decide +kernel
theorem dX6_digest_53 : decode cX6_digest 53 = .ok (.iconst 0, 1) := by decide +kernel
theorem dX6_digest_54 : decode cX6_digest 54 = .ok (.istore_n 1, 1) := by decide +kernel
theorem dX6_digest_55 : decode cX6_digest 55 = .ok (.iload_n 1, 1) := by decide +kernel
theorem dX6_digest_56 : decode cX6_digest 56 = .ok (.iconst 4, 1) := by decide +kernel
theorem dX6_digest_57 : decode cX6_digest 57 = .ok (.if_icmp .ge 33, 3) := by decide +kernel
theorem dX6_digest_60 : decode cX6_digest 60 = .ok (.iconst 0, 1) := by decide +kernel
theorem dX6_digest_61 : decode cX6_digest 61 = .ok (.istore_n 2, 1) := by decide +kernel
theorem dX6_digest_62 : decode cX6_digest 62 = .ok (.iload_n 2, 1) := by decide +kernel
theorem dX6_digest_63 : decode cX6_digest 63 = .ok (.bipush 9, 2) := by decide +kernel
theorem dX6_digest_65 : decode cX6_digest 65 = .ok (.if_icmp .ge 19, 3) := by decide +kernel
theorem dX6_digest_68 : decode cX6_digest 68 = .ok (.aload_n 0, 1) := by decide +kernel
theorem dX6_digest_69 : decode cX6_digest 69 = .ok (.aload_n 0, 1) := by decide +kernel
theorem dX6_digest_70 : decode cX6_digest 70 = .ok (.iload_n 1, 1) := by decide +kernel
theorem dX6_digest_71 : decode cX6_digest 71 = .ok (.iload_n 2, 1) := by decide +kernel
theorem dX6_digest_72 : decode cX6_digest 72 = .ok (.invokevirtual 152, 3) := by decide +kernel
theorem dX6_digest_75 : decode cX6_digest 75 = .ok (.invokevirtual 266, 3) := by decide +kernel
theorem dX6_digest_78 : decode cX6_digest 78 = .ok (.iinc 2 1, 3) := by decide +kernel
theorem dX6_digest_81 : decode cX6_digest 81 = .ok (.goto (-19), 3) := by decide +kernel
theorem dX6_digest_84 : decode cX6_digest 84 = .ok (.iinc 1 1, 3) := by decide +kernel
theorem dX6_digest_87 : decode cX6_digest 87 = .ok (.goto (-32), 3) := by decide +kernel
theorem dX6_digest_90 : decode cX6_digest 90 = .ok (.iconst 0, 1) := by decide +kernel
theorem dX6_digest_91 : decode cX6_digest 91 = .ok (.istore_n 1, 1) := by decide +kernel
theorem dX6_digest_92 : decode cX6_digest 92 = .ok (.iload_n 1, 1) := by decide +kernel
theorem dX6_digest_93 : decode cX6_digest 93 = .ok (.iconst 3, 1) := by decide +kernel
theorem dX6_digest_94 : decode cX6_digest 94 = .ok (.if_icmp .ge 14, 3) := by decide +kernel
theorem dX6_digest_97 : decode cX6_digest 97 = .ok (.aload_n 0, 1) := by decide +kernel
theorem dX6_digest_98 : decode cX6_digest 98 = .ok (.iload_n 1, 1) := by decide +kernel
theorem dX6_digest_99 : decode cX6_digest 99 = .ok (.invokevirtual 271, 3) := by decide +kernel
theorem dX6_digest_102 : decode cX6_digest 102 = .ok (.iinc 1 1, 3) := by decide +kernel
theorem dX6_digest_105 : decode cX6_digest 105 = .ok (.goto (-13), 3) := by decide +kernel
theorem dX6_digest_108 : decode cX6_digest 108 = .ok (.iconst 0, 1) := by decide +kernel
theorem dX6_digest_109 : decode cX6_digest 109 = .ok (.istore_n 1, 1) := by decide +kernel
theorem dX6_digest_110 : decode cX6_digest 110 = .ok (.iload_n 1, 1) := by decide +kernel
theorem dX6_digest_111 : decode cX6_digest 111 = .ok (.bipush 24, 2) := by decide +kernel
theorem dX6_digest_113 : decode cX6_digest 113 = .ok (.if_icmp .ge 29, 3) := by decide +kernel
theorem dX6_digest_116 : decode cX6_digest 116 = .ok (.aload_n 0, 1) := by decide +kernel
theorem dX6_digest_117 : decode cX6_digest 117 = .ok (.aload_n 0, 1) := by decide +kernel
theorem dX6_digest_118 : decode cX6_digest 118 = .ok (.iload_n 1, 1) := by decide +kernel
theorem dX6_digest_119 : decode cX6_digest 119 = .ok (.bipush 12, 2) := by decide +kernel
theorem dX6_digest_121 : decode cX6_digest 121 = .ok (.idiv, 1) := by decide +kernel
theorem dX6_digest_122 : decode cX6_digest 122 = .ok (.iload_n 1, 1) := by decide +kernel
theorem dX6_digest_123 : decode cX6_digest 123 = .ok (.iconst 4, 1) := by decide +kernel
theorem dX6_digest_124 : decode cX6_digest 124 = .ok (.idiv, 1) := by decide +kernel
theorem dX6_digest_125 : decode cX6_digest 125 = .ok (.iconst 3, 1) := by decide +kernel
theorem dX6_digest_126 : decode cX6_digest 126 = .ok (.irem, 1) := by decide +kernel
theorem dX6_digest_127 : decode cX6_digest 127 = .ok (.iload_n 1, 1) := by decide +kernel
theorem dX6_digest_128 : decode cX6_digest 128 = .ok (.iconst 4, 1) := by decide +kernel
theorem dX6_digest_129 : decode cX6_digest 129 = .ok (.irem, 1) := by decide +kernel
theorem dX6_digest_130 : decode cX6_digest 130 = .ok (.invokevirtual 180, 3) := by decide +kernel
theorem dX6_digest_133 : decode cX6_digest 133 = .ok (.invokevirtual 266, 3) := by decide +kernel
theorem dX6_digest_136 : decode cX6_digest 136 = .ok (.iinc 1 1, 3) := by decide +kernel
theorem dX6_digest_139 : decode cX6_digest 139 = .ok (.goto (-29), 3) := by decide +kernel
theorem dX6_digest_142 : decode cX6_digest 142 = .ok (.aload_n 0, 1) := by decide +kernel
theorem dX6_digest_143 : decode cX6_digest 143 = .ok (.getfield 262, 3) := by decide +kernel
theorem dX6_digest_146 : decode cX6_digest 146 = .ok (.lreturn, 1) := by decide +kernel
theorem dL_law_0 : decode cL_law 0 = .ok (.new 7, 3) := by decide +kernel
theorem dL_law_3 : decode cL_law 3 = .ok (.dup, 1) := by decide +kernel
theorem dL_law_4 : decode cL_law 4 = .ok (.invokespecial 9, 3) := by decide +kernel
theorem dL_law_7 : decode cL_law 7 = .ok (.astore_n 1, 1) := by decide +kernel
theorem dL_law_8 : decode cL_law 8 = .ok (.new 10, 3) := by decide +kernel
theorem dL_law_11 : decode cL_law 11 = .ok (.dup, 1) := by decide +kernel
theorem dL_law_12 : decode cL_law 12 = .ok (.invokespecial 12, 3) := by decide +kernel
theorem dL_law_15 : decode cL_law 15 = .ok (.astore_n 2, 1) := by decide +kernel
theorem dL_law_16 : decode cL_law 16 = .ok (.iconst 0, 1) := by decide +kernel
theorem dL_law_17 : decode cL_law 17 = .ok (.istore_n 3, 1) := by decide +kernel
theorem dL_law_18 : decode cL_law 18 = .ok (.iload_n 3, 1) := by decide +kernel
theorem dL_law_19 : decode cL_law 19 = .ok (.aload_n 0, 1) := by decide +kernel
theorem dL_law_20 : decode cL_law 20 = .ok (.arraylength, 1) := by decide +kernel
theorem dL_law_21 : decode cL_law 21 = .ok (.bipush 6, 2) := by decide +kernel
theorem dL_law_23 : decode cL_law 23 = .ok (.isub, 1) := by decide +kernel
theorem dL_law_24 : decode cL_law 24 = .ok (.if_icmp .gt 765, 3) := by decide +kernel
theorem dL_law_27 : decode cL_law 27 = .ok (.aload_n 0, 1) := by decide +kernel
theorem dL_law_28 : decode cL_law 28 = .ok (.iload_n 3, 1) := by decide +kernel
theorem dL_law_29 : decode cL_law 29 = .ok (.iaload, 1) := by decide +kernel
theorem dL_law_30 : decode cL_law 30 = .ok (.bipush 31, 2) := by decide +kernel
theorem dL_law_32 : decode cL_law 32 = .ok (.iand, 1) := by decide +kernel
theorem dL_law_33 : decode cL_law 33 = .ok (.tableswitch 750 0 21 #[103, 126, 159, 222, 265, 318, 341, 364, 397, 440, 473, 516, 549, 572, 615, 638, 651, 664, 677, 700, 713, 736], 103) := by decide +kernel
theorem dL_law_136 : decode cL_law 136 = .ok (.aload_n 1, 1) := by decide +kernel
theorem dL_law_137 : decode cL_law 137 = .ok (.aload_n 0, 1) := by decide +kernel
theorem dL_law_138 : decode cL_law 138 = .ok (.iload_n 3, 1) := by decide +kernel
theorem dL_law_139 : decode cL_law 139 = .ok (.iconst 1, 1) := by decide +kernel
theorem dL_law_140 : decode cL_law 140 = .ok (.iadd, 1) := by decide +kernel
theorem dL_law_141 : decode cL_law 141 = .ok (.iaload, 1) := by decide +kernel
theorem dL_law_142 : decode cL_law 142 = .ok (.invokevirtual 13, 3) := by decide +kernel
theorem dL_law_145 : decode cL_law 145 = .ok (.aload_n 2, 1) := by decide +kernel
theorem dL_law_146 : decode cL_law 146 = .ok (.aload_n 0, 1) := by decide +kernel
theorem dL_law_147 : decode cL_law 147 = .ok (.iload_n 3, 1) := by decide +kernel
theorem dL_law_148 : decode cL_law 148 = .ok (.iconst 1, 1) := by decide +kernel
theorem dL_law_149 : decode cL_law 149 = .ok (.iadd, 1) := by decide +kernel
theorem dL_law_150 : decode cL_law 150 = .ok (.iaload, 1) := by decide +kernel
theorem dL_law_151 : decode cL_law 151 = .ok (.invokevirtual 17, 3) := by decide +kernel
theorem dL_law_154 : decode cL_law 154 = .ok (.if_icmp .eq 629, 3) := by decide +kernel
theorem dL_law_157 : decode cL_law 157 = .ok (.iconst 0, 1) := by decide +kernel
theorem dL_law_158 : decode cL_law 158 = .ok (.ireturn, 1) := by decide +kernel
theorem dL_law_159 : decode cL_law 159 = .ok (.aload_n 1, 1) := by decide +kernel
theorem dL_law_160 : decode cL_law 160 = .ok (.aload_n 0, 1) := by decide +kernel
theorem dL_law_161 : decode cL_law 161 = .ok (.iload_n 3, 1) := by decide +kernel
theorem dL_law_162 : decode cL_law 162 = .ok (.iconst 1, 1) := by decide +kernel
theorem dL_law_163 : decode cL_law 163 = .ok (.iadd, 1) := by decide +kernel
theorem dL_law_164 : decode cL_law 164 = .ok (.iaload, 1) := by decide +kernel
theorem dL_law_165 : decode cL_law 165 = .ok (.aload_n 0, 1) := by decide +kernel
theorem dL_law_166 : decode cL_law 166 = .ok (.iload_n 3, 1) := by decide +kernel
theorem dL_law_167 : decode cL_law 167 = .ok (.iconst 2, 1) := by decide +kernel
theorem dL_law_168 : decode cL_law 168 = .ok (.iadd, 1) := by decide +kernel
theorem dL_law_169 : decode cL_law 169 = .ok (.iaload, 1) := by decide +kernel
theorem dL_law_170 : decode cL_law 170 = .ok (.invokevirtual 18, 3) := by decide +kernel
theorem dL_law_173 : decode cL_law 173 = .ok (.aload_n 2, 1) := by decide +kernel
theorem dL_law_174 : decode cL_law 174 = .ok (.aload_n 0, 1) := by decide +kernel
theorem dL_law_175 : decode cL_law 175 = .ok (.iload_n 3, 1) := by decide +kernel
theorem dL_law_176 : decode cL_law 176 = .ok (.iconst 1, 1) := by decide +kernel
theorem dL_law_177 : decode cL_law 177 = .ok (.iadd, 1) := by decide +kernel
theorem dL_law_178 : decode cL_law 178 = .ok (.iaload, 1) := by decide +kernel
theorem dL_law_179 : decode cL_law 179 = .ok (.aload_n 0, 1) := by decide +kernel
theorem dL_law_180 : decode cL_law 180 = .ok (.iload_n 3, 1) := by decide +kernel
theorem dL_law_181 : decode cL_law 181 = .ok (.iconst 2, 1) := by decide +kernel
theorem dL_law_182 : decode cL_law 182 = .ok (.iadd, 1) := by decide +kernel
theorem dL_law_183 : decode cL_law 183 = .ok (.iaload, 1) := by decide +kernel
theorem dL_law_184 : decode cL_law 184 = .ok (.invokevirtual 22, 3) := by decide +kernel
theorem dL_law_187 : decode cL_law 187 = .ok (.if_icmp .eq 596, 3) := by decide +kernel
theorem dL_law_190 : decode cL_law 190 = .ok (.iconst 0, 1) := by decide +kernel
theorem dL_law_191 : decode cL_law 191 = .ok (.ireturn, 1) := by decide +kernel
theorem dL_law_192 : decode cL_law 192 = .ok (.aload_n 1, 1) := by decide +kernel
theorem dL_law_193 : decode cL_law 193 = .ok (.aload_n 0, 1) := by decide +kernel
theorem dL_law_194 : decode cL_law 194 = .ok (.iload_n 3, 1) := by decide +kernel
theorem dL_law_195 : decode cL_law 195 = .ok (.iconst 1, 1) := by decide +kernel
theorem dL_law_196 : decode cL_law 196 = .ok (.iadd, 1) := by decide +kernel
theorem dL_law_197 : decode cL_law 197 = .ok (.iaload, 1) := by decide +kernel
theorem dL_law_198 : decode cL_law 198 = .ok (.aload_n 0, 1) := by decide +kernel
theorem dL_law_199 : decode cL_law 199 = .ok (.iload_n 3, 1) := by decide +kernel
theorem dL_law_200 : decode cL_law 200 = .ok (.iconst 2, 1) := by decide +kernel
theorem dL_law_201 : decode cL_law 201 = .ok (.iadd, 1) := by decide +kernel
theorem dL_law_202 : decode cL_law 202 = .ok (.iaload, 1) := by decide +kernel
theorem dL_law_203 : decode cL_law 203 = .ok (.aload_n 0, 1) := by decide +kernel
theorem dL_law_204 : decode cL_law 204 = .ok (.iload_n 3, 1) := by decide +kernel
theorem dL_law_205 : decode cL_law 205 = .ok (.iconst 3, 1) := by decide +kernel
theorem dL_law_206 : decode cL_law 206 = .ok (.iadd, 1) := by decide +kernel
theorem dL_law_207 : decode cL_law 207 = .ok (.iaload, 1) := by decide +kernel
theorem dL_law_208 : decode cL_law 208 = .ok (.aload_n 0, 1) := by decide +kernel
theorem dL_law_209 : decode cL_law 209 = .ok (.iload_n 3, 1) := by decide +kernel
theorem dL_law_210 : decode cL_law 210 = .ok (.iconst 4, 1) := by decide +kernel
theorem dL_law_211 : decode cL_law 211 = .ok (.iadd, 1) := by decide +kernel
theorem dL_law_212 : decode cL_law 212 = .ok (.iaload, 1) := by decide +kernel
theorem dL_law_213 : decode cL_law 213 = .ok (.aload_n 0, 1) := by decide +kernel
theorem dL_law_214 : decode cL_law 214 = .ok (.iload_n 3, 1) := by decide +kernel
theorem dL_law_215 : decode cL_law 215 = .ok (.iconst 5, 1) := by decide +kernel
theorem dL_law_216 : decode cL_law 216 = .ok (.iadd, 1) := by decide +kernel
theorem dL_law_217 : decode cL_law 217 = .ok (.iaload, 1) := by decide +kernel
theorem dL_law_218 : decode cL_law 218 = .ok (.invokevirtual 23, 3) := by decide +kernel
theorem dL_law_221 : decode cL_law 221 = .ok (.aload_n 2, 1) := by decide +kernel
theorem dL_law_222 : decode cL_law 222 = .ok (.aload_n 0, 1) := by decide +kernel
theorem dL_law_223 : decode cL_law 223 = .ok (.iload_n 3, 1) := by decide +kernel
theorem dL_law_224 : decode cL_law 224 = .ok (.iconst 1, 1) := by decide +kernel
theorem dL_law_225 : decode cL_law 225 = .ok (.iadd, 1) := by decide +kernel
theorem dL_law_226 : decode cL_law 226 = .ok (.iaload, 1) := by decide +kernel
theorem dL_law_227 : decode cL_law 227 = .ok (.aload_n 0, 1) := by decide +kernel
theorem dL_law_228 : decode cL_law 228 = .ok (.iload_n 3, 1) := by decide +kernel
theorem dL_law_229 : decode cL_law 229 = .ok (.iconst 2, 1) := by decide +kernel
theorem dL_law_230 : decode cL_law 230 = .ok (.iadd, 1) := by decide +kernel
theorem dL_law_231 : decode cL_law 231 = .ok (.iaload, 1) := by decide +kernel
theorem dL_law_232 : decode cL_law 232 = .ok (.aload_n 0, 1) := by decide +kernel
theorem dL_law_233 : decode cL_law 233 = .ok (.iload_n 3, 1) := by decide +kernel
theorem dL_law_234 : decode cL_law 234 = .ok (.iconst 3, 1) := by decide +kernel
theorem dL_law_235 : decode cL_law 235 = .ok (.iadd, 1) := by decide +kernel
theorem dL_law_236 : decode cL_law 236 = .ok (.iaload, 1) := by decide +kernel
theorem dL_law_237 : decode cL_law 237 = .ok (.aload_n 0, 1) := by decide +kernel
theorem dL_law_238 : decode cL_law 238 = .ok (.iload_n 3, 1) := by decide +kernel
theorem dL_law_239 : decode cL_law 239 = .ok (.iconst 4, 1) := by decide +kernel
theorem dL_law_240 : decode cL_law 240 = .ok (.iadd, 1) := by decide +kernel
theorem dL_law_241 : decode cL_law 241 = .ok (.iaload, 1) := by decide +kernel
theorem dL_law_242 : decode cL_law 242 = .ok (.aload_n 0, 1) := by decide +kernel
theorem dL_law_243 : decode cL_law 243 = .ok (.iload_n 3, 1) := by decide +kernel
theorem dL_law_244 : decode cL_law 244 = .ok (.iconst 5, 1) := by decide +kernel
theorem dL_law_245 : decode cL_law 245 = .ok (.iadd, 1) := by decide +kernel
theorem dL_law_246 : decode cL_law 246 = .ok (.iaload, 1) := by decide +kernel
theorem dL_law_247 : decode cL_law 247 = .ok (.invokevirtual 27, 3) := by decide +kernel
theorem dL_law_250 : decode cL_law 250 = .ok (.if_icmp .eq 533, 3) := by decide +kernel
theorem dL_law_253 : decode cL_law 253 = .ok (.iconst 0, 1) := by decide +kernel
theorem dL_law_254 : decode cL_law 254 = .ok (.ireturn, 1) := by decide +kernel
theorem dL_law_255 : decode cL_law 255 = .ok (.aload_n 1, 1) := by decide +kernel
theorem dL_law_256 : decode cL_law 256 = .ok (.aload_n 0, 1) := by decide +kernel
theorem dL_law_257 : decode cL_law 257 = .ok (.iload_n 3, 1) := by decide +kernel
theorem dL_law_258 : decode cL_law 258 = .ok (.iconst 1, 1) := by decide +kernel
theorem dL_law_259 : decode cL_law 259 = .ok (.iadd, 1) := by decide +kernel
theorem dL_law_260 : decode cL_law 260 = .ok (.iaload, 1) := by decide +kernel
theorem dL_law_261 : decode cL_law 261 = .ok (.aload_n 0, 1) := by decide +kernel
theorem dL_law_262 : decode cL_law 262 = .ok (.iload_n 3, 1) := by decide +kernel
theorem dL_law_263 : decode cL_law 263 = .ok (.iconst 2, 1) := by decide +kernel
theorem dL_law_264 : decode cL_law 264 = .ok (.iadd, 1) := by decide +kernel
theorem dL_law_265 : decode cL_law 265 = .ok (.iaload, 1) := by decide +kernel
theorem dL_law_266 : decode cL_law 266 = .ok (.aload_n 0, 1) := by decide +kernel
theorem dL_law_267 : decode cL_law 267 = .ok (.iload_n 3, 1) := by decide +kernel
theorem dL_law_268 : decode cL_law 268 = .ok (.iconst 3, 1) := by decide +kernel
theorem dL_law_269 : decode cL_law 269 = .ok (.iadd, 1) := by decide +kernel
theorem dL_law_270 : decode cL_law 270 = .ok (.iaload, 1) := by decide +kernel
theorem dL_law_271 : decode cL_law 271 = .ok (.invokevirtual 28, 3) := by decide +kernel
theorem dL_law_274 : decode cL_law 274 = .ok (.aload_n 2, 1) := by decide +kernel
theorem dL_law_275 : decode cL_law 275 = .ok (.aload_n 0, 1) := by decide +kernel
theorem dL_law_276 : decode cL_law 276 = .ok (.iload_n 3, 1) := by decide +kernel
theorem dL_law_277 : decode cL_law 277 = .ok (.iconst 1, 1) := by decide +kernel
theorem dL_law_278 : decode cL_law 278 = .ok (.iadd, 1) := by decide +kernel
theorem dL_law_279 : decode cL_law 279 = .ok (.iaload, 1) := by decide +kernel
theorem dL_law_280 : decode cL_law 280 = .ok (.aload_n 0, 1) := by decide +kernel
theorem dL_law_281 : decode cL_law 281 = .ok (.iload_n 3, 1) := by decide +kernel
theorem dL_law_282 : decode cL_law 282 = .ok (.iconst 2, 1) := by decide +kernel
theorem dL_law_283 : decode cL_law 283 = .ok (.iadd, 1) := by decide +kernel
theorem dL_law_284 : decode cL_law 284 = .ok (.iaload, 1) := by decide +kernel
theorem dL_law_285 : decode cL_law 285 = .ok (.aload_n 0, 1) := by decide +kernel
theorem dL_law_286 : decode cL_law 286 = .ok (.iload_n 3, 1) := by decide +kernel
theorem dL_law_287 : decode cL_law 287 = .ok (.iconst 3, 1) := by decide +kernel
theorem dL_law_288 : decode cL_law 288 = .ok (.iadd, 1) := by decide +kernel
theorem dL_law_289 : decode cL_law 289 = .ok (.iaload, 1) := by decide +kernel
theorem dL_law_290 : decode cL_law 290 = .ok (.invokevirtual 32, 3) := by decide +kernel
theorem dL_law_293 : decode cL_law 293 = .ok (.if_icmp .eq 490, 3) := by decide +kernel
theorem dL_law_296 : decode cL_law 296 = .ok (.iconst 0, 1) := by decide +kernel
theorem dL_law_297 : decode cL_law 297 = .ok (.ireturn, 1) := by decide +kernel
theorem dL_law_298 : decode cL_law 298 = .ok (.aload_n 1, 1) := by decide +kernel
theorem dL_law_299 : decode cL_law 299 = .ok (.aload_n 0, 1) := by decide +kernel
theorem dL_law_300 : decode cL_law 300 = .ok (.iload_n 3, 1) := by decide +kernel
theorem dL_law_301 : decode cL_law 301 = .ok (.iconst 1, 1) := by decide +kernel
theorem dL_law_302 : decode cL_law 302 = .ok (.iadd, 1) := by decide +kernel
theorem dL_law_303 : decode cL_law 303 = .ok (.iaload, 1) := by decide +kernel
theorem dL_law_304 : decode cL_law 304 = .ok (.aload_n 0, 1) := by decide +kernel
theorem dL_law_305 : decode cL_law 305 = .ok (.iload_n 3, 1) := by decide +kernel
theorem dL_law_306 : decode cL_law 306 = .ok (.iconst 2, 1) := by decide +kernel
theorem dL_law_307 : decode cL_law 307 = .ok (.iadd, 1) := by decide +kernel
theorem dL_law_308 : decode cL_law 308 = .ok (.iaload, 1) := by decide +kernel
theorem dL_law_309 : decode cL_law 309 = .ok (.aload_n 0, 1) := by decide +kernel
theorem dL_law_310 : decode cL_law 310 = .ok (.iload_n 3, 1) := by decide +kernel
theorem dL_law_311 : decode cL_law 311 = .ok (.iconst 3, 1) := by decide +kernel
theorem dL_law_312 : decode cL_law 312 = .ok (.iadd, 1) := by decide +kernel
theorem dL_law_313 : decode cL_law 313 = .ok (.iaload, 1) := by decide +kernel
theorem dL_law_314 : decode cL_law 314 = .ok (.aload_n 0, 1) := by decide +kernel
theorem dL_law_315 : decode cL_law 315 = .ok (.iload_n 3, 1) := by decide +kernel
theorem dL_law_316 : decode cL_law 316 = .ok (.iconst 4, 1) := by decide +kernel
theorem dL_law_317 : decode cL_law 317 = .ok (.iadd, 1) := by decide +kernel
theorem dL_law_318 : decode cL_law 318 = .ok (.iaload, 1) := by decide +kernel
theorem dL_law_319 : decode cL_law 319 = .ok (.invokevirtual 33, 3) := by decide +kernel
theorem dL_law_322 : decode cL_law 322 = .ok (.aload_n 2, 1) := by decide +kernel
theorem dL_law_323 : decode cL_law 323 = .ok (.aload_n 0, 1) := by decide +kernel
theorem dL_law_324 : decode cL_law 324 = .ok (.iload_n 3, 1) := by decide +kernel
theorem dL_law_325 : decode cL_law 325 = .ok (.iconst 1, 1) := by decide +kernel
theorem dL_law_326 : decode cL_law 326 = .ok (.iadd, 1) := by decide +kernel
theorem dL_law_327 : decode cL_law 327 = .ok (.iaload, 1) := by decide +kernel
theorem dL_law_328 : decode cL_law 328 = .ok (.aload_n 0, 1) := by decide +kernel
theorem dL_law_329 : decode cL_law 329 = .ok (.iload_n 3, 1) := by decide +kernel
theorem dL_law_330 : decode cL_law 330 = .ok (.iconst 2, 1) := by decide +kernel
theorem dL_law_331 : decode cL_law 331 = .ok (.iadd, 1) := by decide +kernel
theorem dL_law_332 : decode cL_law 332 = .ok (.iaload, 1) := by decide +kernel
theorem dL_law_333 : decode cL_law 333 = .ok (.aload_n 0, 1) := by decide +kernel
theorem dL_law_334 : decode cL_law 334 = .ok (.iload_n 3, 1) := by decide +kernel
theorem dL_law_335 : decode cL_law 335 = .ok (.iconst 3, 1) := by decide +kernel
theorem dL_law_336 : decode cL_law 336 = .ok (.iadd, 1) := by decide +kernel
theorem dL_law_337 : decode cL_law 337 = .ok (.iaload, 1) := by decide +kernel
theorem dL_law_338 : decode cL_law 338 = .ok (.aload_n 0, 1) := by decide +kernel
theorem dL_law_339 : decode cL_law 339 = .ok (.iload_n 3, 1) := by decide +kernel
theorem dL_law_340 : decode cL_law 340 = .ok (.iconst 4, 1) := by decide +kernel
theorem dL_law_341 : decode cL_law 341 = .ok (.iadd, 1) := by decide +kernel
theorem dL_law_342 : decode cL_law 342 = .ok (.iaload, 1) := by decide +kernel
theorem dL_law_343 : decode cL_law 343 = .ok (.invokevirtual 37, 3) := by decide +kernel
theorem dL_law_346 : decode cL_law 346 = .ok (.if_icmp .eq 437, 3) := by decide +kernel
theorem dL_law_349 : decode cL_law 349 = .ok (.iconst 0, 1) := by decide +kernel
theorem dL_law_350 : decode cL_law 350 = .ok (.ireturn, 1) := by decide +kernel
theorem dL_law_351 : decode cL_law 351 = .ok (.aload_n 1, 1) := by decide +kernel
theorem dL_law_352 : decode cL_law 352 = .ok (.aload_n 0, 1) := by decide +kernel
theorem dL_law_353 : decode cL_law 353 = .ok (.iload_n 3, 1) := by decide +kernel
theorem dL_law_354 : decode cL_law 354 = .ok (.iconst 1, 1) := by decide +kernel
theorem dL_law_355 : decode cL_law 355 = .ok (.iadd, 1) := by decide +kernel
theorem dL_law_356 : decode cL_law 356 = .ok (.iaload, 1) := by decide +kernel
theorem dL_law_357 : decode cL_law 357 = .ok (.invokevirtual 38, 3) := by decide +kernel
theorem dL_law_360 : decode cL_law 360 = .ok (.aload_n 2, 1) := by decide +kernel
theorem dL_law_361 : decode cL_law 361 = .ok (.aload_n 0, 1) := by decide +kernel
theorem dL_law_362 : decode cL_law 362 = .ok (.iload_n 3, 1) := by decide +kernel
theorem dL_law_363 : decode cL_law 363 = .ok (.iconst 1, 1) := by decide +kernel
theorem dL_law_364 : decode cL_law 364 = .ok (.iadd, 1) := by decide +kernel
theorem dL_law_365 : decode cL_law 365 = .ok (.iaload, 1) := by decide +kernel
theorem dL_law_366 : decode cL_law 366 = .ok (.invokevirtual 41, 3) := by decide +kernel
theorem dL_law_369 : decode cL_law 369 = .ok (.if_icmp .eq 414, 3) := by decide +kernel
theorem dL_law_372 : decode cL_law 372 = .ok (.iconst 0, 1) := by decide +kernel
theorem dL_law_373 : decode cL_law 373 = .ok (.ireturn, 1) := by decide +kernel
theorem dL_law_374 : decode cL_law 374 = .ok (.aload_n 1, 1) := by decide +kernel
theorem dL_law_375 : decode cL_law 375 = .ok (.aload_n 0, 1) := by decide +kernel
theorem dL_law_376 : decode cL_law 376 = .ok (.iload_n 3, 1) := by decide +kernel
theorem dL_law_377 : decode cL_law 377 = .ok (.iconst 1, 1) := by decide +kernel
theorem dL_law_378 : decode cL_law 378 = .ok (.iadd, 1) := by decide +kernel
theorem dL_law_379 : decode cL_law 379 = .ok (.iaload, 1) := by decide +kernel
theorem dL_law_380 : decode cL_law 380 = .ok (.invokevirtual 42, 3) := by decide +kernel
theorem dL_law_383 : decode cL_law 383 = .ok (.aload_n 2, 1) := by decide +kernel
theorem dL_law_384 : decode cL_law 384 = .ok (.aload_n 0, 1) := by decide +kernel
theorem dL_law_385 : decode cL_law 385 = .ok (.iload_n 3, 1) := by decide +kernel
theorem dL_law_386 : decode cL_law 386 = .ok (.iconst 1, 1) := by decide +kernel
theorem dL_law_387 : decode cL_law 387 = .ok (.iadd, 1) := by decide +kernel
theorem dL_law_388 : decode cL_law 388 = .ok (.iaload, 1) := by decide +kernel
theorem dL_law_389 : decode cL_law 389 = .ok (.invokevirtual 45, 3) := by decide +kernel
theorem dL_law_392 : decode cL_law 392 = .ok (.if_icmp .eq 391, 3) := by decide +kernel
theorem dL_law_395 : decode cL_law 395 = .ok (.iconst 0, 1) := by decide +kernel
theorem dL_law_396 : decode cL_law 396 = .ok (.ireturn, 1) := by decide +kernel
theorem dL_law_397 : decode cL_law 397 = .ok (.aload_n 1, 1) := by decide +kernel
theorem dL_law_398 : decode cL_law 398 = .ok (.aload_n 0, 1) := by decide +kernel
theorem dL_law_399 : decode cL_law 399 = .ok (.iload_n 3, 1) := by decide +kernel
theorem dL_law_400 : decode cL_law 400 = .ok (.iconst 1, 1) := by decide +kernel
theorem dL_law_401 : decode cL_law 401 = .ok (.iadd, 1) := by decide +kernel
theorem dL_law_402 : decode cL_law 402 = .ok (.iaload, 1) := by decide +kernel
theorem dL_law_403 : decode cL_law 403 = .ok (.aload_n 0, 1) := by decide +kernel
theorem dL_law_404 : decode cL_law 404 = .ok (.iload_n 3, 1) := by decide +kernel
theorem dL_law_405 : decode cL_law 405 = .ok (.iconst 2, 1) := by decide +kernel
theorem dL_law_406 : decode cL_law 406 = .ok (.iadd, 1) := by decide +kernel
theorem dL_law_407 : decode cL_law 407 = .ok (.iaload, 1) := by decide +kernel
theorem dL_law_408 : decode cL_law 408 = .ok (.invokevirtual 46, 3) := by decide +kernel
theorem dL_law_411 : decode cL_law 411 = .ok (.aload_n 2, 1) := by decide +kernel
theorem dL_law_412 : decode cL_law 412 = .ok (.aload_n 0, 1) := by decide +kernel
theorem dL_law_413 : decode cL_law 413 = .ok (.iload_n 3, 1) := by decide +kernel
theorem dL_law_414 : decode cL_law 414 = .ok (.iconst 1, 1) := by decide +kernel
theorem dL_law_415 : decode cL_law 415 = .ok (.iadd, 1) := by decide +kernel
theorem dL_law_416 : decode cL_law 416 = .ok (.iaload, 1) := by decide +kernel
theorem dL_law_417 : decode cL_law 417 = .ok (.aload_n 0, 1) := by decide +kernel
theorem dL_law_418 : decode cL_law 418 = .ok (.iload_n 3, 1) := by decide +kernel
theorem dL_law_419 : decode cL_law 419 = .ok (.iconst 2, 1) := by decide +kernel
theorem dL_law_420 : decode cL_law 420 = .ok (.iadd, 1) := by decide +kernel
theorem dL_law_421 : decode cL_law 421 = .ok (.iaload, 1) := by decide +kernel
theorem dL_law_422 : decode cL_law 422 = .ok (.invokevirtual 49, 3) := by decide +kernel
theorem dL_law_425 : decode cL_law 425 = .ok (.if_icmp .eq 358, 3) := by decide +kernel
theorem dL_law_428 : decode cL_law 428 = .ok (.iconst 0, 1) := by decide +kernel
theorem dL_law_429 : decode cL_law 429 = .ok (.ireturn, 1) := by decide +kernel
theorem dL_law_430 : decode cL_law 430 = .ok (.aload_n 1, 1) := by decide +kernel
theorem dL_law_431 : decode cL_law 431 = .ok (.aload_n 0, 1) := by decide +kernel
theorem dL_law_432 : decode cL_law 432 = .ok (.iload_n 3, 1) := by decide +kernel
theorem dL_law_433 : decode cL_law 433 = .ok (.iconst 1, 1) := by decide +kernel
theorem dL_law_434 : decode cL_law 434 = .ok (.iadd, 1) := by decide +kernel
theorem dL_law_435 : decode cL_law 435 = .ok (.iaload, 1) := by decide +kernel
theorem dL_law_436 : decode cL_law 436 = .ok (.aload_n 0, 1) := by decide +kernel
theorem dL_law_437 : decode cL_law 437 = .ok (.iload_n 3, 1) := by decide +kernel
theorem dL_law_438 : decode cL_law 438 = .ok (.iconst 2, 1) := by decide +kernel
theorem dL_law_439 : decode cL_law 439 = .ok (.iadd, 1) := by decide +kernel
theorem dL_law_440 : decode cL_law 440 = .ok (.iaload, 1) := by decide +kernel
theorem dL_law_441 : decode cL_law 441 = .ok (.aload_n 0, 1) := by decide +kernel
theorem dL_law_442 : decode cL_law 442 = .ok (.iload_n 3, 1) := by decide +kernel
theorem dL_law_443 : decode cL_law 443 = .ok (.iconst 3, 1) := by decide +kernel
theorem dL_law_444 : decode cL_law 444 = .ok (.iadd, 1) := by decide +kernel
theorem dL_law_445 : decode cL_law 445 = .ok (.iaload, 1) := by decide +kernel
theorem dL_law_446 : decode cL_law 446 = .ok (.invokevirtual 50, 3) := by decide +kernel
theorem dL_law_449 : decode cL_law 449 = .ok (.aload_n 2, 1) := by decide +kernel
theorem dL_law_450 : decode cL_law 450 = .ok (.aload_n 0, 1) := by decide +kernel
theorem dL_law_451 : decode cL_law 451 = .ok (.iload_n 3, 1) := by decide +kernel
theorem dL_law_452 : decode cL_law 452 = .ok (.iconst 1, 1) := by decide +kernel
theorem dL_law_453 : decode cL_law 453 = .ok (.iadd, 1) := by decide +kernel
theorem dL_law_454 : decode cL_law 454 = .ok (.iaload, 1) := by decide +kernel
theorem dL_law_455 : decode cL_law 455 = .ok (.aload_n 0, 1) := by decide +kernel
theorem dL_law_456 : decode cL_law 456 = .ok (.iload_n 3, 1) := by decide +kernel
theorem dL_law_457 : decode cL_law 457 = .ok (.iconst 2, 1) := by decide +kernel
theorem dL_law_458 : decode cL_law 458 = .ok (.iadd, 1) := by decide +kernel
theorem dL_law_459 : decode cL_law 459 = .ok (.iaload, 1) := by decide +kernel
theorem dL_law_460 : decode cL_law 460 = .ok (.aload_n 0, 1) := by decide +kernel
theorem dL_law_461 : decode cL_law 461 = .ok (.iload_n 3, 1) := by decide +kernel
theorem dL_law_462 : decode cL_law 462 = .ok (.iconst 3, 1) := by decide +kernel
theorem dL_law_463 : decode cL_law 463 = .ok (.iadd, 1) := by decide +kernel
theorem dL_law_464 : decode cL_law 464 = .ok (.iaload, 1) := by decide +kernel
theorem dL_law_465 : decode cL_law 465 = .ok (.invokevirtual 53, 3) := by decide +kernel
theorem dL_law_468 : decode cL_law 468 = .ok (.if_icmp .eq 315, 3) := by decide +kernel
theorem dL_law_471 : decode cL_law 471 = .ok (.iconst 0, 1) := by decide +kernel
theorem dL_law_472 : decode cL_law 472 = .ok (.ireturn, 1) := by decide +kernel
theorem dL_law_473 : decode cL_law 473 = .ok (.aload_n 1, 1) := by decide +kernel
theorem dL_law_474 : decode cL_law 474 = .ok (.aload_n 0, 1) := by decide +kernel
theorem dL_law_475 : decode cL_law 475 = .ok (.iload_n 3, 1) := by decide +kernel
theorem dL_law_476 : decode cL_law 476 = .ok (.iconst 1, 1) := by decide +kernel
theorem dL_law_477 : decode cL_law 477 = .ok (.iadd, 1) := by decide +kernel
theorem dL_law_478 : decode cL_law 478 = .ok (.iaload, 1) := by decide +kernel
theorem dL_law_479 : decode cL_law 479 = .ok (.aload_n 0, 1) := by decide +kernel
theorem dL_law_480 : decode cL_law 480 = .ok (.iload_n 3, 1) := by decide +kernel
theorem dL_law_481 : decode cL_law 481 = .ok (.iconst 2, 1) := by decide +kernel
theorem dL_law_482 : decode cL_law 482 = .ok (.iadd, 1) := by decide +kernel
theorem dL_law_483 : decode cL_law 483 = .ok (.iaload, 1) := by decide +kernel
theorem dL_law_484 : decode cL_law 484 = .ok (.invokevirtual 54, 3) := by decide +kernel
theorem dL_law_487 : decode cL_law 487 = .ok (.aload_n 2, 1) := by decide +kernel
theorem dL_law_488 : decode cL_law 488 = .ok (.aload_n 0, 1) := by decide +kernel
theorem dL_law_489 : decode cL_law 489 = .ok (.iload_n 3, 1) := by decide +kernel
theorem dL_law_490 : decode cL_law 490 = .ok (.iconst 1, 1) := by decide +kernel
theorem dL_law_491 : decode cL_law 491 = .ok (.iadd, 1) := by decide +kernel
theorem dL_law_492 : decode cL_law 492 = .ok (.iaload, 1) := by decide +kernel
theorem dL_law_493 : decode cL_law 493 = .ok (.aload_n 0, 1) := by decide +kernel
theorem dL_law_494 : decode cL_law 494 = .ok (.iload_n 3, 1) := by decide +kernel
theorem dL_law_495 : decode cL_law 495 = .ok (.iconst 2, 1) := by decide +kernel
theorem dL_law_496 : decode cL_law 496 = .ok (.iadd, 1) := by decide +kernel
theorem dL_law_497 : decode cL_law 497 = .ok (.iaload, 1) := by decide +kernel
theorem dL_law_498 : decode cL_law 498 = .ok (.invokevirtual 57, 3) := by decide +kernel
theorem dL_law_501 : decode cL_law 501 = .ok (.if_icmp .eq 282, 3) := by decide +kernel
theorem dL_law_504 : decode cL_law 504 = .ok (.iconst 0, 1) := by decide +kernel
theorem dL_law_505 : decode cL_law 505 = .ok (.ireturn, 1) := by decide +kernel
theorem dL_law_506 : decode cL_law 506 = .ok (.aload_n 1, 1) := by decide +kernel
theorem dL_law_507 : decode cL_law 507 = .ok (.aload_n 0, 1) := by decide +kernel
theorem dL_law_508 : decode cL_law 508 = .ok (.iload_n 3, 1) := by decide +kernel
theorem dL_law_509 : decode cL_law 509 = .ok (.iconst 1, 1) := by decide +kernel
theorem dL_law_510 : decode cL_law 510 = .ok (.iadd, 1) := by decide +kernel
theorem dL_law_511 : decode cL_law 511 = .ok (.iaload, 1) := by decide +kernel
theorem dL_law_512 : decode cL_law 512 = .ok (.aload_n 0, 1) := by decide +kernel
theorem dL_law_513 : decode cL_law 513 = .ok (.iload_n 3, 1) := by decide +kernel
theorem dL_law_514 : decode cL_law 514 = .ok (.iconst 2, 1) := by decide +kernel
theorem dL_law_515 : decode cL_law 515 = .ok (.iadd, 1) := by decide +kernel
theorem dL_law_516 : decode cL_law 516 = .ok (.iaload, 1) := by decide +kernel
theorem dL_law_517 : decode cL_law 517 = .ok (.aload_n 0, 1) := by decide +kernel
theorem dL_law_518 : decode cL_law 518 = .ok (.iload_n 3, 1) := by decide +kernel
theorem dL_law_519 : decode cL_law 519 = .ok (.iconst 3, 1) := by decide +kernel
theorem dL_law_520 : decode cL_law 520 = .ok (.iadd, 1) := by decide +kernel
theorem dL_law_521 : decode cL_law 521 = .ok (.iaload, 1) := by decide +kernel
theorem dL_law_522 : decode cL_law 522 = .ok (.invokevirtual 58, 3) := by decide +kernel
theorem dL_law_525 : decode cL_law 525 = .ok (.aload_n 2, 1) := by decide +kernel
theorem dL_law_526 : decode cL_law 526 = .ok (.aload_n 0, 1) := by decide +kernel
theorem dL_law_527 : decode cL_law 527 = .ok (.iload_n 3, 1) := by decide +kernel
theorem dL_law_528 : decode cL_law 528 = .ok (.iconst 1, 1) := by decide +kernel
theorem dL_law_529 : decode cL_law 529 = .ok (.iadd, 1) := by decide +kernel
theorem dL_law_530 : decode cL_law 530 = .ok (.iaload, 1) := by decide +kernel
theorem dL_law_531 : decode cL_law 531 = .ok (.aload_n 0, 1) := by decide +kernel
theorem dL_law_532 : decode cL_law 532 = .ok (.iload_n 3, 1) := by decide +kernel
theorem dL_law_533 : decode cL_law 533 = .ok (.iconst 2, 1) := by decide +kernel
theorem dL_law_534 : decode cL_law 534 = .ok (.iadd, 1) := by decide +kernel
theorem dL_law_535 : decode cL_law 535 = .ok (.iaload, 1) := by decide +kernel
theorem dL_law_536 : decode cL_law 536 = .ok (.aload_n 0, 1) := by decide +kernel
theorem dL_law_537 : decode cL_law 537 = .ok (.iload_n 3, 1) := by decide +kernel
theorem dL_law_538 : decode cL_law 538 = .ok (.iconst 3, 1) := by decide +kernel
theorem dL_law_539 : decode cL_law 539 = .ok (.iadd, 1) := by decide +kernel
theorem dL_law_540 : decode cL_law 540 = .ok (.iaload, 1) := by decide +kernel
theorem dL_law_541 : decode cL_law 541 = .ok (.invokevirtual 61, 3) := by decide +kernel
theorem dL_law_544 : decode cL_law 544 = .ok (.if_icmp .eq 239, 3) := by decide +kernel
theorem dL_law_547 : decode cL_law 547 = .ok (.iconst 0, 1) := by decide +kernel
theorem dL_law_548 : decode cL_law 548 = .ok (.ireturn, 1) := by decide +kernel
theorem dL_law_549 : decode cL_law 549 = .ok (.aload_n 1, 1) := by decide +kernel
theorem dL_law_550 : decode cL_law 550 = .ok (.aload_n 0, 1) := by decide +kernel
theorem dL_law_551 : decode cL_law 551 = .ok (.iload_n 3, 1) := by decide +kernel
theorem dL_law_552 : decode cL_law 552 = .ok (.iconst 1, 1) := by decide +kernel
theorem dL_law_553 : decode cL_law 553 = .ok (.iadd, 1) := by decide +kernel
theorem dL_law_554 : decode cL_law 554 = .ok (.iaload, 1) := by decide +kernel
theorem dL_law_555 : decode cL_law 555 = .ok (.aload_n 0, 1) := by decide +kernel
theorem dL_law_556 : decode cL_law 556 = .ok (.iload_n 3, 1) := by decide +kernel
theorem dL_law_557 : decode cL_law 557 = .ok (.iconst 2, 1) := by decide +kernel
theorem dL_law_558 : decode cL_law 558 = .ok (.iadd, 1) := by decide +kernel
theorem dL_law_559 : decode cL_law 559 = .ok (.iaload, 1) := by decide +kernel
theorem dL_law_560 : decode cL_law 560 = .ok (.invokevirtual 62, 3) := by decide +kernel
theorem dL_law_563 : decode cL_law 563 = .ok (.aload_n 2, 1) := by decide +kernel
theorem dL_law_564 : decode cL_law 564 = .ok (.aload_n 0, 1) := by decide +kernel
theorem dL_law_565 : decode cL_law 565 = .ok (.iload_n 3, 1) := by decide +kernel
theorem dL_law_566 : decode cL_law 566 = .ok (.iconst 1, 1) := by decide +kernel
theorem dL_law_567 : decode cL_law 567 = .ok (.iadd, 1) := by decide +kernel
theorem dL_law_568 : decode cL_law 568 = .ok (.iaload, 1) := by decide +kernel
theorem dL_law_569 : decode cL_law 569 = .ok (.aload_n 0, 1) := by decide +kernel
theorem dL_law_570 : decode cL_law 570 = .ok (.iload_n 3, 1) := by decide +kernel
theorem dL_law_571 : decode cL_law 571 = .ok (.iconst 2, 1) := by decide +kernel
theorem dL_law_572 : decode cL_law 572 = .ok (.iadd, 1) := by decide +kernel
theorem dL_law_573 : decode cL_law 573 = .ok (.iaload, 1) := by decide +kernel
theorem dL_law_574 : decode cL_law 574 = .ok (.invokevirtual 65, 3) := by decide +kernel
theorem dL_law_577 : decode cL_law 577 = .ok (.if_icmp .eq 206, 3) := by decide +kernel
theorem dL_law_580 : decode cL_law 580 = .ok (.iconst 0, 1) := by decide +kernel
theorem dL_law_581 : decode cL_law 581 = .ok (.ireturn, 1) := by decide +kernel
theorem dL_law_582 : decode cL_law 582 = .ok (.aload_n 1, 1) := by decide +kernel
theorem dL_law_583 : decode cL_law 583 = .ok (.aload_n 0, 1) := by decide +kernel
theorem dL_law_584 : decode cL_law 584 = .ok (.iload_n 3, 1) := by decide +kernel
theorem dL_law_585 : decode cL_law 585 = .ok (.iconst 1, 1) := by decide +kernel
theorem dL_law_586 : decode cL_law 586 = .ok (.iadd, 1) := by decide +kernel
theorem dL_law_587 : decode cL_law 587 = .ok (.iaload, 1) := by decide +kernel
theorem dL_law_588 : decode cL_law 588 = .ok (.invokevirtual 66, 3) := by decide +kernel
theorem dL_law_591 : decode cL_law 591 = .ok (.aload_n 2, 1) := by decide +kernel
theorem dL_law_592 : decode cL_law 592 = .ok (.aload_n 0, 1) := by decide +kernel
theorem dL_law_593 : decode cL_law 593 = .ok (.iload_n 3, 1) := by decide +kernel
theorem dL_law_594 : decode cL_law 594 = .ok (.iconst 1, 1) := by decide +kernel
theorem dL_law_595 : decode cL_law 595 = .ok (.iadd, 1) := by decide +kernel
theorem dL_law_596 : decode cL_law 596 = .ok (.iaload, 1) := by decide +kernel
theorem dL_law_597 : decode cL_law 597 = .ok (.invokevirtual 69, 3) := by decide +kernel
theorem dL_law_600 : decode cL_law 600 = .ok (.if_icmp .eq 183, 3) := by decide +kernel
theorem dL_law_603 : decode cL_law 603 = .ok (.iconst 0, 1) := by decide +kernel
theorem dL_law_604 : decode cL_law 604 = .ok (.ireturn, 1) := by decide +kernel
theorem dL_law_605 : decode cL_law 605 = .ok (.aload_n 1, 1) := by decide +kernel
theorem dL_law_606 : decode cL_law 606 = .ok (.aload_n 0, 1) := by decide +kernel
theorem dL_law_607 : decode cL_law 607 = .ok (.iload_n 3, 1) := by decide +kernel
theorem dL_law_608 : decode cL_law 608 = .ok (.iconst 1, 1) := by decide +kernel
theorem dL_law_609 : decode cL_law 609 = .ok (.iadd, 1) := by decide +kernel
theorem dL_law_610 : decode cL_law 610 = .ok (.iaload, 1) := by decide +kernel
theorem dL_law_611 : decode cL_law 611 = .ok (.aload_n 0, 1) := by decide +kernel
theorem dL_law_612 : decode cL_law 612 = .ok (.iload_n 3, 1) := by decide +kernel
theorem dL_law_613 : decode cL_law 613 = .ok (.iconst 2, 1) := by decide +kernel
theorem dL_law_614 : decode cL_law 614 = .ok (.iadd, 1) := by decide +kernel
theorem dL_law_615 : decode cL_law 615 = .ok (.iaload, 1) := by decide +kernel
theorem dL_law_616 : decode cL_law 616 = .ok (.aload_n 0, 1) := by decide +kernel
theorem dL_law_617 : decode cL_law 617 = .ok (.iload_n 3, 1) := by decide +kernel
theorem dL_law_618 : decode cL_law 618 = .ok (.iconst 3, 1) := by decide +kernel
theorem dL_law_619 : decode cL_law 619 = .ok (.iadd, 1) := by decide +kernel
theorem dL_law_620 : decode cL_law 620 = .ok (.iaload, 1) := by decide +kernel
theorem dL_law_621 : decode cL_law 621 = .ok (.invokevirtual 70, 3) := by decide +kernel
theorem dL_law_624 : decode cL_law 624 = .ok (.aload_n 2, 1) := by decide +kernel
theorem dL_law_625 : decode cL_law 625 = .ok (.aload_n 0, 1) := by decide +kernel
theorem dL_law_626 : decode cL_law 626 = .ok (.iload_n 3, 1) := by decide +kernel
theorem dL_law_627 : decode cL_law 627 = .ok (.iconst 1, 1) := by decide +kernel
theorem dL_law_628 : decode cL_law 628 = .ok (.iadd, 1) := by decide +kernel
theorem dL_law_629 : decode cL_law 629 = .ok (.iaload, 1) := by decide +kernel
theorem dL_law_630 : decode cL_law 630 = .ok (.aload_n 0, 1) := by decide +kernel
theorem dL_law_631 : decode cL_law 631 = .ok (.iload_n 3, 1) := by decide +kernel
theorem dL_law_632 : decode cL_law 632 = .ok (.iconst 2, 1) := by decide +kernel
theorem dL_law_633 : decode cL_law 633 = .ok (.iadd, 1) := by decide +kernel
theorem dL_law_634 : decode cL_law 634 = .ok (.iaload, 1) := by decide +kernel
theorem dL_law_635 : decode cL_law 635 = .ok (.aload_n 0, 1) := by decide +kernel
theorem dL_law_636 : decode cL_law 636 = .ok (.iload_n 3, 1) := by decide +kernel
theorem dL_law_637 : decode cL_law 637 = .ok (.iconst 3, 1) := by decide +kernel
theorem dL_law_638 : decode cL_law 638 = .ok (.iadd, 1) := by decide +kernel
theorem dL_law_639 : decode cL_law 639 = .ok (.iaload, 1) := by decide +kernel
theorem dL_law_640 : decode cL_law 640 = .ok (.invokevirtual 73, 3) := by decide +kernel
theorem dL_law_643 : decode cL_law 643 = .ok (.if_icmp .eq 140, 3) := by decide +kernel
theorem dL_law_646 : decode cL_law 646 = .ok (.iconst 0, 1) := by decide +kernel
theorem dL_law_647 : decode cL_law 647 = .ok (.ireturn, 1) := by decide +kernel
theorem dL_law_648 : decode cL_law 648 = .ok (.aload_n 1, 1) := by decide +kernel
theorem dL_law_649 : decode cL_law 649 = .ok (.aload_n 0, 1) := by decide +kernel
theorem dL_law_650 : decode cL_law 650 = .ok (.iload_n 3, 1) := by decide +kernel
theorem dL_law_651 : decode cL_law 651 = .ok (.iconst 1, 1) := by decide +kernel
theorem dL_law_652 : decode cL_law 652 = .ok (.iadd, 1) := by decide +kernel
theorem dL_law_653 : decode cL_law 653 = .ok (.iaload, 1) := by decide +kernel
theorem dL_law_654 : decode cL_law 654 = .ok (.invokevirtual 74, 3) := by decide +kernel
theorem dL_law_657 : decode cL_law 657 = .ok (.aload_n 2, 1) := by decide +kernel
theorem dL_law_658 : decode cL_law 658 = .ok (.aload_n 0, 1) := by decide +kernel
theorem dL_law_659 : decode cL_law 659 = .ok (.iload_n 3, 1) := by decide +kernel
theorem dL_law_660 : decode cL_law 660 = .ok (.iconst 1, 1) := by decide +kernel
theorem dL_law_661 : decode cL_law 661 = .ok (.iadd, 1) := by decide +kernel
theorem dL_law_662 : decode cL_law 662 = .ok (.iaload, 1) := by decide +kernel
theorem dL_law_663 : decode cL_law 663 = .ok (.invokevirtual 77, 3) := by decide +kernel
theorem dL_law_666 : decode cL_law 666 = .ok (.if_icmp .eq 117, 3) := by decide +kernel
theorem dL_law_669 : decode cL_law 669 = .ok (.iconst 0, 1) := by decide +kernel
theorem dL_law_670 : decode cL_law 670 = .ok (.ireturn, 1) := by decide +kernel
theorem dL_law_671 : decode cL_law 671 = .ok (.aload_n 1, 1) := by decide +kernel
theorem dL_law_672 : decode cL_law 672 = .ok (.invokevirtual 78, 3) := by decide +kernel
theorem dL_law_675 : decode cL_law 675 = .ok (.aload_n 2, 1) := by decide +kernel
theorem dL_law_676 : decode cL_law 676 = .ok (.invokevirtual 82, 3) := by decide +kernel
theorem dL_law_679 : decode cL_law 679 = .ok (.if_icmp .eq 104, 3) := by decide +kernel
theorem dL_law_682 : decode cL_law 682 = .ok (.iconst 0, 1) := by decide +kernel
theorem dL_law_683 : decode cL_law 683 = .ok (.ireturn, 1) := by decide +kernel
theorem dL_law_684 : decode cL_law 684 = .ok (.aload_n 1, 1) := by decide +kernel
theorem dL_law_685 : decode cL_law 685 = .ok (.invokevirtual 83, 3) := by decide +kernel
theorem dL_law_688 : decode cL_law 688 = .ok (.aload_n 2, 1) := by decide +kernel
theorem dL_law_689 : decode cL_law 689 = .ok (.invokevirtual 86, 3) := by decide +kernel
theorem dL_law_692 : decode cL_law 692 = .ok (.if_icmp .eq 91, 3) := by decide +kernel
theorem dL_law_695 : decode cL_law 695 = .ok (.iconst 0, 1) := by decide +kernel
theorem dL_law_696 : decode cL_law 696 = .ok (.ireturn, 1) := by decide +kernel
theorem dL_law_697 : decode cL_law 697 = .ok (.aload_n 1, 1) := by decide +kernel
theorem dL_law_698 : decode cL_law 698 = .ok (.invokevirtual 87, 3) := by decide +kernel
theorem dL_law_701 : decode cL_law 701 = .ok (.aload_n 2, 1) := by decide +kernel
theorem dL_law_702 : decode cL_law 702 = .ok (.invokevirtual 90, 3) := by decide +kernel
theorem dL_law_705 : decode cL_law 705 = .ok (.if_icmp .eq 78, 3) := by decide +kernel
theorem dL_law_708 : decode cL_law 708 = .ok (.iconst 0, 1) := by decide +kernel
theorem dL_law_709 : decode cL_law 709 = .ok (.ireturn, 1) := by decide +kernel
theorem dL_law_710 : decode cL_law 710 = .ok (.aload_n 1, 1) := by decide +kernel
theorem dL_law_711 : decode cL_law 711 = .ok (.aload_n 0, 1) := by decide +kernel
theorem dL_law_712 : decode cL_law 712 = .ok (.iload_n 3, 1) := by decide +kernel
theorem dL_law_713 : decode cL_law 713 = .ok (.iconst 1, 1) := by decide +kernel
theorem dL_law_714 : decode cL_law 714 = .ok (.iadd, 1) := by decide +kernel
theorem dL_law_715 : decode cL_law 715 = .ok (.iaload, 1) := by decide +kernel
theorem dL_law_716 : decode cL_law 716 = .ok (.invokevirtual 91, 3) := by decide +kernel
theorem dL_law_719 : decode cL_law 719 = .ok (.aload_n 2, 1) := by decide +kernel
theorem dL_law_720 : decode cL_law 720 = .ok (.aload_n 0, 1) := by decide +kernel
theorem dL_law_721 : decode cL_law 721 = .ok (.iload_n 3, 1) := by decide +kernel
theorem dL_law_722 : decode cL_law 722 = .ok (.iconst 1, 1) := by decide +kernel
theorem dL_law_723 : decode cL_law 723 = .ok (.iadd, 1) := by decide +kernel
theorem dL_law_724 : decode cL_law 724 = .ok (.iaload, 1) := by decide +kernel
theorem dL_law_725 : decode cL_law 725 = .ok (.invokevirtual 94, 3) := by decide +kernel
theorem dL_law_728 : decode cL_law 728 = .ok (.if_icmp .eq 55, 3) := by decide +kernel
theorem dL_law_731 : decode cL_law 731 = .ok (.iconst 0, 1) := by decide +kernel
theorem dL_law_732 : decode cL_law 732 = .ok (.ireturn, 1) := by decide +kernel
theorem dL_law_733 : decode cL_law 733 = .ok (.aload_n 1, 1) := by decide +kernel
theorem dL_law_734 : decode cL_law 734 = .ok (.invokevirtual 95, 3) := by decide +kernel
theorem dL_law_737 : decode cL_law 737 = .ok (.aload_n 2, 1) := by decide +kernel
theorem dL_law_738 : decode cL_law 738 = .ok (.invokevirtual 98, 3) := by decide +kernel
theorem dL_law_741 : decode cL_law 741 = .ok (.if_icmp .eq 42, 3) := by decide +kernel
theorem dL_law_744 : decode cL_law 744 = .ok (.iconst 0, 1) := by decide +kernel
theorem dL_law_745 : decode cL_law 745 = .ok (.ireturn, 1) := by decide +kernel
theorem dL_law_746 : decode cL_law 746 = .ok (.aload_n 1, 1) := by decide +kernel
theorem dL_law_747 : decode cL_law 747 = .ok (.aload_n 0, 1) := by decide +kernel
theorem dL_law_748 : decode cL_law 748 = .ok (.iload_n 3, 1) := by decide +kernel
theorem dL_law_749 : decode cL_law 749 = .ok (.iconst 1, 1) := by decide +kernel
theorem dL_law_750 : decode cL_law 750 = .ok (.iadd, 1) := by decide +kernel
theorem dL_law_751 : decode cL_law 751 = .ok (.iaload, 1) := by decide +kernel
theorem dL_law_752 : decode cL_law 752 = .ok (.invokevirtual 99, 3) := by decide +kernel
theorem dL_law_755 : decode cL_law 755 = .ok (.aload_n 2, 1) := by decide +kernel
theorem dL_law_756 : decode cL_law 756 = .ok (.aload_n 0, 1) := by decide +kernel
theorem dL_law_757 : decode cL_law 757 = .ok (.iload_n 3, 1) := by decide +kernel
theorem dL_law_758 : decode cL_law 758 = .ok (.iconst 1, 1) := by decide +kernel
theorem dL_law_759 : decode cL_law 759 = .ok (.iadd, 1) := by decide +kernel
theorem dL_law_760 : decode cL_law 760 = .ok (.iaload, 1) := by decide +kernel
theorem dL_law_761 : decode cL_law 761 = .ok (.invokevirtual 102, 3) := by decide +kernel
theorem dL_law_764 : decode cL_law 764 = .ok (.if_icmp .eq 19, 3) := by decide +kernel
theorem dL_law_767 : decode cL_law 767 = .ok (.iconst 0, 1) := by decide +kernel
theorem dL_law_768 : decode cL_law 768 = .ok (.ireturn, 1) := by decide +kernel
theorem dL_law_769 : decode cL_law 769 = .ok (.aload_n 1, 1) := by decide +kernel
theorem dL_law_770 : decode cL_law 770 = .ok (.invokevirtual 103, 3) := by decide +kernel
theorem dL_law_773 : decode cL_law 773 = .ok (.aload_n 2, 1) := by decide +kernel
theorem dL_law_774 : decode cL_law 774 = .ok (.invokevirtual 107, 3) := by decide +kernel
theorem dL_law_777 : decode cL_law 777 = .ok (.lcmp, 1) := by decide +kernel
theorem dL_law_778 : decode cL_law 778 = .ok (.ifCond .eq 5, 3) := by decide +kernel
theorem dL_law_781 : decode cL_law 781 = .ok (.iconst 0, 1) := by decide +kernel
theorem dL_law_782 : decode cL_law 782 = .ok (.ireturn, 1) := by decide +kernel
theorem dL_law_783 : decode cL_law 783 = .ok (.iinc 3 6, 3) := by decide +kernel
theorem dL_law_786 : decode cL_law 786 = .ok (.goto (-768), 3) := by decide +kernel
theorem dL_law_789 : decode cL_law 789 = .ok (.iconst 1, 1) := by decide +kernel
theorem dL_law_790 : decode cL_law 790 = .ok (.ireturn, 1) := by decide +kernel
