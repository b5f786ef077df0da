theorem dX5_writer_105 : decode cX5_writer 105 = .ok (.aload_n 0, 1) := by decide +kernel
theorem dX5_writer_106 : decode cX5_writer 106 = .ok (.getfield 18, 3) := by decide +kernel
theorem dX5_writer_109 : decode cX5_writer 109 = .ok (.getfield 82, 3) := by decide +kernel
theorem dX5_writer_112 : decode cX5_writer 112 = .ok (.aload_n 3, 1) := by decide +kernel
theorem dX5_writer_113 : decode cX5_writer 113 = .ok (.getfield 85, 3) := by decide +kernel
theorem dX5_writer_116 : decode cX5_writer 116 = .ok (.isub, 1) := by decide +kernel
theorem dX5_writer_117 : decode cX5_writer 117 = .ok (.goto 4, 3) := by decide +kernel
theorem dX5_writer_120 : decode cX5_writer 120 = .ok (.iconst (-1), 1) := by decide +kernel
theorem dX5_writer_121 : decode cX5_writer 121 = .ok (.ireturn, 1) := by decide +kernel
theorem dX5_writer_122 : decode cX5_writer 122 = .ok (.aload_n 0, 1) := by decide +kernel
theorem dX5_writer_123 : decode cX5_writer 123 = .ok (.getfield 11, 3) := by decide +kernel
theorem dX5_writer_126 : decode cX5_writer 126 = .ok (.iload_n 2, 1) := by decide +kernel
theorem dX5_writer_127 : decode cX5_writer 127 = .ok (.bipush 6, 2) := by decide +kernel
theorem dX5_writer_129 : decode cX5_writer 129 = .ok (.isub, 1) := by decide +kernel
theorem dX5_writer_130 : decode cX5_writer 130 = .ok (.aaload, 1) := by decide +kernel
theorem dX5_writer_131 : decode cX5_writer 131 = .ok (.iload_n 1, 1) := by decide +kernel
theorem dX5_writer_132 : decode cX5_writer 132 = .ok (.aload_n 3, 1) := by decide +kernel
theorem dX5_writer_133 : decode cX5_writer 133 = .ok (.getfield 69, 3) := by decide +kernel
theorem dX5_writer_136 : decode cX5_writer 136 = .ok (.invokevirtual 95, 3) := by decide +kernel
theorem dX5_writer_139 : decode cX5_writer 139 = .ok (.ireturn, 1) := by decide +kernel
theorem dX5_entry_0 : decode cX5_entry 0 = .ok (.iload_n 1, 1) := by decide +kernel
theorem dX5_entry_1 : decode cX5_entry 1 = .ok (.iconst 3, 1) := by decide +kernel
theorem dX5_entry_2 : decode cX5_entry 2 = .ok (.invokestatic 52, 3) := by decide +kernel
theorem dX5_entry_5 : decode cX5_entry 5 = .ok (.ifCond .ne 28, 3) := by decide +kernel
theorem dX5_entry_8 : decode cX5_entry 8 = .ok (.iload_n 2, 1) := by decide +kernel
theorem dX5_entry_9 : decode cX5_entry 9 = .ok (.aload_n 0, 1) := by decide +kernel
theorem dX5_entry_10 : decode cX5_entry 10 = .ok (.getfield 11, 3) := by decide +kernel
theorem dX5_entry_13 : decode cX5_entry 13 = .ok (.iload_n 1, 1) := by decide +kernel
theorem dX5_entry_14 : decode cX5_entry 14 = .ok (.aaload, 1) := by decide +kernel
theorem dX5_entry_15 : decode cX5_entry 15 = .ok (.getfield 99, 3) := by decide +kernel
theorem dX5_entry_18 : decode cX5_entry 18 = .ok (.invokestatic 52, 3) := by decide +kernel
theorem dX5_entry_21 : decode cX5_entry 21 = .ok (.ifCond .ne 12, 3) := by decide +kernel
theorem dX5_entry_24 : decode cX5_entry 24 = .ok (.iload_n 3, 1) := by decide +kernel
theorem dX5_entry_25 : decode cX5_entry 25 = .ok (.bipush 7, 2) := by decide +kernel
theorem dX5_entry_27 : decode cX5_entry 27 = .ok (.invokestatic 52, 3) := by decide +kernel
theorem dX5_entry_30 : decode cX5_entry 30 = .ok (.ifCond .eq 10, 3) := by decide +kernel
theorem dX5_entry_33 : decode cX5_entry 33 = .ok (.aload_n 0, 1) := by decide +kernel
theorem dX5_entry_34 : decode cX5_entry 34 = .ok (.bipush (-2), 2) := by decide +kernel
theorem dX5_entry_36 : decode cX5_entry 36 = .ok (.invokevirtual 56, 3) := by decide +kernel
theorem dX5_entry_39 : decode cX5_entry 39 = .ok (.ireturn, 1) := by decide +kernel
theorem dX5_entry_40 : decode cX5_entry 40 = .ok (.aload_n 0, 1) := by decide +kernel
theorem dX5_entry_41 : decode cX5_entry 41 = .ok (.getfield 11, 3) := by decide +kernel
theorem dX5_entry_44 : decode cX5_entry 44 = .ok (.iload_n 1, 1) := by decide +kernel
theorem dX5_entry_45 : decode cX5_entry 45 = .ok (.aaload, 1) := by decide +kernel
theorem dX5_entry_46 : decode cX5_entry 46 = .ok (.astore 4, 2) := by decide +kernel
theorem dX5_entry_48 : decode cX5_entry 48 = .ok (.iload_n 3, 1) := by decide +kernel
theorem dX5_entry_49 : decode cX5_entry 49 = .ok (.tableswitch 93 0 5 #[39, 54, 62, 70, 78, 86], 39) := by decide +kernel
theorem dX5_entry_88 : decode cX5_entry 88 = .ok (.aload 4, 2) := by decide +kernel
theorem dX5_entry_90 : decode cX5_entry 90 = .ok (.iload_n 2, 1) := by decide +kernel
theorem dX5_entry_91 : decode cX5_entry 91 = .ok (.invokevirtual 143, 3) := by decide +kernel
theorem dX5_entry_94 : decode cX5_entry 94 = .ok (.ifCond .eq 7, 3) := by decide +kernel
theorem dX5_entry_97 : decode cX5_entry 97 = .ok (.iconst 1, 1) := by decide +kernel
theorem dX5_entry_98 : decode cX5_entry 98 = .ok (.goto 4, 3) := by decide +kernel
theorem dX5_entry_101 : decode cX5_entry 101 = .ok (.iconst 0, 1) := by decide +kernel
theorem dX5_entry_102 : decode cX5_entry 102 = .ok (.ireturn, 1) := by decide +kernel
theorem dX5_entry_103 : decode cX5_entry 103 = .ok (.aload 4, 2) := by decide +kernel
theorem dX5_entry_105 : decode cX5_entry 105 = .ok (.getfield 147, 3) := by decide +kernel
theorem dX5_entry_108 : decode cX5_entry 108 = .ok (.iload_n 2, 1) := by decide +kernel
theorem dX5_entry_109 : decode cX5_entry 109 = .ok (.iaload, 1) := by decide +kernel
theorem dX5_entry_110 : decode cX5_entry 110 = .ok (.ireturn, 1) := by decide +kernel
theorem dX5_entry_111 : decode cX5_entry 111 = .ok (.aload 4, 2) := by decide +kernel
theorem dX5_entry_113 : decode cX5_entry 113 = .ok (.getfield 150, 3) := by decide +kernel
theorem dX5_entry_116 : decode cX5_entry 116 = .ok (.iload_n 2, 1) := by decide +kernel
theorem dX5_entry_117 : decode cX5_entry 117 = .ok (.iaload, 1) := by decide +kernel
theorem dX5_entry_118 : decode cX5_entry 118 = .ok (.ireturn, 1) := by decide +kernel
theorem dX5_entry_119 : decode cX5_entry 119 = .ok (.aload 4, 2) := by decide +kernel
theorem dX5_entry_121 : decode cX5_entry 121 = .ok (.getfield 152, 3) := by decide +kernel
theorem dX5_entry_124 : decode cX5_entry 124 = .ok (.iload_n 2, 1) := by decide +kernel
theorem dX5_entry_125 : decode cX5_entry 125 = .ok (.iaload, 1) := by decide +kernel
theorem dX5_entry_126 : decode cX5_entry 126 = .ok (.ireturn, 1) := by decide +kernel
theorem dX5_entry_127 : decode cX5_entry 127 = .ok (.aload 4, 2) := by decide +kernel
theorem dX5_entry_129 : decode cX5_entry 129 = .ok (.getfield 155, 3) := by decide +kernel
theorem dX5_entry_132 : decode cX5_entry 132 = .ok (.iload_n 2, 1) := by decide +kernel
theorem dX5_entry_133 : decode cX5_entry 133 = .ok (.iaload, 1) := by decide +kernel
theorem dX5_entry_134 : decode cX5_entry 134 = .ok (.ireturn, 1) := by decide +kernel
theorem dX5_entry_135 : decode cX5_entry 135 = .ok (.aload 4, 2) := by decide +kernel
theorem dX5_entry_137 : decode cX5_entry 137 = .ok (.iload_n 2, 1) := by decide +kernel
theorem dX5_entry_138 : decode cX5_entry 138 = .ok (.invokevirtual 158, 3) := by decide +kernel
theorem dX5_entry_141 : decode cX5_entry 141 = .ok (.ireturn, 1) := by decide +kernel
theorem dX5_entry_142 : decode cX5_entry 142 = .ok (.aload 4, 2) := by decide +kernel
theorem dX5_entry_144 : decode cX5_entry 144 = .ok (.iload_n 2, 1) := by decide +kernel
theorem dX5_entry_145 : decode cX5_entry 145 = .ok (.aload_n 0, 1) := by decide +kernel
theorem dX5_entry_146 : decode cX5_entry 146 = .ok (.iload_n 1, 1) := by decide +kernel
theorem dX5_entry_147 : decode cX5_entry 147 = .ok (.invokevirtual 161, 3) := by decide +kernel
theorem dX5_entry_150 : decode cX5_entry 150 = .ok (.invokevirtual 164, 3) := by decide +kernel
theorem dX5_entry_153 : decode cX5_entry 153 = .ok (.ifCond .eq 7, 3) := by decide +kernel
theorem dX5_entry_156 : decode cX5_entry 156 = .ok (.iconst 1, 1) := by decide +kernel
theorem dX5_entry_157 : decode cX5_entry 157 = .ok (.goto 4, 3) := by decide +kernel
theorem dX5_entry_160 : decode cX5_entry 160 = .ok (.iconst 0, 1) := by decide +kernel
theorem dX5_entry_161 : decode cX5_entry 161 = .ok (.ireturn, 1) := by decide +kernel
theorem dX5_part_0 : decode cX5_part 0 = .ok (.iload_n 1, 1) := by decide +kernel
theorem dX5_part_1 : decode cX5_part 1 = .ok (.iconst 3, 1) := by decide +kernel
theorem dX5_part_2 : decode cX5_part 2 = .ok (.invokestatic 52, 3) := by decide +kernel
theorem dX5_part_5 : decode cX5_part 5 = .ok (.ifCond .ne 12, 3) := by decide +kernel
theorem dX5_part_8 : decode cX5_part 8 = .ok (.iload_n 2, 1) := by decide +kernel
theorem dX5_part_9 : decode cX5_part 9 = .ok (.bipush 6, 2) := by decide +kernel
theorem dX5_part_11 : decode cX5_part 11 = .ok (.invokestatic 52, 3) := by decide +kernel
theorem dX5_part_14 : decode cX5_part 14 = .ok (.ifCond .eq 10, 3) := by decide +kernel
theorem dX5_part_17 : decode cX5_part 17 = .ok (.aload_n 0, 1) := by decide +kernel
theorem dX5_part_18 : decode cX5_part 18 = .ok (.bipush (-2), 2) := by decide +kernel
theorem dX5_part_20 : decode cX5_part 20 = .ok (.invokevirtual 56, 3) := by decide +kernel
theorem dX5_part_23 : decode cX5_part 23 = .ok (.ireturn, 1) := by decide +kernel
theorem dX5_part_24 : decode cX5_part 24 = .ok (.iload_n 2, 1) := by decide +kernel
theorem dX5_part_25 : decode cX5_part 25 = .ok (.tableswitch 79 0 4 #[35, 45, 51, 67, 73], 35) := by decide +kernel
theorem dX5_part_60 : decode cX5_part 60 = .ok (.aload_n 0, 1) := by decide +kernel
theorem dX5_part_61 : decode cX5_part 61 = .ok (.getfield 11, 3) := by decide +kernel
theorem dX5_part_64 : decode cX5_part 64 = .ok (.iload_n 1, 1) := by decide +kernel
theorem dX5_part_65 : decode cX5_part 65 = .ok (.aaload, 1) := by decide +kernel
theorem dX5_part_66 : decode cX5_part 66 = .ok (.getfield 99, 3) := by decide +kernel
theorem dX5_part_69 : decode cX5_part 69 = .ok (.ireturn, 1) := by decide +kernel
theorem dX5_part_70 : decode cX5_part 70 = .ok (.aload_n 0, 1) := by decide +kernel
theorem dX5_part_71 : decode cX5_part 71 = .ok (.iload_n 1, 1) := by decide +kernel
theorem dX5_part_72 : decode cX5_part 72 = .ok (.invokevirtual 161, 3) := by decide +kernel
theorem dX5_part_75 : decode cX5_part 75 = .ok (.ireturn, 1) := by decide +kernel
theorem dX5_part_76 : decode cX5_part 76 = .ok (.aload_n 0, 1) := by decide +kernel
theorem dX5_part_77 : decode cX5_part 77 = .ok (.getfield 11, 3) := by decide +kernel
theorem dX5_part_80 : decode cX5_part 80 = .ok (.iload_n 1, 1) := by decide +kernel
theorem dX5_part_81 : decode cX5_part 81 = .ok (.aaload, 1) := by decide +kernel
theorem dX5_part_82 : decode cX5_part 82 = .ok (.iconst 0, 1) := by decide +kernel
theorem dX5_part_83 : decode cX5_part 83 = .ok (.aload_n 0, 1) := by decide +kernel
theorem dX5_part_84 : decode cX5_part 84 = .ok (.iload_n 1, 1) := by decide +kernel
theorem dX5_part_85 : decode cX5_part 85 = .ok (.invokevirtual 161, 3) := by decide +kernel
theorem dX5_part_88 : decode cX5_part 88 = .ok (.invokevirtual 167, 3) := by decide +kernel
theorem dX5_part_91 : decode cX5_part 91 = .ok (.ireturn, 1) := by decide +kernel
theorem dX5_part_92 : decode cX5_part 92 = .ok (.aload_n 0, 1) := by decide +kernel
theorem dX5_part_93 : decode cX5_part 93 = .ok (.iload_n 1, 1) := by decide +kernel
theorem dX5_part_94 : decode cX5_part 94 = .ok (.invokevirtual 102, 3) := by decide +kernel
theorem dX5_part_97 : decode cX5_part 97 = .ok (.ireturn, 1) := by decide +kernel
theorem dX5_part_98 : decode cX5_part 98 = .ok (.aload_n 0, 1) := by decide +kernel
theorem dX5_part_99 : decode cX5_part 99 = .ok (.iload_n 1, 1) := by decide +kernel
theorem dX5_part_100 : decode cX5_part 100 = .ok (.invokevirtual 170, 3) := by decide +kernel
theorem dX5_part_103 : decode cX5_part 103 = .ok (.ireturn, 1) := by decide +kernel
theorem dX5_part_104 : decode cX5_part 104 = .ok (.aload_n 0, 1) := by decide +kernel
theorem dX5_part_105 : decode cX5_part 105 = .ok (.getfield 11, 3) := by decide +kernel
theorem dX5_part_108 : decode cX5_part 108 = .ok (.iload_n 1, 1) := by decide +kernel
theorem dX5_part_109 : decode cX5_part 109 = .ok (.aaload, 1) := by decide +kernel
theorem dX5_part_110 : decode cX5_part 110 = .ok (.invokevirtual 173, 3) := by decide +kernel
theorem dX5_part_113 : decode cX5_part 113 = .ok (.ireturn, 1) := by decide +kernel
theorem dX5_aborted_0 : decode cX5_aborted 0 = .ok (.iload_n 1, 1) := by decide +kernel
theorem dX5_aborted_1 : decode cX5_aborted 1 = .ok (.iconst 3, 1) := by decide +kernel
theorem dX5_aborted_2 : decode cX5_aborted 2 = .ok (.invokestatic 52, 3) := by decide +kernel
theorem dX5_aborted_5 : decode cX5_aborted 5 = .ok (.ifCond .ne 15, 3) := by decide +kernel
theorem dX5_aborted_8 : decode cX5_aborted 8 = .ok (.iload_n 2, 1) := by decide +kernel
theorem dX5_aborted_9 : decode cX5_aborted 9 = .ok (.ifCond .lt 11, 3) := by decide +kernel
theorem dX5_aborted_12 : decode cX5_aborted 12 = .ok (.iload_n 3, 1) := by decide +kernel
theorem dX5_aborted_13 : decode cX5_aborted 13 = .ok (.iconst 3, 1) := by decide +kernel
theorem dX5_aborted_14 : decode cX5_aborted 14 = .ok (.invokestatic 52, 3) := by decide +kernel
theorem dX5_aborted_17 : decode cX5_aborted 17 = .ok (.ifCond .eq 10, 3) := by decide +kernel
theorem dX5_aborted_20 : decode cX5_aborted 20 = .ok (.aload_n 0, 1) := by decide +kernel
theorem dX5_aborted_21 : decode cX5_aborted 21 = .ok (.bipush (-2), 2) := by decide +kernel
theorem dX5_aborted_23 : decode cX5_aborted 23 = .ok (.invokevirtual 56, 3) := by decide +kernel
theorem dX5_aborted_26 : decode cX5_aborted 26 = .ok (.ireturn, 1) := by decide +kernel
theorem dX5_aborted_27 : decode cX5_aborted 27 = .ok (.aload_n 0, 1) := by decide +kernel
theorem dX5_aborted_28 : decode cX5_aborted 28 = .ok (.getfield 11, 3) := by decide +kernel
theorem dX5_aborted_31 : decode cX5_aborted 31 = .ok (.iload_n 1, 1) := by decide +kernel
theorem dX5_aborted_32 : decode cX5_aborted 32 = .ok (.aaload, 1) := by decide +kernel
theorem dX5_aborted_33 : decode cX5_aborted 33 = .ok (.astore 4, 2) := by decide +kernel
theorem dX5_aborted_35 : decode cX5_aborted 35 = .ok (.aload 4, 2) := by decide +kernel
theorem dX5_aborted_37 : decode cX5_aborted 37 = .ok (.iload_n 2, 1) := by decide +kernel
theorem dX5_aborted_38 : decode cX5_aborted 38 = .ok (.invokevirtual 176, 3) := by decide +kernel
theorem dX5_aborted_41 : decode cX5_aborted 41 = .ok (.istore 5, 2) := by decide +kernel
theorem dX5_aborted_43 : decode cX5_aborted 43 = .ok (.iload 5, 2) := by decide +kernel
theorem dX5_aborted_45 : decode cX5_aborted 45 = .ok (.iconst (-1), 1) := by decide +kernel
theorem dX5_aborted_46 : decode cX5_aborted 46 = .ok (.if_icmp .ne 5, 3) := by decide +kernel
theorem dX5_aborted_49 : decode cX5_aborted 49 = .ok (.iconst (-1), 1) := by decide +kernel
theorem dX5_aborted_50 : decode cX5_aborted 50 = .ok (.ireturn, 1) := by decide +kernel
theorem dX5_aborted_51 : decode cX5_aborted 51 = .ok (.iload_n 3, 1) := by decide +kernel
theorem dX5_aborted_52 : decode cX5_aborted 52 = .ok (.lookupswitch 40 #[(0, 28), (1, 37)], 28) := by decide +kernel
theorem dX5_aborted_80 : decode cX5_aborted 80 = .ok (.aload 4, 2) := by decide +kernel
theorem dX5_aborted_82 : decode cX5_aborted 82 = .ok (.getfield 147, 3) := by decide +kernel
theorem dX5_aborted_85 : decode cX5_aborted 85 = .ok (.iload 5, 2) := by decide +kernel
theorem dX5_aborted_87 : decode cX5_aborted 87 = .ok (.iaload, 1) := by decide +kernel
theorem dX5_aborted_88 : decode cX5_aborted 88 = .ok (.ireturn, 1) := by decide +kernel
theorem dX5_aborted_89 : decode cX5_aborted 89 = .ok (.iload 5, 2) := by decide +kernel
theorem dX5_aborted_91 : decode cX5_aborted 91 = .ok (.ireturn, 1) := by decide +kernel
theorem dX5_aborted_92 : decode cX5_aborted 92 = .ok (.aload 4, 2) := by decide +kernel
theorem dX5_aborted_94 : decode cX5_aborted 94 = .ok (.getfield 179, 3) := by decide +kernel
theorem dX5_aborted_97 : decode cX5_aborted 97 = .ok (.iload 5, 2) := by decide +kernel
theorem dX5_aborted_99 : decode cX5_aborted 99 = .ok (.iaload, 1) := by decide +kernel
theorem dX5_aborted_100 : decode cX5_aborted 100 = .ok (.ireturn, 1) := by decide +kernel
theorem dX5_reads_0 : decode cX5_reads 0 = .ok (.iload_n 1, 1) := by decide +kernel
theorem dX5_reads_1 : decode cX5_reads 1 = .ok (.iconst 2, 1) := by decide +kernel
theorem dX5_reads_2 : decode cX5_reads 2 = .ok (.invokestatic 52, 3) := by decide +kernel
theorem dX5_reads_5 : decode cX5_reads 5 = .ok (.ifCond .ne 11, 3) := by decide +kernel
theorem dX5_reads_8 : decode cX5_reads 8 = .ok (.iload_n 2, 1) := by decide +kernel
theorem dX5_reads_9 : decode cX5_reads 9 = .ok (.iconst 3, 1) := by decide +kernel
theorem dX5_reads_10 : decode cX5_reads 10 = .ok (.invokestatic 52, 3) := by decide +kernel
theorem dX5_reads_13 : decode cX5_reads 13 = .ok (.ifCond .eq 10, 3) := by decide +kernel
theorem dX5_reads_16 : decode cX5_reads 16 = .ok (.aload_n 0, 1) := by decide +kernel
theorem dX5_reads_17 : decode cX5_reads 17 = .ok (.bipush (-2), 2) := by decide +kernel
theorem dX5_reads_19 : decode cX5_reads 19 = .ok (.invokevirtual 56, 3) := by decide +kernel
theorem dX5_reads_22 : decode cX5_reads 22 = .ok (.ireturn, 1) := by decide +kernel
theorem dX5_reads_23 : decode cX5_reads 23 = .ok (.aload_n 0, 1) := by decide +kernel
theorem dX5_reads_24 : decode cX5_reads 24 = .ok (.getfield 18, 3) := by decide +kernel
theorem dX5_reads_27 : decode cX5_reads 27 = .ok (.getfield 112, 3) := by decide +kernel
theorem dX5_reads_30 : decode cX5_reads 30 = .ok (.iload_n 1, 1) := by decide +kernel
theorem dX5_reads_31 : decode cX5_reads 31 = .ok (.aaload, 1) := by decide +kernel
theorem dX5_reads_32 : decode cX5_reads 32 = .ok (.astore_n 3, 1) := by decide +kernel
theorem dX5_reads_33 : decode cX5_reads 33 = .ok (.aload_n 0, 1) := by decide +kernel
theorem dX5_reads_34 : decode cX5_reads 34 = .ok (.getfield 11, 3) := by decide +kernel
theorem dX5_reads_37 : decode cX5_reads 37 = .ok (.iload_n 2, 1) := by decide +kernel
theorem dX5_reads_38 : decode cX5_reads 38 = .ok (.aaload, 1) := by decide +kernel
theorem dX5_reads_39 : decode cX5_reads 39 = .ok (.aload_n 3, 1) := by decide +kernel
theorem dX5_reads_40 : decode cX5_reads 40 = .ok (.getfield 116, 3) := by decide +kernel
theorem dX5_reads_43 : decode cX5_reads 43 = .ok (.iload_n 2, 1) := by decide +kernel
theorem dX5_reads_44 : decode cX5_reads 44 = .ok (.iaload, 1) := by decide +kernel
theorem dX5_reads_45 : decode cX5_reads 45 = .ok (.aload_n 0, 1) := by decide +kernel
theorem dX5_reads_46 : decode cX5_reads 46 = .ok (.iload_n 2, 1) := by decide +kernel
theorem dX5_reads_47 : decode cX5_reads 47 = .ok (.invokevirtual 161, 3) := by decide +kernel
theorem dX5_reads_50 : decode cX5_reads 50 = .ok (.invokevirtual 182, 3) := by decide +kernel
theorem dX5_reads_53 : decode cX5_reads 53 = .ok (.istore 4, 2) := by decide +kernel
theorem dX5_reads_55 : decode cX5_reads 55 = .ok (.iload 4, 2) := by decide +kernel
theorem dX5_reads_57 : decode cX5_reads 57 = .ok (.iconst (-1), 1) := by decide +kernel
theorem dX5_reads_58 : decode cX5_reads 58 = .ok (.if_icmp .ne 5, 3) := by decide +kernel
theorem dX5_reads_61 : decode cX5_reads 61 = .ok (.iconst (-1), 1) := by decide +kernel
theorem dX5_reads_62 : decode cX5_reads 62 = .ok (.ireturn, 1) := by decide +kernel
theorem dX5_reads_63 : decode cX5_reads 63 = .ok (.aload_n 0, 1) := by decide +kernel
theorem dX5_reads_64 : decode cX5_reads 64 = .ok (.invokevirtual 72, 3) := by decide +kernel
theorem dX5_reads_67 : decode cX5_reads 67 = .ok (.aload_n 3, 1) := by decide +kernel
theorem dX5_reads_68 : decode cX5_reads 68 = .ok (.getfield 116, 3) := by decide +kernel
theorem dX5_reads_71 : decode cX5_reads 71 = .ok (.iload_n 2, 1) := by decide +kernel
theorem dX5_reads_72 : decode cX5_reads 72 = .ok (.iload 4, 2) := by decide +kernel
theorem dX5_reads_74 : decode cX5_reads 74 = .ok (.iconst 1, 1) := by decide +kernel
theorem dX5_reads_75 : decode cX5_reads 75 = .ok (.iadd, 1) := by decide +kernel
theorem dX5_reads_76 : decode cX5_reads 76 = .ok (.iastore, 1) := by decide +kernel
theorem dX5_reads_77 : decode cX5_reads 77 = .ok (.aload_n 0, 1) := by decide +kernel
theorem dX5_reads_78 : decode cX5_reads 78 = .ok (.getfield 11, 3) := by decide +kernel
theorem dX5_reads_81 : decode cX5_reads 81 = .ok (.iload_n 2, 1) := by decide +kernel
theorem dX5_reads_82 : decode cX5_reads 82 = .ok (.aaload, 1) := by decide +kernel
theorem dX5_reads_83 : decode cX5_reads 83 = .ok (.getfield 155, 3) := by decide +kernel
theorem dX5_reads_86 : decode cX5_reads 86 = .ok (.iload 4, 2) := by decide +kernel
theorem dX5_reads_88 : decode cX5_reads 88 = .ok (.iaload, 1) := by decide +kernel
theorem dX5_reads_89 : decode cX5_reads 89 = .ok (.ireturn, 1) := by decide +kernel
theorem dX5_rewinds_0 : decode cX5_rewinds 0 = .ok (.iload_n 1, 1) := by decide +kernel
theorem dX5_rewinds_1 : decode cX5_rewinds 1 = .ok (.iconst 2, 1) := by decide +kernel
theorem dX5_rewinds_2 : decode cX5_rewinds 2 = .ok (.invokestatic 52, 3) := by decide +kernel
theorem dX5_rewinds_5 : decode cX5_rewinds 5 = .ok (.ifCond .eq 10, 3) := by decide +kernel
theorem dX5_rewinds_8 : decode cX5_rewinds 8 = .ok (.aload_n 0, 1) := by decide +kernel
theorem dX5_rewinds_9 : decode cX5_rewinds 9 = .ok (.bipush (-2), 2) := by decide +kernel
theorem dX5_rewinds_11 : decode cX5_rewinds 11 = .ok (.invokevirtual 56, 3) := by decide +kernel
theorem dX5_rewinds_14 : decode cX5_rewinds 14 = .ok (.ireturn, 1) := by decide +kernel
theorem dX5_rewinds_15 : decode cX5_rewinds 15 = .ok (.aload_n 0, 1) := by decide +kernel
theorem dX5_rewinds_16 : decode cX5_rewinds 16 = .ok (.invokevirtual 72, 3) := by decide +kernel
theorem dX5_rewinds_19 : decode cX5_rewinds 19 = .ok (.aload_n 0, 1) := by decide +kernel
theorem dX5_rewinds_20 : decode cX5_rewinds 20 = .ok (.getfield 18, 3) := by decide +kernel
theorem dX5_rewinds_23 : decode cX5_rewinds 23 = .ok (.getfield 112, 3) := by decide +kernel
theorem dX5_rewinds_26 : decode cX5_rewinds 26 = .ok (.iload_n 1, 1) := by decide +kernel
theorem dX5_rewinds_27 : decode cX5_rewinds 27 = .ok (.aaload, 1) := by decide +kernel
theorem dX5_rewinds_28 : decode cX5_rewinds 28 = .ok (.invokevirtual 185, 3) := by decide +kernel
theorem dX5_rewinds_31 : decode cX5_rewinds 31 = .ok (.ireturn, 1) := by decide +kernel
theorem dX5_reader_0 : decode cX5_reader 0 = .ok (.iload_n 1, 1) := by decide +kernel
theorem dX5_reader_1 : decode cX5_reader 1 = .ok (.iconst 2, 1) := by decide +kernel
theorem dX5_reader_2 : decode cX5_reader 2 = .ok (.invokestatic 52, 3) := by decide +kernel
theorem dX5_reader_5 : decode cX5_reader 5 = .ok (.ifCond .ne 19, 3) := by decide +kernel
theorem dX5_reader_8 : decode cX5_reader 8 = .ok (.iload_n 2, 1) := by decide +kernel
theorem dX5_reader_9 : decode cX5_reader 9 = .ok (.iconst 3, 1) := by decide +kernel
theorem dX5_reader_10 : decode cX5_reader 10 = .ok (.invokestatic 52, 3) := by decide +kernel
theorem dX5_reader_13 : decode cX5_reader 13 = .ok (.ifCond .ne 11, 3) := by decide +kernel
theorem dX5_reader_16 : decode cX5_reader 16 = .ok (.iload_n 3, 1) := by decide +kernel
theorem dX5_reader_17 : decode cX5_reader 17 = .ok (.iconst 4, 1) := by decide +kernel
theorem dX5_reader_18 : decode cX5_reader 18 = .ok (.invokestatic 52, 3) := by decide +kernel
theorem dX5_reader_21 : decode cX5_reader 21 = .ok (.ifCond .eq 10, 3) := by decide +kernel
theorem dX5_reader_24 : decode cX5_reader 24 = .ok (.aload_n 0, 1) := by decide +kernel
theorem dX5_reader_25 : decode cX5_reader 25 = .ok (.bipush (-2), 2) := by decide +kernel
theorem dX5_reader_27 : decode cX5_reader 27 = .ok (.invokevirtual 56, 3) := by decide +kernel
theorem dX5_reader_30 : decode cX5_reader 30 = .ok (.ireturn, 1) := by decide +kernel
theorem dX5_reader_31 : decode cX5_reader 31 = .ok (.aload_n 0, 1) := by decide +kernel
theorem dX5_reader_32 : decode cX5_reader 32 = .ok (.getfield 18, 3) := by decide +kernel
theorem dX5_reader_35 : decode cX5_reader 35 = .ok (.getfield 112, 3) := by decide +kernel
theorem dX5_reader_38 : decode cX5_reader 38 = .ok (.iload_n 1, 1) := by decide +kernel
theorem dX5_reader_39 : decode cX5_reader 39 = .ok (.aaload, 1) := by decide +kernel
theorem dX5_reader_40 : decode cX5_reader 40 = .ok (.astore 4, 2) := by decide +kernel
theorem dX5_reader_42 : decode cX5_reader 42 = .ok (.iload_n 3, 1) := by decide +kernel
theorem dX5_reader_43 : decode cX5_reader 43 = .ok (.tableswitch 63 0 2 #[25, 33, 41], 25) := by decide +kernel
theorem dX5_reader_68 : decode cX5_reader 68 = .ok (.aload 4, 2) := by decide +kernel
theorem dX5_reader_70 : decode cX5_reader 70 = .ok (.getfield 116, 3) := by decide +kernel
theorem dX5_reader_73 : decode cX5_reader 73 = .ok (.iload_n 2, 1) := by decide +kernel
theorem dX5_reader_74 : decode cX5_reader 74 = .ok (.iaload, 1) := by decide +kernel
theorem dX5_reader_75 : decode cX5_reader 75 = .ok (.ireturn, 1) := by decide +kernel
theorem dX5_reader_76 : decode cX5_reader 76 = .ok (.aload 4, 2) := by decide +kernel
theorem dX5_reader_78 : decode cX5_reader 78 = .ok (.getfield 188, 3) := by decide +kernel
theorem dX5_reader_81 : decode cX5_reader 81 = .ok (.iload_n 2, 1) := by decide +kernel
theorem dX5_reader_82 : decode cX5_reader 82 = .ok (.iaload, 1) := by decide +kernel
theorem dX5_reader_83 : decode cX5_reader 83 = .ok (.ireturn, 1) := by decide +kernel
theorem dX5_reader_84 : decode cX5_reader 84 = .ok (.aload_n 0, 1) := by decide +kernel
theorem dX5_reader_85 : decode cX5_reader 85 = .ok (.getfield 11, 3) := by decide +kernel
theorem dX5_reader_88 : decode cX5_reader 88 = .ok (.iload_n 2, 1) := by decide +kernel
theorem dX5_reader_89 : decode cX5_reader 89 = .ok (.aaload, 1) := by decide +kernel
theorem dX5_reader_90 : decode cX5_reader 90 = .ok (.aload 4, 2) := by decide +kernel
theorem dX5_reader_92 : decode cX5_reader 92 = .ok (.getfield 116, 3) := by decide +kernel
theorem dX5_reader_95 : decode cX5_reader 95 = .ok (.iload_n 2, 1) := by decide +kernel
theorem dX5_reader_96 : decode cX5_reader 96 = .ok (.iaload, 1) := by decide +kernel
theorem dX5_reader_97 : decode cX5_reader 97 = .ok (.aload_n 0, 1) := by decide +kernel
theorem dX5_reader_98 : decode cX5_reader 98 = .ok (.iload_n 2, 1) := by decide +kernel
theorem dX5_reader_99 : decode cX5_reader 99 = .ok (.invokevirtual 161, 3) := by decide +kernel
theorem dX5_reader_102 : decode cX5_reader 102 = .ok (.invokevirtual 167, 3) := by decide +kernel
theorem dX5_reader_105 : decode cX5_reader 105 = .ok (.ireturn, 1) := by decide +kernel
theorem dX5_reader_106 : decode cX5_reader 106 = .ok (.aload_n 0, 1) := by decide +kernel
theorem dX5_reader_107 : decode cX5_reader 107 = .ok (.getfield 11, 3) := by decide +kernel
theorem dX5_reader_110 : decode cX5_reader 110 = .ok (.iload_n 2, 1) := by decide +kernel
theorem dX5_reader_111 : decode cX5_reader 111 = .ok (.aaload, 1) := by decide +kernel
theorem dX5_reader_112 : decode cX5_reader 112 = .ok (.aload 4, 2) := by decide +kernel
theorem dX5_reader_114 : decode cX5_reader 114 = .ok (.getfield 116, 3) := by decide +kernel
theorem dX5_reader_117 : decode cX5_reader 117 = .ok (.iload_n 2, 1) := by decide +kernel
theorem dX5_reader_118 : decode cX5_reader 118 = .ok (.iaload, 1) := by decide +kernel
theorem dX5_reader_119 : decode cX5_reader 119 = .ok (.aload_n 0, 1) := by decide +kernel
theorem dX5_reader_120 : decode cX5_reader 120 = .ok (.iload_n 2, 1) := by decide +kernel
theorem dX5_reader_121 : decode cX5_reader 121 = .ok (.invokevirtual 161, 3) := by decide +kernel
theorem dX5_reader_124 : decode cX5_reader 124 = .ok (.invokevirtual 182, 3) := by decide +kernel
theorem dX5_reader_127 : decode cX5_reader 127 = .ok (.ireturn, 1) := by decide +kernel
theorem dX5_type_0 : decode cX5_type 0 = .ok (.iload_n 1, 1) := by decide +kernel
theorem dX5_type_1 : decode cX5_type 1 = .ok (.sipush 128, 3) := by decide +kernel
theorem dX5_type_4 : decode cX5_type 4 = .ok (.invokestatic 52, 3) := by decide +kernel
theorem dX5_type_7 : decode cX5_type 7 = .ok (.ifCond .eq 10, 3) := by decide +kernel
theorem dX5_type_10 : decode cX5_type 10 = .ok (.aload_n 0, 1) := by decide +kernel
theorem dX5_type_11 : decode cX5_type 11 = .ok (.bipush (-2), 2) := by decide +kernel
theorem dX5_type_13 : decode cX5_type 13 = .ok (.invokevirtual 56, 3) := by decide +kernel
theorem dX5_type_16 : decode cX5_type 16 = .ok (.ireturn, 1) := by decide +kernel
theorem dX5_type_17 : decode cX5_type 17 = .ok (.aload_n 0, 1) := by decide +kernel
theorem dX5_type_18 : decode cX5_type 18 = .ok (.getfield 36, 3) := by decide +kernel
theorem dX5_type_21 : decode cX5_type 21 = .ok (.getfield 191, 3) := by decide +kernel
theorem dX5_type_24 : decode cX5_type 24 = .ok (.bipush 120, 2) := by decide +kernel
theorem dX5_type_26 : decode cX5_type 26 = .ok (.if_icmp .lt 10, 3) := by decide +kernel
theorem dX5_type_29 : decode cX5_type 29 = .ok (.aload_n 0, 1) := by decide +kernel
theorem dX5_type_30 : decode cX5_type 30 = .ok (.bipush (-4), 2) := by decide +kernel
theorem dX5_type_32 : decode cX5_type 32 = .ok (.invokevirtual 56, 3) := by decide +kernel
theorem dX5_type_35 : decode cX5_type 35 = .ok (.ireturn, 1) := by decide +kernel
theorem dX5_type_36 : decode cX5_type 36 = .ok (.aload_n 0, 1) := by decide +kernel
theorem dX5_type_37 : decode cX5_type 37 = .ok (.getfield 36, 3) := by decide +kernel
theorem dX5_type_40 : decode cX5_type 40 = .ok (.getfield 192, 3) := by decide +kernel
theorem dX5_type_43 : decode cX5_type 43 = .ok (.aload_n 0, 1) := by decide +kernel
theorem dX5_type_44 : decode cX5_type 44 = .ok (.getfield 36, 3) := by decide +kernel
theorem dX5_type_47 : decode cX5_type 47 = .ok (.getfield 191, 3) := by decide +kernel
theorem dX5_type_50 : decode cX5_type 50 = .ok (.iload_n 1, 1) := by decide +kernel
theorem dX5_type_51 : decode cX5_type 51 = .ok (.iastore, 1) := by decide +kernel
theorem dX5_type_52 : decode cX5_type 52 = .ok (.aload_n 0, 1) := by decide +kernel
theorem dX5_type_53 : decode cX5_type 53 = .ok (.getfield 36, 3) := by decide +kernel
theorem dX5_type_56 : decode cX5_type 56 = .ok (.dup, 1) := by decide +kernel
theorem dX5_type_57 : decode cX5_type 57 = .ok (.getfield 191, 3) := by decide +kernel
theorem dX5_type_60 : decode cX5_type 60 = .ok (.iconst 1, 1) := by decide +kernel
theorem dX5_type_61 : decode cX5_type 61 = .ok (.iadd, 1) := by decide +kernel
theorem dX5_type_62 : decode cX5_type 62 = .ok (.putfield 191, 3) := by decide +kernel
theorem dX5_type_65 : decode cX5_type 65 = .ok (.aload_n 0, 1) := by decide +kernel
theorem dX5_type_66 : decode cX5_type 66 = .ok (.getfield 36, 3) := by decide +kernel
theorem dX5_type_69 : decode cX5_type 69 = .ok (.getfield 191, 3) := by decide +kernel
theorem dX5_type_72 : decode cX5_type 72 = .ok (.ireturn, 1) := by decide +kernel
theorem dX5_clear_0 : decode cX5_clear 0 = .ok (.aload_n 0, 1) := by decide +kernel
theorem dX5_clear_1 : decode cX5_clear 1 = .ok (.getfield 36, 3) := by decide +kernel
theorem dX5_clear_4 : decode cX5_clear 4 = .ok (.getfield 191, 3) := by decide +kernel
theorem dX5_clear_7 : decode cX5_clear 7 = .ok (.istore_n 1, 1) := by decide +kernel
theorem dX5_clear_8 : decode cX5_clear 8 = .ok (.aload_n 0, 1) := by decide +kernel
theorem dX5_clear_9 : decode cX5_clear 9 = .ok (.getfield 36, 3) := by decide +kernel
theorem dX5_clear_12 : decode cX5_clear 12 = .ok (.iconst 0, 1) := by decide +kernel
theorem dX5_clear_13 : decode cX5_clear 13 = .ok (.putfield 191, 3) := by decide +kernel
theorem dX5_clear_16 : decode cX5_clear 16 = .ok (.iload_n 1, 1) := by decide +kernel
theorem dX5_clear_17 : decode cX5_clear 17 = .ok (.ireturn, 1) := by decide +kernel
theorem dX5_does_0 : decode cX5_does 0 = .ok (.aload_n 0, 1) := by decide +kernel
theorem dX5_does_1 : decode cX5_does 1 = .ok (.getfield 36, 3) := by decide +kernel
theorem dX5_does_4 : decode cX5_does 4 = .ok (.invokevirtual 195, 3) := by decide +kernel
theorem dX5_does_7 : decode cX5_does 7 = .ok (.istore_n 1, 1) := by decide +kernel
theorem dX5_does_8 : decode cX5_does 8 = .ok (.iload_n 1, 1) := by decide +kernel
theorem dX5_does_9 : decode cX5_does 9 = .ok (.iconst (-1), 1) := by decide +kernel
theorem dX5_does_10 : decode cX5_does 10 = .ok (.if_icmp .eq 8, 3) := by decide +kernel
theorem dX5_does_13 : decode cX5_does 13 = .ok (.bipush (-10), 2) := by decide +kernel
theorem dX5_does_15 : decode cX5_does 15 = .ok (.iload_n 1, 1) := by decide +kernel
theorem dX5_does_16 : decode cX5_does 16 = .ok (.isub, 1) := by decide +kernel
theorem dX5_does_17 : decode cX5_does 17 = .ok (.ireturn, 1) := by decide +kernel
theorem dX5_does_18 : decode cX5_does 18 = .ok (.aload_n 0, 1) := by decide +kernel
theorem dX5_does_19 : decode cX5_does 19 = .ok (.invokevirtual 72, 3) := by decide +kernel
theorem dX5_does_22 : decode cX5_does 22 = .ok (.aload_n 0, 1) := by decide +kernel
theorem dX5_does_23 : decode cX5_does 23 = .ok (.iconst 1, 1) := by decide +kernel
theorem dX5_does_24 : decode cX5_does 24 = .ok (.putfield 47, 3) := by decide +kernel
theorem dX5_does_27 : decode cX5_does 27 = .ok (.iconst 0, 1) := by decide +kernel
theorem dX5_does_28 : decode cX5_does 28 = .ok (.istore_n 2, 1) := by decide +kernel
theorem dX5_does_29 : decode cX5_does 29 = .ok (.iconst 0, 1) := by decide +kernel
theorem dX5_does_30 : decode cX5_does 30 = .ok (.istore_n 3, 1) := by decide +kernel
theorem dX5_does_31 : decode cX5_does 31 = .ok (.iload_n 3, 1) := by decide +kernel
theorem dX5_does_32 : decode cX5_does 32 = .ok (.aload_n 0, 1) := by decide +kernel
theorem dX5_does_33 : decode cX5_does 33 = .ok (.getfield 36, 3) := by decide +kernel
theorem dX5_does_36 : decode cX5_does 36 = .ok (.getfield 198, 3) := by decide +kernel
theorem dX5_does_39 : decode cX5_does 39 = .ok (.if_icmp .ge 28, 3) := by decide +kernel
theorem dX5_does_42 : decode cX5_does 42 = .ok (.aload_n 0, 1) := by decide +kernel
theorem dX5_does_43 : decode cX5_does 43 = .ok (.aload_n 0, 1) := by decide +kernel
theorem dX5_does_44 : decode cX5_does 44 = .ok (.iload_n 3, 1) := by decide +kernel
theorem dX5_does_45 : decode cX5_does 45 = .ok (.invokevirtual 201, 3) := by decide +kernel
theorem dX5_does_48 : decode cX5_does 48 = .ok (.putfield 44, 3) := by decide +kernel
theorem dX5_does_51 : decode cX5_does 51 = .ok (.aload_n 0, 1) := by decide +kernel
theorem dX5_does_52 : decode cX5_does 52 = .ok (.getfield 44, 3) := by decide +kernel
theorem dX5_does_55 : decode cX5_does 55 = .ok (.ifCond .lt 6, 3) := by decide +kernel
theorem dX5_does_58 : decode cX5_does 58 = .ok (.iinc 2 1, 3) := by decide +kernel
theorem dX5_does_61 : decode cX5_does 61 = .ok (.iinc 3 1, 3) := by decide +kernel
theorem dX5_does_64 : decode cX5_does 64 = .ok (.goto (-33), 3) := by decide +kernel
theorem dX5_does_67 : decode cX5_does 67 = .ok (.aload_n 0, 1) := by decide +kernel
theorem dX5_does_68 : decode cX5_does 68 = .ok (.iconst 0, 1) := by decide +kernel
theorem dX5_does_69 : decode cX5_does 69 = .ok (.putfield 47, 3) := by decide +kernel
theorem dX5_does_72 : decode cX5_does 72 = .ok (.iload_n 2, 1) := by decide +kernel
theorem dX5_does_73 : decode cX5_does 73 = .ok (.ireturn, 1) := by decide +kernel
theorem dX5_asked_0 : decode cX5_asked 0 = .ok (.aload_n 0, 1) := by decide +kernel
theorem dX5_asked_1 : decode cX5_asked 1 = .ok (.getfield 44, 3) := by decide +kernel
theorem dX5_asked_4 : decode cX5_asked 4 = .ok (.ireturn, 1) := by decide +kernel
theorem dX5_all_0 : decode cX5_all 0 = .ok (.iload_n 1, 1) := by decide +kernel
theorem dX5_all_1 : decode cX5_all 1 = .ok (.bipush 8, 2) := by decide +kernel
theorem dX5_all_3 : decode cX5_all 3 = .ok (.invokestatic 52, 3) := by decide +kernel
theorem dX5_all_6 : decode cX5_all 6 = .ok (.ifCond .eq 10, 3) := by decide +kernel
theorem dX5_all_9 : decode cX5_all 9 = .ok (.aload_n 0, 1) := by decide +kernel
theorem dX5_all_10 : decode cX5_all 10 = .ok (.bipush (-2), 2) := by decide +kernel
theorem dX5_all_12 : decode cX5_all 12 = .ok (.invokevirtual 56, 3) := by decide +kernel
theorem dX5_all_15 : decode cX5_all 15 = .ok (.ireturn, 1) := by decide +kernel
theorem dX5_all_16 : decode cX5_all 16 = .ok (.iload_n 1, 1) := by decide +kernel
theorem dX5_all_17 : decode cX5_all 17 = .ok (.tableswitch 86 0 6 #[43, 51, 59, 65, 71, 76, 81], 43) := by decide +kernel
theorem dX5_all_60 : decode cX5_all 60 = .ok (.aload_n 0, 1) := by decide +kernel
theorem dX5_all_61 : decode cX5_all 61 = .ok (.getfield 18, 3) := by decide +kernel
theorem dX5_all_64 : decode cX5_all 64 = .ok (.getfield 82, 3) := by decide +kernel
theorem dX5_all_67 : decode cX5_all 67 = .ok (.ireturn, 1) := by decide +kernel
theorem dX5_all_68 : decode cX5_all 68 = .ok (.aload_n 0, 1) := by decide +kernel
theorem dX5_all_69 : decode cX5_all 69 = .ok (.getfield 18, 3) := by decide +kernel
theorem dX5_all_72 : decode cX5_all 72 = .ok (.getfield 131, 3) := by decide +kernel
theorem dX5_all_75 : decode cX5_all 75 = .ok (.ireturn, 1) := by decide +kernel
theorem dX5_all_76 : decode cX5_all 76 = .ok (.aload_n 0, 1) := by decide +kernel
theorem dX5_all_77 : decode cX5_all 77 = .ok (.iconst 1, 1) := by decide +kernel
theorem dX5_all_78 : decode cX5_all 78 = .ok (.invokevirtual 88, 3) := by decide +kernel
theorem dX5_all_81 : decode cX5_all 81 = .ok (.ireturn, 1) := by decide +kernel
theorem dX5_all_82 : decode cX5_all 82 = .ok (.aload_n 0, 1) := by decide +kernel
theorem dX5_all_83 : decode cX5_all 83 = .ok (.iconst 2, 1) := by decide +kernel
theorem dX5_all_84 : decode cX5_all 84 = .ok (.invokevirtual 88, 3) := by decide +kernel
theorem dX5_all_87 : decode cX5_all 87 = .ok (.ireturn, 1) := by decide +kernel
theorem dX5_all_88 : decode cX5_all 88 = .ok (.aload_n 0, 1) := by decide +kernel
theorem dX5_all_89 : decode cX5_all 89 = .ok (.invokevirtual 204, 3) := by decide +kernel
theorem dX5_all_92 : decode cX5_all 92 = .ok (.ireturn, 1) := by decide +kernel
theorem dX5_all_93 : decode cX5_all 93 = .ok (.aload_n 0, 1) := by decide +kernel
theorem dX5_all_94 : decode cX5_all 94 = .ok (.invokevirtual 207, 3) := by decide +kernel
theorem dX5_all_97 : decode cX5_all 97 = .ok (.ireturn, 1) := by decide +kernel
theorem dX5_all_98 : decode cX5_all 98 = .ok (.aload_n 0, 1) := by decide +kernel
theorem dX5_all_99 : decode cX5_all 99 = .ok (.invokevirtual 210, 3) := by decide +kernel
theorem dX5_all_102 : decode cX5_all 102 = .ok (.ireturn, 1) := by decide +kernel
theorem dX5_all_103 : decode cX5_all 103 = .ok (.aload_n 0, 1) := by decide +kernel
theorem dX5_all_104 : decode cX5_all 104 = .ok (.invokevirtual 213, 3) := by decide +kernel
theorem dX5_all_107 : decode cX5_all 107 = .ok (.ireturn, 1) := by decide +kernel
theorem dX5_back_0 : decode cX5_back 0 = .ok (.aload_n 0, 1) := by decide +kernel
theorem dX5_back_1 : decode cX5_back 1 = .ok (.getfield 26, 3) := by decide +kernel
theorem dX5_back_4 : decode cX5_back 4 = .ok (.ifCond .ne 10, 3) := by decide +kernel
theorem dX5_back_7 : decode cX5_back 7 = .ok (.aload_n 0, 1) := by decide +kernel
theorem dX5_back_8 : decode cX5_back 8 = .ok (.bipush (-3), 2) := by decide +kernel
theorem dX5_back_10 : decode cX5_back 10 = .ok (.invokevirtual 56, 3) := by decide +kernel
theorem dX5_back_13 : decode cX5_back 13 = .ok (.ireturn, 1) := by decide +kernel
theorem dX5_back_14 : decode cX5_back 14 = .ok (.aload_n 0, 1) := by decide +kernel
theorem dX5_back_15 : decode cX5_back 15 = .ok (.dup, 1) := by decide +kernel
theorem dX5_back_16 : decode cX5_back 16 = .ok (.getfield 26, 3) := by decide +kernel
theorem dX5_back_19 : decode cX5_back 19 = .ok (.iconst 1, 1) := by decide +kernel
theorem dX5_back_20 : decode cX5_back 20 = .ok (.isub, 1) := by decide +kernel
theorem dX5_back_21 : decode cX5_back 21 = .ok (.putfield 26, 3) := by decide +kernel
theorem dX5_back_24 : decode cX5_back 24 = .ok (.aload_n 0, 1) := by decide +kernel
theorem dX5_back_25 : decode cX5_back 25 = .ok (.aload_n 0, 1) := by decide +kernel
theorem dX5_back_26 : decode cX5_back 26 = .ok (.getfield 30, 3) := by decide +kernel
theorem dX5_back_29 : decode cX5_back 29 = .ok (.bipush 6, 2) := by decide +kernel
theorem dX5_back_31 : decode cX5_back 31 = .ok (.iadd, 1) := by decide +kernel
theorem dX5_back_32 : decode cX5_back 32 = .ok (.iconst 1, 1) := by decide +kernel
theorem dX5_back_33 : decode cX5_back 33 = .ok (.isub, 1) := by decide +kernel
theorem dX5_back_34 : decode cX5_back 34 = .ok (.bipush 6, 2) := by decide +kernel
theorem dX5_back_36 : decode cX5_back 36 = .ok (.irem, 1) := by decide +kernel
theorem dX5_back_37 : decode cX5_back 37 = .ok (.putfield 30, 3) := by decide +kernel
theorem dX5_back_40 : decode cX5_back 40 = .ok (.aload_n 0, 1) := by decide +kernel
theorem dX5_back_41 : decode cX5_back 41 = .ok (.getfield 18, 3) := by decide +kernel
theorem dX5_back_44 : decode cX5_back 44 = .ok (.aload_n 0, 1) := by decide +kernel
theorem dX5_back_45 : decode cX5_back 45 = .ok (.getfield 22, 3) := by decide +kernel
theorem dX5_back_48 : decode cX5_back 48 = .ok (.aload_n 0, 1) := by decide +kernel
theorem dX5_back_49 : decode cX5_back 49 = .ok (.getfield 30, 3) := by decide +kernel
theorem dX5_back_52 : decode cX5_back 52 = .ok (.aaload, 1) := by decide +kernel
theorem dX5_back_53 : decode cX5_back 53 = .ok (.invokevirtual 216, 3) := by decide +kernel
theorem dX5_back_56 : decode cX5_back 56 = .ok (.iconst 0, 1) := by decide +kernel
theorem dX5_back_57 : decode cX5_back 57 = .ok (.istore_n 1, 1) := by decide +kernel
theorem dX5_back_58 : decode cX5_back 58 = .ok (.iload_n 1, 1) := by decide +kernel
theorem dX5_back_59 : decode cX5_back 59 = .ok (.iconst 3, 1) := by decide +kernel
theorem dX5_back_60 : decode cX5_back 60 = .ok (.if_icmp .ge 27, 3) := by decide +kernel
theorem dX5_back_63 : decode cX5_back 63 = .ok (.aload_n 0, 1) := by decide +kernel
theorem dX5_back_64 : decode cX5_back 64 = .ok (.getfield 11, 3) := by decide +kernel
theorem dX5_back_67 : decode cX5_back 67 = .ok (.iload_n 1, 1) := by decide +kernel
theorem dX5_back_68 : decode cX5_back 68 = .ok (.aaload, 1) := by decide +kernel
theorem dX5_back_69 : decode cX5_back 69 = .ok (.aload_n 0, 1) := by decide +kernel
theorem dX5_back_70 : decode cX5_back 70 = .ok (.getfield 18, 3) := by decide +kernel
theorem dX5_back_73 : decode cX5_back 73 = .ok (.getfield 220, 3) := by decide +kernel
theorem dX5_back_76 : decode cX5_back 76 = .ok (.iload_n 1, 1) := by decide +kernel
theorem dX5_back_77 : decode cX5_back 77 = .ok (.iaload, 1) := by decide +kernel
theorem dX5_back_78 : decode cX5_back 78 = .ok (.invokevirtual 223, 3) := by decide +kernel
theorem dX5_back_81 : decode cX5_back 81 = .ok (.iinc 1 1, 3) := by decide +kernel
theorem dX5_back_84 : decode cX5_back 84 = .ok (.goto (-26), 3) := by decide +kernel
theorem dX5_back_87 : decode cX5_back 87 = .ok (.aload_n 0, 1) := by decide +kernel
theorem dX5_back_88 : decode cX5_back 88 = .ok (.getfield 26, 3) := by decide +kernel
theorem dX5_back_91 : decode cX5_back 91 = .ok (.ireturn, 1) := by decide +kernel
theorem dX5_told_0 : decode cX5_told 0 = .ok (.iload_n 1, 1) := by decide +kernel
theorem dX5_told_1 : decode cX5_told 1 = .ok (.bipush 7, 2) := by decide +kernel
theorem dX5_told_3 : decode cX5_told 3 = .ok (.invokestatic 52, 3) := by decide +kernel
theorem dX5_told_6 : decode cX5_told 6 = .ok (.ifCond .eq 10, 3) := by decide +kernel
theorem dX5_told_9 : decode cX5_told 9 = .ok (.aload_n 0, 1) := by decide +kernel
theorem dX5_told_10 : decode cX5_told 10 = .ok (.bipush (-2), 2) := by decide +kernel
theorem dX5_told_12 : decode cX5_told 12 = .ok (.invokevirtual 56, 3) := by decide +kernel
theorem dX5_told_15 : decode cX5_told 15 = .ok (.ireturn, 1) := by decide +kernel
theorem dX5_told_16 : decode cX5_told 16 = .ok (.iload_n 1, 1) := by decide +kernel
theorem dX5_told_17 : decode cX5_told 17 = .ok (.iconst 5, 1) := by decide +kernel
theorem dX5_told_18 : decode cX5_told 18 = .ok (.if_icmp .ge 10, 3) := by decide +kernel
theorem dX5_told_21 : decode cX5_told 21 = .ok (.aload_n 0, 1) := by decide +kernel
theorem dX5_told_22 : decode cX5_told 22 = .ok (.getfield 40, 3) := by decide +kernel
theorem dX5_told_25 : decode cX5_told 25 = .ok (.iload_n 1, 1) := by decide +kernel
theorem dX5_told_26 : decode cX5_told 26 = .ok (.iaload, 1) := by decide +kernel
theorem dX5_told_27 : decode cX5_told 27 = .ok (.ireturn, 1) := by decide +kernel
theorem dX5_told_28 : decode cX5_told 28 = .ok (.iload_n 1, 1) := by decide +kernel
theorem dX5_told_29 : decode cX5_told 29 = .ok (.iconst 5, 1) := by decide +kernel
theorem dX5_told_30 : decode cX5_told 30 = .ok (.if_icmp .ne 13, 3) := by decide +kernel
theorem dX5_told_33 : decode cX5_told 33 = .ok (.aload_n 0, 1) := by decide +kernel
theorem dX5_told_34 : decode cX5_told 34 = .ok (.getfield 36, 3) := by decide +kernel
theorem dX5_told_37 : decode cX5_told 37 = .ok (.getfield 191, 3) := by decide +kernel
theorem dX5_told_40 : decode cX5_told 40 = .ok (.goto 7, 3) := by decide +kernel
theorem dX5_told_43 : decode cX5_told 43 = .ok (.aload_n 0, 1) := by decide +kernel
theorem dX5_told_44 : decode cX5_told 44 = .ok (.getfield 26, 3) := by decide +kernel
theorem dX5_told_47 : decode cX5_told 47 = .ok (.ireturn, 1) := by decide +kernel
theorem dX5_digest_0 : decode cX5_digest 0 = .ok (.ldc2_w 227, 3) := by decide +kernel
theorem dX5_digest_3 : decode cX5_digest 3 = .ok (.lstore_n 1, 1) := by decide +kernel
theorem dX5_digest_4 : decode cX5_digest 4 = .ok (.iconst 0, 1) := by decide +kernel
theorem dX5_digest_5 : decode cX5_digest 5 = .ok (.istore_n 3, 1) := by decide +kernel
theorem dX5_digest_6 : decode cX5_digest 6 = .ok (.iload_n 3, 1) := by decide +kernel
theorem dX5_digest_7 : decode cX5_digest 7 = .ok (.bipush 6, 2) := by decide +kernel
theorem dX5_digest_9 : decode cX5_digest 9 = .ok (.if_icmp .gt 22, 3) := by decide +kernel
theorem dX5_digest_12 : decode cX5_digest 12 = .ok (.ldc2_w 229, 3) := by decide +kernel
theorem dX5_digest_15 : decode cX5_digest 15 = .ok (.lload_n 1, 1) := by decide +kernel
theorem dX5_digest_16 : decode cX5_digest 16 = .ok (.lmul, 1) := by decide +kernel
theorem dX5_digest_17 : decode cX5_digest 17 = .ok (.aload_n 0, 1) := by decide +kernel
theorem dX5_digest_18 : decode cX5_digest 18 = .ok (.iload_n 3, 1) := by decide +kernel
theorem dX5_digest_19 : decode cX5_digest 19 = .ok (.invokevirtual 231, 3) := by decide +kernel
theorem dX5_digest_22 : decode cX5_digest 22 = .ok (.i2l, 1) := by decide +kernel
theorem dX5_digest_23 : decode cX5_digest 23 = .ok (.ladd, 1) := by decide +kernel
theorem dX5_digest_24 : decode cX5_digest 24 = .ok (.lstore_n 1, 1) := by decide +kernel
theorem dX5_digest_25 : decode cX5_digest 25 = .ok (.iinc 3 1, 3) := by decide +kernel
theorem dX5_digest_28 : decode cX5_digest 28 = .ok (.goto (-22), 3) := by decide +kernel
theorem dX5_digest_31 : decode cX5_digest 31 = .ok (.iconst 0, 1) := by decide +kernel
theorem dX5_digest_32 : decode cX5_digest 32 = .ok (.istore_n 3, 1) := by decide +kernel
theorem dX5_digest_33 : decode cX5_digest 33 = .ok (.iload_n 3, 1) := by decide +kernel
theorem dX5_digest_34 : decode cX5_digest 34 = .ok (.bipush 7, 2) := by decide +kernel
theorem dX5_digest_36 : decode cX5_digest 36 = .ok (.if_icmp .gt 22, 3) := by decide +kernel
theorem dX5_digest_39 : decode cX5_digest 39 = .ok (.ldc2_w 229, 3) := by decide +kernel
theorem dX5_digest_42 : decode cX5_digest 42 = .ok (.lload_n 1, 1) := by decide +kernel
theorem dX5_digest_43 : decode cX5_digest 43 = .ok (.lmul, 1) := by decide +kernel
theorem dX5_digest_44 : decode cX5_digest 44 = .ok (.aload_n 0, 1) := by decide +kernel
theorem dX5_digest_45 : decode cX5_digest 45 = .ok (.iload_n 3, 1) := by decide +kernel
theorem dX5_digest_46 : decode cX5_digest 46 = .ok (.invokevirtual 234, 3) := by decide +kernel
theorem dX5_digest_49 : decode cX5_digest 49 = .ok (.i2l, 1) := by decide +kernel
theorem dX5_digest_50 : decode cX5_digest 50 = .ok (.ladd, 1) := by decide +kernel
theorem dX5_digest_51 : decode cX5_digest 51 = .ok (.lstore_n 1, 1) := by decide +kernel
theorem dX5_digest_52 : decode cX5_digest 52 = .ok (.iinc 3 1, 3) := by decide +kernel
theorem dX5_digest_55 : decode cX5_digest 55 = .ok (.goto (-22), 3) := by decide +kernel
theorem dX5_digest_58 : decode cX5_digest 58 = .ok (.iconst 0, 1) := by decide +kernel
theorem dX5_digest_59 : decode cX5_digest 59 = .ok (.istore_n 3, 1) := by decide +kernel
theorem dX5_digest_60 : decode cX5_digest 60 = .ok (.iload_n 3, 1) := by decide +kernel
theorem dX5_digest_61 : decode cX5_digest 61 = .ok (.iconst 4, 1) := by decide +kernel
theorem dX5_digest_62 : decode cX5_digest 62 = .ok (.if_icmp .ge 40, 3) := by decide +kernel
theorem dX5_digest_65 : decode cX5_digest 65 = .ok (.iconst 0, 1) := by decide +kernel
theorem dX5_digest_66 : decode cX5_digest 66 = .ok (.istore 4, 2) := by decide +kernel
theorem dX5_digest_68 : decode cX5_digest 68 = .ok (.iload 4, 2) := by decide +kernel
theorem dX5_digest_70 : decode cX5_digest 70 = .ok (.bipush 8, 2) := by decide +kernel
theorem dX5_digest_72 : decode cX5_digest 72 = .ok (.if_icmp .gt 24, 3) := by decide +kernel
theorem dX5_digest_75 : decode cX5_digest 75 = .ok (.ldc2_w 229, 3) := by decide +kernel
theorem dX5_digest_78 : decode cX5_digest 78 = .ok (.lload_n 1, 1) := by decide +kernel
theorem dX5_digest_79 : decode cX5_digest 79 = .ok (.lmul, 1) := by decide +kernel
theorem dX5_digest_80 : decode cX5_digest 80 = .ok (.aload_n 0, 1) := by decide +kernel
theorem dX5_digest_81 : decode cX5_digest 81 = .ok (.iload_n 3, 1) := by decide +kernel
theorem dX5_digest_82 : decode cX5_digest 82 = .ok (.iload 4, 2) := by decide +kernel
theorem dX5_digest_84 : decode cX5_digest 84 = .ok (.invokevirtual 237, 3) := by decide +kernel
theorem dX5_digest_87 : decode cX5_digest 87 = .ok (.i2l, 1) := by decide +kernel
theorem dX5_digest_88 : decode cX5_digest 88 = .ok (.ladd, 1) := by decide +kernel
theorem dX5_digest_89 : decode cX5_digest 89 = .ok (.lstore_n 1, 1) := by decide +kernel
theorem dX5_digest_90 : decode cX5_digest 90 = .ok (.iinc 4 1, 3) := by decide +kernel
theorem dX5_digest_93 : decode cX5_digest 93 = .ok (.goto (-25), 3) := by decide +kernel
theorem dX5_digest_96 : decode cX5_digest 96 = .ok (.iinc 3 1, 3) := by decide +kernel
theorem dX5_digest_99 : decode cX5_digest 99 = .ok (.goto (-39), 3) := by decide +kernel
theorem dX5_digest_102 : decode cX5_digest 102 = .ok (.iconst 0, 1) := by decide +kernel
theorem dX5_digest_103 : decode cX5_digest 103 = .ok (.istore_n 3, 1) := by decide +kernel
theorem dX5_digest_104 : decode cX5_digest 104 = .ok (.iload_n 3, 1) := by decide +kernel
theorem dX5_digest_105 : decode cX5_digest 105 = .ok (.iconst 3, 1) := by decide +kernel
theorem dX5_digest_106 : decode cX5_digest 106 = .ok (.if_icmp .ge 16, 3) := by decide +kernel
theorem dX5_digest_109 : decode cX5_digest 109 = .ok (.aload_n 0, 1) := by decide +kernel
theorem dX5_digest_110 : decode cX5_digest 110 = .ok (.lload_n 1, 1) := by decide +kernel
theorem dX5_digest_111 : decode cX5_digest 111 = .ok (.iload_n 3, 1) := by decide +kernel
theorem dX5_digest_112 : decode cX5_digest 112 = .ok (.invokevirtual 239, 3) := by decide +kernel
theorem dX5_digest_115 : decode cX5_digest 115 = .ok (.lstore_n 1, 1) := by decide +kernel
theorem dX5_digest_116 : decode cX5_digest 116 = .ok (.iinc 3 1, 3) := by decide +kernel
theorem dX5_digest_119 : decode cX5_digest 119 = .ok (.goto (-15), 3) := by decide +kernel
theorem dX5_digest_122 : decode cX5_digest 122 = .ok (.iconst 0, 1) := by decide +kernel
theorem dX5_digest_123 : decode cX5_digest 123 = .ok (.istore_n 3, 1) := by decide +kernel
theorem dX5_digest_124 : decode cX5_digest 124 = .ok (.iload_n 3, 1) := by decide +kernel
theorem dX5_digest_125 : decode cX5_digest 125 = .ok (.iconst 2, 1) := by decide +kernel
theorem dX5_digest_126 : decode cX5_digest 126 = .ok (.if_icmp .ge 16, 3) := by decide +kernel
theorem dX5_digest_129 : decode cX5_digest 129 = .ok (.aload_n 0, 1) := by decide +kernel
theorem dX5_digest_130 : decode cX5_digest 130 = .ok (.lload_n 1, 1) := by decide +kernel
theorem dX5_digest_131 : decode cX5_digest 131 = .ok (.iload_n 3, 1) := by decide +kernel
theorem dX5_digest_132 : decode cX5_digest 132 = .ok (.invokevirtual 243, 3) := by decide +kernel
theorem dX5_digest_135 : decode cX5_digest 135 = .ok (.lstore_n 1, 1) := by decide +kernel
theorem dX5_digest_136 : decode cX5_digest 136 = .ok (.iinc 3 1, 3) := by decide +kernel
theorem dX5_digest_139 : decode cX5_digest 139 = .ok (.goto (-15), 3) := by decide +kernel
theorem dX5_digest_142 : decode cX5_digest 142 = .ok (.lload_n 1, 1) := by decide +kernel
theorem dX5_digest_143 : decode cX5_digest 143 = .ok (.lreturn, 1) := by decide +kernel
theorem dX5_outside_0 : decode cX5_outside 0 = .ok (.iload_n 0, 1) := by decide +kernel
theorem dX5_outside_1 : decode cX5_outside 1 = .ok (.ifCond .lt 8, 3) := by decide +kernel
theorem dX5_outside_4 : decode cX5_outside 4 = .ok (.iload_n 0, 1) := by decide +kernel
theorem dX5_outside_5 : decode cX5_outside 5 = .ok (.iload_n 1, 1) := by decide +kernel
theorem dX5_outside_6 : decode cX5_outside 6 = .ok (.if_icmp .lt 7, 3) := by decide +kernel
theorem dX5_outside_9 : decode cX5_outside 9 = .ok (.iconst 1, 1) := by decide +kernel
theorem dX5_outside_10 : decode cX5_outside 10 = .ok (.goto 4, 3) := by decide +kernel
theorem dX5_outside_13 : decode cX5_outside 13 = .ok (.iconst 0, 1) := by decide +kernel
theorem dX5_outside_14 : decode cX5_outside 14 = .ok (.ireturn, 1) := by decide +kernel
theorem dX5_wrongAge_0 : decode cX5_wrongAge 0 = .ok (.iload_n 1, 1) := by decide +kernel
theorem dX5_wrongAge_1 : decode cX5_wrongAge 1 = .ok (.iconst 4, 1) := by decide +kernel
theorem dX5_wrongAge_2 : decode cX5_wrongAge 2 = .ok (.invokestatic 52, 3) := by decide +kernel
theorem dX5_wrongAge_5 : decode cX5_wrongAge 5 = .ok (.ifCond .ne 23, 3) := by decide +kernel
theorem dX5_wrongAge_8 : decode cX5_wrongAge 8 = .ok (.iload_n 2, 1) := by decide +kernel
theorem dX5_wrongAge_9 : decode cX5_wrongAge 9 = .ok (.ifCond .lt 19, 3) := by decide +kernel
theorem dX5_wrongAge_12 : decode cX5_wrongAge 12 = .ok (.iload_n 2, 1) := by decide +kernel
theorem dX5_wrongAge_13 : decode cX5_wrongAge 13 = .ok (.aload_n 0, 1) := by decide +kernel
theorem dX5_wrongAge_14 : decode cX5_wrongAge 14 = .ok (.getfield 18, 3) := by decide +kernel
theorem dX5_wrongAge_17 : decode cX5_wrongAge 17 = .ok (.getfield 60, 3) := by decide +kernel
theorem dX5_wrongAge_20 : decode cX5_wrongAge 20 = .ok (.iload_n 1, 1) := by decide +kernel
theorem dX5_wrongAge_21 : decode cX5_wrongAge 21 = .ok (.aaload, 1) := by decide +kernel
theorem dX5_wrongAge_22 : decode cX5_wrongAge 22 = .ok (.getfield 69, 3) := by decide +kernel
theorem dX5_wrongAge_25 : decode cX5_wrongAge 25 = .ok (.if_icmp .le 7, 3) := by decide +kernel
theorem dX5_wrongAge_28 : decode cX5_wrongAge 28 = .ok (.iconst 1, 1) := by decide +kernel
theorem dX5_wrongAge_29 : decode cX5_wrongAge 29 = .ok (.goto 4, 3) := by decide +kernel
theorem dX5_wrongAge_32 : decode cX5_wrongAge 32 = .ok (.iconst 0, 1) := by decide +kernel
theorem dX5_wrongAge_33 : decode cX5_wrongAge 33 = .ok (.ireturn, 1) := by decide +kernel
theorem dX5_failed_0 : decode cX5_failed 0 = .ok (.iload_n 1, 1) := by decide +kernel
theorem dX5_failed_1 : decode cX5_failed 1 = .ok (.tableswitch 91 (-7) (-2) #[78, 52, 91, 91, 65, 39], 39) := by decide +kernel
theorem dX5_failed_40 : decode cX5_failed 40 = .ok (.aload_n 0, 1) := by decide +kernel
theorem dX5_failed_41 : decode cX5_failed 41 = .ok (.getfield 40, 3) := by decide +kernel
theorem dX5_failed_44 : decode cX5_failed 44 = .ok (.iconst 0, 1) := by decide +kernel
theorem dX5_failed_45 : decode cX5_failed 45 = .ok (.dup2, 1) := by decide +kernel
theorem dX5_failed_46 : decode cX5_failed 46 = .ok (.iaload, 1) := by decide +kernel
theorem dX5_failed_47 : decode cX5_failed 47 = .ok (.iconst 1, 1) := by decide +kernel
theorem dX5_failed_48 : decode cX5_failed 48 = .ok (.iadd, 1) := by decide +kernel
theorem dX5_failed_49 : decode cX5_failed 49 = .ok (.iastore, 1) := by decide +kernel
theorem dX5_failed_50 : decode cX5_failed 50 = .ok (.goto 52, 3) := by decide +kernel
theorem dX5_failed_53 : decode cX5_failed 53 = .ok (.aload_n 0, 1) := by decide +kernel
theorem dX5_failed_54 : decode cX5_failed 54 = .ok (.getfield 40, 3) := by decide +kernel
theorem dX5_failed_57 : decode cX5_failed 57 = .ok (.iconst 1, 1) := by decide +kernel
theorem dX5_failed_58 : decode cX5_failed 58 = .ok (.dup2, 1) := by decide +kernel
theorem dX5_failed_59 : decode cX5_failed 59 = .ok (.iaload, 1) := by decide +kernel
theorem dX5_failed_60 : decode cX5_failed 60 = .ok (.iconst 1, 1) := by decide +kernel
theorem dX5_failed_61 : decode cX5_failed 61 = .ok (.iadd, 1) := by decide +kernel
theorem dX5_failed_62 : decode cX5_failed 62 = .ok (.iastore, 1) := by decide +kernel
theorem dX5_failed_63 : decode cX5_failed 63 = .ok (.goto 39, 3) := by decide +kernel
theorem dX5_failed_66 : decode cX5_failed 66 = .ok (.aload_n 0, 1) := by decide +kernel
theorem dX5_failed_67 : decode cX5_failed 67 = .ok (.getfield 40, 3) := by decide +kernel
theorem dX5_failed_70 : decode cX5_failed 70 = .ok (.iconst 2, 1) := by decide +kernel
theorem dX5_failed_71 : decode cX5_failed 71 = .ok (.dup2, 1) := by decide +kernel
theorem dX5_failed_72 : decode cX5_failed 72 = .ok (.iaload, 1) := by decide +kernel
theorem dX5_failed_73 : decode cX5_failed 73 = .ok (.iconst 1, 1) := by decide +kernel
theorem dX5_failed_74 : decode cX5_failed 74 = .ok (.iadd, 1) := by decide +kernel
theorem dX5_failed_75 : decode cX5_failed 75 = .ok (.iastore, 1) := by decide +kernel
theorem dX5_failed_76 : decode cX5_failed 76 = .ok (.goto 26, 3) := by decide +kernel
theorem dX5_failed_79 : decode cX5_failed 79 = .ok (.aload_n 0, 1) := by decide +kernel
theorem dX5_failed_80 : decode cX5_failed 80 = .ok (.getfield 40, 3) := by decide +kernel
theorem dX5_failed_83 : decode cX5_failed 83 = .ok (.iconst 3, 1) := by decide +kernel
theorem dX5_failed_84 : decode cX5_failed 84 = .ok (.dup2, 1) := by decide +kernel
theorem dX5_failed_85 : decode cX5_failed 85 = .ok (.iaload, 1) := by decide +kernel
theorem dX5_failed_86 : decode cX5_failed 86 = .ok (.iconst 1, 1) := by decide +kernel
theorem dX5_failed_87 : decode cX5_failed 87 = .ok (.iadd, 1) := by decide +kernel
theorem dX5_failed_88 : decode cX5_failed 88 = .ok (.iastore, 1) := by decide +kernel
theorem dX5_failed_89 : decode cX5_failed 89 = .ok (.goto 13, 3) := by decide +kernel
theorem dX5_failed_92 : decode cX5_failed 92 = .ok (.aload_n 0, 1) := by decide +kernel
theorem dX5_failed_93 : decode cX5_failed 93 = .ok (.getfield 40, 3) := by decide +kernel
theorem dX5_failed_96 : decode cX5_failed 96 = .ok (.iconst 4, 1) := by decide +kernel
theorem dX5_failed_97 : decode cX5_failed 97 = .ok (.dup2, 1) := by decide +kernel
theorem dX5_failed_98 : decode cX5_failed 98 = .ok (.iaload, 1) := by decide +kernel
theorem dX5_failed_99 : decode cX5_failed 99 = .ok (.iconst 1, 1) := by decide +kernel
theorem dX5_failed_100 : decode cX5_failed 100 = .ok (.iadd, 1) := by decide +kernel
theorem dX5_failed_101 : decode cX5_failed 101 = .ok (.iastore, 1) := by decide +kernel
theorem dX5_failed_102 : decode cX5_failed 102 = .ok (.iload_n 1, 1) := by decide +kernel
theorem dX5_failed_103 : decode cX5_failed 103 = .ok (.ireturn, 1) := by decide +kernel
theorem dX5_keep_0 : decode cX5_keep 0 = .ok (.aload_n 0, 1) := by decide +kernel
theorem dX5_keep_1 : decode cX5_keep 1 = .ok (.getfield 47, 3) := by decide +kernel
theorem dX5_keep_4 : decode cX5_keep 4 = .ok (.ifCond .eq 4, 3) := by decide +kernel
theorem dX5_keep_7 : decode cX5_keep 7 = .ok (.return_, 1) := by decide +kernel
theorem dX5_keep_8 : decode cX5_keep 8 = .ok (.iconst 0, 1) := by decide +kernel
theorem dX5_keep_9 : decode cX5_keep 9 = .ok (.istore_n 1, 1) := by decide +kernel
theorem dX5_keep_10 : decode cX5_keep 10 = .ok (.iload_n 1, 1) := by decide +kernel
theorem dX5_keep_11 : decode cX5_keep 11 = .ok (.iconst 3, 1) := by decide +kernel
theorem dX5_keep_12 : decode cX5_keep 12 = .ok (.if_icmp .ge 27, 3) := by decide +kernel
theorem dX5_keep_15 : decode cX5_keep 15 = .ok (.aload_n 0, 1) := by decide +kernel
theorem dX5_keep_16 : decode cX5_keep 16 = .ok (.getfield 18, 3) := by decide +kernel
theorem dX5_keep_19 : decode cX5_keep 19 = .ok (.getfield 220, 3) := by decide +kernel
theorem dX5_keep_22 : decode cX5_keep 22 = .ok (.iload_n 1, 1) := by decide +kernel
theorem dX5_keep_23 : decode cX5_keep 23 = .ok (.aload_n 0, 1) := by decide +kernel
theorem dX5_keep_24 : decode cX5_keep 24 = .ok (.getfield 11, 3) := by decide +kernel
theorem dX5_keep_27 : decode cX5_keep 27 = .ok (.iload_n 1, 1) := by decide +kernel
theorem dX5_keep_28 : decode cX5_keep 28 = .ok (.aaload, 1) := by decide +kernel
theorem dX5_keep_29 : decode cX5_keep 29 = .ok (.getfield 99, 3) := by decide +kernel
theorem dX5_keep_32 : decode cX5_keep 32 = .ok (.iastore, 1) := by decide +kernel
theorem dX5_keep_33 : decode cX5_keep 33 = .ok (.iinc 1 1, 3) := by decide +kernel
theorem dX5_keep_36 : decode cX5_keep 36 = .ok (.goto (-26), 3) := by decide +kernel
theorem dX5_keep_39 : decode cX5_keep 39 = .ok (.aload_n 0, 1) := by decide +kernel
theorem dX5_keep_40 : decode cX5_keep 40 = .ok (.getfield 22, 3) := by decide +kernel
theorem dX5_keep_43 : decode cX5_keep 43 = .ok (.aload_n 0, 1) := by decide +kernel
theorem dX5_keep_44 : decode cX5_keep 44 = .ok (.getfield 30, 3) := by decide +kernel
theorem dX5_keep_47 : decode cX5_keep 47 = .ok (.aaload, 1) := by decide +kernel
theorem dX5_keep_48 : decode cX5_keep 48 = .ok (.aload_n 0, 1) := by decide +kernel
theorem dX5_keep_49 : decode cX5_keep 49 = .ok (.getfield 18, 3) := by decide +kernel
theorem dX5_keep_52 : decode cX5_keep 52 = .ok (.invokevirtual 216, 3) := by decide +kernel
theorem dX5_keep_55 : decode cX5_keep 55 = .ok (.aload_n 0, 1) := by decide +kernel
theorem dX5_keep_56 : decode cX5_keep 56 = .ok (.aload_n 0, 1) := by decide +kernel
theorem dX5_keep_57 : decode cX5_keep 57 = .ok (.getfield 30, 3) := by decide +kernel
theorem dX5_keep_60 : decode cX5_keep 60 = .ok (.iconst 1, 1) := by decide +kernel
theorem dX5_keep_61 : decode cX5_keep 61 = .ok (.iadd, 1) := by decide +kernel
theorem dX5_keep_62 : decode cX5_keep 62 = .ok (.bipush 6, 2) := by decide +kernel
theorem dX5_keep_64 : decode cX5_keep 64 = .ok (.irem, 1) := by decide +kernel
theorem dX5_keep_65 : decode cX5_keep 65 = .ok (.putfield 30, 3) := by decide +kernel
theorem dX5_keep_68 : decode cX5_keep 68 = .ok (.aload_n 0, 1) := by decide +kernel
theorem dX5_keep_69 : decode cX5_keep 69 = .ok (.aload_n 0, 1) := by decide +kernel
theorem dX5_keep_70 : decode cX5_keep 70 = .ok (.getfield 26, 3) := by decide +kernel
theorem dX5_keep_73 : decode cX5_keep 73 = .ok (.iconst 1, 1) := by decide +kernel
theorem dX5_keep_74 : decode cX5_keep 74 = .ok (.iadd, 1) := by decide +kernel
theorem dX5_keep_75 : decode cX5_keep 75 = .ok (.bipush 6, 2) := by decide +kernel
theorem dX5_keep_77 : decode cX5_keep 77 = .ok (.invokestatic 246, 3) := by decide +kernel
theorem dX5_keep_80 : decode cX5_keep 80 = .ok (.putfield 26, 3) := by decide +kernel
theorem dX5_keep_83 : decode cX5_keep 83 = .ok (.return_, 1) := by decide +kernel
theorem dX5_endDeed_0 : decode cX5_endDeed 0 = .ok (.aload_n 1, 1) := by decide +kernel
theorem dX5_endDeed_1 : decode cX5_endDeed 1 = .ok (.iconst 2, 1) := by decide +kernel
theorem dX5_endDeed_2 : decode cX5_endDeed 2 = .ok (.putfield 64, 3) := by decide +kernel
theorem dX5_endDeed_5 : decode cX5_endDeed 5 = .ok (.aload_n 1, 1) := by decide +kernel
theorem dX5_endDeed_6 : decode cX5_endDeed 6 = .ok (.iload_n 2, 1) := by decide +kernel
theorem dX5_endDeed_7 : decode cX5_endDeed 7 = .ok (.putfield 140, 3) := by decide +kernel
theorem dX5_endDeed_10 : decode cX5_endDeed 10 = .ok (.aload_n 1, 1) := by decide +kernel
theorem dX5_endDeed_11 : decode cX5_endDeed 11 = .ok (.aload_n 0, 1) := by decide +kernel
theorem dX5_endDeed_12 : decode cX5_endDeed 12 = .ok (.getfield 18, 3) := by decide +kernel
theorem dX5_endDeed_15 : decode cX5_endDeed 15 = .ok (.getfield 82, 3) := by decide +kernel
theorem dX5_endDeed_18 : decode cX5_endDeed 18 = .ok (.invokevirtual 251, 3) := by decide +kernel
theorem dX5_endDeed_21 : decode cX5_endDeed 21 = .ok (.istore_n 3, 1) := by decide +kernel
theorem dX5_endDeed_22 : decode cX5_endDeed 22 = .ok (.iload_n 3, 1) := by decide +kernel
theorem dX5_endDeed_23 : decode cX5_endDeed 23 = .ok (.ifCond .ne 8, 3) := by decide +kernel
theorem dX5_endDeed_26 : decode cX5_endDeed 26 = .ok (.aload_n 0, 1) := by decide +kernel
theorem dX5_endDeed_27 : decode cX5_endDeed 27 = .ok (.aload_n 1, 1) := by decide +kernel
theorem dX5_endDeed_28 : decode cX5_endDeed 28 = .ok (.invokevirtual 254, 3) := by decide +kernel
theorem dX5_endDeed_31 : decode cX5_endDeed 31 = .ok (.iload_n 3, 1) := by decide +kernel
theorem dX5_endDeed_32 : decode cX5_endDeed 32 = .ok (.ireturn, 1) := by decide +kernel
theorem dX5_finishDeed_0 : decode cX5_finishDeed 0 = .ok (.aload_n 1, 1) := by decide +kernel
theorem dX5_finishDeed_1 : decode cX5_finishDeed 1 = .ok (.getfield 140, 3) := by decide +kernel
theorem dX5_finishDeed_4 : decode cX5_finishDeed 4 = .ok (.iconst 1, 1) := by decide +kernel
theorem dX5_finishDeed_5 : decode cX5_finishDeed 5 = .ok (.if_icmp .ne 35, 3) := by decide +kernel
theorem dX5_finishDeed_8 : decode cX5_finishDeed 8 = .ok (.iconst 0, 1) := by decide +kernel
theorem dX5_finishDeed_9 : decode cX5_finishDeed 9 = .ok (.istore_n 2, 1) := by decide +kernel
theorem dX5_finishDeed_10 : decode cX5_finishDeed 10 = .ok (.iload_n 2, 1) := by decide +kernel
theorem dX5_finishDeed_11 : decode cX5_finishDeed 11 = .ok (.iconst 2, 1) := by decide +kernel
theorem dX5_finishDeed_12 : decode cX5_finishDeed 12 = .ok (.if_icmp .ge 28, 3) := by decide +kernel
theorem dX5_finishDeed_15 : decode cX5_finishDeed 15 = .ok (.aload_n 0, 1) := by decide +kernel
theorem dX5_finishDeed_16 : decode cX5_finishDeed 16 = .ok (.getfield 18, 3) := by decide +kernel
theorem dX5_finishDeed_19 : decode cX5_finishDeed 19 = .ok (.getfield 112, 3) := by decide +kernel
theorem dX5_finishDeed_22 : decode cX5_finishDeed 22 = .ok (.iload_n 2, 1) := by decide +kernel
theorem dX5_finishDeed_23 : decode cX5_finishDeed 23 = .ok (.aaload, 1) := by decide +kernel
theorem dX5_finishDeed_24 : decode cX5_finishDeed 24 = .ok (.aload_n 1, 1) := by decide +kernel
theorem dX5_finishDeed_25 : decode cX5_finishDeed 25 = .ok (.getfield 121, 3) := by decide +kernel
theorem dX5_finishDeed_28 : decode cX5_finishDeed 28 = .ok (.iload_n 2, 1) := by decide +kernel
theorem dX5_finishDeed_29 : decode cX5_finishDeed 29 = .ok (.iconst 3, 1) := by decide +kernel
theorem dX5_finishDeed_30 : decode cX5_finishDeed 30 = .ok (.imul, 1) := by decide +kernel
theorem dX5_finishDeed_31 : decode cX5_finishDeed 31 = .ok (.invokevirtual 258, 3) := by decide +kernel
theorem dX5_finishDeed_34 : decode cX5_finishDeed 34 = .ok (.iinc 2 1, 3) := by decide +kernel
theorem dX5_finishDeed_37 : decode cX5_finishDeed 37 = .ok (.goto (-27), 3) := by decide +kernel
theorem dX5_finishDeed_40 : decode cX5_finishDeed 40 = .ok (.aload_n 1, 1) := by decide +kernel
theorem dX5_finishDeed_41 : decode cX5_finishDeed 41 = .ok (.invokevirtual 262, 3) := by decide +kernel
theorem dX5_finishDeed_44 : decode cX5_finishDeed 44 = .ok (.return_, 1) := by decide +kernel
theorem dX5_writeMarkers_0 : decode cX5_writeMarkers 0 = .ok (.iconst 0, 1) := by decide +kernel
theorem dX5_writeMarkers_1 : decode cX5_writeMarkers 1 = .ok (.istore_n 1, 1) := by decide +kernel
theorem dX5_writeMarkers_2 : decode cX5_writeMarkers 2 = .ok (.iconst 0, 1) := by decide +kernel
theorem dX5_writeMarkers_3 : decode cX5_writeMarkers 3 = .ok (.istore_n 2, 1) := by decide +kernel
theorem dX5_writeMarkers_4 : decode cX5_writeMarkers 4 = .ok (.iload_n 2, 1) := by decide +kernel
theorem dX5_writeMarkers_5 : decode cX5_writeMarkers 5 = .ok (.iconst 4, 1) := by decide +kernel
theorem dX5_writeMarkers_6 : decode cX5_writeMarkers 6 = .ok (.if_icmp .ge 87, 3) := by decide +kernel
theorem dX5_writeMarkers_9 : decode cX5_writeMarkers 9 = .ok (.aload_n 0, 1) := by decide +kernel
theorem dX5_writeMarkers_10 : decode cX5_writeMarkers 10 = .ok (.getfield 18, 3) := by decide +kernel
theorem dX5_writeMarkers_13 : decode cX5_writeMarkers 13 = .ok (.getfield 60, 3) := by decide +kernel
theorem dX5_writeMarkers_16 : decode cX5_writeMarkers 16 = .ok (.iload_n 2, 1) := by decide +kernel
theorem dX5_writeMarkers_17 : decode cX5_writeMarkers 17 = .ok (.aaload, 1) := by decide +kernel
theorem dX5_writeMarkers_18 : decode cX5_writeMarkers 18 = .ok (.astore_n 3, 1) := by decide +kernel
theorem dX5_writeMarkers_19 : decode cX5_writeMarkers 19 = .ok (.aload_n 3, 1) := by decide +kernel
theorem dX5_writeMarkers_20 : decode cX5_writeMarkers 20 = .ok (.aload_n 0, 1) := by decide +kernel
theorem dX5_writeMarkers_21 : decode cX5_writeMarkers 21 = .ok (.getfield 18, 3) := by decide +kernel
theorem dX5_writeMarkers_24 : decode cX5_writeMarkers 24 = .ok (.getfield 82, 3) := by decide +kernel
theorem dX5_writeMarkers_27 : decode cX5_writeMarkers 27 = .ok (.invokevirtual 265, 3) := by decide +kernel
theorem dX5_writeMarkers_30 : decode cX5_writeMarkers 30 = .ok (.istore 4, 2) := by decide +kernel
theorem dX5_writeMarkers_32 : decode cX5_writeMarkers 32 = .ok (.iload 4, 2) := by decide +kernel
theorem dX5_writeMarkers_34 : decode cX5_writeMarkers 34 = .ok (.iconst (-1), 1) := by decide +kernel
theorem dX5_writeMarkers_35 : decode cX5_writeMarkers 35 = .ok (.if_icmp .eq 52, 3) := by decide +kernel
theorem dX5_writeMarkers_38 : decode cX5_writeMarkers 38 = .ok (.aload_n 0, 1) := by decide +kernel
theorem dX5_writeMarkers_39 : decode cX5_writeMarkers 39 = .ok (.getfield 11, 3) := by decide +kernel
theorem dX5_writeMarkers_42 : decode cX5_writeMarkers 42 = .ok (.iload 4, 2) := by decide +kernel
theorem dX5_writeMarkers_44 : decode cX5_writeMarkers 44 = .ok (.aaload, 1) := by decide +kernel
theorem dX5_writeMarkers_45 : decode cX5_writeMarkers 45 = .ok (.iload_n 2, 1) := by decide +kernel
theorem dX5_writeMarkers_46 : decode cX5_writeMarkers 46 = .ok (.aload_n 3, 1) := by decide +kernel
theorem dX5_writeMarkers_47 : decode cX5_writeMarkers 47 = .ok (.getfield 69, 3) := by decide +kernel
theorem dX5_writeMarkers_50 : decode cX5_writeMarkers 50 = .ok (.aload_n 3, 1) := by decide +kernel
theorem dX5_writeMarkers_51 : decode cX5_writeMarkers 51 = .ok (.getfield 140, 3) := by decide +kernel
theorem dX5_writeMarkers_54 : decode cX5_writeMarkers 54 = .ok (.aload_n 3, 1) := by decide +kernel
theorem dX5_writeMarkers_55 : decode cX5_writeMarkers 55 = .ok (.getfield 105, 3) := by decide +kernel
theorem dX5_writeMarkers_58 : decode cX5_writeMarkers 58 = .ok (.iload 4, 2) := by decide +kernel
theorem dX5_writeMarkers_60 : decode cX5_writeMarkers 60 = .ok (.iaload, 1) := by decide +kernel
theorem dX5_writeMarkers_61 : decode cX5_writeMarkers 61 = .ok (.invokevirtual 268, 3) := by decide +kernel
theorem dX5_writeMarkers_64 : decode cX5_writeMarkers 64 = .ok (.aload_n 3, 1) := by decide +kernel
theorem dX5_writeMarkers_65 : decode cX5_writeMarkers 65 = .ok (.getfield 272, 3) := by decide +kernel
theorem dX5_writeMarkers_68 : decode cX5_writeMarkers 68 = .ok (.iload 4, 2) := by decide +kernel
theorem dX5_writeMarkers_70 : decode cX5_writeMarkers 70 = .ok (.iconst 0, 1) := by decide +kernel
theorem dX5_writeMarkers_71 : decode cX5_writeMarkers 71 = .ok (.iastore, 1) := by decide +kernel
theorem dX5_writeMarkers_72 : decode cX5_writeMarkers 72 = .ok (.iinc 1 1, 3) := by decide +kernel
theorem dX5_writeMarkers_75 : decode cX5_writeMarkers 75 = .ok (.aload_n 3, 1) := by decide +kernel
theorem dX5_writeMarkers_76 : decode cX5_writeMarkers 76 = .ok (.invokevirtual 137, 3) := by decide +kernel
theorem dX5_writeMarkers_79 : decode cX5_writeMarkers 79 = .ok (.ifCond .ne 8, 3) := by decide +kernel
theorem dX5_writeMarkers_82 : decode cX5_writeMarkers 82 = .ok (.aload_n 0, 1) := by decide +kernel
theorem dX5_writeMarkers_83 : decode cX5_writeMarkers 83 = .ok (.aload_n 3, 1) := by decide +kernel
theorem dX5_writeMarkers_84 : decode cX5_writeMarkers 84 = .ok (.invokevirtual 254, 3) := by decide +kernel
theorem dX5_writeMarkers_87 : decode cX5_writeMarkers 87 = .ok (.iinc 2 1, 3) := by decide +kernel
theorem dX5_writeMarkers_90 : decode cX5_writeMarkers 90 = .ok (.goto (-86), 3) := by decide +kernel
theorem dX5_writeMarkers_93 : decode cX5_writeMarkers 93 = .ok (.iload_n 1, 1) := by decide +kernel
theorem dX5_writeMarkers_94 : decode cX5_writeMarkers 94 = .ok (.ireturn, 1) := by decide +kernel
theorem dX5_abortHanging_0 : decode cX5_abortHanging 0 = .ok (.iconst 0, 1) := by decide +kernel
theorem dX5_abortHanging_1 : decode cX5_abortHanging 1 = .ok (.istore_n 1, 1) := by decide +kernel
theorem dX5_abortHanging_2 : decode cX5_abortHanging 2 = .ok (.iload_n 1, 1) := by decide +kernel
theorem dX5_abortHanging_3 : decode cX5_abortHanging 3 = .ok (.iconst 4, 1) := by decide +kernel
theorem dX5_abortHanging_4 : decode cX5_abortHanging 4 = .ok (.if_icmp .ge 66, 3) := by decide +kernel
theorem dX5_abortHanging_7 : decode cX5_abortHanging 7 = .ok (.aload_n 0, 1) := by decide +kernel
theorem dX5_abortHanging_8 : decode cX5_abortHanging 8 = .ok (.getfield 18, 3) := by decide +kernel
theorem dX5_abortHanging_11 : decode cX5_abortHanging 11 = .ok (.getfield 60, 3) := by decide +kernel
theorem dX5_abortHanging_14 : decode cX5_abortHanging 14 = .ok (.iload_n 1, 1) := by decide +kernel
theorem dX5_abortHanging_15 : decode cX5_abortHanging 15 = .ok (.aaload, 1) := by decide +kernel
theorem dX5_abortHanging_16 : decode cX5_abortHanging 16 = .ok (.astore_n 2, 1) := by decide +kernel
theorem dX5_abortHanging_17 : decode cX5_abortHanging 17 = .ok (.aload_n 2, 1) := by decide +kernel
theorem dX5_abortHanging_18 : decode cX5_abortHanging 18 = .ok (.getfield 64, 3) := by decide +kernel
theorem dX5_abortHanging_21 : decode cX5_abortHanging 21 = .ok (.iconst 1, 1) := by decide +kernel
theorem dX5_abortHanging_22 : decode cX5_abortHanging 22 = .ok (.if_icmp .ne 42, 3) := by decide +kernel
theorem dX5_abortHanging_25 : decode cX5_abortHanging 25 = .ok (.aload_n 0, 1) := by decide +kernel
theorem dX5_abortHanging_26 : decode cX5_abortHanging 26 = .ok (.getfield 18, 3) := by decide +kernel
theorem dX5_abortHanging_29 : decode cX5_abortHanging 29 = .ok (.getfield 82, 3) := by decide +kernel
theorem dX5_abortHanging_32 : decode cX5_abortHanging 32 = .ok (.aload_n 2, 1) := by decide +kernel
theorem dX5_abortHanging_33 : decode cX5_abortHanging 33 = .ok (.getfield 85, 3) := by decide +kernel
theorem dX5_abortHanging_36 : decode cX5_abortHanging 36 = .ok (.isub, 1) := by decide +kernel
theorem dX5_abortHanging_37 : decode cX5_abortHanging 37 = .ok (.aload_n 0, 1) := by decide +kernel
theorem dX5_abortHanging_38 : decode cX5_abortHanging 38 = .ok (.getfield 18, 3) := by decide +kernel
theorem dX5_abortHanging_41 : decode cX5_abortHanging 41 = .ok (.getfield 131, 3) := by decide +kernel
theorem dX5_abortHanging_44 : decode cX5_abortHanging 44 = .ok (.if_icmp .lt 20, 3) := by decide +kernel
theorem dX5_abortHanging_47 : decode cX5_abortHanging 47 = .ok (.aload_n 2, 1) := by decide +kernel
theorem dX5_abortHanging_48 : decode cX5_abortHanging 48 = .ok (.dup, 1) := by decide +kernel
theorem dX5_abortHanging_49 : decode cX5_abortHanging 49 = .ok (.getfield 69, 3) := by decide +kernel
theorem dX5_abortHanging_52 : decode cX5_abortHanging 52 = .ok (.iconst 1, 1) := by decide +kernel
theorem dX5_abortHanging_53 : decode cX5_abortHanging 53 = .ok (.iadd, 1) := by decide +kernel
theorem dX5_abortHanging_54 : decode cX5_abortHanging 54 = .ok (.putfield 69, 3) := by decide +kernel
theorem dX5_abortHanging_57 : decode cX5_abortHanging 57 = .ok (.aload_n 0, 1) := by decide +kernel
theorem dX5_abortHanging_58 : decode cX5_abortHanging 58 = .ok (.aload_n 2, 1) := by decide +kernel
theorem dX5_abortHanging_59 : decode cX5_abortHanging 59 = .ok (.iconst 0, 1) := by decide +kernel
theorem dX5_abortHanging_60 : decode cX5_abortHanging 60 = .ok (.invokevirtual 75, 3) := by decide +kernel
theorem dX5_abortHanging_63 : decode cX5_abortHanging 63 = .ok (.pop, 1) := by decide +kernel
theorem dX5_abortHanging_64 : decode cX5_abortHanging 64 = .ok (.iinc 1 1, 3) := by decide +kernel
theorem dX5_abortHanging_67 : decode cX5_abortHanging 67 = .ok (.goto (-65), 3) := by decide +kernel
theorem dX5_abortHanging_70 : decode cX5_abortHanging 70 = .ok (.return_, 1) := by decide +kernel
theorem dX5_producersIn_0 : decode cX5_producersIn 0 = .ok (.iconst 0, 1) := by decide +kernel
theorem dX5_producersIn_1 : decode cX5_producersIn 1 = .ok (.istore_n 2, 1) := by decide +kernel
theorem dX5_producersIn_2 : decode cX5_producersIn 2 = .ok (.iconst 0, 1) := by decide +kernel
theorem dX5_producersIn_3 : decode cX5_producersIn 3 = .ok (.istore_n 3, 1) := by decide +kernel
theorem dX5_producersIn_4 : decode cX5_producersIn 4 = .ok (.iload_n 3, 1) := by decide +kernel
theorem dX5_producersIn_5 : decode cX5_producersIn 5 = .ok (.iconst 4, 1) := by decide +kernel
theorem dX5_producersIn_6 : decode cX5_producersIn 6 = .ok (.if_icmp .ge 28, 3) := by decide +kernel
theorem dX5_producersIn_9 : decode cX5_producersIn 9 = .ok (.aload_n 0, 1) := by decide +kernel
theorem dX5_producersIn_10 : decode cX5_producersIn 10 = .ok (.getfield 18, 3) := by decide +kernel
theorem dX5_producersIn_13 : decode cX5_producersIn 13 = .ok (.getfield 60, 3) := by decide +kernel
theorem dX5_producersIn_16 : decode cX5_producersIn 16 = .ok (.iload_n 3, 1) := by decide +kernel
theorem dX5_producersIn_17 : decode cX5_producersIn 17 = .ok (.aaload, 1) := by decide +kernel
theorem dX5_producersIn_18 : decode cX5_producersIn 18 = .ok (.getfield 64, 3) := by decide +kernel
theorem dX5_producersIn_21 : decode cX5_producersIn 21 = .ok (.iload_n 1, 1) := by decide +kernel
theorem dX5_producersIn_22 : decode cX5_producersIn 22 = .ok (.if_icmp .ne 6, 3) := by decide +kernel
theorem dX5_producersIn_25 : decode cX5_producersIn 25 = .ok (.iinc 2 1, 3) := by decide +kernel
theorem dX5_producersIn_28 : decode cX5_producersIn 28 = .ok (.iinc 3 1, 3) := by decide +kernel
theorem dX5_producersIn_31 : decode cX5_producersIn 31 = .ok (.goto (-27), 3) := by decide +kernel
theorem dX5_producersIn_34 : decode cX5_producersIn 34 = .ok (.iload_n 2, 1) := by decide +kernel
theorem dX5_producersIn_35 : decode cX5_producersIn 35 = .ok (.ireturn, 1) := by decide +kernel
theorem dX5_reserve_0 : decode cX5_reserve 0 = .ok (.aload_n 0, 1) := by decide +kernel
theorem dX5_reserve_1 : decode cX5_reserve 1 = .ok (.iconst 1, 1) := by decide +kernel
theorem dX5_reserve_2 : decode cX5_reserve 2 = .ok (.invokevirtual 88, 3) := by decide +kernel
theorem dX5_reserve_5 : decode cX5_reserve 5 = .ok (.istore_n 2, 1) := by decide +kernel
theorem dX5_reserve_6 : decode cX5_reserve 6 = .ok (.iconst 0, 1) := by decide +kernel
theorem dX5_reserve_7 : decode cX5_reserve 7 = .ok (.istore_n 3, 1) := by decide +kernel
theorem dX5_reserve_8 : decode cX5_reserve 8 = .ok (.iload_n 3, 1) := by decide +kernel
theorem dX5_reserve_9 : decode cX5_reserve 9 = .ok (.iconst 4, 1) := by decide +kernel
theorem dX5_reserve_10 : decode cX5_reserve 10 = .ok (.if_icmp .ge 29, 3) := by decide +kernel
theorem dX5_reserve_13 : decode cX5_reserve 13 = .ok (.aload_n 0, 1) := by decide +kernel
theorem dX5_reserve_14 : decode cX5_reserve 14 = .ok (.getfield 18, 3) := by decide +kernel
theorem dX5_reserve_17 : decode cX5_reserve 17 = .ok (.getfield 60, 3) := by decide +kernel
theorem dX5_reserve_20 : decode cX5_reserve 20 = .ok (.iload_n 3, 1) := by decide +kernel
theorem dX5_reserve_21 : decode cX5_reserve 21 = .ok (.aaload, 1) := by decide +kernel
theorem dX5_reserve_22 : decode cX5_reserve 22 = .ok (.getfield 272, 3) := by decide +kernel
theorem dX5_reserve_25 : decode cX5_reserve 25 = .ok (.iload_n 1, 1) := by decide +kernel
theorem dX5_reserve_26 : decode cX5_reserve 26 = .ok (.iaload, 1) := by decide +kernel
theorem dX5_reserve_27 : decode cX5_reserve 27 = .ok (.ifCond .eq 6, 3) := by decide +kernel
theorem dX5_reserve_30 : decode cX5_reserve 30 = .ok (.iinc 2 1, 3) := by decide +kernel
theorem dX5_reserve_33 : decode cX5_reserve 33 = .ok (.iinc 3 1, 3) := by decide +kernel
theorem dX5_reserve_36 : decode cX5_reserve 36 = .ok (.goto (-28), 3) := by decide +kernel
theorem dX5_reserve_39 : decode cX5_reserve 39 = .ok (.iload_n 2, 1) := by decide +kernel
theorem dX5_reserve_40 : decode cX5_reserve 40 = .ok (.ireturn, 1) := by decide +kernel
theorem dX5_holder_0 : decode cX5_holder 0 = .ok (.iconst (-1), 1) := by decide +kernel
theorem dX5_holder_1 : decode cX5_holder 1 = .ok (.istore_n 2, 1) := by decide +kernel
theorem dX5_holder_2 : decode cX5_holder 2 = .ok (.bipush 48, 2) := by decide +kernel
theorem dX5_holder_4 : decode cX5_holder 4 = .ok (.istore_n 3, 1) := by decide +kernel
theorem dX5_holder_5 : decode cX5_holder 5 = .ok (.iconst 0, 1) := by decide +kernel
theorem dX5_holder_6 : decode cX5_holder 6 = .ok (.istore 4, 2) := by decide +kernel
theorem dX5_holder_8 : decode cX5_holder 8 = .ok (.iload 4, 2) := by decide +kernel
theorem dX5_holder_10 : decode cX5_holder 10 = .ok (.iconst 4, 1) := by decide +kernel
theorem dX5_holder_11 : decode cX5_holder 11 = .ok (.if_icmp .ge 52, 3) := by decide +kernel
theorem dX5_holder_14 : decode cX5_holder 14 = .ok (.aload_n 0, 1) := by decide +kernel
theorem dX5_holder_15 : decode cX5_holder 15 = .ok (.getfield 18, 3) := by decide +kernel
theorem dX5_holder_18 : decode cX5_holder 18 = .ok (.getfield 60, 3) := by decide +kernel
theorem dX5_holder_21 : decode cX5_holder 21 = .ok (.iload 4, 2) := by decide +kernel
theorem dX5_holder_23 : decode cX5_holder 23 = .ok (.aaload, 1) := by decide +kernel
theorem dX5_holder_24 : decode cX5_holder 24 = .ok (.astore 5, 2) := by decide +kernel
theorem dX5_holder_26 : decode cX5_holder 26 = .ok (.aload 5, 2) := by decide +kernel
theorem dX5_holder_28 : decode cX5_holder 28 = .ok (.iload_n 1, 1) := by decide +kernel
theorem dX5_holder_29 : decode cX5_holder 29 = .ok (.invokevirtual 275, 3) := by decide +kernel
theorem dX5_holder_32 : decode cX5_holder 32 = .ok (.ifCond .eq 25, 3) := by decide +kernel
theorem dX5_holder_35 : decode cX5_holder 35 = .ok (.aload 5, 2) := by decide +kernel
theorem dX5_holder_37 : decode cX5_holder 37 = .ok (.getfield 105, 3) := by decide +kernel
theorem dX5_holder_40 : decode cX5_holder 40 = .ok (.iload_n 1, 1) := by decide +kernel
theorem dX5_holder_41 : decode cX5_holder 41 = .ok (.iaload, 1) := by decide +kernel
theorem dX5_holder_42 : decode cX5_holder 42 = .ok (.iload_n 3, 1) := by decide +kernel
theorem dX5_holder_43 : decode cX5_holder 43 = .ok (.if_icmp .ge 14, 3) := by decide +kernel
theorem dX5_holder_46 : decode cX5_holder 46 = .ok (.iload 4, 2) := by decide +kernel
theorem dX5_holder_48 : decode cX5_holder 48 = .ok (.istore_n 2, 1) := by decide +kernel
theorem dX5_holder_49 : decode cX5_holder 49 = .ok (.aload 5, 2) := by decide +kernel
theorem dX5_holder_51 : decode cX5_holder 51 = .ok (.getfield 105, 3) := by decide +kernel
theorem dX5_holder_54 : decode cX5_holder 54 = .ok (.iload_n 1, 1) := by decide +kernel
theorem dX5_holder_55 : decode cX5_holder 55 = .ok (.iaload, 1) := by decide +kernel
theorem dX5_holder_56 : decode cX5_holder 56 = .ok (.istore_n 3, 1) := by decide +kernel
theorem dX5_holder_57 : decode cX5_holder 57 = .ok (.iinc 4 1, 3) := by decide +kernel
theorem dX5_holder_60 : decode cX5_holder 60 = .ok (.goto (-52), 3) := by decide +kernel
theorem dX5_holder_63 : decode cX5_holder 63 = .ok (.iload_n 2, 1) := by decide +kernel
theorem dX5_holder_64 : decode cX5_holder 64 = .ok (.ireturn, 1) := by decide +kernel
theorem dX5_stable_0 : decode cX5_stable 0 = .ok (.aload_n 0, 1) := by decide +kernel
theorem dX5_stable_1 : decode cX5_stable 1 = .ok (.iload_n 1, 1) := by decide +kernel
theorem dX5_stable_2 : decode cX5_stable 2 = .ok (.invokevirtual 170, 3) := by decide +kernel
theorem dX5_stable_5 : decode cX5_stable 5 = .ok (.istore_n 2, 1) := by decide +kernel
theorem dX5_stable_6 : decode cX5_stable 6 = .ok (.iload_n 2, 1) := by decide +kernel
theorem dX5_stable_7 : decode cX5_stable 7 = .ok (.iconst (-1), 1) := by decide +kernel
theorem dX5_stable_8 : decode cX5_stable 8 = .ok (.if_icmp .ne 15, 3) := by decide +kernel
theorem dX5_stable_11 : decode cX5_stable 11 = .ok (.aload_n 0, 1) := by decide +kernel
theorem dX5_stable_12 : decode cX5_stable 12 = .ok (.getfield 11, 3) := by decide +kernel
theorem dX5_stable_15 : decode cX5_stable 15 = .ok (.iload_n 1, 1) := by decide +kernel
theorem dX5_stable_16 : decode cX5_stable 16 = .ok (.aaload, 1) := by decide +kernel
theorem dX5_stable_17 : decode cX5_stable 17 = .ok (.getfield 99, 3) := by decide +kernel
theorem dX5_stable_20 : decode cX5_stable 20 = .ok (.goto 17, 3) := by decide +kernel
theorem dX5_stable_23 : decode cX5_stable 23 = .ok (.aload_n 0, 1) := by decide +kernel
theorem dX5_stable_24 : decode cX5_stable 24 = .ok (.getfield 18, 3) := by decide +kernel
theorem dX5_stable_27 : decode cX5_stable 27 = .ok (.getfield 60, 3) := by decide +kernel
theorem dX5_stable_30 : decode cX5_stable 30 = .ok (.iload_n 2, 1) := by decide +kernel
theorem dX5_stable_31 : decode cX5_stable 31 = .ok (.aaload, 1) := by decide +kernel
theorem dX5_stable_32 : decode cX5_stable 32 = .ok (.getfield 105, 3) := by decide +kernel
theorem dX5_stable_35 : decode cX5_stable 35 = .ok (.iload_n 1, 1) := by decide +kernel
theorem dX5_stable_36 : decode cX5_stable 36 = .ok (.iaload, 1) := by decide +kernel
theorem dX5_stable_37 : decode cX5_stable 37 = .ok (.ireturn, 1) := by decide +kernel
theorem dX5_entriesOfAll_0 : decode cX5_entriesOfAll 0 = .ok (.iconst 0, 1) := by decide +kernel
theorem dX5_entriesOfAll_1 : decode cX5_entriesOfAll 1 = .ok (.istore_n 1, 1) := by decide +kernel
theorem dX5_entriesOfAll_2 : decode cX5_entriesOfAll 2 = .ok (.iconst 0, 1) := by decide +kernel
theorem dX5_entriesOfAll_3 : decode cX5_entriesOfAll 3 = .ok (.istore_n 2, 1) := by decide +kernel
theorem dX5_entriesOfAll_4 : decode cX5_entriesOfAll 4 = .ok (.iload_n 2, 1) := by decide +kernel
theorem dX5_entriesOfAll_5 : decode cX5_entriesOfAll 5 = .ok (.iconst 3, 1) := by decide +kernel
theorem dX5_entriesOfAll_6 : decode cX5_entriesOfAll 6 = .ok (.if_icmp .ge 21, 3) := by decide +kernel
theorem dX5_entriesOfAll_9 : decode cX5_entriesOfAll 9 = .ok (.iload_n 1, 1) := by decide +kernel
theorem dX5_entriesOfAll_10 : decode cX5_entriesOfAll 10 = .ok (.aload_n 0, 1) := by decide +kernel
theorem dX5_entriesOfAll_11 : decode cX5_entriesOfAll 11 = .ok (.getfield 11, 3) := by decide +kernel
theorem dX5_entriesOfAll_14 : decode cX5_entriesOfAll 14 = .ok (.iload_n 2, 1) := by decide +kernel
theorem dX5_entriesOfAll_15 : decode cX5_entriesOfAll 15 = .ok (.aaload, 1) := by decide +kernel
theorem dX5_entriesOfAll_16 : decode cX5_entriesOfAll 16 = .ok (.getfield 99, 3) := by decide +kernel
theorem dX5_entriesOfAll_19 : decode cX5_entriesOfAll 19 = .ok (.iadd, 1) := by decide +kernel
theorem dX5_entriesOfAll_20 : decode cX5_entriesOfAll 20 = .ok (.istore_n 1, 1) := by decide +kernel
theorem dX5_entriesOfAll_21 : decode cX5_entriesOfAll 21 = .ok (.iinc 2 1, 3) := by decide +kernel
theorem dX5_entriesOfAll_24 : decode cX5_entriesOfAll 24 = .ok (.goto (-20), 3) := by decide +kernel
theorem dX5_entriesOfAll_27 : decode cX5_entriesOfAll 27 = .ok (.iload_n 1, 1) := by decide +kernel
theorem dX5_entriesOfAll_28 : decode cX5_entriesOfAll 28 = .ok (.ireturn, 1) := by decide +kernel
theorem dX5_markersOfAll_0 : decode cX5_markersOfAll 0 = .ok (.iconst 0, 1) := by decide +kernel
theorem dX5_markersOfAll_1 : decode cX5_markersOfAll 1 = .ok (.istore_n 1, 1) := by decide +kernel
theorem dX5_markersOfAll_2 : decode cX5_markersOfAll 2 = .ok (.iconst 0, 1) := by decide +kernel
theorem dX5_markersOfAll_3 : decode cX5_markersOfAll 3 = .ok (.istore_n 2, 1) := by decide +kernel
theorem dX5_markersOfAll_4 : decode cX5_markersOfAll 4 = .ok (.iload_n 2, 1) := by decide +kernel
theorem dX5_markersOfAll_5 : decode cX5_markersOfAll 5 = .ok (.iconst 3, 1) := by decide +kernel
theorem dX5_markersOfAll_6 : decode cX5_markersOfAll 6 = .ok (.if_icmp .ge 21, 3) := by decide +kernel
theorem dX5_markersOfAll_9 : decode cX5_markersOfAll 9 = .ok (.iload_n 1, 1) := by decide +kernel
theorem dX5_markersOfAll_10 : decode cX5_markersOfAll 10 = .ok (.aload_n 0, 1) := by decide +kernel
theorem dX5_markersOfAll_11 : decode cX5_markersOfAll 11 = .ok (.getfield 11, 3) := by decide +kernel
theorem dX5_markersOfAll_14 : decode cX5_markersOfAll 14 = .ok (.iload_n 2, 1) := by decide +kernel
theorem dX5_markersOfAll_15 : decode cX5_markersOfAll 15 = .ok (.aaload, 1) := by decide +kernel
theorem dX5_markersOfAll_16 : decode cX5_markersOfAll 16 = .ok (.invokevirtual 278, 3) := by decide +kernel
theorem dX5_markersOfAll_19 : decode cX5_markersOfAll 19 = .ok (.iadd, 1) := by decide +kernel
theorem dX5_markersOfAll_20 : decode cX5_markersOfAll 20 = .ok (.istore_n 1, 1) := by decide +kernel
theorem dX5_markersOfAll_21 : decode cX5_markersOfAll 21 = .ok (.iinc 2 1, 3) := by decide +kernel
theorem dX5_markersOfAll_24 : decode cX5_markersOfAll 24 = .ok (.goto (-20), 3) := by decide +kernel
theorem dX5_markersOfAll_27 : decode cX5_markersOfAll 27 = .ok (.iload_n 1, 1) := by decide +kernel
theorem dX5_markersOfAll_28 : decode cX5_markersOfAll 28 = .ok (.ireturn, 1) := by decide +kernel
theorem dX5_visibleOfAll_0 : decode cX5_visibleOfAll 0 = .ok (.iconst 0, 1) := by decide +kernel
theorem dX5_visibleOfAll_1 : decode cX5_visibleOfAll 1 = .ok (.istore_n 1, 1) := by decide +kernel
theorem dX5_visibleOfAll_2 : decode cX5_visibleOfAll 2 = .ok (.iconst 0, 1) := by decide +kernel
theorem dX5_visibleOfAll_3 : decode cX5_visibleOfAll 3 = .ok (.istore_n 2, 1) := by decide +kernel
theorem dX5_visibleOfAll_4 : decode cX5_visibleOfAll 4 = .ok (.iload_n 2, 1) := by decide +kernel
theorem dX5_visibleOfAll_5 : decode cX5_visibleOfAll 5 = .ok (.iconst 3, 1) := by decide +kernel
theorem dX5_visibleOfAll_6 : decode cX5_visibleOfAll 6 = .ok (.if_icmp .ge 27, 3) := by decide +kernel
theorem dX5_visibleOfAll_9 : decode cX5_visibleOfAll 9 = .ok (.iload_n 1, 1) := by decide +kernel
theorem dX5_visibleOfAll_10 : decode cX5_visibleOfAll 10 = .ok (.aload_n 0, 1) := by decide +kernel
theorem dX5_visibleOfAll_11 : decode cX5_visibleOfAll 11 = .ok (.getfield 11, 3) := by decide +kernel
theorem dX5_visibleOfAll_14 : decode cX5_visibleOfAll 14 = .ok (.iload_n 2, 1) := by decide +kernel
theorem dX5_visibleOfAll_15 : decode cX5_visibleOfAll 15 = .ok (.aaload, 1) := by decide +kernel
theorem dX5_visibleOfAll_16 : decode cX5_visibleOfAll 16 = .ok (.iconst 0, 1) := by decide +kernel
theorem dX5_visibleOfAll_17 : decode cX5_visibleOfAll 17 = .ok (.aload_n 0, 1) := by decide +kernel
theorem dX5_visibleOfAll_18 : decode cX5_visibleOfAll 18 = .ok (.iload_n 2, 1) := by decide +kernel
theorem dX5_visibleOfAll_19 : decode cX5_visibleOfAll 19 = .ok (.invokevirtual 161, 3) := by decide +kernel
theorem dX5_visibleOfAll_22 : decode cX5_visibleOfAll 22 = .ok (.invokevirtual 167, 3) := by decide +kernel
theorem dX5_visibleOfAll_25 : decode cX5_visibleOfAll 25 = .ok (.iadd, 1) := by decide +kernel
theorem dX5_visibleOfAll_26 : decode cX5_visibleOfAll 26 = .ok (.istore_n 1, 1) := by decide +kernel
theorem dX5_visibleOfAll_27 : decode cX5_visibleOfAll 27 = .ok (.iinc 2 1, 3) := by decide +kernel
theorem dX5_visibleOfAll_30 : decode cX5_visibleOfAll 30 = .ok (.goto (-26), 3) := by decide +kernel
theorem dX5_visibleOfAll_33 : decode cX5_visibleOfAll 33 = .ok (.iload_n 1, 1) := by decide +kernel
theorem dX5_visibleOfAll_34 : decode cX5_visibleOfAll 34 = .ok (.ireturn, 1) := by decide +kernel
theorem dX5_dueOfAll_0 : decode cX5_dueOfAll 0 = .ok (.iconst 0, 1) := by decide +kernel
theorem dX5_dueOfAll_1 : decode cX5_dueOfAll 1 = .ok (.istore_n 1, 1) := by decide +kernel
theorem dX5_dueOfAll_2 : decode cX5_dueOfAll 2 = .ok (.iconst 0, 1) := by decide +kernel
theorem dX5_dueOfAll_3 : decode cX5_dueOfAll 3 = .ok (.istore_n 2, 1) := by decide +kernel
theorem dX5_dueOfAll_4 : decode cX5_dueOfAll 4 = .ok (.iload_n 2, 1) := by decide +kernel
theorem dX5_dueOfAll_5 : decode cX5_dueOfAll 5 = .ok (.iconst 4, 1) := by decide +kernel
theorem dX5_dueOfAll_6 : decode cX5_dueOfAll 6 = .ok (.if_icmp .ge 24, 3) := by decide +kernel
theorem dX5_dueOfAll_9 : decode cX5_dueOfAll 9 = .ok (.iload_n 1, 1) := by decide +kernel
theorem dX5_dueOfAll_10 : decode cX5_dueOfAll 10 = .ok (.aload_n 0, 1) := by decide +kernel
theorem dX5_dueOfAll_11 : decode cX5_dueOfAll 11 = .ok (.getfield 18, 3) := by decide +kernel
theorem dX5_dueOfAll_14 : decode cX5_dueOfAll 14 = .ok (.getfield 60, 3) := by decide +kernel
theorem dX5_dueOfAll_17 : decode cX5_dueOfAll 17 = .ok (.iload_n 2, 1) := by decide +kernel
theorem dX5_dueOfAll_18 : decode cX5_dueOfAll 18 = .ok (.aaload, 1) := by decide +kernel
theorem dX5_dueOfAll_19 : decode cX5_dueOfAll 19 = .ok (.invokevirtual 137, 3) := by decide +kernel
theorem dX5_dueOfAll_22 : decode cX5_dueOfAll 22 = .ok (.iadd, 1) := by decide +kernel
theorem dX5_dueOfAll_23 : decode cX5_dueOfAll 23 = .ok (.istore_n 1, 1) := by decide +kernel
theorem dX5_dueOfAll_24 : decode cX5_dueOfAll 24 = .ok (.iinc 2 1, 3) := by decide +kernel
theorem dX5_dueOfAll_27 : decode cX5_dueOfAll 27 = .ok (.goto (-23), 3) := by decide +kernel
theorem dX5_dueOfAll_30 : decode cX5_dueOfAll 30 = .ok (.iload_n 1, 1) := by decide +kernel
theorem dX5_dueOfAll_31 : decode cX5_dueOfAll 31 = .ok (.ireturn, 1) := by decide +kernel
theorem dX5_mixPart_0 : decode cX5_mixPart 0 = .ok (.lload_n 1, 1) := by decide +kernel
theorem dX5_mixPart_1 : decode cX5_mixPart 1 = .ok (.lstore 4, 2) := by decide +kernel
theorem dX5_mixPart_3 : decode cX5_mixPart 3 = .ok (.iconst 0, 1) := by decide +kernel
theorem dX5_mixPart_4 : decode cX5_mixPart 4 = .ok (.istore 6, 2) := by decide +kernel
theorem dX5_mixPart_6 : decode cX5_mixPart 6 = .ok (.iload 6, 2) := by decide +kernel
theorem dX5_mixPart_8 : decode cX5_mixPart 8 = .ok (.iconst 5, 1) := by decide +kernel
theorem dX5_mixPart_9 : decode cX5_mixPart 9 = .ok (.if_icmp .gt 26, 3) := by decide +kernel
theorem dX5_mixPart_12 : decode cX5_mixPart 12 = .ok (.ldc2_w 229, 3) := by decide +kernel
theorem dX5_mixPart_15 : decode cX5_mixPart 15 = .ok (.lload 4, 2) := by decide +kernel
theorem dX5_mixPart_17 : decode cX5_mixPart 17 = .ok (.lmul, 1) := by decide +kernel
theorem dX5_mixPart_18 : decode cX5_mixPart 18 = .ok (.aload_n 0, 1) := by decide +kernel
theorem dX5_mixPart_19 : decode cX5_mixPart 19 = .ok (.iload_n 3, 1) := by decide +kernel
theorem dX5_mixPart_20 : decode cX5_mixPart 20 = .ok (.iload 6, 2) := by decide +kernel
theorem dX5_mixPart_22 : decode cX5_mixPart 22 = .ok (.invokevirtual 281, 3) := by decide +kernel
theorem dX5_mixPart_25 : decode cX5_mixPart 25 = .ok (.i2l, 1) := by decide +kernel
theorem dX5_mixPart_26 : decode cX5_mixPart 26 = .ok (.ladd, 1) := by decide +kernel
theorem dX5_mixPart_27 : decode cX5_mixPart 27 = .ok (.lstore 4, 2) := by decide +kernel
theorem dX5_mixPart_29 : decode cX5_mixPart 29 = .ok (.iinc 6 1, 3) := by decide +kernel
theorem dX5_mixPart_32 : decode cX5_mixPart 32 = .ok (.goto (-26), 3) := by decide +kernel
theorem dX5_mixPart_35 : decode cX5_mixPart 35 = .ok (.iconst 0, 1) := by decide +kernel
theorem dX5_mixPart_36 : decode cX5_mixPart 36 = .ok (.istore 6, 2) := by decide +kernel
theorem dX5_mixPart_38 : decode cX5_mixPart 38 = .ok (.iload 6, 2) := by decide +kernel
theorem dX5_mixPart_40 : decode cX5_mixPart 40 = .ok (.aload_n 0, 1) := by decide +kernel
theorem dX5_mixPart_41 : decode cX5_mixPart 41 = .ok (.getfield 11, 3) := by decide +kernel
theorem dX5_mixPart_44 : decode cX5_mixPart 44 = .ok (.iload_n 3, 1) := by decide +kernel
theorem dX5_mixPart_45 : decode cX5_mixPart 45 = .ok (.aaload, 1) := by decide +kernel
theorem dX5_mixPart_46 : decode cX5_mixPart 46 = .ok (.getfield 99, 3) := by decide +kernel
theorem dX5_mixPart_49 : decode cX5_mixPart 49 = .ok (.if_icmp .ge 44, 3) := by decide +kernel
theorem dX5_mixPart_52 : decode cX5_mixPart 52 = .ok (.iconst 0, 1) := by decide +kernel
theorem dX5_mixPart_53 : decode cX5_mixPart 53 = .ok (.istore 7, 2) := by decide +kernel
theorem dX5_mixPart_55 : decode cX5_mixPart 55 = .ok (.iload 7, 2) := by decide +kernel
theorem dX5_mixPart_57 : decode cX5_mixPart 57 = .ok (.bipush 6, 2) := by decide +kernel
theorem dX5_mixPart_59 : decode cX5_mixPart 59 = .ok (.if_icmp .gt 28, 3) := by decide +kernel
theorem dX5_mixPart_62 : decode cX5_mixPart 62 = .ok (.ldc2_w 229, 3) := by decide +kernel
theorem dX5_mixPart_65 : decode cX5_mixPart 65 = .ok (.lload 4, 2) := by decide +kernel
theorem dX5_mixPart_67 : decode cX5_mixPart 67 = .ok (.lmul, 1) := by decide +kernel
theorem dX5_mixPart_68 : decode cX5_mixPart 68 = .ok (.aload_n 0, 1) := by decide +kernel
theorem dX5_mixPart_69 : decode cX5_mixPart 69 = .ok (.iload_n 3, 1) := by decide +kernel
theorem dX5_mixPart_70 : decode cX5_mixPart 70 = .ok (.iload 6, 2) := by decide +kernel
theorem dX5_mixPart_72 : decode cX5_mixPart 72 = .ok (.iload 7, 2) := by decide +kernel
theorem dX5_mixPart_74 : decode cX5_mixPart 74 = .ok (.invokevirtual 284, 3) := by decide +kernel
theorem dX5_mixPart_77 : decode cX5_mixPart 77 = .ok (.i2l, 1) := by decide +kernel
theorem dX5_mixPart_78 : decode cX5_mixPart 78 = .ok (.ladd, 1) := by decide +kernel
theorem dX5_mixPart_79 : decode cX5_mixPart 79 = .ok (.lstore 4, 2) := by decide +kernel
theorem dX5_mixPart_81 : decode cX5_mixPart 81 = .ok (.iinc 7 1, 3) := by decide +kernel
theorem dX5_mixPart_84 : decode cX5_mixPart 84 = .ok (.goto (-29), 3) := by decide +kernel
theorem dX5_mixPart_87 : decode cX5_mixPart 87 = .ok (.iinc 6 1, 3) := by decide +kernel
theorem dX5_mixPart_90 : decode cX5_mixPart 90 = .ok (.goto (-52), 3) := by decide +kernel
theorem dX5_mixPart_93 : decode cX5_mixPart 93 = .ok (.aload_n 0, 1) := by decide +kernel
theorem dX5_mixPart_94 : decode cX5_mixPart 94 = .ok (.getfield 11, 3) := by decide +kernel
theorem dX5_mixPart_97 : decode cX5_mixPart 97 = .ok (.iload_n 3, 1) := by decide +kernel
theorem dX5_mixPart_98 : decode cX5_mixPart 98 = .ok (.aaload, 1) := by decide +kernel
theorem dX5_mixPart_99 : decode cX5_mixPart 99 = .ok (.invokevirtual 173, 3) := by decide +kernel
theorem dX5_mixPart_102 : decode cX5_mixPart 102 = .ok (.istore 6, 2) := by decide +kernel
theorem dX5_mixPart_104 : decode cX5_mixPart 104 = .ok (.iconst 0, 1) := by decide +kernel
theorem dX5_mixPart_105 : decode cX5_mixPart 105 = .ok (.istore 7, 2) := by decide +kernel
theorem dX5_mixPart_107 : decode cX5_mixPart 107 = .ok (.iload 7, 2) := by decide +kernel
theorem dX5_mixPart_109 : decode cX5_mixPart 109 = .ok (.iload 6, 2) := by decide +kernel
theorem dX5_mixPart_111 : decode cX5_mixPart 111 = .ok (.if_icmp .ge 43, 3) := by decide +kernel
theorem dX5_mixPart_114 : decode cX5_mixPart 114 = .ok (.iconst 0, 1) := by decide +kernel
theorem dX5_mixPart_115 : decode cX5_mixPart 115 = .ok (.istore 8, 2) := by decide +kernel
theorem dX5_mixPart_117 : decode cX5_mixPart 117 = .ok (.iload 8, 2) := by decide +kernel
theorem dX5_mixPart_119 : decode cX5_mixPart 119 = .ok (.iconst 2, 1) := by decide +kernel
theorem dX5_mixPart_120 : decode cX5_mixPart 120 = .ok (.if_icmp .gt 28, 3) := by decide +kernel
theorem dX5_mixPart_123 : decode cX5_mixPart 123 = .ok (.ldc2_w 229, 3) := by decide +kernel
theorem dX5_mixPart_126 : decode cX5_mixPart 126 = .ok (.lload 4, 2) := by decide +kernel
theorem dX5_mixPart_128 : decode cX5_mixPart 128 = .ok (.lmul, 1) := by decide +kernel
theorem dX5_mixPart_129 : decode cX5_mixPart 129 = .ok (.aload_n 0, 1) := by decide +kernel
theorem dX5_mixPart_130 : decode cX5_mixPart 130 = .ok (.iload_n 3, 1) := by decide +kernel
theorem dX5_mixPart_131 : decode cX5_mixPart 131 = .ok (.iload 7, 2) := by decide +kernel
theorem dX5_mixPart_133 : decode cX5_mixPart 133 = .ok (.iload 8, 2) := by decide +kernel
theorem dX5_mixPart_135 : decode cX5_mixPart 135 = .ok (.invokevirtual 287, 3) := by decide +kernel
theorem dX5_mixPart_138 : decode cX5_mixPart 138 = .ok (.i2l, 1) := by decide +kernel
theorem dX5_mixPart_139 : decode cX5_mixPart 139 = .ok (.ladd, 1) := by decide +kernel
theorem dX5_mixPart_140 : decode cX5_mixPart 140 = .ok (.lstore 4, 2) := by decide +kernel
theorem dX5_mixPart_142 : decode cX5_mixPart 142 = .ok (.iinc 8 1, 3) := by decide +kernel
theorem dX5_mixPart_145 : decode cX5_mixPart 145 = .ok (.goto (-28), 3) := by decide +kernel
theorem dX5_mixPart_148 : decode cX5_mixPart 148 = .ok (.iinc 7 1, 3) := by decide +kernel
theorem dX5_mixPart_151 : decode cX5_mixPart 151 = .ok (.goto (-44), 3) := by decide +kernel
theorem dX5_mixPart_154 : decode cX5_mixPart 154 = .ok (.lload 4, 2) := by decide +kernel
theorem dX5_mixPart_156 : decode cX5_mixPart 156 = .ok (.lreturn, 1) := by decide +kernel
theorem dX5_mixReader_0 : decode cX5_mixReader 0 = .ok (.lload_n 1, 1) := by decide +kernel
theorem dX5_mixReader_1 : decode cX5_mixReader 1 = .ok (.lstore 4, 2) := by decide +kernel
theorem dX5_mixReader_3 : decode cX5_mixReader 3 = .ok (.iconst 0, 1) := by decide +kernel
theorem dX5_mixReader_4 : decode cX5_mixReader 4 = .ok (.istore 6, 2) := by decide +kernel
theorem dX5_mixReader_6 : decode cX5_mixReader 6 = .ok (.iload 6, 2) := by decide +kernel
theorem dX5_mixReader_8 : decode cX5_mixReader 8 = .ok (.iconst 3, 1) := by decide +kernel
theorem dX5_mixReader_9 : decode cX5_mixReader 9 = .ok (.if_icmp .ge 43, 3) := by decide +kernel
theorem dX5_mixReader_12 : decode cX5_mixReader 12 = .ok (.iconst 0, 1) := by decide +kernel
theorem dX5_mixReader_13 : decode cX5_mixReader 13 = .ok (.istore 7, 2) := by decide +kernel
theorem dX5_mixReader_15 : decode cX5_mixReader 15 = .ok (.iload 7, 2) := by decide +kernel
theorem dX5_mixReader_17 : decode cX5_mixReader 17 = .ok (.iconst 3, 1) := by decide +kernel
theorem dX5_mixReader_18 : decode cX5_mixReader 18 = .ok (.if_icmp .gt 28, 3) := by decide +kernel
theorem dX5_mixReader_21 : decode cX5_mixReader 21 = .ok (.ldc2_w 229, 3) := by decide +kernel
theorem dX5_mixReader_24 : decode cX5_mixReader 24 = .ok (.lload 4, 2) := by decide +kernel
theorem dX5_mixReader_26 : decode cX5_mixReader 26 = .ok (.lmul, 1) := by decide +kernel
theorem dX5_mixReader_27 : decode cX5_mixReader 27 = .ok (.aload_n 0, 1) := by decide +kernel
theorem dX5_mixReader_28 : decode cX5_mixReader 28 = .ok (.iload_n 3, 1) := by decide +kernel
theorem dX5_mixReader_29 : decode cX5_mixReader 29 = .ok (.iload 6, 2) := by decide +kernel
theorem dX5_mixReader_31 : decode cX5_mixReader 31 = .ok (.iload 7, 2) := by decide +kernel
theorem dX5_mixReader_33 : decode cX5_mixReader 33 = .ok (.invokevirtual 290, 3) := by decide +kernel
theorem dX5_mixReader_36 : decode cX5_mixReader 36 = .ok (.i2l, 1) := by decide +kernel
theorem dX5_mixReader_37 : decode cX5_mixReader 37 = .ok (.ladd, 1) := by decide +kernel
theorem dX5_mixReader_38 : decode cX5_mixReader 38 = .ok (.lstore 4, 2) := by decide +kernel
theorem dX5_mixReader_40 : decode cX5_mixReader 40 = .ok (.iinc 7 1, 3) := by decide +kernel
theorem dX5_mixReader_43 : decode cX5_mixReader 43 = .ok (.goto (-28), 3) := by decide +kernel
theorem dX5_mixReader_46 : decode cX5_mixReader 46 = .ok (.iinc 6 1, 3) := by decide +kernel
theorem dX5_mixReader_49 : decode cX5_mixReader 49 = .ok (.goto (-43), 3) := by decide +kernel
theorem dX5_mixReader_52 : decode cX5_mixReader 52 = .ok (.lload 4, 2) := by decide +kernel
theorem dX5_mixReader_54 : decode cX5_mixReader 54 = .ok (.lreturn, 1) := by decide +kernel
theorem dX5_carryOut_0 : decode cX5_carryOut 0 = .ok (.aload_n 0, 1) := by decide +kernel
theorem dX5_carryOut_1 : decode cX5_carryOut 1 = .ok (.getfield 36, 3) := by decide +kernel
theorem dX5_carryOut_4 : decode cX5_carryOut 4 = .ok (.getfield 293, 3) := by decide +kernel
theorem dX5_carryOut_7 : decode cX5_carryOut 7 = .ok (.astore_n 2, 1) := by decide +kernel
theorem dX5_carryOut_8 : decode cX5_carryOut 8 = .ok (.iload_n 1, 1) := by decide +kernel
theorem dX5_carryOut_9 : decode cX5_carryOut 9 = .ok (.iconst 5, 1) := by decide +kernel
theorem dX5_carryOut_10 : decode cX5_carryOut 10 = .ok (.imul, 1) := by decide +kernel
theorem dX5_carryOut_11 : decode cX5_carryOut 11 = .ok (.istore_n 3, 1) := by decide +kernel
theorem dX5_carryOut_12 : decode cX5_carryOut 12 = .ok (.aload_n 0, 1) := by decide +kernel
theorem dX5_carryOut_13 : decode cX5_carryOut 13 = .ok (.getfield 36, 3) := by decide +kernel
theorem dX5_carryOut_16 : decode cX5_carryOut 16 = .ok (.getfield 296, 3) := by decide +kernel
theorem dX5_carryOut_19 : decode cX5_carryOut 19 = .ok (.iload_n 1, 1) := by decide +kernel
theorem dX5_carryOut_20 : decode cX5_carryOut 20 = .ok (.iaload, 1) := by decide +kernel
theorem dX5_carryOut_21 : decode cX5_carryOut 21 = .ok (.tableswitch 179 98 116 #[91, 179, 179, 140, 179, 179, 179, 179, 179, 179, 179, 179, 179, 99, 179, 179, 166, 112, 158], 91) := by decide +kernel
theorem dX5_carryOut_112 : decode cX5_carryOut 112 = .ok (.aload_n 0, 1) := by decide +kernel
theorem dX5_carryOut_113 : decode cX5_carryOut 113 = .ok (.aload_n 2, 1) := by decide +kernel
theorem dX5_carryOut_114 : decode cX5_carryOut 114 = .ok (.iload_n 3, 1) := by decide +kernel
theorem dX5_carryOut_115 : decode cX5_carryOut 115 = .ok (.iaload, 1) := by decide +kernel
theorem dX5_carryOut_116 : decode cX5_carryOut 116 = .ok (.invokevirtual 299, 3) := by decide +kernel
theorem dX5_carryOut_119 : decode cX5_carryOut 119 = .ok (.ireturn, 1) := by decide +kernel
theorem dX5_carryOut_120 : decode cX5_carryOut 120 = .ok (.aload_n 0, 1) := by decide +kernel
theorem dX5_carryOut_121 : decode cX5_carryOut 121 = .ok (.aload_n 2, 1) := by decide +kernel
theorem dX5_carryOut_122 : decode cX5_carryOut 122 = .ok (.iload_n 3, 1) := by decide +kernel
theorem dX5_carryOut_123 : decode cX5_carryOut 123 = .ok (.iaload, 1) := by decide +kernel
theorem dX5_carryOut_124 : decode cX5_carryOut 124 = .ok (.aload_n 2, 1) := by decide +kernel
theorem dX5_carryOut_125 : decode cX5_carryOut 125 = .ok (.iload_n 3, 1) := by decide +kernel
theorem dX5_carryOut_126 : decode cX5_carryOut 126 = .ok (.iconst 1, 1) := by decide +kernel
theorem dX5_carryOut_127 : decode cX5_carryOut 127 = .ok (.iadd, 1) := by decide +kernel
theorem dX5_carryOut_128 : decode cX5_carryOut 128 = .ok (.iaload, 1) := by decide +kernel
theorem dX5_carryOut_129 : decode cX5_carryOut 129 = .ok (.invokevirtual 302, 3) := by decide +kernel
theorem dX5_carryOut_132 : decode cX5_carryOut 132 = .ok (.ireturn, 1) := by decide +kernel
theorem dX5_carryOut_133 : decode cX5_carryOut 133 = .ok (.aload_n 0, 1) := by decide +kernel
theorem dX5_carryOut_134 : decode cX5_carryOut 134 = .ok (.aload_n 2, 1) := by decide +kernel
theorem dX5_carryOut_135 : decode cX5_carryOut 135 = .ok (.iload_n 3, 1) := by decide +kernel
theorem dX5_carryOut_136 : decode cX5_carryOut 136 = .ok (.iaload, 1) := by decide +kernel
theorem dX5_carryOut_137 : decode cX5_carryOut 137 = .ok (.aload_n 2, 1) := by decide +kernel
theorem dX5_carryOut_138 : decode cX5_carryOut 138 = .ok (.iload_n 3, 1) := by decide +kernel
theorem dX5_carryOut_139 : decode cX5_carryOut 139 = .ok (.iconst 1, 1) := by decide +kernel
theorem dX5_carryOut_140 : decode cX5_carryOut 140 = .ok (.iadd, 1) := by decide +kernel
theorem dX5_carryOut_141 : decode cX5_carryOut 141 = .ok (.iaload, 1) := by decide +kernel
theorem dX5_carryOut_142 : decode cX5_carryOut 142 = .ok (.aload_n 2, 1) := by decide +kernel
theorem dX5_carryOut_143 : decode cX5_carryOut 143 = .ok (.iload_n 3, 1) := by decide +kernel
theorem dX5_carryOut_144 : decode cX5_carryOut 144 = .ok (.iconst 2, 1) := by decide +kernel
theorem dX5_carryOut_145 : decode cX5_carryOut 145 = .ok (.iadd, 1) := by decide +kernel
theorem dX5_carryOut_146 : decode cX5_carryOut 146 = .ok (.iaload, 1) := by decide +kernel
theorem dX5_carryOut_147 : decode cX5_carryOut 147 = .ok (.aload_n 2, 1) := by decide +kernel
theorem dX5_carryOut_148 : decode cX5_carryOut 148 = .ok (.iload_n 3, 1) := by decide +kernel
theorem dX5_carryOut_149 : decode cX5_carryOut 149 = .ok (.iconst 3, 1) := by decide +kernel
theorem dX5_carryOut_150 : decode cX5_carryOut 150 = .ok (.iadd, 1) := by decide +kernel
theorem dX5_carryOut_151 : decode cX5_carryOut 151 = .ok (.iaload, 1) := by decide +kernel
theorem dX5_carryOut_152 : decode cX5_carryOut 152 = .ok (.aload_n 2, 1) := by decide +kernel
theorem dX5_carryOut_153 : decode cX5_carryOut 153 = .ok (.iload_n 3, 1) := by decide +kernel
theorem dX5_carryOut_154 : decode cX5_carryOut 154 = .ok (.iconst 4, 1) := by decide +kernel
theorem dX5_carryOut_155 : decode cX5_carryOut 155 = .ok (.iadd, 1) := by decide +kernel
theorem dX5_carryOut_156 : decode cX5_carryOut 156 = .ok (.iaload, 1) := by decide +kernel
theorem dX5_carryOut_157 : decode cX5_carryOut 157 = .ok (.invokevirtual 305, 3) := by decide +kernel
theorem dX5_carryOut_160 : decode cX5_carryOut 160 = .ok (.ireturn, 1) := by decide +kernel
theorem dX5_carryOut_161 : decode cX5_carryOut 161 = .ok (.aload_n 0, 1) := by decide +kernel
theorem dX5_carryOut_162 : decode cX5_carryOut 162 = .ok (.aload_n 2, 1) := by decide +kernel
theorem dX5_carryOut_163 : decode cX5_carryOut 163 = .ok (.iload_n 3, 1) := by decide +kernel
theorem dX5_carryOut_164 : decode cX5_carryOut 164 = .ok (.iaload, 1) := by decide +kernel
theorem dX5_carryOut_165 : decode cX5_carryOut 165 = .ok (.aload_n 2, 1) := by decide +kernel
theorem dX5_carryOut_166 : decode cX5_carryOut 166 = .ok (.iload_n 3, 1) := by decide +kernel
theorem dX5_carryOut_167 : decode cX5_carryOut 167 = .ok (.iconst 1, 1) := by decide +kernel
theorem dX5_carryOut_168 : decode cX5_carryOut 168 = .ok (.iadd, 1) := by decide +kernel
theorem dX5_carryOut_169 : decode cX5_carryOut 169 = .ok (.iaload, 1) := by decide +kernel
theorem dX5_carryOut_170 : decode cX5_carryOut 170 = .ok (.aload_n 2, 1) := by decide +kernel
theorem dX5_carryOut_171 : decode cX5_carryOut 171 = .ok (.iload_n 3, 1) := by decide +kernel
theorem dX5_carryOut_172 : decode cX5_carryOut 172 = .ok (.iconst 2, 1) := by decide +kernel
theorem dX5_carryOut_173 : decode cX5_carryOut 173 = .ok (.iadd, 1) := by decide +kernel
theorem dX5_carryOut_174 : decode cX5_carryOut 174 = .ok (.iaload, 1) := by decide +kernel
theorem dX5_carryOut_175 : decode cX5_carryOut 175 = .ok (.invokevirtual 308, 3) := by decide +kernel
theorem dX5_carryOut_178 : decode cX5_carryOut 178 = .ok (.ireturn, 1) := by decide +kernel
theorem dX5_carryOut_179 : decode cX5_carryOut 179 = .ok (.aload_n 0, 1) := by decide +kernel
theorem dX5_carryOut_180 : decode cX5_carryOut 180 = .ok (.aload_n 2, 1) := by decide +kernel
theorem dX5_carryOut_181 : decode cX5_carryOut 181 = .ok (.iload_n 3, 1) := by decide +kernel
theorem dX5_carryOut_182 : decode cX5_carryOut 182 = .ok (.iaload, 1) := by decide +kernel
theorem dX5_carryOut_183 : decode cX5_carryOut 183 = .ok (.invokevirtual 311, 3) := by decide +kernel
theorem dX5_carryOut_186 : decode cX5_carryOut 186 = .ok (.ireturn, 1) := by decide +kernel
theorem dX5_carryOut_187 : decode cX5_carryOut 187 = .ok (.aload_n 0, 1) := by decide +kernel
theorem dX5_carryOut_188 : decode cX5_carryOut 188 = .ok (.aload_n 2, 1) := by decide +kernel
theorem dX5_carryOut_189 : decode cX5_carryOut 189 = .ok (.iload_n 3, 1) := by decide +kernel
theorem dX5_carryOut_190 : decode cX5_carryOut 190 = .ok (.iaload, 1) := by decide +kernel
theorem dX5_carryOut_191 : decode cX5_carryOut 191 = .ok (.aload_n 2, 1) := by decide +kernel
theorem dX5_carryOut_192 : decode cX5_carryOut 192 = .ok (.iload_n 3, 1) := by decide +kernel
theorem dX5_carryOut_193 : decode cX5_carryOut 193 = .ok (.iconst 1, 1) := by decide +kernel
theorem dX5_carryOut_194 : decode cX5_carryOut 194 = .ok (.iadd, 1) := by decide +kernel
theorem dX5_carryOut_195 : decode cX5_carryOut 195 = .ok (.iaload, 1) := by decide +kernel
theorem dX5_carryOut_196 : decode cX5_carryOut 196 = .ok (.invokevirtual 314, 3) := by decide +kernel
theorem dX5_carryOut_199 : decode cX5_carryOut 199 = .ok (.ireturn, 1) := by decide +kernel
theorem dX5_carryOut_200 : decode cX5_carryOut 200 = .ok (.aload_n 0, 1) := by decide +kernel
theorem dX5_carryOut_201 : decode cX5_carryOut 201 = .ok (.aload_n 2, 1) := by decide +kernel
theorem dX5_carryOut_202 : decode cX5_carryOut 202 = .ok (.iload_n 3, 1) := by decide +kernel
theorem dX5_carryOut_203 : decode cX5_carryOut 203 = .ok (.iaload, 1) := by decide +kernel
theorem dX5_carryOut_204 : decode cX5_carryOut 204 = .ok (.aload_n 2, 1) := by decide +kernel
theorem dX5_carryOut_205 : decode cX5_carryOut 205 = .ok (.iload_n 3, 1) := by decide +kernel
theorem dX5_carryOut_206 : decode cX5_carryOut 206 = .ok (.iconst 1, 1) := by decide +kernel
theorem dX5_carryOut_207 : decode cX5_carryOut 207 = .ok (.iadd, 1) := by decide +kernel
theorem dX5_carryOut_208 : decode cX5_carryOut 208 = .ok (.iaload, 1) := by decide +kernel
theorem dX5_carryOut_209 : decode cX5_carryOut 209 = .ok (.aload_n 2, 1) := by decide +kernel
theorem dX5_carryOut_210 : decode cX5_carryOut 210 = .ok (.iload_n 3, 1) := by decide +kernel
theorem dX5_carryOut_211 : decode cX5_carryOut 211 = .ok (.iconst 2, 1) := by decide +kernel
theorem dX5_carryOut_212 : decode cX5_carryOut 212 = .ok (.iadd, 1) := by decide +kernel
theorem dX5_carryOut_213 : decode cX5_carryOut 213 = .ok (.iaload, 1) := by decide +kernel
theorem dX5_carryOut_214 : decode cX5_carryOut 214 = .ok (.aload_n 2, 1) := by decide +kernel
theorem dX5_carryOut_215 : decode cX5_carryOut 215 = .ok (.iload_n 3, 1) := by decide +kernel
theorem dX5_carryOut_216 : decode cX5_carryOut 216 = .ok (.iconst 3, 1) := by decide +kernel
theorem dX5_carryOut_217 : decode cX5_carryOut 217 = .ok (.iadd, 1) := by decide +kernel
theorem dX5_carryOut_218 : decode cX5_carryOut 218 = .ok (.iaload, 1) := by decide +kernel
theorem dX5_carryOut_219 : decode cX5_carryOut 219 = .ok (.invokevirtual 317, 3) := by decide +kernel
theorem dX5_carryOut_222 : decode cX5_carryOut 222 = .ok (.ireturn, 1) := by decide +kernel
theorem dX6_init_0 : decode cX6_init 0 = .ok (.aload_n 0, 1) := by decide +kernel
theorem dX6_init_1 : decode cX6_init 1 = .ok (.invokespecial 1, 3) := by decide +kernel
theorem dX6_init_4 : decode cX6_init 4 = .ok (.aload_n 0, 1) := by decide +kernel
theorem dX6_init_5 : decode cX6_init 5 = .ok (.sipush 945, 3) := by decide +kernel
theorem dX6_init_8 : decode cX6_init 8 = .ok (.newarray .int, 2) := by decide +kernel
theorem dX6_init_10 : decode cX6_init 10 = .ok (.putfield 7, 3) := by decide +kernel
theorem dX6_init_13 : decode cX6_init 13 = .ok (.aload_n 0, 1) := by decide +kernel
theorem dX6_init_14 : decode cX6_init 14 = .ok (.sipush 6615, 3) := by decide +kernel
theorem dX6_init_17 : decode cX6_init 17 = .ok (.newarray .int, 2) := by decide +kernel
theorem dX6_init_19 : decode cX6_init 19 = .ok (.putfield 13, 3) := by decide +kernel
theorem dX6_init_22 : decode cX6_init 22 = .ok (.aload_n 0, 1) := by decide +kernel
theorem dX6_init_23 : decode cX6_init 23 = .ok (.iconst 5, 1) := by decide +kernel
theorem dX6_init_24 : decode cX6_init 24 = .ok (.newarray .int, 2) := by decide +kernel
theorem dX6_init_26 : decode cX6_init 26 = .ok (.putfield 16, 3) := by decide +kernel
theorem dX6_init_29 : decode cX6_init 29 = .ok (.aload_n 0, 1) := by decide +kernel
theorem dX6_init_30 : decode cX6_init 30 = .ok (.bipush 120, 2) := by decide +kernel
theorem dX6_init_32 : decode cX6_init 32 = .ok (.newarray .int, 2) := by decide +kernel
theorem dX6_init_34 : decode cX6_init 34 = .ok (.putfield 19, 3) := by decide +kernel
theorem dX6_init_37 : decode cX6_init 37 = .ok (.aload_n 0, 1) := by decide +kernel
theorem dX6_init_38 : decode cX6_init 38 = .ok (.bipush 40, 2) := by decide +kernel
theorem dX6_init_40 : decode cX6_init 40 = .ok (.newarray .int, 2) := by decide +kernel
theorem dX6_init_42 : decode cX6_init 42 = .ok (.putfield 22, 3) := by decide +kernel
theorem dX6_init_45 : decode cX6_init 45 = .ok (.aload_n 0, 1) := by decide +kernel
theorem dX6_init_46 : decode cX6_init 46 = .ok (.sipush 200, 3) := by decide +kernel
theorem dX6_init_49 : decode cX6_init 49 = .ok (.newarray .int, 2) := by decide +kernel
theorem dX6_init_51 : decode cX6_init 51 = .ok (.putfield 25, 3) := by decide +kernel
theorem dX6_init_54 : decode cX6_init 54 = .ok (.aload_n 0, 1) := by decide +kernel
theorem dX6_init_55 : decode cX6_init 55 = .ok (.getfield 7, 3) := by decide +kernel
theorem dX6_init_58 : decode cX6_init 58 = .ok (.iconst 1, 1) := by decide +kernel
theorem dX6_init_59 : decode cX6_init 59 = .ok (.iconst 5, 1) := by decide +kernel
theorem dX6_init_60 : decode cX6_init 60 = .ok (.iastore, 1) := by decide +kernel
theorem dX6_init_61 : decode cX6_init 61 = .ok (.iconst 0, 1) := by decide +kernel
theorem dX6_init_62 : decode cX6_init 62 = .ok (.istore_n 1, 1) := by decide +kernel
theorem dX6_init_63 : decode cX6_init 63 = .ok (.iload_n 1, 1) := by decide +kernel
theorem dX6_init_64 : decode cX6_init 64 = .ok (.iconst 4, 1) := by decide +kernel
theorem dX6_init_65 : decode cX6_init 65 = .ok (.if_icmp .ge 16, 3) := by decide +kernel
theorem dX6_init_68 : decode cX6_init 68 = .ok (.aload_n 0, 1) := by decide +kernel
theorem dX6_init_69 : decode cX6_init 69 = .ok (.iload_n 1, 1) := by decide +kernel
theorem dX6_init_70 : decode cX6_init 70 = .ok (.iconst 0, 1) := by decide +kernel
theorem dX6_init_71 : decode cX6_init 71 = .ok (.iconst (-1), 1) := by decide +kernel
theorem dX6_init_72 : decode cX6_init 72 = .ok (.invokevirtual 28, 3) := by decide +kernel
theorem dX6_init_75 : decode cX6_init 75 = .ok (.iinc 1 1, 3) := by decide +kernel
theorem dX6_init_78 : decode cX6_init 78 = .ok (.goto (-15), 3) := by decide +kernel
theorem dX6_init_81 : decode cX6_init 81 = .ok (.return_, 1) := by decide +kernel
theorem dX6_in_0 : decode cX6_in 0 = .ok (.iload_n 0, 1) := by decide +kernel
theorem dX6_in_1 : decode cX6_in 1 = .ok (.iload_n 1, 1) := by decide +kernel
theorem dX6_in_2 : decode cX6_in 2 = .ok (.if_icmp .lt 12, 3) := by decide +kernel
theorem dX6_in_5 : decode cX6_in 5 = .ok (.iload_n 0, 1) := by decide +kernel
theorem dX6_in_6 : decode cX6_in 6 = .ok (.iload_n 2, 1) := by decide +kernel
theorem dX6_in_7 : decode cX6_in 7 = .ok (.if_icmp .gt 7, 3) := by decide +kernel
theorem dX6_in_10 : decode cX6_in 10 = .ok (.iconst 1, 1) := by decide +kernel
theorem dX6_in_11 : decode cX6_in 11 = .ok (.goto 4, 3) := by decide +kernel
theorem dX6_in_14 : decode cX6_in 14 = .ok (.iconst 0, 1) := by decide +kernel
theorem dX6_in_15 : decode cX6_in 15 = .ok (.ireturn, 1) := by decide +kernel
theorem dX6_has_0 : decode cX6_has 0 = .ok (.iload_n 0, 1) := by decide +kernel
theorem dX6_has_1 : decode cX6_has 1 = .ok (.iload_n 1, 1) := by decide +kernel
theorem dX6_has_2 : decode cX6_has 2 = .ok (.ishr, 1) := by decide +kernel
theorem dX6_has_3 : decode cX6_has 3 = .ok (.iconst 1, 1) := by decide +kernel
theorem dX6_has_4 : decode cX6_has 4 = .ok (.iand, 1) := by decide +kernel
theorem dX6_has_5 : decode cX6_has 5 = .ok (.iconst 1, 1) := by decide +kernel
theorem dX6_has_6 : decode cX6_has 6 = .ok (.if_icmp .ne 7, 3) := by decide +kernel
theorem dX6_has_9 : decode cX6_has 9 = .ok (.iconst 1, 1) := by decide +kernel
theorem dX6_has_10 : decode cX6_has 10 = .ok (.goto 4, 3) := by decide +kernel
theorem dX6_has_13 : decode cX6_has 13 = .ok (.iconst 0, 1) := by decide +kernel
theorem dX6_has_14 : decode cX6_has 14 = .ok (.ireturn, 1) := by decide +kernel
theorem dX6_bits_0 : decode cX6_bits 0 = .ok (.iconst 0, 1) := by decide +kernel
theorem dX6_bits_1 : decode cX6_bits 1 = .ok (.istore_n 1, 1) := by decide +kernel
theorem dX6_bits_2 : decode cX6_bits 2 = .ok (.iconst 0, 1) := by decide +kernel
theorem dX6_bits_3 : decode cX6_bits 3 = .ok (.istore_n 2, 1) := by decide +kernel
theorem dX6_bits_4 : decode cX6_bits 4 = .ok (.iload_n 2, 1) := by decide +kernel
theorem dX6_bits_5 : decode cX6_bits 5 = .ok (.iconst 3, 1) := by decide +kernel
theorem dX6_bits_6 : decode cX6_bits 6 = .ok (.if_icmp .ge 17, 3) := by decide +kernel
theorem dX6_bits_9 : decode cX6_bits 9 = .ok (.iload_n 1, 1) := by decide +kernel
theorem dX6_bits_10 : decode cX6_bits 10 = .ok (.iload_n 0, 1) := by decide +kernel
theorem dX6_bits_11 : decode cX6_bits 11 = .ok (.iload_n 2, 1) := by decide +kernel
theorem dX6_bits_12 : decode cX6_bits 12 = .ok (.ishr, 1) := by decide +kernel
theorem dX6_bits_13 : decode cX6_bits 13 = .ok (.iconst 1, 1) := by decide +kernel
theorem dX6_bits_14 : decode cX6_bits 14 = .ok (.iand, 1) := by decide +kernel
theorem dX6_bits_15 : decode cX6_bits 15 = .ok (.iadd, 1) := by decide +kernel
theorem dX6_bits_16 : decode cX6_bits 16 = .ok (.istore_n 1, 1) := by decide +kernel
theorem dX6_bits_17 : decode cX6_bits 17 = .ok (.iinc 2 1, 3) := by decide +kernel
theorem dX6_bits_20 : decode cX6_bits 20 = .ok (.goto (-16), 3) := by decide +kernel
theorem dX6_bits_23 : decode cX6_bits 23 = .ok (.iload_n 1, 1) := by decide +kernel
theorem dX6_bits_24 : decode cX6_bits 24 = .ok (.ireturn, 1) := by decide +kernel
theorem dX6_refuse_0 : decode cX6_refuse 0 = .ok (.aload_n 0, 1) := by decide +kernel
theorem dX6_refuse_1 : decode cX6_refuse 1 = .ok (.getfield 16, 3) := by decide +kernel
theorem dX6_refuse_4 : decode cX6_refuse 4 = .ok (.iload_n 1, 1) := by decide +kernel
theorem dX6_refuse_5 : decode cX6_refuse 5 = .ok (.dup2, 1) := by decide +kernel
theorem dX6_refuse_6 : decode cX6_refuse 6 = .ok (.iaload, 1) := by decide +kernel
theorem dX6_refuse_7 : decode cX6_refuse 7 = .ok (.iconst 1, 1) := by decide +kernel
theorem dX6_refuse_8 : decode cX6_refuse 8 = .ok (.iadd, 1) := by decide +kernel
theorem dX6_refuse_9 : decode cX6_refuse 9 = .ok (.iastore, 1) := by decide +kernel
theorem dX6_refuse_10 : decode cX6_refuse 10 = .ok (.iload_n 2, 1) := by decide +kernel
theorem dX6_refuse_11 : decode cX6_refuse 11 = .ok (.ireturn, 1) := by decide +kernel
theorem dX6_bad_0 : decode cX6_bad 0 = .ok (.aload_n 0, 1) := by decide +kernel
theorem dX6_bad_1 : decode cX6_bad 1 = .ok (.iconst 0, 1) := by decide +kernel
theorem dX6_bad_2 : decode cX6_bad 2 = .ok (.bipush (-2), 2) := by decide +kernel
theorem dX6_bad_4 : decode cX6_bad 4 = .ok (.invokevirtual 32, 3) := by decide +kernel
theorem dX6_bad_7 : decode cX6_bad 7 = .ok (.ireturn, 1) := by decide +kernel
theorem dX6_isWriter_0 : decode cX6_isWriter 0 = .ok (.iload_n 0, 1) := by decide +kernel
theorem dX6_isWriter_1 : decode cX6_isWriter 1 = .ok (.iconst 0, 1) := by decide +kernel
theorem dX6_isWriter_2 : decode cX6_isWriter 2 = .ok (.iconst 3, 1) := by decide +kernel
theorem dX6_isWriter_3 : decode cX6_isWriter 3 = .ok (.invokestatic 36, 3) := by decide +kernel
theorem dX6_isWriter_6 : decode cX6_isWriter 6 = .ok (.ireturn, 1) := by decide +kernel
theorem dX6_isPart_0 : decode cX6_isPart 0 = .ok (.iload_n 0, 1) := by decide +kernel
theorem dX6_isPart_1 : decode cX6_isPart 1 = .ok (.iconst 0, 1) := by decide +kernel
theorem dX6_isPart_2 : decode cX6_isPart 2 = .ok (.iconst 2, 1) := by decide +kernel
theorem dX6_isPart_3 : decode cX6_isPart 3 = .ok (.invokestatic 36, 3) := by decide +kernel
theorem dX6_isPart_6 : decode cX6_isPart 6 = .ok (.ireturn, 1) := by decide +kernel
theorem dX6_isReader_0 : decode cX6_isReader 0 = .ok (.iload_n 0, 1) := by decide +kernel
theorem dX6_isReader_1 : decode cX6_isReader 1 = .ok (.iconst 0, 1) := by decide +kernel
theorem dX6_isReader_2 : decode cX6_isReader 2 = .ok (.iconst 1, 1) := by decide +kernel
theorem dX6_isReader_3 : decode cX6_isReader 3 = .ok (.invokestatic 36, 3) := by decide +kernel
theorem dX6_isReader_6 : decode cX6_isReader 6 = .ok (.ireturn, 1) := by decide +kernel
theorem dX6_copies_0 : decode cX6_copies 0 = .ok (.iconst 0, 1) := by decide +kernel
theorem dX6_copies_1 : decode cX6_copies 1 = .ok (.istore 5, 2) := by decide +kernel
theorem dX6_copies_3 : decode cX6_copies 3 = .ok (.iload 5, 2) := by decide +kernel
theorem dX6_copies_5 : decode cX6_copies 5 = .ok (.sipush 945, 3) := by decide +kernel
theorem dX6_copies_8 : decode cX6_copies 8 = .ok (.if_icmp .ge 22, 3) := by decide +kernel
theorem dX6_copies_11 : decode cX6_copies 11 = .ok (.aload_n 3, 1) := by decide +kernel
theorem dX6_copies_12 : decode cX6_copies 12 = .ok (.iload 4, 2) := by decide +kernel
theorem dX6_copies_14 : decode cX6_copies 14 = .ok (.iload 5, 2) := by decide +kernel
theorem dX6_copies_16 : decode cX6_copies 16 = .ok (.iadd, 1) := by decide +kernel
theorem dX6_copies_17 : decode cX6_copies 17 = .ok (.aload_n 1, 1) := by decide +kernel
theorem dX6_copies_18 : decode cX6_copies 18 = .ok (.iload_n 2, 1) := by decide +kernel
theorem dX6_copies_19 : decode cX6_copies 19 = .ok (.iload 5, 2) := by decide +kernel
theorem dX6_copies_21 : decode cX6_copies 21 = .ok (.iadd, 1) := by decide +kernel
theorem dX6_copies_22 : decode cX6_copies 22 = .ok (.iaload, 1) := by decide +kernel
theorem dX6_copies_23 : decode cX6_copies 23 = .ok (.iastore, 1) := by decide +kernel
theorem dX6_copies_24 : decode cX6_copies 24 = .ok (.iinc 5 1, 3) := by decide +kernel
theorem dX6_copies_27 : decode cX6_copies 27 = .ok (.goto (-24), 3) := by decide +kernel
theorem dX6_copies_30 : decode cX6_copies 30 = .ok (.return_, 1) := by decide +kernel
theorem dX6_keeps_0 : decode cX6_keeps 0 = .ok (.aload_n 0, 1) := by decide +kernel
theorem dX6_keeps_1 : decode cX6_keeps 1 = .ok (.getfield 40, 3) := by decide +kernel
theorem dX6_keeps_4 : decode cX6_keeps 4 = .ok (.bipush 6, 2) := by decide +kernel
theorem dX6_keeps_6 : decode cX6_keeps 6 = .ok (.if_icmp .ne 44, 3) := by decide +kernel
theorem dX6_keeps_9 : decode cX6_keeps 9 = .ok (.iconst 0, 1) := by decide +kernel
theorem dX6_keeps_10 : decode cX6_keeps 10 = .ok (.istore_n 3, 1) := by decide +kernel
theorem dX6_keeps_11 : decode cX6_keeps 11 = .ok (.iload_n 3, 1) := by decide +kernel
theorem dX6_keeps_12 : decode cX6_keeps 12 = .ok (.sipush 4725, 3) := by decide +kernel
theorem dX6_keeps_15 : decode cX6_keeps 15 = .ok (.if_icmp .ge 25, 3) := by decide +kernel
theorem dX6_keeps_18 : decode cX6_keeps 18 = .ok (.aload_n 0, 1) := by decide +kernel
theorem dX6_keeps_19 : decode cX6_keeps 19 = .ok (.getfield 13, 3) := by decide +kernel
theorem dX6_keeps_22 : decode cX6_keeps 22 = .ok (.iload_n 3, 1) := by decide +kernel
theorem dX6_keeps_23 : decode cX6_keeps 23 = .ok (.aload_n 0, 1) := by decide +kernel
theorem dX6_keeps_24 : decode cX6_keeps 24 = .ok (.getfield 13, 3) := by decide +kernel
theorem dX6_keeps_27 : decode cX6_keeps 27 = .ok (.iload_n 3, 1) := by decide +kernel
theorem dX6_keeps_28 : decode cX6_keeps 28 = .ok (.sipush 945, 3) := by decide +kernel
theorem dX6_keeps_31 : decode cX6_keeps 31 = .ok (.iadd, 1) := by decide +kernel
theorem dX6_keeps_32 : decode cX6_keeps 32 = .ok (.iaload, 1) := by decide +kernel
theorem dX6_keeps_33 : decode cX6_keeps 33 = .ok (.iastore, 1) := by decide +kernel
theorem dX6_keeps_34 : decode cX6_keeps 34 = .ok (.iinc 3 1, 3) := by decide +kernel
theorem dX6_keeps_37 : decode cX6_keeps 37 = .ok (.goto (-26), 3) := by decide +kernel
theorem dX6_keeps_40 : decode cX6_keeps 40 = .ok (.aload_n 0, 1) := by decide +kernel
theorem dX6_keeps_41 : decode cX6_keeps 41 = .ok (.dup, 1) := by decide +kernel
theorem dX6_keeps_42 : decode cX6_keeps 42 = .ok (.getfield 40, 3) := by decide +kernel
theorem dX6_keeps_45 : decode cX6_keeps 45 = .ok (.iconst 1, 1) := by decide +kernel
theorem dX6_keeps_46 : decode cX6_keeps 46 = .ok (.isub, 1) := by decide +kernel
theorem dX6_keeps_47 : decode cX6_keeps 47 = .ok (.putfield 40, 3) := by decide +kernel
theorem dX6_keeps_50 : decode cX6_keeps 50 = .ok (.aload_n 0, 1) := by decide +kernel
theorem dX6_keeps_51 : decode cX6_keeps 51 = .ok (.aload_n 1, 1) := by decide +kernel
theorem dX6_keeps_52 : decode cX6_keeps 52 = .ok (.iload_n 2, 1) := by decide +kernel
theorem dX6_keeps_53 : decode cX6_keeps 53 = .ok (.aload_n 0, 1) := by decide +kernel
theorem dX6_keeps_54 : decode cX6_keeps 54 = .ok (.getfield 13, 3) := by decide +kernel
theorem dX6_keeps_57 : decode cX6_keeps 57 = .ok (.sipush 945, 3) := by decide +kernel
theorem dX6_keeps_60 : decode cX6_keeps 60 = .ok (.aload_n 0, 1) := by decide +kernel
theorem dX6_keeps_61 : decode cX6_keeps 61 = .ok (.getfield 40, 3) := by decide +kernel
theorem dX6_keeps_64 : decode cX6_keeps 64 = .ok (.imul, 1) := by decide +kernel
theorem dX6_keeps_65 : decode cX6_keeps 65 = .ok (.invokevirtual 44, 3) := by decide +kernel
theorem dX6_keeps_68 : decode cX6_keeps 68 = .ok (.aload_n 0, 1) := by decide +kernel
theorem dX6_keeps_69 : decode cX6_keeps 69 = .ok (.dup, 1) := by decide +kernel
theorem dX6_keeps_70 : decode cX6_keeps 70 = .ok (.getfield 40, 3) := by decide +kernel
theorem dX6_keeps_73 : decode cX6_keeps 73 = .ok (.iconst 1, 1) := by decide +kernel
theorem dX6_keeps_74 : decode cX6_keeps 74 = .ok (.iadd, 1) := by decide +kernel
theorem dX6_keeps_75 : decode cX6_keeps 75 = .ok (.putfield 40, 3) := by decide +kernel
theorem dX6_keeps_78 : decode cX6_keeps 78 = .ok (.return_, 1) := by decide +kernel
theorem dX6_notes_0 : decode cX6_notes 0 = .ok (.aload_n 0, 1) := by decide +kernel
theorem dX6_notes_1 : decode cX6_notes 1 = .ok (.getfield 48, 3) := by decide +kernel
theorem dX6_notes_4 : decode cX6_notes 4 = .ok (.ifCond .ne 12, 3) := by decide +kernel
theorem dX6_notes_7 : decode cX6_notes 7 = .ok (.aload_n 0, 1) := by decide +kernel
theorem dX6_notes_8 : decode cX6_notes 8 = .ok (.aload_n 0, 1) := by decide +kernel
theorem dX6_notes_9 : decode cX6_notes 9 = .ok (.getfield 7, 3) := by decide +kernel
theorem dX6_notes_12 : decode cX6_notes 12 = .ok (.iconst 0, 1) := by decide +kernel
theorem dX6_notes_13 : decode cX6_notes 13 = .ok (.invokevirtual 52, 3) := by decide +kernel
theorem dX6_notes_16 : decode cX6_notes 16 = .ok (.return_, 1) := by decide +kernel
theorem dX6_of_0 : decode cX6_of 0 = .ok (.aload_n 0, 1) := by decide +kernel
theorem dX6_of_1 : decode cX6_of 1 = .ok (.getfield 7, 3) := by decide +kernel
theorem dX6_of_4 : decode cX6_of 4 = .ok (.iconst 2, 1) := by decide +kernel
theorem dX6_of_5 : decode cX6_of 5 = .ok (.bipush 16, 2) := by decide +kernel
theorem dX6_of_7 : decode cX6_of 7 = .ok (.iload_n 1, 1) := by decide +kernel
theorem dX6_of_8 : decode cX6_of 8 = .ok (.imul, 1) := by decide +kernel
theorem dX6_of_9 : decode cX6_of 9 = .ok (.iadd, 1) := by decide +kernel
theorem dX6_of_10 : decode cX6_of 10 = .ok (.iload_n 2, 1) := by decide +kernel
theorem dX6_of_11 : decode cX6_of 11 = .ok (.iadd, 1) := by decide +kernel
theorem dX6_of_12 : decode cX6_of 12 = .ok (.iaload, 1) := by decide +kernel
theorem dX6_of_13 : decode cX6_of 13 = .ok (.ireturn, 1) := by decide +kernel
theorem dX6_lays_0 : decode cX6_lays 0 = .ok (.aload_n 0, 1) := by decide +kernel
theorem dX6_lays_1 : decode cX6_lays 1 = .ok (.getfield 7, 3) := by decide +kernel
theorem dX6_lays_4 : decode cX6_lays 4 = .ok (.iconst 2, 1) := by decide +kernel
theorem dX6_lays_5 : decode cX6_lays 5 = .ok (.bipush 16, 2) := by decide +kernel
theorem dX6_lays_7 : decode cX6_lays 7 = .ok (.iload_n 1, 1) := by decide +kernel
theorem dX6_lays_8 : decode cX6_lays 8 = .ok (.imul, 1) := by decide +kernel
theorem dX6_lays_9 : decode cX6_lays 9 = .ok (.iadd, 1) := by decide +kernel
theorem dX6_lays_10 : decode cX6_lays 10 = .ok (.iload_n 2, 1) := by decide +kernel
theorem dX6_lays_11 : decode cX6_lays 11 = .ok (.iadd, 1) := by decide +kernel
theorem dX6_lays_12 : decode cX6_lays 12 = .ok (.iload_n 3, 1) := by decide +kernel
theorem dX6_lays_13 : decode cX6_lays 13 = .ok (.iastore, 1) := by decide +kernel
theorem dX6_lays_14 : decode cX6_lays 14 = .ok (.return_, 1) := by decide +kernel
theorem dX6_sizeOf_0 : decode cX6_sizeOf 0 = .ok (.aload_n 0, 1) := by decide +kernel
theorem dX6_sizeOf_1 : decode cX6_sizeOf 1 = .ok (.getfield 7, 3) := by decide +kernel
theorem dX6_sizeOf_4 : decode cX6_sizeOf 4 = .ok (.bipush 66, 2) := by decide +kernel
theorem dX6_sizeOf_6 : decode cX6_sizeOf 6 = .ok (.iload_n 1, 1) := by decide +kernel
theorem dX6_sizeOf_7 : decode cX6_sizeOf 7 = .ok (.iadd, 1) := by decide +kernel
theorem dX6_sizeOf_8 : decode cX6_sizeOf 8 = .ok (.iaload, 1) := by decide +kernel
theorem dX6_sizeOf_9 : decode cX6_sizeOf 9 = .ok (.ireturn, 1) := by decide +kernel
theorem dX6_cellOf_0 : decode cX6_cellOf 0 = .ok (.aload_n 0, 1) := by decide +kernel
theorem dX6_cellOf_1 : decode cX6_cellOf 1 = .ok (.getfield 7, 3) := by decide +kernel
theorem dX6_cellOf_4 : decode cX6_cellOf 4 = .ok (.bipush 81, 2) := by decide +kernel
theorem dX6_cellOf_6 : decode cX6_cellOf 6 = .ok (.sipush 288, 3) := by decide +kernel
theorem dX6_cellOf_9 : decode cX6_cellOf 9 = .ok (.iload_n 1, 1) := by decide +kernel
theorem dX6_cellOf_10 : decode cX6_cellOf 10 = .ok (.imul, 1) := by decide +kernel
theorem dX6_cellOf_11 : decode cX6_cellOf 11 = .ok (.iadd, 1) := by decide +kernel
theorem dX6_cellOf_12 : decode cX6_cellOf 12 = .ok (.bipush 6, 2) := by decide +kernel
theorem dX6_cellOf_14 : decode cX6_cellOf 14 = .ok (.iload_n 2, 1) := by decide +kernel
theorem dX6_cellOf_15 : decode cX6_cellOf 15 = .ok (.imul, 1) := by decide +kernel
theorem dX6_cellOf_16 : decode cX6_cellOf 16 = .ok (.iadd, 1) := by decide +kernel
theorem dX6_cellOf_17 : decode cX6_cellOf 17 = .ok (.iload_n 3, 1) := by decide +kernel
theorem dX6_cellOf_18 : decode cX6_cellOf 18 = .ok (.iadd, 1) := by decide +kernel
theorem dX6_cellOf_19 : decode cX6_cellOf 19 = .ok (.iaload, 1) := by decide +kernel
theorem dX6_cellOf_20 : decode cX6_cellOf 20 = .ok (.ireturn, 1) := by decide +kernel
theorem dX6_put_0 : decode cX6_put 0 = .ok (.aload_n 0, 1) := by decide +kernel
theorem dX6_put_1 : decode cX6_put 1 = .ok (.getfield 7, 3) := by decide +kernel
theorem dX6_put_4 : decode cX6_put 4 = .ok (.bipush 81, 2) := by decide +kernel
theorem dX6_put_6 : decode cX6_put 6 = .ok (.sipush 288, 3) := by decide +kernel
theorem dX6_put_9 : decode cX6_put 9 = .ok (.iload_n 1, 1) := by decide +kernel
theorem dX6_put_10 : decode cX6_put 10 = .ok (.imul, 1) := by decide +kernel
theorem dX6_put_11 : decode cX6_put 11 = .ok (.iadd, 1) := by decide +kernel
theorem dX6_put_12 : decode cX6_put 12 = .ok (.bipush 6, 2) := by decide +kernel
theorem dX6_put_14 : decode cX6_put 14 = .ok (.iload_n 2, 1) := by decide +kernel
theorem dX6_put_15 : decode cX6_put 15 = .ok (.imul, 1) := by decide +kernel
theorem dX6_put_16 : decode cX6_put 16 = .ok (.iadd, 1) := by decide +kernel
theorem dX6_put_17 : decode cX6_put 17 = .ok (.iload_n 3, 1) := by decide +kernel
