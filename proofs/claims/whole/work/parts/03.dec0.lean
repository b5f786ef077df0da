theorem dX0_init_0 : decode cX0_init 0 = .ok (.aload_n 0, 1) := by decide +kernel
theorem dX0_init_1 : decode cX0_init 1 = .ok (.invokespecial 3, 3) := by decide +kernel
theorem dX0_init_4 : decode cX0_init 4 = .ok (.aload_n 0, 1) := by decide +kernel
theorem dX0_init_5 : decode cX0_init 5 = .ok (.iconst 3, 1) := by decide +kernel
theorem dX0_init_6 : decode cX0_init 6 = .ok (.newarray .int, 2) := by decide +kernel
theorem dX0_init_8 : decode cX0_init 8 = .ok (.putfield 9, 3) := by decide +kernel
theorem dX0_init_11 : decode cX0_init 11 = .ok (.aload_n 0, 1) := by decide +kernel
theorem dX0_init_12 : decode cX0_init 12 = .ok (.iconst 3, 1) := by decide +kernel
theorem dX0_init_13 : decode cX0_init 13 = .ok (.newarray .int, 2) := by decide +kernel
theorem dX0_init_15 : decode cX0_init 15 = .ok (.putfield 15, 3) := by decide +kernel
theorem dX0_init_18 : decode cX0_init 18 = .ok (.return_, 1) := by decide +kernel
theorem dX0_copy_0 : decode cX0_copy 0 = .ok (.aload_n 1, 1) := by decide +kernel
theorem dX0_copy_1 : decode cX0_copy 1 = .ok (.getfield 9, 3) := by decide +kernel
theorem dX0_copy_4 : decode cX0_copy 4 = .ok (.iconst 0, 1) := by decide +kernel
theorem dX0_copy_5 : decode cX0_copy 5 = .ok (.aload_n 0, 1) := by decide +kernel
theorem dX0_copy_6 : decode cX0_copy 6 = .ok (.getfield 9, 3) := by decide +kernel
theorem dX0_copy_9 : decode cX0_copy 9 = .ok (.iconst 0, 1) := by decide +kernel
theorem dX0_copy_10 : decode cX0_copy 10 = .ok (.iconst 3, 1) := by decide +kernel
theorem dX0_copy_11 : decode cX0_copy 11 = .ok (.invokestatic 18, 3) := by decide +kernel
theorem dX0_copy_14 : decode cX0_copy 14 = .ok (.aload_n 1, 1) := by decide +kernel
theorem dX0_copy_15 : decode cX0_copy 15 = .ok (.getfield 15, 3) := by decide +kernel
theorem dX0_copy_18 : decode cX0_copy 18 = .ok (.iconst 0, 1) := by decide +kernel
theorem dX0_copy_19 : decode cX0_copy 19 = .ok (.aload_n 0, 1) := by decide +kernel
theorem dX0_copy_20 : decode cX0_copy 20 = .ok (.getfield 15, 3) := by decide +kernel
theorem dX0_copy_23 : decode cX0_copy 23 = .ok (.iconst 0, 1) := by decide +kernel
theorem dX0_copy_24 : decode cX0_copy 24 = .ok (.iconst 3, 1) := by decide +kernel
theorem dX0_copy_25 : decode cX0_copy 25 = .ok (.invokestatic 18, 3) := by decide +kernel
theorem dX0_copy_28 : decode cX0_copy 28 = .ok (.return_, 1) := by decide +kernel
theorem dX0_save_0 : decode cX0_save 0 = .ok (.iconst 0, 1) := by decide +kernel
theorem dX0_save_1 : decode cX0_save 1 = .ok (.istore_n 3, 1) := by decide +kernel
theorem dX0_save_2 : decode cX0_save 2 = .ok (.iload_n 3, 1) := by decide +kernel
theorem dX0_save_3 : decode cX0_save 3 = .ok (.iconst 3, 1) := by decide +kernel
theorem dX0_save_4 : decode cX0_save 4 = .ok (.if_icmp .ge 29, 3) := by decide +kernel
theorem dX0_save_7 : decode cX0_save 7 = .ok (.aload_n 1, 1) := by decide +kernel
theorem dX0_save_8 : decode cX0_save 8 = .ok (.iload_n 2, 1) := by decide +kernel
theorem dX0_save_9 : decode cX0_save 9 = .ok (.iload_n 3, 1) := by decide +kernel
theorem dX0_save_10 : decode cX0_save 10 = .ok (.iadd, 1) := by decide +kernel
theorem dX0_save_11 : decode cX0_save 11 = .ok (.iaload, 1) := by decide +kernel
theorem dX0_save_12 : decode cX0_save 12 = .ok (.iconst (-1), 1) := by decide +kernel
theorem dX0_save_13 : decode cX0_save 13 = .ok (.if_icmp .eq 14, 3) := by decide +kernel
theorem dX0_save_16 : decode cX0_save 16 = .ok (.aload_n 0, 1) := by decide +kernel
theorem dX0_save_17 : decode cX0_save 17 = .ok (.getfield 15, 3) := by decide +kernel
theorem dX0_save_20 : decode cX0_save 20 = .ok (.iload_n 3, 1) := by decide +kernel
theorem dX0_save_21 : decode cX0_save 21 = .ok (.aload_n 1, 1) := by decide +kernel
theorem dX0_save_22 : decode cX0_save 22 = .ok (.iload_n 2, 1) := by decide +kernel
theorem dX0_save_23 : decode cX0_save 23 = .ok (.iload_n 3, 1) := by decide +kernel
theorem dX0_save_24 : decode cX0_save 24 = .ok (.iadd, 1) := by decide +kernel
theorem dX0_save_25 : decode cX0_save 25 = .ok (.iaload, 1) := by decide +kernel
theorem dX0_save_26 : decode cX0_save 26 = .ok (.iastore, 1) := by decide +kernel
theorem dX0_save_27 : decode cX0_save 27 = .ok (.iinc 3 1, 3) := by decide +kernel
theorem dX0_save_30 : decode cX0_save 30 = .ok (.goto (-28), 3) := by decide +kernel
theorem dX0_save_33 : decode cX0_save 33 = .ok (.return_, 1) := by decide +kernel
theorem dX0_returnToSaved_0 : decode cX0_returnToSaved 0 = .ok (.iconst 0, 1) := by decide +kernel
theorem dX0_returnToSaved_1 : decode cX0_returnToSaved 1 = .ok (.istore_n 1, 1) := by decide +kernel
theorem dX0_returnToSaved_2 : decode cX0_returnToSaved 2 = .ok (.iconst 0, 1) := by decide +kernel
theorem dX0_returnToSaved_3 : decode cX0_returnToSaved 3 = .ok (.istore_n 2, 1) := by decide +kernel
theorem dX0_returnToSaved_4 : decode cX0_returnToSaved 4 = .ok (.iload_n 2, 1) := by decide +kernel
theorem dX0_returnToSaved_5 : decode cX0_returnToSaved 5 = .ok (.iconst 3, 1) := by decide +kernel
theorem dX0_returnToSaved_6 : decode cX0_returnToSaved 6 = .ok (.if_icmp .ge 39, 3) := by decide +kernel
theorem dX0_returnToSaved_9 : decode cX0_returnToSaved 9 = .ok (.aload_n 0, 1) := by decide +kernel
theorem dX0_returnToSaved_10 : decode cX0_returnToSaved 10 = .ok (.getfield 9, 3) := by decide +kernel
theorem dX0_returnToSaved_13 : decode cX0_returnToSaved 13 = .ok (.iload_n 2, 1) := by decide +kernel
theorem dX0_returnToSaved_14 : decode cX0_returnToSaved 14 = .ok (.iaload, 1) := by decide +kernel
theorem dX0_returnToSaved_15 : decode cX0_returnToSaved 15 = .ok (.aload_n 0, 1) := by decide +kernel
theorem dX0_returnToSaved_16 : decode cX0_returnToSaved 16 = .ok (.getfield 15, 3) := by decide +kernel
theorem dX0_returnToSaved_19 : decode cX0_returnToSaved 19 = .ok (.iload_n 2, 1) := by decide +kernel
theorem dX0_returnToSaved_20 : decode cX0_returnToSaved 20 = .ok (.iaload, 1) := by decide +kernel
theorem dX0_returnToSaved_21 : decode cX0_returnToSaved 21 = .ok (.if_icmp .eq 18, 3) := by decide +kernel
theorem dX0_returnToSaved_24 : decode cX0_returnToSaved 24 = .ok (.iinc 1 1, 3) := by decide +kernel
theorem dX0_returnToSaved_27 : decode cX0_returnToSaved 27 = .ok (.aload_n 0, 1) := by decide +kernel
theorem dX0_returnToSaved_28 : decode cX0_returnToSaved 28 = .ok (.getfield 9, 3) := by decide +kernel
theorem dX0_returnToSaved_31 : decode cX0_returnToSaved 31 = .ok (.iload_n 2, 1) := by decide +kernel
theorem dX0_returnToSaved_32 : decode cX0_returnToSaved 32 = .ok (.aload_n 0, 1) := by decide +kernel
theorem dX0_returnToSaved_33 : decode cX0_returnToSaved 33 = .ok (.getfield 15, 3) := by decide +kernel
theorem dX0_returnToSaved_36 : decode cX0_returnToSaved 36 = .ok (.iload_n 2, 1) := by decide +kernel
theorem dX0_returnToSaved_37 : decode cX0_returnToSaved 37 = .ok (.iaload, 1) := by decide +kernel
theorem dX0_returnToSaved_38 : decode cX0_returnToSaved 38 = .ok (.iastore, 1) := by decide +kernel
theorem dX0_returnToSaved_39 : decode cX0_returnToSaved 39 = .ok (.iinc 2 1, 3) := by decide +kernel
theorem dX0_returnToSaved_42 : decode cX0_returnToSaved 42 = .ok (.goto (-38), 3) := by decide +kernel
theorem dX0_returnToSaved_45 : decode cX0_returnToSaved 45 = .ok (.iload_n 1, 1) := by decide +kernel
theorem dX0_returnToSaved_46 : decode cX0_returnToSaved 46 = .ok (.ireturn, 1) := by decide +kernel
theorem dX1_init_0 : decode cX1_init 0 = .ok (.aload_n 0, 1) := by decide +kernel
theorem dX1_init_1 : decode cX1_init 1 = .ok (.invokespecial 3, 3) := by decide +kernel
theorem dX1_init_4 : decode cX1_init 4 = .ok (.aload_n 0, 1) := by decide +kernel
theorem dX1_init_5 : decode cX1_init 5 = .ok (.iconst 0, 1) := by decide +kernel
theorem dX1_init_6 : decode cX1_init 6 = .ok (.putfield 9, 3) := by decide +kernel
theorem dX1_init_9 : decode cX1_init 9 = .ok (.aload_n 0, 1) := by decide +kernel
theorem dX1_init_10 : decode cX1_init 10 = .ok (.bipush 48, 2) := by decide +kernel
theorem dX1_init_12 : decode cX1_init 12 = .ok (.newarray .int, 2) := by decide +kernel
theorem dX1_init_14 : decode cX1_init 14 = .ok (.putfield 15, 3) := by decide +kernel
theorem dX1_init_17 : decode cX1_init 17 = .ok (.aload_n 0, 1) := by decide +kernel
theorem dX1_init_18 : decode cX1_init 18 = .ok (.bipush 48, 2) := by decide +kernel
theorem dX1_init_20 : decode cX1_init 20 = .ok (.newarray .int, 2) := by decide +kernel
theorem dX1_init_22 : decode cX1_init 22 = .ok (.putfield 19, 3) := by decide +kernel
theorem dX1_init_25 : decode cX1_init 25 = .ok (.aload_n 0, 1) := by decide +kernel
theorem dX1_init_26 : decode cX1_init 26 = .ok (.bipush 48, 2) := by decide +kernel
theorem dX1_init_28 : decode cX1_init 28 = .ok (.newarray .int, 2) := by decide +kernel
theorem dX1_init_30 : decode cX1_init 30 = .ok (.putfield 22, 3) := by decide +kernel
theorem dX1_init_33 : decode cX1_init 33 = .ok (.aload_n 0, 1) := by decide +kernel
theorem dX1_init_34 : decode cX1_init 34 = .ok (.bipush 48, 2) := by decide +kernel
theorem dX1_init_36 : decode cX1_init 36 = .ok (.newarray .int, 2) := by decide +kernel
theorem dX1_init_38 : decode cX1_init 38 = .ok (.putfield 25, 3) := by decide +kernel
theorem dX1_init_41 : decode cX1_init 41 = .ok (.aload_n 0, 1) := by decide +kernel
theorem dX1_init_42 : decode cX1_init 42 = .ok (.bipush 48, 2) := by decide +kernel
theorem dX1_init_44 : decode cX1_init 44 = .ok (.newarray .int, 2) := by decide +kernel
theorem dX1_init_46 : decode cX1_init 46 = .ok (.putfield 28, 3) := by decide +kernel
theorem dX1_init_49 : decode cX1_init 49 = .ok (.aload_n 0, 1) := by decide +kernel
theorem dX1_init_50 : decode cX1_init 50 = .ok (.bipush 48, 2) := by decide +kernel
theorem dX1_init_52 : decode cX1_init 52 = .ok (.newarray .int, 2) := by decide +kernel
theorem dX1_init_54 : decode cX1_init 54 = .ok (.putfield 31, 3) := by decide +kernel
theorem dX1_init_57 : decode cX1_init 57 = .ok (.return_, 1) := by decide +kernel
theorem dX1_appendMarker_0 : decode cX1_appendMarker 0 = .ok (.aload_n 0, 1) := by decide +kernel
theorem dX1_appendMarker_1 : decode cX1_appendMarker 1 = .ok (.iload_n 1, 1) := by decide +kernel
theorem dX1_appendMarker_2 : decode cX1_appendMarker 2 = .ok (.iload_n 2, 1) := by decide +kernel
theorem dX1_appendMarker_3 : decode cX1_appendMarker 3 = .ok (.iconst (-1), 1) := by decide +kernel
theorem dX1_appendMarker_4 : decode cX1_appendMarker 4 = .ok (.iload_n 3, 1) := by decide +kernel
theorem dX1_appendMarker_5 : decode cX1_appendMarker 5 = .ok (.iload 4, 2) := by decide +kernel
theorem dX1_appendMarker_7 : decode cX1_appendMarker 7 = .ok (.invokevirtual 34, 3) := by decide +kernel
theorem dX1_appendMarker_10 : decode cX1_appendMarker 10 = .ok (.istore 5, 2) := by decide +kernel
theorem dX1_appendMarker_12 : decode cX1_appendMarker 12 = .ok (.iload 4, 2) := by decide +kernel
theorem dX1_appendMarker_14 : decode cX1_appendMarker 14 = .ok (.ifCond .lt 19, 3) := by decide +kernel
theorem dX1_appendMarker_17 : decode cX1_appendMarker 17 = .ok (.iload 4, 2) := by decide +kernel
theorem dX1_appendMarker_19 : decode cX1_appendMarker 19 = .ok (.iload 5, 2) := by decide +kernel
theorem dX1_appendMarker_21 : decode cX1_appendMarker 21 = .ok (.if_icmp .ge 12, 3) := by decide +kernel
theorem dX1_appendMarker_24 : decode cX1_appendMarker 24 = .ok (.aload_n 0, 1) := by decide +kernel
theorem dX1_appendMarker_25 : decode cX1_appendMarker 25 = .ok (.getfield 31, 3) := by decide +kernel
theorem dX1_appendMarker_28 : decode cX1_appendMarker 28 = .ok (.iload 4, 2) := by decide +kernel
theorem dX1_appendMarker_30 : decode cX1_appendMarker 30 = .ok (.iload 5, 2) := by decide +kernel
theorem dX1_appendMarker_32 : decode cX1_appendMarker 32 = .ok (.iastore, 1) := by decide +kernel
theorem dX1_appendMarker_33 : decode cX1_appendMarker 33 = .ok (.return_, 1) := by decide +kernel
theorem dX1_append_0 : decode cX1_append 0 = .ok (.aload_n 0, 1) := by decide +kernel
theorem dX1_append_1 : decode cX1_append 1 = .ok (.getfield 9, 3) := by decide +kernel
theorem dX1_append_4 : decode cX1_append 4 = .ok (.bipush 48, 2) := by decide +kernel
theorem dX1_append_6 : decode cX1_append 6 = .ok (.if_icmp .lt 5, 3) := by decide +kernel
theorem dX1_append_9 : decode cX1_append 9 = .ok (.iconst (-1), 1) := by decide +kernel
theorem dX1_append_10 : decode cX1_append 10 = .ok (.ireturn, 1) := by decide +kernel
theorem dX1_append_11 : decode cX1_append 11 = .ok (.aload_n 0, 1) := by decide +kernel
theorem dX1_append_12 : decode cX1_append 12 = .ok (.getfield 9, 3) := by decide +kernel
theorem dX1_append_15 : decode cX1_append 15 = .ok (.istore 6, 2) := by decide +kernel
theorem dX1_append_17 : decode cX1_append 17 = .ok (.aload_n 0, 1) := by decide +kernel
theorem dX1_append_18 : decode cX1_append 18 = .ok (.getfield 15, 3) := by decide +kernel
theorem dX1_append_21 : decode cX1_append 21 = .ok (.iload 6, 2) := by decide +kernel
theorem dX1_append_23 : decode cX1_append 23 = .ok (.iload_n 1, 1) := by decide +kernel
theorem dX1_append_24 : decode cX1_append 24 = .ok (.iastore, 1) := by decide +kernel
theorem dX1_append_25 : decode cX1_append 25 = .ok (.aload_n 0, 1) := by decide +kernel
theorem dX1_append_26 : decode cX1_append 26 = .ok (.getfield 19, 3) := by decide +kernel
theorem dX1_append_29 : decode cX1_append 29 = .ok (.iload 6, 2) := by decide +kernel
theorem dX1_append_31 : decode cX1_append 31 = .ok (.iload_n 2, 1) := by decide +kernel
theorem dX1_append_32 : decode cX1_append 32 = .ok (.iastore, 1) := by decide +kernel
theorem dX1_append_33 : decode cX1_append 33 = .ok (.aload_n 0, 1) := by decide +kernel
theorem dX1_append_34 : decode cX1_append 34 = .ok (.getfield 22, 3) := by decide +kernel
theorem dX1_append_37 : decode cX1_append 37 = .ok (.iload 6, 2) := by decide +kernel
theorem dX1_append_39 : decode cX1_append 39 = .ok (.iload_n 3, 1) := by decide +kernel
theorem dX1_append_40 : decode cX1_append 40 = .ok (.iastore, 1) := by decide +kernel
theorem dX1_append_41 : decode cX1_append 41 = .ok (.aload_n 0, 1) := by decide +kernel
theorem dX1_append_42 : decode cX1_append 42 = .ok (.getfield 25, 3) := by decide +kernel
theorem dX1_append_45 : decode cX1_append 45 = .ok (.iload 6, 2) := by decide +kernel
theorem dX1_append_47 : decode cX1_append 47 = .ok (.iload 4, 2) := by decide +kernel
theorem dX1_append_49 : decode cX1_append 49 = .ok (.iastore, 1) := by decide +kernel
theorem dX1_append_50 : decode cX1_append 50 = .ok (.aload_n 0, 1) := by decide +kernel
theorem dX1_append_51 : decode cX1_append 51 = .ok (.getfield 28, 3) := by decide +kernel
theorem dX1_append_54 : decode cX1_append 54 = .ok (.iload 6, 2) := by decide +kernel
theorem dX1_append_56 : decode cX1_append 56 = .ok (.iload 5, 2) := by decide +kernel
theorem dX1_append_58 : decode cX1_append 58 = .ok (.iastore, 1) := by decide +kernel
theorem dX1_append_59 : decode cX1_append 59 = .ok (.aload_n 0, 1) := by decide +kernel
theorem dX1_append_60 : decode cX1_append 60 = .ok (.getfield 31, 3) := by decide +kernel
theorem dX1_append_63 : decode cX1_append 63 = .ok (.iload 6, 2) := by decide +kernel
theorem dX1_append_65 : decode cX1_append 65 = .ok (.iconst (-1), 1) := by decide +kernel
theorem dX1_append_66 : decode cX1_append 66 = .ok (.iastore, 1) := by decide +kernel
theorem dX1_append_67 : decode cX1_append 67 = .ok (.aload_n 0, 1) := by decide +kernel
theorem dX1_append_68 : decode cX1_append 68 = .ok (.dup, 1) := by decide +kernel
theorem dX1_append_69 : decode cX1_append 69 = .ok (.getfield 9, 3) := by decide +kernel
theorem dX1_append_72 : decode cX1_append 72 = .ok (.iconst 1, 1) := by decide +kernel
theorem dX1_append_73 : decode cX1_append 73 = .ok (.iadd, 1) := by decide +kernel
theorem dX1_append_74 : decode cX1_append 74 = .ok (.putfield 9, 3) := by decide +kernel
theorem dX1_append_77 : decode cX1_append 77 = .ok (.iload 6, 2) := by decide +kernel
theorem dX1_append_79 : decode cX1_append 79 = .ok (.ireturn, 1) := by decide +kernel
theorem dX1_cut_0 : decode cX1_cut 0 = .ok (.aload_n 0, 1) := by decide +kernel
theorem dX1_cut_1 : decode cX1_cut 1 = .ok (.iload_n 1, 1) := by decide +kernel
theorem dX1_cut_2 : decode cX1_cut 2 = .ok (.putfield 9, 3) := by decide +kernel
theorem dX1_cut_5 : decode cX1_cut 5 = .ok (.iconst 0, 1) := by decide +kernel
theorem dX1_cut_6 : decode cX1_cut 6 = .ok (.istore_n 2, 1) := by decide +kernel
theorem dX1_cut_7 : decode cX1_cut 7 = .ok (.iload_n 2, 1) := by decide +kernel
theorem dX1_cut_8 : decode cX1_cut 8 = .ok (.aload_n 0, 1) := by decide +kernel
theorem dX1_cut_9 : decode cX1_cut 9 = .ok (.getfield 9, 3) := by decide +kernel
theorem dX1_cut_12 : decode cX1_cut 12 = .ok (.if_icmp .ge 29, 3) := by decide +kernel
theorem dX1_cut_15 : decode cX1_cut 15 = .ok (.aload_n 0, 1) := by decide +kernel
theorem dX1_cut_16 : decode cX1_cut 16 = .ok (.getfield 31, 3) := by decide +kernel
theorem dX1_cut_19 : decode cX1_cut 19 = .ok (.iload_n 2, 1) := by decide +kernel
theorem dX1_cut_20 : decode cX1_cut 20 = .ok (.iaload, 1) := by decide +kernel
theorem dX1_cut_21 : decode cX1_cut 21 = .ok (.aload_n 0, 1) := by decide +kernel
theorem dX1_cut_22 : decode cX1_cut 22 = .ok (.getfield 9, 3) := by decide +kernel
theorem dX1_cut_25 : decode cX1_cut 25 = .ok (.if_icmp .lt 10, 3) := by decide +kernel
theorem dX1_cut_28 : decode cX1_cut 28 = .ok (.aload_n 0, 1) := by decide +kernel
theorem dX1_cut_29 : decode cX1_cut 29 = .ok (.getfield 31, 3) := by decide +kernel
theorem dX1_cut_32 : decode cX1_cut 32 = .ok (.iload_n 2, 1) := by decide +kernel
theorem dX1_cut_33 : decode cX1_cut 33 = .ok (.iconst (-1), 1) := by decide +kernel
theorem dX1_cut_34 : decode cX1_cut 34 = .ok (.iastore, 1) := by decide +kernel
theorem dX1_cut_35 : decode cX1_cut 35 = .ok (.iinc 2 1, 3) := by decide +kernel
theorem dX1_cut_38 : decode cX1_cut 38 = .ok (.goto (-31), 3) := by decide +kernel
theorem dX1_cut_41 : decode cX1_cut 41 = .ok (.return_, 1) := by decide +kernel
theorem dX1_isMarker_0 : decode cX1_isMarker 0 = .ok (.aload_n 0, 1) := by decide +kernel
theorem dX1_isMarker_1 : decode cX1_isMarker 1 = .ok (.getfield 22, 3) := by decide +kernel
theorem dX1_isMarker_4 : decode cX1_isMarker 4 = .ok (.iload_n 1, 1) := by decide +kernel
theorem dX1_isMarker_5 : decode cX1_isMarker 5 = .ok (.iaload, 1) := by decide +kernel
theorem dX1_isMarker_6 : decode cX1_isMarker 6 = .ok (.iconst (-1), 1) := by decide +kernel
theorem dX1_isMarker_7 : decode cX1_isMarker 7 = .ok (.if_icmp .ne 7, 3) := by decide +kernel
theorem dX1_isMarker_10 : decode cX1_isMarker 10 = .ok (.iconst 1, 1) := by decide +kernel
theorem dX1_isMarker_11 : decode cX1_isMarker 11 = .ok (.goto 4, 3) := by decide +kernel
theorem dX1_isMarker_14 : decode cX1_isMarker 14 = .ok (.iconst 0, 1) := by decide +kernel
theorem dX1_isMarker_15 : decode cX1_isMarker 15 = .ok (.ireturn, 1) := by decide +kernel
theorem dX1_lastBefore_0 : decode cX1_lastBefore 0 = .ok (.iload_n 1, 1) := by decide +kernel
theorem dX1_lastBefore_1 : decode cX1_lastBefore 1 = .ok (.iconst 1, 1) := by decide +kernel
theorem dX1_lastBefore_2 : decode cX1_lastBefore 2 = .ok (.isub, 1) := by decide +kernel
theorem dX1_lastBefore_3 : decode cX1_lastBefore 3 = .ok (.istore 4, 2) := by decide +kernel
theorem dX1_lastBefore_5 : decode cX1_lastBefore 5 = .ok (.iload 4, 2) := by decide +kernel
theorem dX1_lastBefore_7 : decode cX1_lastBefore 7 = .ok (.ifCond .lt 43, 3) := by decide +kernel
theorem dX1_lastBefore_10 : decode cX1_lastBefore 10 = .ok (.aload_n 0, 1) := by decide +kernel
theorem dX1_lastBefore_11 : decode cX1_lastBefore 11 = .ok (.getfield 15, 3) := by decide +kernel
theorem dX1_lastBefore_14 : decode cX1_lastBefore 14 = .ok (.iload 4, 2) := by decide +kernel
theorem dX1_lastBefore_16 : decode cX1_lastBefore 16 = .ok (.iaload, 1) := by decide +kernel
theorem dX1_lastBefore_17 : decode cX1_lastBefore 17 = .ok (.iload_n 2, 1) := by decide +kernel
theorem dX1_lastBefore_18 : decode cX1_lastBefore 18 = .ok (.if_icmp .ne 26, 3) := by decide +kernel
theorem dX1_lastBefore_21 : decode cX1_lastBefore 21 = .ok (.aload_n 0, 1) := by decide +kernel
theorem dX1_lastBefore_22 : decode cX1_lastBefore 22 = .ok (.getfield 19, 3) := by decide +kernel
theorem dX1_lastBefore_25 : decode cX1_lastBefore 25 = .ok (.iload 4, 2) := by decide +kernel
theorem dX1_lastBefore_27 : decode cX1_lastBefore 27 = .ok (.iaload, 1) := by decide +kernel
theorem dX1_lastBefore_28 : decode cX1_lastBefore 28 = .ok (.iload_n 3, 1) := by decide +kernel
theorem dX1_lastBefore_29 : decode cX1_lastBefore 29 = .ok (.if_icmp .ne 15, 3) := by decide +kernel
theorem dX1_lastBefore_32 : decode cX1_lastBefore 32 = .ok (.aload_n 0, 1) := by decide +kernel
theorem dX1_lastBefore_33 : decode cX1_lastBefore 33 = .ok (.iload 4, 2) := by decide +kernel
theorem dX1_lastBefore_35 : decode cX1_lastBefore 35 = .ok (.invokevirtual 38, 3) := by decide +kernel
theorem dX1_lastBefore_38 : decode cX1_lastBefore 38 = .ok (.ifCond .ne 6, 3) := by decide +kernel
theorem dX1_lastBefore_41 : decode cX1_lastBefore 41 = .ok (.iload 4, 2) := by decide +kernel
theorem dX1_lastBefore_43 : decode cX1_lastBefore 43 = .ok (.ireturn, 1) := by decide +kernel
theorem dX1_lastBefore_44 : decode cX1_lastBefore 44 = .ok (.iinc 4 (-1), 3) := by decide +kernel
theorem dX1_lastBefore_47 : decode cX1_lastBefore 47 = .ok (.goto (-42), 3) := by decide +kernel
theorem dX1_lastBefore_50 : decode cX1_lastBefore 50 = .ok (.iconst (-1), 1) := by decide +kernel
theorem dX1_lastBefore_51 : decode cX1_lastBefore 51 = .ok (.ireturn, 1) := by decide +kernel
theorem dX1_twinOf_0 : decode cX1_twinOf 0 = .ok (.aload_n 0, 1) := by decide +kernel
theorem dX1_twinOf_1 : decode cX1_twinOf 1 = .ok (.getfield 9, 3) := by decide +kernel
theorem dX1_twinOf_4 : decode cX1_twinOf 4 = .ok (.istore 4, 2) := by decide +kernel
theorem dX1_twinOf_6 : decode cX1_twinOf 6 = .ok (.iconst 0, 1) := by decide +kernel
theorem dX1_twinOf_7 : decode cX1_twinOf 7 = .ok (.istore 5, 2) := by decide +kernel
theorem dX1_twinOf_9 : decode cX1_twinOf 9 = .ok (.iload 5, 2) := by decide +kernel
theorem dX1_twinOf_11 : decode cX1_twinOf 11 = .ok (.iconst 3, 1) := by decide +kernel
theorem dX1_twinOf_12 : decode cX1_twinOf 12 = .ok (.if_icmp .ge 39, 3) := by decide +kernel
theorem dX1_twinOf_15 : decode cX1_twinOf 15 = .ok (.aload_n 0, 1) := by decide +kernel
theorem dX1_twinOf_16 : decode cX1_twinOf 16 = .ok (.iload 4, 2) := by decide +kernel
theorem dX1_twinOf_18 : decode cX1_twinOf 18 = .ok (.iload_n 1, 1) := by decide +kernel
theorem dX1_twinOf_19 : decode cX1_twinOf 19 = .ok (.iload_n 2, 1) := by decide +kernel
theorem dX1_twinOf_20 : decode cX1_twinOf 20 = .ok (.invokevirtual 42, 3) := by decide +kernel
theorem dX1_twinOf_23 : decode cX1_twinOf 23 = .ok (.istore 4, 2) := by decide +kernel
theorem dX1_twinOf_25 : decode cX1_twinOf 25 = .ok (.iload 4, 2) := by decide +kernel
theorem dX1_twinOf_27 : decode cX1_twinOf 27 = .ok (.iconst (-1), 1) := by decide +kernel
theorem dX1_twinOf_28 : decode cX1_twinOf 28 = .ok (.if_icmp .eq 14, 3) := by decide +kernel
theorem dX1_twinOf_31 : decode cX1_twinOf 31 = .ok (.aload_n 0, 1) := by decide +kernel
theorem dX1_twinOf_32 : decode cX1_twinOf 32 = .ok (.getfield 22, 3) := by decide +kernel
theorem dX1_twinOf_35 : decode cX1_twinOf 35 = .ok (.iload 4, 2) := by decide +kernel
theorem dX1_twinOf_37 : decode cX1_twinOf 37 = .ok (.iaload, 1) := by decide +kernel
theorem dX1_twinOf_38 : decode cX1_twinOf 38 = .ok (.iload_n 3, 1) := by decide +kernel
theorem dX1_twinOf_39 : decode cX1_twinOf 39 = .ok (.if_icmp .ne 6, 3) := by decide +kernel
theorem dX1_twinOf_42 : decode cX1_twinOf 42 = .ok (.iload 4, 2) := by decide +kernel
theorem dX1_twinOf_44 : decode cX1_twinOf 44 = .ok (.ireturn, 1) := by decide +kernel
theorem dX1_twinOf_45 : decode cX1_twinOf 45 = .ok (.iinc 5 1, 3) := by decide +kernel
theorem dX1_twinOf_48 : decode cX1_twinOf 48 = .ok (.goto (-39), 3) := by decide +kernel
theorem dX1_twinOf_51 : decode cX1_twinOf 51 = .ok (.iconst (-1), 1) := by decide +kernel
theorem dX1_twinOf_52 : decode cX1_twinOf 52 = .ok (.ireturn, 1) := by decide +kernel
theorem dX1_numberDue_0 : decode cX1_numberDue 0 = .ok (.aload_n 0, 1) := by decide +kernel
theorem dX1_numberDue_1 : decode cX1_numberDue 1 = .ok (.aload_n 0, 1) := by decide +kernel
theorem dX1_numberDue_2 : decode cX1_numberDue 2 = .ok (.getfield 9, 3) := by decide +kernel
theorem dX1_numberDue_5 : decode cX1_numberDue 5 = .ok (.iload_n 1, 1) := by decide +kernel
theorem dX1_numberDue_6 : decode cX1_numberDue 6 = .ok (.iload_n 2, 1) := by decide +kernel
theorem dX1_numberDue_7 : decode cX1_numberDue 7 = .ok (.invokevirtual 42, 3) := by decide +kernel
theorem dX1_numberDue_10 : decode cX1_numberDue 10 = .ok (.istore_n 3, 1) := by decide +kernel
theorem dX1_numberDue_11 : decode cX1_numberDue 11 = .ok (.iload_n 3, 1) := by decide +kernel
theorem dX1_numberDue_12 : decode cX1_numberDue 12 = .ok (.iconst (-1), 1) := by decide +kernel
theorem dX1_numberDue_13 : decode cX1_numberDue 13 = .ok (.if_icmp .ne 7, 3) := by decide +kernel
theorem dX1_numberDue_16 : decode cX1_numberDue 16 = .ok (.iconst 0, 1) := by decide +kernel
theorem dX1_numberDue_17 : decode cX1_numberDue 17 = .ok (.goto 11, 3) := by decide +kernel
theorem dX1_numberDue_20 : decode cX1_numberDue 20 = .ok (.aload_n 0, 1) := by decide +kernel
theorem dX1_numberDue_21 : decode cX1_numberDue 21 = .ok (.getfield 22, 3) := by decide +kernel
theorem dX1_numberDue_24 : decode cX1_numberDue 24 = .ok (.iload_n 3, 1) := by decide +kernel
theorem dX1_numberDue_25 : decode cX1_numberDue 25 = .ok (.iaload, 1) := by decide +kernel
theorem dX1_numberDue_26 : decode cX1_numberDue 26 = .ok (.iconst 1, 1) := by decide +kernel
theorem dX1_numberDue_27 : decode cX1_numberDue 27 = .ok (.iadd, 1) := by decide +kernel
theorem dX1_numberDue_28 : decode cX1_numberDue 28 = .ok (.ireturn, 1) := by decide +kernel
theorem dX1_fate_0 : decode cX1_fate 0 = .ok (.aload_n 0, 1) := by decide +kernel
theorem dX1_fate_1 : decode cX1_fate 1 = .ok (.iload_n 1, 1) := by decide +kernel
theorem dX1_fate_2 : decode cX1_fate 2 = .ok (.invokevirtual 38, 3) := by decide +kernel
theorem dX1_fate_5 : decode cX1_fate 5 = .ok (.ifCond .eq 5, 3) := by decide +kernel
theorem dX1_fate_8 : decode cX1_fate 8 = .ok (.iconst (-1), 1) := by decide +kernel
theorem dX1_fate_9 : decode cX1_fate 9 = .ok (.ireturn, 1) := by decide +kernel
theorem dX1_fate_10 : decode cX1_fate 10 = .ok (.aload_n 0, 1) := by decide +kernel
theorem dX1_fate_11 : decode cX1_fate 11 = .ok (.getfield 28, 3) := by decide +kernel
theorem dX1_fate_14 : decode cX1_fate 14 = .ok (.iload_n 1, 1) := by decide +kernel
theorem dX1_fate_15 : decode cX1_fate 15 = .ok (.iaload, 1) := by decide +kernel
theorem dX1_fate_16 : decode cX1_fate 16 = .ok (.istore_n 2, 1) := by decide +kernel
theorem dX1_fate_17 : decode cX1_fate 17 = .ok (.iload_n 2, 1) := by decide +kernel
theorem dX1_fate_18 : decode cX1_fate 18 = .ok (.aload_n 0, 1) := by decide +kernel
theorem dX1_fate_19 : decode cX1_fate 19 = .ok (.getfield 9, 3) := by decide +kernel
theorem dX1_fate_22 : decode cX1_fate 22 = .ok (.invokestatic 46, 3) := by decide +kernel
theorem dX1_fate_25 : decode cX1_fate 25 = .ok (.ifCond .eq 5, 3) := by decide +kernel
theorem dX1_fate_28 : decode cX1_fate 28 = .ok (.iconst 0, 1) := by decide +kernel
theorem dX1_fate_29 : decode cX1_fate 29 = .ok (.ireturn, 1) := by decide +kernel
theorem dX1_fate_30 : decode cX1_fate 30 = .ok (.aload_n 0, 1) := by decide +kernel
theorem dX1_fate_31 : decode cX1_fate 31 = .ok (.getfield 31, 3) := by decide +kernel
theorem dX1_fate_34 : decode cX1_fate 34 = .ok (.iload_n 2, 1) := by decide +kernel
theorem dX1_fate_35 : decode cX1_fate 35 = .ok (.iaload, 1) := by decide +kernel
theorem dX1_fate_36 : decode cX1_fate 36 = .ok (.istore_n 3, 1) := by decide +kernel
theorem dX1_fate_37 : decode cX1_fate 37 = .ok (.iload_n 3, 1) := by decide +kernel
theorem dX1_fate_38 : decode cX1_fate 38 = .ok (.aload_n 0, 1) := by decide +kernel
theorem dX1_fate_39 : decode cX1_fate 39 = .ok (.getfield 9, 3) := by decide +kernel
theorem dX1_fate_42 : decode cX1_fate 42 = .ok (.invokestatic 46, 3) := by decide +kernel
theorem dX1_fate_45 : decode cX1_fate 45 = .ok (.ifCond .eq 5, 3) := by decide +kernel
theorem dX1_fate_48 : decode cX1_fate 48 = .ok (.iconst 1, 1) := by decide +kernel
theorem dX1_fate_49 : decode cX1_fate 49 = .ok (.ireturn, 1) := by decide +kernel
theorem dX1_fate_50 : decode cX1_fate 50 = .ok (.aload_n 0, 1) := by decide +kernel
theorem dX1_fate_51 : decode cX1_fate 51 = .ok (.getfield 25, 3) := by decide +kernel
theorem dX1_fate_54 : decode cX1_fate 54 = .ok (.iload_n 3, 1) := by decide +kernel
theorem dX1_fate_55 : decode cX1_fate 55 = .ok (.iaload, 1) := by decide +kernel
theorem dX1_fate_56 : decode cX1_fate 56 = .ok (.iconst 1, 1) := by decide +kernel
theorem dX1_fate_57 : decode cX1_fate 57 = .ok (.if_icmp .ne 7, 3) := by decide +kernel
theorem dX1_fate_60 : decode cX1_fate 60 = .ok (.iconst 2, 1) := by decide +kernel
theorem dX1_fate_61 : decode cX1_fate 61 = .ok (.goto 4, 3) := by decide +kernel
theorem dX1_fate_64 : decode cX1_fate 64 = .ok (.iconst 3, 1) := by decide +kernel
theorem dX1_fate_65 : decode cX1_fate 65 = .ok (.ireturn, 1) := by decide +kernel
theorem dX1_isVisible_0 : decode cX1_isVisible 0 = .ok (.aload_n 0, 1) := by decide +kernel
theorem dX1_isVisible_1 : decode cX1_isVisible 1 = .ok (.iload_n 1, 1) := by decide +kernel
theorem dX1_isVisible_2 : decode cX1_isVisible 2 = .ok (.invokevirtual 50, 3) := by decide +kernel
theorem dX1_isVisible_5 : decode cX1_isVisible 5 = .ok (.istore_n 3, 1) := by decide +kernel
theorem dX1_isVisible_6 : decode cX1_isVisible 6 = .ok (.iload_n 1, 1) := by decide +kernel
theorem dX1_isVisible_7 : decode cX1_isVisible 7 = .ok (.iload_n 2, 1) := by decide +kernel
theorem dX1_isVisible_8 : decode cX1_isVisible 8 = .ok (.if_icmp .ge 16, 3) := by decide +kernel
theorem dX1_isVisible_11 : decode cX1_isVisible 11 = .ok (.iload_n 3, 1) := by decide +kernel
theorem dX1_isVisible_12 : decode cX1_isVisible 12 = .ok (.ifCond .eq 8, 3) := by decide +kernel
theorem dX1_isVisible_15 : decode cX1_isVisible 15 = .ok (.iload_n 3, 1) := by decide +kernel
theorem dX1_isVisible_16 : decode cX1_isVisible 16 = .ok (.iconst 2, 1) := by decide +kernel
theorem dX1_isVisible_17 : decode cX1_isVisible 17 = .ok (.if_icmp .ne 7, 3) := by decide +kernel
theorem dX1_isVisible_20 : decode cX1_isVisible 20 = .ok (.iconst 1, 1) := by decide +kernel
theorem dX1_isVisible_21 : decode cX1_isVisible 21 = .ok (.goto 4, 3) := by decide +kernel
theorem dX1_isVisible_24 : decode cX1_isVisible 24 = .ok (.iconst 0, 1) := by decide +kernel
theorem dX1_isVisible_25 : decode cX1_isVisible 25 = .ok (.ireturn, 1) := by decide +kernel
theorem dX1_visibleFrom_0 : decode cX1_visibleFrom 0 = .ok (.iconst 0, 1) := by decide +kernel
theorem dX1_visibleFrom_1 : decode cX1_visibleFrom 1 = .ok (.istore_n 3, 1) := by decide +kernel
theorem dX1_visibleFrom_2 : decode cX1_visibleFrom 2 = .ok (.iload_n 1, 1) := by decide +kernel
theorem dX1_visibleFrom_3 : decode cX1_visibleFrom 3 = .ok (.istore 4, 2) := by decide +kernel
theorem dX1_visibleFrom_5 : decode cX1_visibleFrom 5 = .ok (.iload 4, 2) := by decide +kernel
theorem dX1_visibleFrom_7 : decode cX1_visibleFrom 7 = .ok (.aload_n 0, 1) := by decide +kernel
theorem dX1_visibleFrom_8 : decode cX1_visibleFrom 8 = .ok (.getfield 9, 3) := by decide +kernel
theorem dX1_visibleFrom_11 : decode cX1_visibleFrom 11 = .ok (.if_icmp .ge 22, 3) := by decide +kernel
theorem dX1_visibleFrom_14 : decode cX1_visibleFrom 14 = .ok (.aload_n 0, 1) := by decide +kernel
theorem dX1_visibleFrom_15 : decode cX1_visibleFrom 15 = .ok (.iload 4, 2) := by decide +kernel
theorem dX1_visibleFrom_17 : decode cX1_visibleFrom 17 = .ok (.iload_n 2, 1) := by decide +kernel
theorem dX1_visibleFrom_18 : decode cX1_visibleFrom 18 = .ok (.invokevirtual 54, 3) := by decide +kernel
theorem dX1_visibleFrom_21 : decode cX1_visibleFrom 21 = .ok (.ifCond .eq 6, 3) := by decide +kernel
theorem dX1_visibleFrom_24 : decode cX1_visibleFrom 24 = .ok (.iinc 3 1, 3) := by decide +kernel
theorem dX1_visibleFrom_27 : decode cX1_visibleFrom 27 = .ok (.iinc 4 1, 3) := by decide +kernel
theorem dX1_visibleFrom_30 : decode cX1_visibleFrom 30 = .ok (.goto (-25), 3) := by decide +kernel
theorem dX1_visibleFrom_33 : decode cX1_visibleFrom 33 = .ok (.iload_n 3, 1) := by decide +kernel
theorem dX1_visibleFrom_34 : decode cX1_visibleFrom 34 = .ok (.ireturn, 1) := by decide +kernel
theorem dX1_nextVisible_0 : decode cX1_nextVisible 0 = .ok (.iload_n 1, 1) := by decide +kernel
theorem dX1_nextVisible_1 : decode cX1_nextVisible 1 = .ok (.istore_n 3, 1) := by decide +kernel
theorem dX1_nextVisible_2 : decode cX1_nextVisible 2 = .ok (.iload_n 3, 1) := by decide +kernel
theorem dX1_nextVisible_3 : decode cX1_nextVisible 3 = .ok (.aload_n 0, 1) := by decide +kernel
theorem dX1_nextVisible_4 : decode cX1_nextVisible 4 = .ok (.getfield 9, 3) := by decide +kernel
theorem dX1_nextVisible_7 : decode cX1_nextVisible 7 = .ok (.if_icmp .ge 20, 3) := by decide +kernel
theorem dX1_nextVisible_10 : decode cX1_nextVisible 10 = .ok (.aload_n 0, 1) := by decide +kernel
theorem dX1_nextVisible_11 : decode cX1_nextVisible 11 = .ok (.iload_n 3, 1) := by decide +kernel
theorem dX1_nextVisible_12 : decode cX1_nextVisible 12 = .ok (.iload_n 2, 1) := by decide +kernel
theorem dX1_nextVisible_13 : decode cX1_nextVisible 13 = .ok (.invokevirtual 54, 3) := by decide +kernel
theorem dX1_nextVisible_16 : decode cX1_nextVisible 16 = .ok (.ifCond .eq 5, 3) := by decide +kernel
theorem dX1_nextVisible_19 : decode cX1_nextVisible 19 = .ok (.iload_n 3, 1) := by decide +kernel
theorem dX1_nextVisible_20 : decode cX1_nextVisible 20 = .ok (.ireturn, 1) := by decide +kernel
theorem dX1_nextVisible_21 : decode cX1_nextVisible 21 = .ok (.iinc 3 1, 3) := by decide +kernel
theorem dX1_nextVisible_24 : decode cX1_nextVisible 24 = .ok (.goto (-22), 3) := by decide +kernel
theorem dX1_nextVisible_27 : decode cX1_nextVisible 27 = .ok (.iconst (-1), 1) := by decide +kernel
theorem dX1_nextVisible_28 : decode cX1_nextVisible 28 = .ok (.ireturn, 1) := by decide +kernel
theorem dX1_markers_0 : decode cX1_markers 0 = .ok (.iconst 0, 1) := by decide +kernel
theorem dX1_markers_1 : decode cX1_markers 1 = .ok (.istore_n 1, 1) := by decide +kernel
theorem dX1_markers_2 : decode cX1_markers 2 = .ok (.iconst 0, 1) := by decide +kernel
theorem dX1_markers_3 : decode cX1_markers 3 = .ok (.istore_n 2, 1) := by decide +kernel
theorem dX1_markers_4 : decode cX1_markers 4 = .ok (.iload_n 2, 1) := by decide +kernel
theorem dX1_markers_5 : decode cX1_markers 5 = .ok (.aload_n 0, 1) := by decide +kernel
theorem dX1_markers_6 : decode cX1_markers 6 = .ok (.getfield 9, 3) := by decide +kernel
theorem dX1_markers_9 : decode cX1_markers 9 = .ok (.if_icmp .ge 20, 3) := by decide +kernel
theorem dX1_markers_12 : decode cX1_markers 12 = .ok (.aload_n 0, 1) := by decide +kernel
theorem dX1_markers_13 : decode cX1_markers 13 = .ok (.iload_n 2, 1) := by decide +kernel
theorem dX1_markers_14 : decode cX1_markers 14 = .ok (.invokevirtual 38, 3) := by decide +kernel
theorem dX1_markers_17 : decode cX1_markers 17 = .ok (.ifCond .eq 6, 3) := by decide +kernel
theorem dX1_markers_20 : decode cX1_markers 20 = .ok (.iinc 1 1, 3) := by decide +kernel
theorem dX1_markers_23 : decode cX1_markers 23 = .ok (.iinc 2 1, 3) := by decide +kernel
theorem dX1_markers_26 : decode cX1_markers 26 = .ok (.goto (-22), 3) := by decide +kernel
theorem dX1_markers_29 : decode cX1_markers 29 = .ok (.iload_n 1, 1) := by decide +kernel
theorem dX1_markers_30 : decode cX1_markers 30 = .ok (.ireturn, 1) := by decide +kernel
theorem dX1_startsAborted_0 : decode cX1_startsAborted 0 = .ok (.aload_n 0, 1) := by decide +kernel
theorem dX1_startsAborted_1 : decode cX1_startsAborted 1 = .ok (.getfield 28, 3) := by decide +kernel
theorem dX1_startsAborted_4 : decode cX1_startsAborted 4 = .ok (.iload_n 1, 1) := by decide +kernel
theorem dX1_startsAborted_5 : decode cX1_startsAborted 5 = .ok (.iaload, 1) := by decide +kernel
theorem dX1_startsAborted_6 : decode cX1_startsAborted 6 = .ok (.iload_n 1, 1) := by decide +kernel
theorem dX1_startsAborted_7 : decode cX1_startsAborted 7 = .ok (.if_icmp .ne 16, 3) := by decide +kernel
theorem dX1_startsAborted_10 : decode cX1_startsAborted 10 = .ok (.aload_n 0, 1) := by decide +kernel
theorem dX1_startsAborted_11 : decode cX1_startsAborted 11 = .ok (.iload_n 1, 1) := by decide +kernel
theorem dX1_startsAborted_12 : decode cX1_startsAborted 12 = .ok (.invokevirtual 50, 3) := by decide +kernel
theorem dX1_startsAborted_15 : decode cX1_startsAborted 15 = .ok (.iconst 3, 1) := by decide +kernel
theorem dX1_startsAborted_16 : decode cX1_startsAborted 16 = .ok (.if_icmp .ne 7, 3) := by decide +kernel
theorem dX1_startsAborted_19 : decode cX1_startsAborted 19 = .ok (.iconst 1, 1) := by decide +kernel
theorem dX1_startsAborted_20 : decode cX1_startsAborted 20 = .ok (.goto 4, 3) := by decide +kernel
theorem dX1_startsAborted_23 : decode cX1_startsAborted 23 = .ok (.iconst 0, 1) := by decide +kernel
theorem dX1_startsAborted_24 : decode cX1_startsAborted 24 = .ok (.ireturn, 1) := by decide +kernel
theorem dX1_abortedDeeds_0 : decode cX1_abortedDeeds 0 = .ok (.iconst 0, 1) := by decide +kernel
theorem dX1_abortedDeeds_1 : decode cX1_abortedDeeds 1 = .ok (.istore_n 1, 1) := by decide +kernel
theorem dX1_abortedDeeds_2 : decode cX1_abortedDeeds 2 = .ok (.iconst 0, 1) := by decide +kernel
theorem dX1_abortedDeeds_3 : decode cX1_abortedDeeds 3 = .ok (.istore_n 2, 1) := by decide +kernel
theorem dX1_abortedDeeds_4 : decode cX1_abortedDeeds 4 = .ok (.iload_n 2, 1) := by decide +kernel
theorem dX1_abortedDeeds_5 : decode cX1_abortedDeeds 5 = .ok (.aload_n 0, 1) := by decide +kernel
theorem dX1_abortedDeeds_6 : decode cX1_abortedDeeds 6 = .ok (.getfield 9, 3) := by decide +kernel
theorem dX1_abortedDeeds_9 : decode cX1_abortedDeeds 9 = .ok (.if_icmp .ge 20, 3) := by decide +kernel
theorem dX1_abortedDeeds_12 : decode cX1_abortedDeeds 12 = .ok (.aload_n 0, 1) := by decide +kernel
theorem dX1_abortedDeeds_13 : decode cX1_abortedDeeds 13 = .ok (.iload_n 2, 1) := by decide +kernel
theorem dX1_abortedDeeds_14 : decode cX1_abortedDeeds 14 = .ok (.invokevirtual 57, 3) := by decide +kernel
theorem dX1_abortedDeeds_17 : decode cX1_abortedDeeds 17 = .ok (.ifCond .eq 6, 3) := by decide +kernel
theorem dX1_abortedDeeds_20 : decode cX1_abortedDeeds 20 = .ok (.iinc 1 1, 3) := by decide +kernel
theorem dX1_abortedDeeds_23 : decode cX1_abortedDeeds 23 = .ok (.iinc 2 1, 3) := by decide +kernel
theorem dX1_abortedDeeds_26 : decode cX1_abortedDeeds 26 = .ok (.goto (-22), 3) := by decide +kernel
theorem dX1_abortedDeeds_29 : decode cX1_abortedDeeds 29 = .ok (.iload_n 1, 1) := by decide +kernel
theorem dX1_abortedDeeds_30 : decode cX1_abortedDeeds 30 = .ok (.ireturn, 1) := by decide +kernel
theorem dX1_abortedFirst_0 : decode cX1_abortedFirst 0 = .ok (.iconst 0, 1) := by decide +kernel
theorem dX1_abortedFirst_1 : decode cX1_abortedFirst 1 = .ok (.istore_n 2, 1) := by decide +kernel
theorem dX1_abortedFirst_2 : decode cX1_abortedFirst 2 = .ok (.iconst 0, 1) := by decide +kernel
theorem dX1_abortedFirst_3 : decode cX1_abortedFirst 3 = .ok (.istore_n 3, 1) := by decide +kernel
theorem dX1_abortedFirst_4 : decode cX1_abortedFirst 4 = .ok (.iload_n 3, 1) := by decide +kernel
theorem dX1_abortedFirst_5 : decode cX1_abortedFirst 5 = .ok (.aload_n 0, 1) := by decide +kernel
theorem dX1_abortedFirst_6 : decode cX1_abortedFirst 6 = .ok (.getfield 9, 3) := by decide +kernel
theorem dX1_abortedFirst_9 : decode cX1_abortedFirst 9 = .ok (.if_icmp .ge 27, 3) := by decide +kernel
theorem dX1_abortedFirst_12 : decode cX1_abortedFirst 12 = .ok (.aload_n 0, 1) := by decide +kernel
theorem dX1_abortedFirst_13 : decode cX1_abortedFirst 13 = .ok (.iload_n 3, 1) := by decide +kernel
theorem dX1_abortedFirst_14 : decode cX1_abortedFirst 14 = .ok (.invokevirtual 57, 3) := by decide +kernel
theorem dX1_abortedFirst_17 : decode cX1_abortedFirst 17 = .ok (.ifCond .eq 13, 3) := by decide +kernel
theorem dX1_abortedFirst_20 : decode cX1_abortedFirst 20 = .ok (.iload_n 2, 1) := by decide +kernel
theorem dX1_abortedFirst_21 : decode cX1_abortedFirst 21 = .ok (.iload_n 1, 1) := by decide +kernel
theorem dX1_abortedFirst_22 : decode cX1_abortedFirst 22 = .ok (.if_icmp .ne 5, 3) := by decide +kernel
theorem dX1_abortedFirst_25 : decode cX1_abortedFirst 25 = .ok (.iload_n 3, 1) := by decide +kernel
theorem dX1_abortedFirst_26 : decode cX1_abortedFirst 26 = .ok (.ireturn, 1) := by decide +kernel
theorem dX1_abortedFirst_27 : decode cX1_abortedFirst 27 = .ok (.iinc 2 1, 3) := by decide +kernel
theorem dX1_abortedFirst_30 : decode cX1_abortedFirst 30 = .ok (.iinc 3 1, 3) := by decide +kernel
theorem dX1_abortedFirst_33 : decode cX1_abortedFirst 33 = .ok (.goto (-29), 3) := by decide +kernel
theorem dX1_abortedFirst_36 : decode cX1_abortedFirst 36 = .ok (.iconst (-1), 1) := by decide +kernel
theorem dX1_abortedFirst_37 : decode cX1_abortedFirst 37 = .ok (.ireturn, 1) := by decide +kernel
theorem dX2_init_0 : decode cX2_init 0 = .ok (.aload_n 0, 1) := by decide +kernel
theorem dX2_init_1 : decode cX2_init 1 = .ok (.invokespecial 3, 3) := by decide +kernel
theorem dX2_init_4 : decode cX2_init 4 = .ok (.aload_n 0, 1) := by decide +kernel
theorem dX2_init_5 : decode cX2_init 5 = .ok (.iconst (-1), 1) := by decide +kernel
theorem dX2_init_6 : decode cX2_init 6 = .ok (.putfield 9, 3) := by decide +kernel
theorem dX2_init_9 : decode cX2_init 9 = .ok (.aload_n 0, 1) := by decide +kernel
theorem dX2_init_10 : decode cX2_init 10 = .ok (.iconst 0, 1) := by decide +kernel
theorem dX2_init_11 : decode cX2_init 11 = .ok (.putfield 15, 3) := by decide +kernel
theorem dX2_init_14 : decode cX2_init 14 = .ok (.aload_n 0, 1) := by decide +kernel
theorem dX2_init_15 : decode cX2_init 15 = .ok (.iconst 0, 1) := by decide +kernel
theorem dX2_init_16 : decode cX2_init 16 = .ok (.putfield 18, 3) := by decide +kernel
theorem dX2_init_19 : decode cX2_init 19 = .ok (.aload_n 0, 1) := by decide +kernel
theorem dX2_init_20 : decode cX2_init 20 = .ok (.iconst 0, 1) := by decide +kernel
theorem dX2_init_21 : decode cX2_init 21 = .ok (.putfield 21, 3) := by decide +kernel
theorem dX2_init_24 : decode cX2_init 24 = .ok (.aload_n 0, 1) := by decide +kernel
theorem dX2_init_25 : decode cX2_init 25 = .ok (.iconst 3, 1) := by decide +kernel
theorem dX2_init_26 : decode cX2_init 26 = .ok (.newarray .int, 2) := by decide +kernel
theorem dX2_init_28 : decode cX2_init 28 = .ok (.dup, 1) := by decide +kernel
theorem dX2_init_29 : decode cX2_init 29 = .ok (.iconst 0, 1) := by decide +kernel
theorem dX2_init_30 : decode cX2_init 30 = .ok (.iconst (-1), 1) := by decide +kernel
theorem dX2_init_31 : decode cX2_init 31 = .ok (.iastore, 1) := by decide +kernel
theorem dX2_init_32 : decode cX2_init 32 = .ok (.dup, 1) := by decide +kernel
theorem dX2_init_33 : decode cX2_init 33 = .ok (.iconst 1, 1) := by decide +kernel
theorem dX2_init_34 : decode cX2_init 34 = .ok (.iconst (-1), 1) := by decide +kernel
theorem dX2_init_35 : decode cX2_init 35 = .ok (.iastore, 1) := by decide +kernel
theorem dX2_init_36 : decode cX2_init 36 = .ok (.dup, 1) := by decide +kernel
theorem dX2_init_37 : decode cX2_init 37 = .ok (.iconst 2, 1) := by decide +kernel
theorem dX2_init_38 : decode cX2_init 38 = .ok (.iconst (-1), 1) := by decide +kernel
theorem dX2_init_39 : decode cX2_init 39 = .ok (.iastore, 1) := by decide +kernel
theorem dX2_init_40 : decode cX2_init 40 = .ok (.putfield 24, 3) := by decide +kernel
theorem dX2_init_43 : decode cX2_init 43 = .ok (.aload_n 0, 1) := by decide +kernel
theorem dX2_init_44 : decode cX2_init 44 = .ok (.iconst 3, 1) := by decide +kernel
theorem dX2_init_45 : decode cX2_init 45 = .ok (.newarray .int, 2) := by decide +kernel
theorem dX2_init_47 : decode cX2_init 47 = .ok (.dup, 1) := by decide +kernel
theorem dX2_init_48 : decode cX2_init 48 = .ok (.iconst 0, 1) := by decide +kernel
theorem dX2_init_49 : decode cX2_init 49 = .ok (.iconst 0, 1) := by decide +kernel
theorem dX2_init_50 : decode cX2_init 50 = .ok (.iastore, 1) := by decide +kernel
theorem dX2_init_51 : decode cX2_init 51 = .ok (.dup, 1) := by decide +kernel
theorem dX2_init_52 : decode cX2_init 52 = .ok (.iconst 1, 1) := by decide +kernel
theorem dX2_init_53 : decode cX2_init 53 = .ok (.iconst 0, 1) := by decide +kernel
theorem dX2_init_54 : decode cX2_init 54 = .ok (.iastore, 1) := by decide +kernel
theorem dX2_init_55 : decode cX2_init 55 = .ok (.dup, 1) := by decide +kernel
theorem dX2_init_56 : decode cX2_init 56 = .ok (.iconst 2, 1) := by decide +kernel
theorem dX2_init_57 : decode cX2_init 57 = .ok (.iconst 0, 1) := by decide +kernel
theorem dX2_init_58 : decode cX2_init 58 = .ok (.iastore, 1) := by decide +kernel
theorem dX2_init_59 : decode cX2_init 59 = .ok (.putfield 28, 3) := by decide +kernel
theorem dX2_init_62 : decode cX2_init 62 = .ok (.aload_n 0, 1) := by decide +kernel
theorem dX2_init_63 : decode cX2_init 63 = .ok (.bipush 6, 2) := by decide +kernel
theorem dX2_init_65 : decode cX2_init 65 = .ok (.newarray .int, 2) := by decide +kernel
theorem dX2_init_67 : decode cX2_init 67 = .ok (.dup, 1) := by decide +kernel
theorem dX2_init_68 : decode cX2_init 68 = .ok (.iconst 0, 1) := by decide +kernel
theorem dX2_init_69 : decode cX2_init 69 = .ok (.iconst (-1), 1) := by decide +kernel
theorem dX2_init_70 : decode cX2_init 70 = .ok (.iastore, 1) := by decide +kernel
theorem dX2_init_71 : decode cX2_init 71 = .ok (.dup, 1) := by decide +kernel
theorem dX2_init_72 : decode cX2_init 72 = .ok (.iconst 1, 1) := by decide +kernel
theorem dX2_init_73 : decode cX2_init 73 = .ok (.iconst (-1), 1) := by decide +kernel
theorem dX2_init_74 : decode cX2_init 74 = .ok (.iastore, 1) := by decide +kernel
theorem dX2_init_75 : decode cX2_init 75 = .ok (.dup, 1) := by decide +kernel
theorem dX2_init_76 : decode cX2_init 76 = .ok (.iconst 2, 1) := by decide +kernel
theorem dX2_init_77 : decode cX2_init 77 = .ok (.iconst (-1), 1) := by decide +kernel
theorem dX2_init_78 : decode cX2_init 78 = .ok (.iastore, 1) := by decide +kernel
theorem dX2_init_79 : decode cX2_init 79 = .ok (.dup, 1) := by decide +kernel
theorem dX2_init_80 : decode cX2_init 80 = .ok (.iconst 3, 1) := by decide +kernel
theorem dX2_init_81 : decode cX2_init 81 = .ok (.iconst (-1), 1) := by decide +kernel
theorem dX2_init_82 : decode cX2_init 82 = .ok (.iastore, 1) := by decide +kernel
theorem dX2_init_83 : decode cX2_init 83 = .ok (.dup, 1) := by decide +kernel
theorem dX2_init_84 : decode cX2_init 84 = .ok (.iconst 4, 1) := by decide +kernel
theorem dX2_init_85 : decode cX2_init 85 = .ok (.iconst (-1), 1) := by decide +kernel
theorem dX2_init_86 : decode cX2_init 86 = .ok (.iastore, 1) := by decide +kernel
theorem dX2_init_87 : decode cX2_init 87 = .ok (.dup, 1) := by decide +kernel
theorem dX2_init_88 : decode cX2_init 88 = .ok (.iconst 5, 1) := by decide +kernel
theorem dX2_init_89 : decode cX2_init 89 = .ok (.iconst (-1), 1) := by decide +kernel
theorem dX2_init_90 : decode cX2_init 90 = .ok (.iastore, 1) := by decide +kernel
theorem dX2_init_91 : decode cX2_init 91 = .ok (.putfield 31, 3) := by decide +kernel
theorem dX2_init_94 : decode cX2_init 94 = .ok (.return_, 1) := by decide +kernel
theorem dX2_copy_0 : decode cX2_copy 0 = .ok (.aload_n 0, 1) := by decide +kernel
theorem dX2_copy_1 : decode cX2_copy 1 = .ok (.aload_n 1, 1) := by decide +kernel
theorem dX2_copy_2 : decode cX2_copy 2 = .ok (.getfield 9, 3) := by decide +kernel
theorem dX2_copy_5 : decode cX2_copy 5 = .ok (.putfield 9, 3) := by decide +kernel
theorem dX2_copy_8 : decode cX2_copy 8 = .ok (.aload_n 0, 1) := by decide +kernel
theorem dX2_copy_9 : decode cX2_copy 9 = .ok (.aload_n 1, 1) := by decide +kernel
theorem dX2_copy_10 : decode cX2_copy 10 = .ok (.getfield 15, 3) := by decide +kernel
theorem dX2_copy_13 : decode cX2_copy 13 = .ok (.putfield 15, 3) := by decide +kernel
theorem dX2_copy_16 : decode cX2_copy 16 = .ok (.aload_n 0, 1) := by decide +kernel
theorem dX2_copy_17 : decode cX2_copy 17 = .ok (.aload_n 1, 1) := by decide +kernel
theorem dX2_copy_18 : decode cX2_copy 18 = .ok (.getfield 18, 3) := by decide +kernel
theorem dX2_copy_21 : decode cX2_copy 21 = .ok (.putfield 18, 3) := by decide +kernel
theorem dX2_copy_24 : decode cX2_copy 24 = .ok (.aload_n 0, 1) := by decide +kernel
theorem dX2_copy_25 : decode cX2_copy 25 = .ok (.aload_n 1, 1) := by decide +kernel
theorem dX2_copy_26 : decode cX2_copy 26 = .ok (.getfield 21, 3) := by decide +kernel
theorem dX2_copy_29 : decode cX2_copy 29 = .ok (.putfield 21, 3) := by decide +kernel
theorem dX2_copy_32 : decode cX2_copy 32 = .ok (.aload_n 1, 1) := by decide +kernel
theorem dX2_copy_33 : decode cX2_copy 33 = .ok (.getfield 24, 3) := by decide +kernel
theorem dX2_copy_36 : decode cX2_copy 36 = .ok (.iconst 0, 1) := by decide +kernel
theorem dX2_copy_37 : decode cX2_copy 37 = .ok (.aload_n 0, 1) := by decide +kernel
theorem dX2_copy_38 : decode cX2_copy 38 = .ok (.getfield 24, 3) := by decide +kernel
theorem dX2_copy_41 : decode cX2_copy 41 = .ok (.iconst 0, 1) := by decide +kernel
theorem dX2_copy_42 : decode cX2_copy 42 = .ok (.iconst 3, 1) := by decide +kernel
theorem dX2_copy_43 : decode cX2_copy 43 = .ok (.invokestatic 34, 3) := by decide +kernel
theorem dX2_copy_46 : decode cX2_copy 46 = .ok (.aload_n 1, 1) := by decide +kernel
theorem dX2_copy_47 : decode cX2_copy 47 = .ok (.getfield 28, 3) := by decide +kernel
theorem dX2_copy_50 : decode cX2_copy 50 = .ok (.iconst 0, 1) := by decide +kernel
theorem dX2_copy_51 : decode cX2_copy 51 = .ok (.aload_n 0, 1) := by decide +kernel
theorem dX2_copy_52 : decode cX2_copy 52 = .ok (.getfield 28, 3) := by decide +kernel
theorem dX2_copy_55 : decode cX2_copy 55 = .ok (.iconst 0, 1) := by decide +kernel
theorem dX2_copy_56 : decode cX2_copy 56 = .ok (.iconst 3, 1) := by decide +kernel
theorem dX2_copy_57 : decode cX2_copy 57 = .ok (.invokestatic 34, 3) := by decide +kernel
theorem dX2_copy_60 : decode cX2_copy 60 = .ok (.aload_n 1, 1) := by decide +kernel
theorem dX2_copy_61 : decode cX2_copy 61 = .ok (.getfield 31, 3) := by decide +kernel
theorem dX2_copy_64 : decode cX2_copy 64 = .ok (.iconst 0, 1) := by decide +kernel
theorem dX2_copy_65 : decode cX2_copy 65 = .ok (.aload_n 0, 1) := by decide +kernel
theorem dX2_copy_66 : decode cX2_copy 66 = .ok (.getfield 31, 3) := by decide +kernel
theorem dX2_copy_69 : decode cX2_copy 69 = .ok (.iconst 0, 1) := by decide +kernel
theorem dX2_copy_70 : decode cX2_copy 70 = .ok (.bipush 6, 2) := by decide +kernel
theorem dX2_copy_72 : decode cX2_copy 72 = .ok (.invokestatic 34, 3) := by decide +kernel
theorem dX2_copy_75 : decode cX2_copy 75 = .ok (.return_, 1) := by decide +kernel
theorem dX2_partSet_0 : decode cX2_partSet 0 = .ok (.iconst 0, 1) := by decide +kernel
theorem dX2_partSet_1 : decode cX2_partSet 1 = .ok (.istore_n 1, 1) := by decide +kernel
theorem dX2_partSet_2 : decode cX2_partSet 2 = .ok (.iconst 0, 1) := by decide +kernel
theorem dX2_partSet_3 : decode cX2_partSet 3 = .ok (.istore_n 2, 1) := by decide +kernel
theorem dX2_partSet_4 : decode cX2_partSet 4 = .ok (.iload_n 2, 1) := by decide +kernel
theorem dX2_partSet_5 : decode cX2_partSet 5 = .ok (.iconst 3, 1) := by decide +kernel
theorem dX2_partSet_6 : decode cX2_partSet 6 = .ok (.if_icmp .ge 25, 3) := by decide +kernel
theorem dX2_partSet_9 : decode cX2_partSet 9 = .ok (.aload_n 0, 1) := by decide +kernel
theorem dX2_partSet_10 : decode cX2_partSet 10 = .ok (.getfield 24, 3) := by decide +kernel
theorem dX2_partSet_13 : decode cX2_partSet 13 = .ok (.iload_n 2, 1) := by decide +kernel
theorem dX2_partSet_14 : decode cX2_partSet 14 = .ok (.iaload, 1) := by decide +kernel
theorem dX2_partSet_15 : decode cX2_partSet 15 = .ok (.iconst (-1), 1) := by decide +kernel
theorem dX2_partSet_16 : decode cX2_partSet 16 = .ok (.if_icmp .eq 9, 3) := by decide +kernel
theorem dX2_partSet_19 : decode cX2_partSet 19 = .ok (.iload_n 1, 1) := by decide +kernel
theorem dX2_partSet_20 : decode cX2_partSet 20 = .ok (.iconst 1, 1) := by decide +kernel
theorem dX2_partSet_21 : decode cX2_partSet 21 = .ok (.iload_n 2, 1) := by decide +kernel
theorem dX2_partSet_22 : decode cX2_partSet 22 = .ok (.ishl, 1) := by decide +kernel
theorem dX2_partSet_23 : decode cX2_partSet 23 = .ok (.ior, 1) := by decide +kernel
theorem dX2_partSet_24 : decode cX2_partSet 24 = .ok (.istore_n 1, 1) := by decide +kernel
theorem dX2_partSet_25 : decode cX2_partSet 25 = .ok (.iinc 2 1, 3) := by decide +kernel
theorem dX2_partSet_28 : decode cX2_partSet 28 = .ok (.goto (-24), 3) := by decide +kernel
theorem dX2_partSet_31 : decode cX2_partSet 31 = .ok (.iload_n 1, 1) := by decide +kernel
theorem dX2_partSet_32 : decode cX2_partSet 32 = .ok (.ireturn, 1) := by decide +kernel
theorem dX2_holds_0 : decode cX2_holds 0 = .ok (.aload_n 0, 1) := by decide +kernel
theorem dX2_holds_1 : decode cX2_holds 1 = .ok (.getfield 24, 3) := by decide +kernel
theorem dX2_holds_4 : decode cX2_holds 4 = .ok (.iload_n 1, 1) := by decide +kernel
theorem dX2_holds_5 : decode cX2_holds 5 = .ok (.iaload, 1) := by decide +kernel
theorem dX2_holds_6 : decode cX2_holds 6 = .ok (.iconst (-1), 1) := by decide +kernel
theorem dX2_holds_7 : decode cX2_holds 7 = .ok (.if_icmp .eq 24, 3) := by decide +kernel
theorem dX2_holds_10 : decode cX2_holds 10 = .ok (.aload_n 0, 1) := by decide +kernel
theorem dX2_holds_11 : decode cX2_holds 11 = .ok (.getfield 15, 3) := by decide +kernel
theorem dX2_holds_14 : decode cX2_holds 14 = .ok (.iconst 1, 1) := by decide +kernel
theorem dX2_holds_15 : decode cX2_holds 15 = .ok (.if_icmp .eq 12, 3) := by decide +kernel
theorem dX2_holds_18 : decode cX2_holds 18 = .ok (.aload_n 0, 1) := by decide +kernel
theorem dX2_holds_19 : decode cX2_holds 19 = .ok (.getfield 28, 3) := by decide +kernel
theorem dX2_holds_22 : decode cX2_holds 22 = .ok (.iload_n 1, 1) := by decide +kernel
theorem dX2_holds_23 : decode cX2_holds 23 = .ok (.iaload, 1) := by decide +kernel
theorem dX2_holds_24 : decode cX2_holds 24 = .ok (.ifCond .eq 7, 3) := by decide +kernel
theorem dX2_holds_27 : decode cX2_holds 27 = .ok (.iconst 1, 1) := by decide +kernel
theorem dX2_holds_28 : decode cX2_holds 28 = .ok (.goto 4, 3) := by decide +kernel
theorem dX2_holds_31 : decode cX2_holds 31 = .ok (.iconst 0, 1) := by decide +kernel
theorem dX2_holds_32 : decode cX2_holds 32 = .ok (.ireturn, 1) := by decide +kernel
theorem dX2_schedule_0 : decode cX2_schedule 0 = .ok (.iconst 0, 1) := by decide +kernel
theorem dX2_schedule_1 : decode cX2_schedule 1 = .ok (.istore_n 2, 1) := by decide +kernel
theorem dX2_schedule_2 : decode cX2_schedule 2 = .ok (.iconst 0, 1) := by decide +kernel
theorem dX2_schedule_3 : decode cX2_schedule 3 = .ok (.istore_n 3, 1) := by decide +kernel
theorem dX2_schedule_4 : decode cX2_schedule 4 = .ok (.iload_n 3, 1) := by decide +kernel
theorem dX2_schedule_5 : decode cX2_schedule 5 = .ok (.iconst 3, 1) := by decide +kernel
theorem dX2_schedule_6 : decode cX2_schedule 6 = .ok (.if_icmp .ge 31, 3) := by decide +kernel
theorem dX2_schedule_9 : decode cX2_schedule 9 = .ok (.aload_n 0, 1) := by decide +kernel
theorem dX2_schedule_10 : decode cX2_schedule 10 = .ok (.getfield 24, 3) := by decide +kernel
theorem dX2_schedule_13 : decode cX2_schedule 13 = .ok (.iload_n 3, 1) := by decide +kernel
theorem dX2_schedule_14 : decode cX2_schedule 14 = .ok (.iaload, 1) := by decide +kernel
theorem dX2_schedule_15 : decode cX2_schedule 15 = .ok (.iconst (-1), 1) := by decide +kernel
theorem dX2_schedule_16 : decode cX2_schedule 16 = .ok (.if_icmp .eq 15, 3) := by decide +kernel
theorem dX2_schedule_19 : decode cX2_schedule 19 = .ok (.iinc 2 1, 3) := by decide +kernel
theorem dX2_schedule_22 : decode cX2_schedule 22 = .ok (.aload_n 0, 1) := by decide +kernel
theorem dX2_schedule_23 : decode cX2_schedule 23 = .ok (.getfield 28, 3) := by decide +kernel
theorem dX2_schedule_26 : decode cX2_schedule 26 = .ok (.iload_n 3, 1) := by decide +kernel
theorem dX2_schedule_27 : decode cX2_schedule 27 = .ok (.iload_n 1, 1) := by decide +kernel
theorem dX2_schedule_28 : decode cX2_schedule 28 = .ok (.iload_n 2, 1) := by decide +kernel
theorem dX2_schedule_29 : decode cX2_schedule 29 = .ok (.iadd, 1) := by decide +kernel
theorem dX2_schedule_30 : decode cX2_schedule 30 = .ok (.iastore, 1) := by decide +kernel
theorem dX2_schedule_31 : decode cX2_schedule 31 = .ok (.iinc 3 1, 3) := by decide +kernel
theorem dX2_schedule_34 : decode cX2_schedule 34 = .ok (.goto (-30), 3) := by decide +kernel
theorem dX2_schedule_37 : decode cX2_schedule 37 = .ok (.iload_n 2, 1) := by decide +kernel
theorem dX2_schedule_38 : decode cX2_schedule 38 = .ok (.ireturn, 1) := by decide +kernel
theorem dX2_markersDue_0 : decode cX2_markersDue 0 = .ok (.iconst 0, 1) := by decide +kernel
theorem dX2_markersDue_1 : decode cX2_markersDue 1 = .ok (.istore_n 1, 1) := by decide +kernel
theorem dX2_markersDue_2 : decode cX2_markersDue 2 = .ok (.iconst 0, 1) := by decide +kernel
theorem dX2_markersDue_3 : decode cX2_markersDue 3 = .ok (.istore_n 2, 1) := by decide +kernel
theorem dX2_markersDue_4 : decode cX2_markersDue 4 = .ok (.iload_n 2, 1) := by decide +kernel
theorem dX2_markersDue_5 : decode cX2_markersDue 5 = .ok (.iconst 3, 1) := by decide +kernel
theorem dX2_markersDue_6 : decode cX2_markersDue 6 = .ok (.if_icmp .ge 21, 3) := by decide +kernel
theorem dX2_markersDue_9 : decode cX2_markersDue 9 = .ok (.aload_n 0, 1) := by decide +kernel
theorem dX2_markersDue_10 : decode cX2_markersDue 10 = .ok (.getfield 28, 3) := by decide +kernel
theorem dX2_markersDue_13 : decode cX2_markersDue 13 = .ok (.iload_n 2, 1) := by decide +kernel
theorem dX2_markersDue_14 : decode cX2_markersDue 14 = .ok (.iaload, 1) := by decide +kernel
theorem dX2_markersDue_15 : decode cX2_markersDue 15 = .ok (.ifCond .eq 6, 3) := by decide +kernel
theorem dX2_markersDue_18 : decode cX2_markersDue 18 = .ok (.iinc 1 1, 3) := by decide +kernel
theorem dX2_markersDue_21 : decode cX2_markersDue 21 = .ok (.iinc 2 1, 3) := by decide +kernel
theorem dX2_markersDue_24 : decode cX2_markersDue 24 = .ok (.goto (-20), 3) := by decide +kernel
theorem dX2_markersDue_27 : decode cX2_markersDue 27 = .ok (.iload_n 1, 1) := by decide +kernel
theorem dX2_markersDue_28 : decode cX2_markersDue 28 = .ok (.ireturn, 1) := by decide +kernel
theorem dX2_partDueAt_0 : decode cX2_partDueAt 0 = .ok (.iconst 0, 1) := by decide +kernel
theorem dX2_partDueAt_1 : decode cX2_partDueAt 1 = .ok (.istore_n 2, 1) := by decide +kernel
theorem dX2_partDueAt_2 : decode cX2_partDueAt 2 = .ok (.iload_n 2, 1) := by decide +kernel
theorem dX2_partDueAt_3 : decode cX2_partDueAt 3 = .ok (.iconst 3, 1) := by decide +kernel
theorem dX2_partDueAt_4 : decode cX2_partDueAt 4 = .ok (.if_icmp .ge 30, 3) := by decide +kernel
theorem dX2_partDueAt_7 : decode cX2_partDueAt 7 = .ok (.aload_n 0, 1) := by decide +kernel
theorem dX2_partDueAt_8 : decode cX2_partDueAt 8 = .ok (.getfield 28, 3) := by decide +kernel
theorem dX2_partDueAt_11 : decode cX2_partDueAt 11 = .ok (.iload_n 2, 1) := by decide +kernel
theorem dX2_partDueAt_12 : decode cX2_partDueAt 12 = .ok (.iaload, 1) := by decide +kernel
theorem dX2_partDueAt_13 : decode cX2_partDueAt 13 = .ok (.ifCond .eq 15, 3) := by decide +kernel
theorem dX2_partDueAt_16 : decode cX2_partDueAt 16 = .ok (.aload_n 0, 1) := by decide +kernel
theorem dX2_partDueAt_17 : decode cX2_partDueAt 17 = .ok (.getfield 28, 3) := by decide +kernel
theorem dX2_partDueAt_20 : decode cX2_partDueAt 20 = .ok (.iload_n 2, 1) := by decide +kernel
theorem dX2_partDueAt_21 : decode cX2_partDueAt 21 = .ok (.iaload, 1) := by decide +kernel
theorem dX2_partDueAt_22 : decode cX2_partDueAt 22 = .ok (.iload_n 1, 1) := by decide +kernel
theorem dX2_partDueAt_23 : decode cX2_partDueAt 23 = .ok (.if_icmp .ne 5, 3) := by decide +kernel
theorem dX2_partDueAt_26 : decode cX2_partDueAt 26 = .ok (.iload_n 2, 1) := by decide +kernel
theorem dX2_partDueAt_27 : decode cX2_partDueAt 27 = .ok (.ireturn, 1) := by decide +kernel
theorem dX2_partDueAt_28 : decode cX2_partDueAt 28 = .ok (.iinc 2 1, 3) := by decide +kernel
theorem dX2_partDueAt_31 : decode cX2_partDueAt 31 = .ok (.goto (-29), 3) := by decide +kernel
theorem dX2_partDueAt_34 : decode cX2_partDueAt 34 = .ok (.iconst (-1), 1) := by decide +kernel
theorem dX2_partDueAt_35 : decode cX2_partDueAt 35 = .ok (.ireturn, 1) := by decide +kernel
theorem dX2_rest_0 : decode cX2_rest 0 = .ok (.aload_n 0, 1) := by decide +kernel
theorem dX2_rest_1 : decode cX2_rest 1 = .ok (.iconst 0, 1) := by decide +kernel
theorem dX2_rest_2 : decode cX2_rest 2 = .ok (.putfield 15, 3) := by decide +kernel
theorem dX2_rest_5 : decode cX2_rest 5 = .ok (.aload_n 0, 1) := by decide +kernel
theorem dX2_rest_6 : decode cX2_rest 6 = .ok (.iconst 0, 1) := by decide +kernel
theorem dX2_rest_7 : decode cX2_rest 7 = .ok (.putfield 18, 3) := by decide +kernel
theorem dX2_rest_10 : decode cX2_rest 10 = .ok (.iconst 0, 1) := by decide +kernel
theorem dX2_rest_11 : decode cX2_rest 11 = .ok (.istore_n 1, 1) := by decide +kernel
theorem dX2_rest_12 : decode cX2_rest 12 = .ok (.iload_n 1, 1) := by decide +kernel
theorem dX2_rest_13 : decode cX2_rest 13 = .ok (.iconst 3, 1) := by decide +kernel
theorem dX2_rest_14 : decode cX2_rest 14 = .ok (.if_icmp .ge 16, 3) := by decide +kernel
theorem dX2_rest_17 : decode cX2_rest 17 = .ok (.aload_n 0, 1) := by decide +kernel
theorem dX2_rest_18 : decode cX2_rest 18 = .ok (.getfield 24, 3) := by decide +kernel
theorem dX2_rest_21 : decode cX2_rest 21 = .ok (.iload_n 1, 1) := by decide +kernel
theorem dX2_rest_22 : decode cX2_rest 22 = .ok (.iconst (-1), 1) := by decide +kernel
theorem dX2_rest_23 : decode cX2_rest 23 = .ok (.iastore, 1) := by decide +kernel
theorem dX2_rest_24 : decode cX2_rest 24 = .ok (.iinc 1 1, 3) := by decide +kernel
theorem dX2_rest_27 : decode cX2_rest 27 = .ok (.goto (-15), 3) := by decide +kernel
theorem dX2_rest_30 : decode cX2_rest 30 = .ok (.iconst 0, 1) := by decide +kernel
theorem dX2_rest_31 : decode cX2_rest 31 = .ok (.istore_n 1, 1) := by decide +kernel
theorem dX2_rest_32 : decode cX2_rest 32 = .ok (.iload_n 1, 1) := by decide +kernel
theorem dX2_rest_33 : decode cX2_rest 33 = .ok (.bipush 6, 2) := by decide +kernel
theorem dX2_rest_35 : decode cX2_rest 35 = .ok (.if_icmp .ge 16, 3) := by decide +kernel
theorem dX2_rest_38 : decode cX2_rest 38 = .ok (.aload_n 0, 1) := by decide +kernel
theorem dX2_rest_39 : decode cX2_rest 39 = .ok (.getfield 31, 3) := by decide +kernel
theorem dX2_rest_42 : decode cX2_rest 42 = .ok (.iload_n 1, 1) := by decide +kernel
theorem dX2_rest_43 : decode cX2_rest 43 = .ok (.iconst (-1), 1) := by decide +kernel
theorem dX2_rest_44 : decode cX2_rest 44 = .ok (.iastore, 1) := by decide +kernel
theorem dX2_rest_45 : decode cX2_rest 45 = .ok (.iinc 1 1, 3) := by decide +kernel
theorem dX2_rest_48 : decode cX2_rest 48 = .ok (.goto (-16), 3) := by decide +kernel
theorem dX2_rest_51 : decode cX2_rest 51 = .ok (.return_, 1) := by decide +kernel
theorem dX3_init_0 : decode cX3_init 0 = .ok (.aload_n 0, 1) := by decide +kernel
theorem dX3_init_1 : decode cX3_init 1 = .ok (.invokespecial 3, 3) := by decide +kernel
theorem dX3_init_4 : decode cX3_init 4 = .ok (.aload_n 0, 1) := by decide +kernel
theorem dX3_init_5 : decode cX3_init 5 = .ok (.bipush 120, 2) := by decide +kernel
theorem dX3_init_7 : decode cX3_init 7 = .ok (.newarray .int, 2) := by decide +kernel
theorem dX3_init_9 : decode cX3_init 9 = .ok (.putfield 9, 3) := by decide +kernel
theorem dX3_init_12 : decode cX3_init 12 = .ok (.aload_n 0, 1) := by decide +kernel
theorem dX3_init_13 : decode cX3_init 13 = .ok (.iconst 0, 1) := by decide +kernel
theorem dX3_init_14 : decode cX3_init 14 = .ok (.putfield 15, 3) := by decide +kernel
theorem dX3_init_17 : decode cX3_init 17 = .ok (.aload_n 0, 1) := by decide +kernel
theorem dX3_init_18 : decode cX3_init 18 = .ok (.bipush 40, 2) := by decide +kernel
theorem dX3_init_20 : decode cX3_init 20 = .ok (.newarray .int, 2) := by decide +kernel
theorem dX3_init_22 : decode cX3_init 22 = .ok (.putfield 19, 3) := by decide +kernel
theorem dX3_init_25 : decode cX3_init 25 = .ok (.aload_n 0, 1) := by decide +kernel
theorem dX3_init_26 : decode cX3_init 26 = .ok (.sipush 200, 3) := by decide +kernel
theorem dX3_init_29 : decode cX3_init 29 = .ok (.newarray .int, 2) := by decide +kernel
theorem dX3_init_31 : decode cX3_init 31 = .ok (.putfield 22, 3) := by decide +kernel
theorem dX3_init_34 : decode cX3_init 34 = .ok (.aload_n 0, 1) := by decide +kernel
theorem dX3_init_35 : decode cX3_init 35 = .ok (.iconst 0, 1) := by decide +kernel
theorem dX3_init_36 : decode cX3_init 36 = .ok (.putfield 25, 3) := by decide +kernel
theorem dX3_init_39 : decode cX3_init 39 = .ok (.aload_n 0, 1) := by decide +kernel
theorem dX3_init_40 : decode cX3_init 40 = .ok (.iconst 0, 1) := by decide +kernel
theorem dX3_init_41 : decode cX3_init 41 = .ok (.putfield 28, 3) := by decide +kernel
theorem dX3_init_44 : decode cX3_init 44 = .ok (.aload_n 0, 1) := by decide +kernel
theorem dX3_init_45 : decode cX3_init 45 = .ok (.iconst 0, 1) := by decide +kernel
theorem dX3_init_46 : decode cX3_init 46 = .ok (.putfield 32, 3) := by decide +kernel
theorem dX3_init_49 : decode cX3_init 49 = .ok (.aload_n 0, 1) := by decide +kernel
theorem dX3_init_50 : decode cX3_init 50 = .ok (.iconst 0, 1) := by decide +kernel
theorem dX3_init_51 : decode cX3_init 51 = .ok (.putfield 35, 3) := by decide +kernel
theorem dX3_init_54 : decode cX3_init 54 = .ok (.aload_n 0, 1) := by decide +kernel
theorem dX3_init_55 : decode cX3_init 55 = .ok (.iconst 0, 1) := by decide +kernel
theorem dX3_init_56 : decode cX3_init 56 = .ok (.putfield 38, 3) := by decide +kernel
theorem dX3_init_59 : decode cX3_init 59 = .ok (.return_, 1) := by decide +kernel
theorem dX3_findFault_0 : decode cX3_findFault 0 = .ok (.aload_n 0, 1) := by decide +kernel
theorem dX3_findFault_1 : decode cX3_findFault 1 = .ok (.iconst 0, 1) := by decide +kernel
theorem dX3_findFault_2 : decode cX3_findFault 2 = .ok (.putfield 25, 3) := by decide +kernel
theorem dX3_findFault_5 : decode cX3_findFault 5 = .ok (.aload_n 0, 1) := by decide +kernel
theorem dX3_findFault_6 : decode cX3_findFault 6 = .ok (.iconst 0, 1) := by decide +kernel
theorem dX3_findFault_7 : decode cX3_findFault 7 = .ok (.putfield 28, 3) := by decide +kernel
theorem dX3_findFault_10 : decode cX3_findFault 10 = .ok (.iconst 0, 1) := by decide +kernel
theorem dX3_findFault_11 : decode cX3_findFault 11 = .ok (.istore_n 1, 1) := by decide +kernel
theorem dX3_findFault_12 : decode cX3_findFault 12 = .ok (.iload_n 1, 1) := by decide +kernel
theorem dX3_findFault_13 : decode cX3_findFault 13 = .ok (.aload_n 0, 1) := by decide +kernel
theorem dX3_findFault_14 : decode cX3_findFault 14 = .ok (.getfield 15, 3) := by decide +kernel
theorem dX3_findFault_17 : decode cX3_findFault 17 = .ok (.if_icmp .ge 24, 3) := by decide +kernel
theorem dX3_findFault_20 : decode cX3_findFault 20 = .ok (.aload_n 0, 1) := by decide +kernel
theorem dX3_findFault_21 : decode cX3_findFault 21 = .ok (.aload_n 0, 1) := by decide +kernel
theorem dX3_findFault_22 : decode cX3_findFault 22 = .ok (.getfield 9, 3) := by decide +kernel
theorem dX3_findFault_25 : decode cX3_findFault 25 = .ok (.iload_n 1, 1) := by decide +kernel
theorem dX3_findFault_26 : decode cX3_findFault 26 = .ok (.iaload, 1) := by decide +kernel
theorem dX3_findFault_27 : decode cX3_findFault 27 = .ok (.invokevirtual 41, 3) := by decide +kernel
theorem dX3_findFault_30 : decode cX3_findFault 30 = .ok (.ifCond .ne 5, 3) := by decide +kernel
theorem dX3_findFault_33 : decode cX3_findFault 33 = .ok (.iload_n 1, 1) := by decide +kernel
theorem dX3_findFault_34 : decode cX3_findFault 34 = .ok (.ireturn, 1) := by decide +kernel
theorem dX3_findFault_35 : decode cX3_findFault 35 = .ok (.iinc 1 1, 3) := by decide +kernel
theorem dX3_findFault_38 : decode cX3_findFault 38 = .ok (.goto (-26), 3) := by decide +kernel
theorem dX3_findFault_41 : decode cX3_findFault 41 = .ok (.aload_n 0, 1) := by decide +kernel
theorem dX3_findFault_42 : decode cX3_findFault 42 = .ok (.getfield 28, 3) := by decide +kernel
theorem dX3_findFault_45 : decode cX3_findFault 45 = .ok (.ifCond .ne 10, 3) := by decide +kernel
theorem dX3_findFault_48 : decode cX3_findFault 48 = .ok (.aload_n 0, 1) := by decide +kernel
theorem dX3_findFault_49 : decode cX3_findFault 49 = .ok (.getfield 25, 3) := by decide +kernel
theorem dX3_findFault_52 : decode cX3_findFault 52 = .ok (.ifCond .ne 10, 3) := by decide +kernel
theorem dX3_findFault_55 : decode cX3_findFault 55 = .ok (.aload_n 0, 1) := by decide +kernel
theorem dX3_findFault_56 : decode cX3_findFault 56 = .ok (.getfield 15, 3) := by decide +kernel
theorem dX3_findFault_59 : decode cX3_findFault 59 = .ok (.goto 4, 3) := by decide +kernel
theorem dX3_findFault_62 : decode cX3_findFault 62 = .ok (.iconst (-1), 1) := by decide +kernel
theorem dX3_findFault_63 : decode cX3_findFault 63 = .ok (.ireturn, 1) := by decide +kernel
theorem dX3_takes_0 : decode cX3_takes 0 = .ok (.iload_n 1, 1) := by decide +kernel
theorem dX3_takes_1 : decode cX3_takes 1 = .ok (.bipush 32, 2) := by decide +kernel
theorem dX3_takes_3 : decode cX3_takes 3 = .ok (.if_icmp .ne 10, 3) := by decide +kernel
theorem dX3_takes_6 : decode cX3_takes 6 = .ok (.aload_n 0, 1) := by decide +kernel
theorem dX3_takes_7 : decode cX3_takes 7 = .ok (.iconst 0, 1) := by decide +kernel
theorem dX3_takes_8 : decode cX3_takes 8 = .ok (.putfield 38, 3) := by decide +kernel
theorem dX3_takes_11 : decode cX3_takes 11 = .ok (.iconst 1, 1) := by decide +kernel
theorem dX3_takes_12 : decode cX3_takes 12 = .ok (.ireturn, 1) := by decide +kernel
theorem dX3_takes_13 : decode cX3_takes 13 = .ok (.aload_n 0, 1) := by decide +kernel
theorem dX3_takes_14 : decode cX3_takes 14 = .ok (.getfield 28, 3) := by decide +kernel
theorem dX3_takes_17 : decode cX3_takes 17 = .ok (.ifCond .ne 9, 3) := by decide +kernel
theorem dX3_takes_20 : decode cX3_takes 20 = .ok (.aload_n 0, 1) := by decide +kernel
theorem dX3_takes_21 : decode cX3_takes 21 = .ok (.iload_n 1, 1) := by decide +kernel
theorem dX3_takes_22 : decode cX3_takes 22 = .ok (.invokevirtual 45, 3) := by decide +kernel
theorem dX3_takes_25 : decode cX3_takes 25 = .ok (.ireturn, 1) := by decide +kernel
theorem dX3_takes_26 : decode cX3_takes 26 = .ok (.iload_n 1, 1) := by decide +kernel
theorem dX3_takes_27 : decode cX3_takes 27 = .ok (.bipush 59, 2) := by decide +kernel
theorem dX3_takes_29 : decode cX3_takes 29 = .ok (.if_icmp .ne 8, 3) := by decide +kernel
theorem dX3_takes_32 : decode cX3_takes 32 = .ok (.aload_n 0, 1) := by decide +kernel
theorem dX3_takes_33 : decode cX3_takes 33 = .ok (.invokevirtual 48, 3) := by decide +kernel
theorem dX3_takes_36 : decode cX3_takes 36 = .ok (.ireturn, 1) := by decide +kernel
theorem dX3_takes_37 : decode cX3_takes 37 = .ok (.iload_n 1, 1) := by decide +kernel
theorem dX3_takes_38 : decode cX3_takes 38 = .ok (.bipush 48, 2) := by decide +kernel
theorem dX3_takes_40 : decode cX3_takes 40 = .ok (.if_icmp .lt 24, 3) := by decide +kernel
theorem dX3_takes_43 : decode cX3_takes 43 = .ok (.iload_n 1, 1) := by decide +kernel
theorem dX3_takes_44 : decode cX3_takes 44 = .ok (.bipush 57, 2) := by decide +kernel
theorem dX3_takes_46 : decode cX3_takes 46 = .ok (.if_icmp .gt 18, 3) := by decide +kernel
theorem dX3_takes_49 : decode cX3_takes 49 = .ok (.aload_n 0, 1) := by decide +kernel
theorem dX3_takes_50 : decode cX3_takes 50 = .ok (.iload_n 1, 1) := by decide +kernel
theorem dX3_takes_51 : decode cX3_takes 51 = .ok (.bipush 48, 2) := by decide +kernel
theorem dX3_takes_53 : decode cX3_takes 53 = .ok (.isub, 1) := by decide +kernel
theorem dX3_takes_54 : decode cX3_takes 54 = .ok (.invokevirtual 52, 3) := by decide +kernel
theorem dX3_takes_57 : decode cX3_takes 57 = .ok (.ifCond .eq 7, 3) := by decide +kernel
theorem dX3_takes_60 : decode cX3_takes 60 = .ok (.iconst 1, 1) := by decide +kernel
theorem dX3_takes_61 : decode cX3_takes 61 = .ok (.goto 4, 3) := by decide +kernel
theorem dX3_takes_64 : decode cX3_takes 64 = .ok (.iconst 0, 1) := by decide +kernel
theorem dX3_takes_65 : decode cX3_takes 65 = .ok (.ireturn, 1) := by decide +kernel
theorem dX3_takesLetter_0 : decode cX3_takesLetter 0 = .ok (.iload_n 1, 1) := by decide +kernel
theorem dX3_takesLetter_1 : decode cX3_takesLetter 1 = .ok (.invokestatic 55, 3) := by decide +kernel
theorem dX3_takesLetter_4 : decode cX3_takesLetter 4 = .ok (.istore_n 2, 1) := by decide +kernel
theorem dX3_takesLetter_5 : decode cX3_takesLetter 5 = .ok (.iload_n 2, 1) := by decide +kernel
theorem dX3_takesLetter_6 : decode cX3_takesLetter 6 = .ok (.ifCond .eq 12, 3) := by decide +kernel
theorem dX3_takesLetter_9 : decode cX3_takesLetter 9 = .ok (.aload_n 0, 1) := by decide +kernel
theorem dX3_takesLetter_10 : decode cX3_takesLetter 10 = .ok (.getfield 25, 3) := by decide +kernel
theorem dX3_takesLetter_13 : decode cX3_takesLetter 13 = .ok (.bipush 40, 2) := by decide +kernel
theorem dX3_takesLetter_15 : decode cX3_takesLetter 15 = .ok (.if_icmp .lt 5, 3) := by decide +kernel
theorem dX3_takesLetter_18 : decode cX3_takesLetter 18 = .ok (.iconst 0, 1) := by decide +kernel
theorem dX3_takesLetter_19 : decode cX3_takesLetter 19 = .ok (.ireturn, 1) := by decide +kernel
theorem dX3_takesLetter_20 : decode cX3_takesLetter 20 = .ok (.aload_n 0, 1) := by decide +kernel
theorem dX3_takesLetter_21 : decode cX3_takesLetter 21 = .ok (.getfield 19, 3) := by decide +kernel
theorem dX3_takesLetter_24 : decode cX3_takesLetter 24 = .ok (.aload_n 0, 1) := by decide +kernel
theorem dX3_takesLetter_25 : decode cX3_takesLetter 25 = .ok (.getfield 25, 3) := by decide +kernel
theorem dX3_takesLetter_28 : decode cX3_takesLetter 28 = .ok (.iload_n 1, 1) := by decide +kernel
theorem dX3_takesLetter_29 : decode cX3_takesLetter 29 = .ok (.iastore, 1) := by decide +kernel
theorem dX3_takesLetter_30 : decode cX3_takesLetter 30 = .ok (.aload_n 0, 1) := by decide +kernel
theorem dX3_takesLetter_31 : decode cX3_takesLetter 31 = .ok (.iconst 1, 1) := by decide +kernel
theorem dX3_takesLetter_32 : decode cX3_takesLetter 32 = .ok (.putfield 28, 3) := by decide +kernel
theorem dX3_takesLetter_35 : decode cX3_takesLetter 35 = .ok (.aload_n 0, 1) := by decide +kernel
theorem dX3_takesLetter_36 : decode cX3_takesLetter 36 = .ok (.iload_n 2, 1) := by decide +kernel
theorem dX3_takesLetter_37 : decode cX3_takesLetter 37 = .ok (.putfield 32, 3) := by decide +kernel
theorem dX3_takesLetter_40 : decode cX3_takesLetter 40 = .ok (.aload_n 0, 1) := by decide +kernel
theorem dX3_takesLetter_41 : decode cX3_takesLetter 41 = .ok (.iconst 0, 1) := by decide +kernel
theorem dX3_takesLetter_42 : decode cX3_takesLetter 42 = .ok (.putfield 35, 3) := by decide +kernel
theorem dX3_takesLetter_45 : decode cX3_takesLetter 45 = .ok (.aload_n 0, 1) := by decide +kernel
theorem dX3_takesLetter_46 : decode cX3_takesLetter 46 = .ok (.iconst 0, 1) := by decide +kernel
theorem dX3_takesLetter_47 : decode cX3_takesLetter 47 = .ok (.putfield 38, 3) := by decide +kernel
theorem dX3_takesLetter_50 : decode cX3_takesLetter 50 = .ok (.iconst 1, 1) := by decide +kernel
theorem dX3_takesLetter_51 : decode cX3_takesLetter 51 = .ok (.ireturn, 1) := by decide +kernel
theorem dX3_takesDigit_0 : decode cX3_takesDigit 0 = .ok (.aload_n 0, 1) := by decide +kernel
theorem dX3_takesDigit_1 : decode cX3_takesDigit 1 = .ok (.getfield 38, 3) := by decide +kernel
theorem dX3_takesDigit_4 : decode cX3_takesDigit 4 = .ok (.iconst 2, 1) := by decide +kernel
theorem dX3_takesDigit_5 : decode cX3_takesDigit 5 = .ok (.if_icmp .eq 21, 3) := by decide +kernel
theorem dX3_takesDigit_8 : decode cX3_takesDigit 8 = .ok (.aload_n 0, 1) := by decide +kernel
theorem dX3_takesDigit_9 : decode cX3_takesDigit 9 = .ok (.getfield 38, 3) := by decide +kernel
theorem dX3_takesDigit_12 : decode cX3_takesDigit 12 = .ok (.ifCond .ne 16, 3) := by decide +kernel
theorem dX3_takesDigit_15 : decode cX3_takesDigit 15 = .ok (.aload_n 0, 1) := by decide +kernel
theorem dX3_takesDigit_16 : decode cX3_takesDigit 16 = .ok (.getfield 35, 3) := by decide +kernel
theorem dX3_takesDigit_19 : decode cX3_takesDigit 19 = .ok (.aload_n 0, 1) := by decide +kernel
theorem dX3_takesDigit_20 : decode cX3_takesDigit 20 = .ok (.getfield 32, 3) := by decide +kernel
theorem dX3_takesDigit_23 : decode cX3_takesDigit 23 = .ok (.if_icmp .ne 5, 3) := by decide +kernel
theorem dX3_takesDigit_26 : decode cX3_takesDigit 26 = .ok (.iconst 0, 1) := by decide +kernel
theorem dX3_takesDigit_27 : decode cX3_takesDigit 27 = .ok (.ireturn, 1) := by decide +kernel
theorem dX3_takesDigit_28 : decode cX3_takesDigit 28 = .ok (.aload_n 0, 1) := by decide +kernel
theorem dX3_takesDigit_29 : decode cX3_takesDigit 29 = .ok (.getfield 25, 3) := by decide +kernel
theorem dX3_takesDigit_32 : decode cX3_takesDigit 32 = .ok (.iconst 5, 1) := by decide +kernel
theorem dX3_takesDigit_33 : decode cX3_takesDigit 33 = .ok (.imul, 1) := by decide +kernel
theorem dX3_takesDigit_34 : decode cX3_takesDigit 34 = .ok (.aload_n 0, 1) := by decide +kernel
theorem dX3_takesDigit_35 : decode cX3_takesDigit 35 = .ok (.getfield 35, 3) := by decide +kernel
theorem dX3_takesDigit_38 : decode cX3_takesDigit 38 = .ok (.iadd, 1) := by decide +kernel
theorem dX3_takesDigit_39 : decode cX3_takesDigit 39 = .ok (.istore_n 2, 1) := by decide +kernel
theorem dX3_takesDigit_40 : decode cX3_takesDigit 40 = .ok (.aload_n 0, 1) := by decide +kernel
theorem dX3_takesDigit_41 : decode cX3_takesDigit 41 = .ok (.getfield 38, 3) := by decide +kernel
theorem dX3_takesDigit_44 : decode cX3_takesDigit 44 = .ok (.ifCond .ne 23, 3) := by decide +kernel
theorem dX3_takesDigit_47 : decode cX3_takesDigit 47 = .ok (.aload_n 0, 1) := by decide +kernel
theorem dX3_takesDigit_48 : decode cX3_takesDigit 48 = .ok (.getfield 22, 3) := by decide +kernel
theorem dX3_takesDigit_51 : decode cX3_takesDigit 51 = .ok (.iload_n 2, 1) := by decide +kernel
theorem dX3_takesDigit_52 : decode cX3_takesDigit 52 = .ok (.iload_n 1, 1) := by decide +kernel
theorem dX3_takesDigit_53 : decode cX3_takesDigit 53 = .ok (.iastore, 1) := by decide +kernel
theorem dX3_takesDigit_54 : decode cX3_takesDigit 54 = .ok (.aload_n 0, 1) := by decide +kernel
theorem dX3_takesDigit_55 : decode cX3_takesDigit 55 = .ok (.dup, 1) := by decide +kernel
theorem dX3_takesDigit_56 : decode cX3_takesDigit 56 = .ok (.getfield 35, 3) := by decide +kernel
theorem dX3_takesDigit_59 : decode cX3_takesDigit 59 = .ok (.iconst 1, 1) := by decide +kernel
theorem dX3_takesDigit_60 : decode cX3_takesDigit 60 = .ok (.iadd, 1) := by decide +kernel
theorem dX3_takesDigit_61 : decode cX3_takesDigit 61 = .ok (.putfield 35, 3) := by decide +kernel
theorem dX3_takesDigit_64 : decode cX3_takesDigit 64 = .ok (.goto 24, 3) := by decide +kernel
theorem dX3_takesDigit_67 : decode cX3_takesDigit 67 = .ok (.aload_n 0, 1) := by decide +kernel
theorem dX3_takesDigit_68 : decode cX3_takesDigit 68 = .ok (.getfield 22, 3) := by decide +kernel
theorem dX3_takesDigit_71 : decode cX3_takesDigit 71 = .ok (.iload_n 2, 1) := by decide +kernel
theorem dX3_takesDigit_72 : decode cX3_takesDigit 72 = .ok (.iconst 1, 1) := by decide +kernel
theorem dX3_takesDigit_73 : decode cX3_takesDigit 73 = .ok (.isub, 1) := by decide +kernel
theorem dX3_takesDigit_74 : decode cX3_takesDigit 74 = .ok (.bipush 10, 2) := by decide +kernel
theorem dX3_takesDigit_76 : decode cX3_takesDigit 76 = .ok (.aload_n 0, 1) := by decide +kernel
theorem dX3_takesDigit_77 : decode cX3_takesDigit 77 = .ok (.getfield 22, 3) := by decide +kernel
theorem dX3_takesDigit_80 : decode cX3_takesDigit 80 = .ok (.iload_n 2, 1) := by decide +kernel
theorem dX3_takesDigit_81 : decode cX3_takesDigit 81 = .ok (.iconst 1, 1) := by decide +kernel
theorem dX3_takesDigit_82 : decode cX3_takesDigit 82 = .ok (.isub, 1) := by decide +kernel
theorem dX3_takesDigit_83 : decode cX3_takesDigit 83 = .ok (.iaload, 1) := by decide +kernel
theorem dX3_takesDigit_84 : decode cX3_takesDigit 84 = .ok (.imul, 1) := by decide +kernel
theorem dX3_takesDigit_85 : decode cX3_takesDigit 85 = .ok (.iload_n 1, 1) := by decide +kernel
theorem dX3_takesDigit_86 : decode cX3_takesDigit 86 = .ok (.iadd, 1) := by decide +kernel
theorem dX3_takesDigit_87 : decode cX3_takesDigit 87 = .ok (.iastore, 1) := by decide +kernel
theorem dX3_takesDigit_88 : decode cX3_takesDigit 88 = .ok (.aload_n 0, 1) := by decide +kernel
theorem dX3_takesDigit_89 : decode cX3_takesDigit 89 = .ok (.dup, 1) := by decide +kernel
theorem dX3_takesDigit_90 : decode cX3_takesDigit 90 = .ok (.getfield 38, 3) := by decide +kernel
theorem dX3_takesDigit_93 : decode cX3_takesDigit 93 = .ok (.iconst 1, 1) := by decide +kernel
theorem dX3_takesDigit_94 : decode cX3_takesDigit 94 = .ok (.iadd, 1) := by decide +kernel
theorem dX3_takesDigit_95 : decode cX3_takesDigit 95 = .ok (.putfield 38, 3) := by decide +kernel
theorem dX3_takesDigit_98 : decode cX3_takesDigit 98 = .ok (.iconst 1, 1) := by decide +kernel
theorem dX3_takesDigit_99 : decode cX3_takesDigit 99 = .ok (.ireturn, 1) := by decide +kernel
theorem dX3_takesEnd_0 : decode cX3_takesEnd 0 = .ok (.aload_n 0, 1) := by decide +kernel
theorem dX3_takesEnd_1 : decode cX3_takesEnd 1 = .ok (.getfield 35, 3) := by decide +kernel
theorem dX3_takesEnd_4 : decode cX3_takesEnd 4 = .ok (.aload_n 0, 1) := by decide +kernel
theorem dX3_takesEnd_5 : decode cX3_takesEnd 5 = .ok (.getfield 32, 3) := by decide +kernel
theorem dX3_takesEnd_8 : decode cX3_takesEnd 8 = .ok (.if_icmp .ge 5, 3) := by decide +kernel
theorem dX3_takesEnd_11 : decode cX3_takesEnd 11 = .ok (.iconst 0, 1) := by decide +kernel
theorem dX3_takesEnd_12 : decode cX3_takesEnd 12 = .ok (.ireturn, 1) := by decide +kernel
theorem dX3_takesEnd_13 : decode cX3_takesEnd 13 = .ok (.aload_n 0, 1) := by decide +kernel
theorem dX3_takesEnd_14 : decode cX3_takesEnd 14 = .ok (.iconst 0, 1) := by decide +kernel
theorem dX3_takesEnd_15 : decode cX3_takesEnd 15 = .ok (.putfield 28, 3) := by decide +kernel
theorem dX3_takesEnd_18 : decode cX3_takesEnd 18 = .ok (.aload_n 0, 1) := by decide +kernel
theorem dX3_takesEnd_19 : decode cX3_takesEnd 19 = .ok (.dup, 1) := by decide +kernel
theorem dX3_takesEnd_20 : decode cX3_takesEnd 20 = .ok (.getfield 25, 3) := by decide +kernel
theorem dX3_takesEnd_23 : decode cX3_takesEnd 23 = .ok (.iconst 1, 1) := by decide +kernel
theorem dX3_takesEnd_24 : decode cX3_takesEnd 24 = .ok (.iadd, 1) := by decide +kernel
theorem dX3_takesEnd_25 : decode cX3_takesEnd 25 = .ok (.putfield 25, 3) := by decide +kernel
theorem dX3_takesEnd_28 : decode cX3_takesEnd 28 = .ok (.iconst 1, 1) := by decide +kernel
theorem dX3_takesEnd_29 : decode cX3_takesEnd 29 = .ok (.ireturn, 1) := by decide +kernel
theorem dX3_numbersOf_0 : decode cX3_numbersOf 0 = .ok (.iload_n 0, 1) := by decide +kernel
theorem dX3_numbersOf_1 : decode cX3_numbersOf 1 = .ok (.tableswitch 101 98 116 #[91, 97, 101, 95, 101, 101, 101, 101, 101, 101, 101, 101, 101, 93, 101, 101, 93, 99, 91], 91) := by decide +kernel
theorem dX3_numbersOf_92 : decode cX3_numbersOf 92 = .ok (.iconst 1, 1) := by decide +kernel
theorem dX3_numbersOf_93 : decode cX3_numbersOf 93 = .ok (.ireturn, 1) := by decide +kernel
theorem dX3_numbersOf_94 : decode cX3_numbersOf 94 = .ok (.iconst 2, 1) := by decide +kernel
theorem dX3_numbersOf_95 : decode cX3_numbersOf 95 = .ok (.ireturn, 1) := by decide +kernel
theorem dX3_numbersOf_96 : decode cX3_numbersOf 96 = .ok (.iconst 3, 1) := by decide +kernel
theorem dX3_numbersOf_97 : decode cX3_numbersOf 97 = .ok (.ireturn, 1) := by decide +kernel
theorem dX3_numbersOf_98 : decode cX3_numbersOf 98 = .ok (.iconst 4, 1) := by decide +kernel
theorem dX3_numbersOf_99 : decode cX3_numbersOf 99 = .ok (.ireturn, 1) := by decide +kernel
theorem dX3_numbersOf_100 : decode cX3_numbersOf 100 = .ok (.iconst 5, 1) := by decide +kernel
theorem dX3_numbersOf_101 : decode cX3_numbersOf 101 = .ok (.ireturn, 1) := by decide +kernel
theorem dX3_numbersOf_102 : decode cX3_numbersOf 102 = .ok (.iconst 0, 1) := by decide +kernel
theorem dX3_numbersOf_103 : decode cX3_numbersOf 103 = .ok (.ireturn, 1) := by decide +kernel
theorem dX4_init_0 : decode cX4_init 0 = .ok (.aload_n 0, 1) := by decide +kernel
theorem dX4_init_1 : decode cX4_init 1 = .ok (.invokespecial 3, 3) := by decide +kernel
theorem dX4_init_4 : decode cX4_init 4 = .ok (.aload_n 0, 1) := by decide +kernel
theorem dX4_init_5 : decode cX4_init 5 = .ok (.iconst 0, 1) := by decide +kernel
theorem dX4_init_6 : decode cX4_init 6 = .ok (.putfield 9, 3) := by decide +kernel
theorem dX4_init_9 : decode cX4_init 9 = .ok (.aload_n 0, 1) := by decide +kernel
theorem dX4_init_10 : decode cX4_init 10 = .ok (.iconst 5, 1) := by decide +kernel
theorem dX4_init_11 : decode cX4_init 11 = .ok (.putfield 15, 3) := by decide +kernel
theorem dX4_init_14 : decode cX4_init 14 = .ok (.aload_n 0, 1) := by decide +kernel
theorem dX4_init_15 : decode cX4_init 15 = .ok (.iconst 3, 1) := by decide +kernel
theorem dX4_init_16 : decode cX4_init 16 = .ok (.newarray .int, 2) := by decide +kernel
theorem dX4_init_18 : decode cX4_init 18 = .ok (.putfield 18, 3) := by decide +kernel
theorem dX4_init_21 : decode cX4_init 21 = .ok (.aload_n 0, 1) := by decide +kernel
theorem dX4_init_22 : decode cX4_init 22 = .ok (.iconst 4, 1) := by decide +kernel
theorem dX4_init_23 : decode cX4_init 23 = .ok (.anewarray 22, 3) := by decide +kernel
theorem dX4_init_26 : decode cX4_init 26 = .ok (.putfield 24, 3) := by decide +kernel
theorem dX4_init_29 : decode cX4_init 29 = .ok (.aload_n 0, 1) := by decide +kernel
theorem dX4_init_30 : decode cX4_init 30 = .ok (.iconst 2, 1) := by decide +kernel
theorem dX4_init_31 : decode cX4_init 31 = .ok (.anewarray 28, 3) := by decide +kernel
theorem dX4_init_34 : decode cX4_init 34 = .ok (.putfield 30, 3) := by decide +kernel
theorem dX4_init_37 : decode cX4_init 37 = .ok (.iconst 0, 1) := by decide +kernel
theorem dX4_init_38 : decode cX4_init 38 = .ok (.istore_n 1, 1) := by decide +kernel
theorem dX4_init_39 : decode cX4_init 39 = .ok (.iload_n 1, 1) := by decide +kernel
theorem dX4_init_40 : decode cX4_init 40 = .ok (.iconst 4, 1) := by decide +kernel
theorem dX4_init_41 : decode cX4_init 41 = .ok (.if_icmp .ge 22, 3) := by decide +kernel
theorem dX4_init_44 : decode cX4_init 44 = .ok (.aload_n 0, 1) := by decide +kernel
theorem dX4_init_45 : decode cX4_init 45 = .ok (.getfield 24, 3) := by decide +kernel
theorem dX4_init_48 : decode cX4_init 48 = .ok (.iload_n 1, 1) := by decide +kernel
theorem dX4_init_49 : decode cX4_init 49 = .ok (.new 22, 3) := by decide +kernel
theorem dX4_init_52 : decode cX4_init 52 = .ok (.dup, 1) := by decide +kernel
theorem dX4_init_53 : decode cX4_init 53 = .ok (.invokespecial 34, 3) := by decide +kernel
theorem dX4_init_56 : decode cX4_init 56 = .ok (.aastore, 1) := by decide +kernel
theorem dX4_init_57 : decode cX4_init 57 = .ok (.iinc 1 1, 3) := by decide +kernel
theorem dX4_init_60 : decode cX4_init 60 = .ok (.goto (-21), 3) := by decide +kernel
theorem dX4_init_63 : decode cX4_init 63 = .ok (.iconst 0, 1) := by decide +kernel
theorem dX4_init_64 : decode cX4_init 64 = .ok (.istore_n 1, 1) := by decide +kernel
theorem dX4_init_65 : decode cX4_init 65 = .ok (.iload_n 1, 1) := by decide +kernel
theorem dX4_init_66 : decode cX4_init 66 = .ok (.iconst 2, 1) := by decide +kernel
theorem dX4_init_67 : decode cX4_init 67 = .ok (.if_icmp .ge 22, 3) := by decide +kernel
theorem dX4_init_70 : decode cX4_init 70 = .ok (.aload_n 0, 1) := by decide +kernel
theorem dX4_init_71 : decode cX4_init 71 = .ok (.getfield 30, 3) := by decide +kernel
theorem dX4_init_74 : decode cX4_init 74 = .ok (.iload_n 1, 1) := by decide +kernel
theorem dX4_init_75 : decode cX4_init 75 = .ok (.new 28, 3) := by decide +kernel
theorem dX4_init_78 : decode cX4_init 78 = .ok (.dup, 1) := by decide +kernel
theorem dX4_init_79 : decode cX4_init 79 = .ok (.invokespecial 35, 3) := by decide +kernel
theorem dX4_init_82 : decode cX4_init 82 = .ok (.aastore, 1) := by decide +kernel
theorem dX4_init_83 : decode cX4_init 83 = .ok (.iinc 1 1, 3) := by decide +kernel
theorem dX4_init_86 : decode cX4_init 86 = .ok (.goto (-21), 3) := by decide +kernel
theorem dX4_init_89 : decode cX4_init 89 = .ok (.return_, 1) := by decide +kernel
theorem dX4_copy_0 : decode cX4_copy 0 = .ok (.aload_n 0, 1) := by decide +kernel
theorem dX4_copy_1 : decode cX4_copy 1 = .ok (.aload_n 1, 1) := by decide +kernel
theorem dX4_copy_2 : decode cX4_copy 2 = .ok (.getfield 9, 3) := by decide +kernel
theorem dX4_copy_5 : decode cX4_copy 5 = .ok (.putfield 9, 3) := by decide +kernel
theorem dX4_copy_8 : decode cX4_copy 8 = .ok (.aload_n 0, 1) := by decide +kernel
theorem dX4_copy_9 : decode cX4_copy 9 = .ok (.aload_n 1, 1) := by decide +kernel
theorem dX4_copy_10 : decode cX4_copy 10 = .ok (.getfield 15, 3) := by decide +kernel
theorem dX4_copy_13 : decode cX4_copy 13 = .ok (.putfield 15, 3) := by decide +kernel
theorem dX4_copy_16 : decode cX4_copy 16 = .ok (.aload_n 1, 1) := by decide +kernel
theorem dX4_copy_17 : decode cX4_copy 17 = .ok (.getfield 18, 3) := by decide +kernel
theorem dX4_copy_20 : decode cX4_copy 20 = .ok (.iconst 0, 1) := by decide +kernel
theorem dX4_copy_21 : decode cX4_copy 21 = .ok (.aload_n 0, 1) := by decide +kernel
theorem dX4_copy_22 : decode cX4_copy 22 = .ok (.getfield 18, 3) := by decide +kernel
theorem dX4_copy_25 : decode cX4_copy 25 = .ok (.iconst 0, 1) := by decide +kernel
theorem dX4_copy_26 : decode cX4_copy 26 = .ok (.iconst 3, 1) := by decide +kernel
theorem dX4_copy_27 : decode cX4_copy 27 = .ok (.invokestatic 36, 3) := by decide +kernel
theorem dX4_copy_30 : decode cX4_copy 30 = .ok (.iconst 0, 1) := by decide +kernel
theorem dX4_copy_31 : decode cX4_copy 31 = .ok (.istore_n 2, 1) := by decide +kernel
theorem dX4_copy_32 : decode cX4_copy 32 = .ok (.iload_n 2, 1) := by decide +kernel
theorem dX4_copy_33 : decode cX4_copy 33 = .ok (.iconst 4, 1) := by decide +kernel
theorem dX4_copy_34 : decode cX4_copy 34 = .ok (.if_icmp .ge 24, 3) := by decide +kernel
theorem dX4_copy_37 : decode cX4_copy 37 = .ok (.aload_n 0, 1) := by decide +kernel
theorem dX4_copy_38 : decode cX4_copy 38 = .ok (.getfield 24, 3) := by decide +kernel
theorem dX4_copy_41 : decode cX4_copy 41 = .ok (.iload_n 2, 1) := by decide +kernel
theorem dX4_copy_42 : decode cX4_copy 42 = .ok (.aaload, 1) := by decide +kernel
theorem dX4_copy_43 : decode cX4_copy 43 = .ok (.aload_n 1, 1) := by decide +kernel
theorem dX4_copy_44 : decode cX4_copy 44 = .ok (.getfield 24, 3) := by decide +kernel
theorem dX4_copy_47 : decode cX4_copy 47 = .ok (.iload_n 2, 1) := by decide +kernel
theorem dX4_copy_48 : decode cX4_copy 48 = .ok (.aaload, 1) := by decide +kernel
theorem dX4_copy_49 : decode cX4_copy 49 = .ok (.invokevirtual 42, 3) := by decide +kernel
theorem dX4_copy_52 : decode cX4_copy 52 = .ok (.iinc 2 1, 3) := by decide +kernel
theorem dX4_copy_55 : decode cX4_copy 55 = .ok (.goto (-23), 3) := by decide +kernel
theorem dX4_copy_58 : decode cX4_copy 58 = .ok (.iconst 0, 1) := by decide +kernel
theorem dX4_copy_59 : decode cX4_copy 59 = .ok (.istore_n 2, 1) := by decide +kernel
theorem dX4_copy_60 : decode cX4_copy 60 = .ok (.iload_n 2, 1) := by decide +kernel
theorem dX4_copy_61 : decode cX4_copy 61 = .ok (.iconst 2, 1) := by decide +kernel
theorem dX4_copy_62 : decode cX4_copy 62 = .ok (.if_icmp .ge 24, 3) := by decide +kernel
theorem dX4_copy_65 : decode cX4_copy 65 = .ok (.aload_n 0, 1) := by decide +kernel
theorem dX4_copy_66 : decode cX4_copy 66 = .ok (.getfield 30, 3) := by decide +kernel
theorem dX4_copy_69 : decode cX4_copy 69 = .ok (.iload_n 2, 1) := by decide +kernel
theorem dX4_copy_70 : decode cX4_copy 70 = .ok (.aaload, 1) := by decide +kernel
theorem dX4_copy_71 : decode cX4_copy 71 = .ok (.aload_n 1, 1) := by decide +kernel
theorem dX4_copy_72 : decode cX4_copy 72 = .ok (.getfield 30, 3) := by decide +kernel
theorem dX4_copy_75 : decode cX4_copy 75 = .ok (.iload_n 2, 1) := by decide +kernel
theorem dX4_copy_76 : decode cX4_copy 76 = .ok (.aaload, 1) := by decide +kernel
theorem dX4_copy_77 : decode cX4_copy 77 = .ok (.invokevirtual 46, 3) := by decide +kernel
theorem dX4_copy_80 : decode cX4_copy 80 = .ok (.iinc 2 1, 3) := by decide +kernel
theorem dX4_copy_83 : decode cX4_copy 83 = .ok (.goto (-23), 3) := by decide +kernel
theorem dX4_copy_86 : decode cX4_copy 86 = .ok (.return_, 1) := by decide +kernel
theorem dX5_init_0 : decode cX5_init 0 = .ok (.aload_n 0, 1) := by decide +kernel
theorem dX5_init_1 : decode cX5_init 1 = .ok (.invokespecial 1, 3) := by decide +kernel
theorem dX5_init_4 : decode cX5_init 4 = .ok (.aload_n 0, 1) := by decide +kernel
theorem dX5_init_5 : decode cX5_init 5 = .ok (.iconst 3, 1) := by decide +kernel
theorem dX5_init_6 : decode cX5_init 6 = .ok (.anewarray 9, 3) := by decide +kernel
theorem dX5_init_9 : decode cX5_init 9 = .ok (.putfield 11, 3) := by decide +kernel
theorem dX5_init_12 : decode cX5_init 12 = .ok (.aload_n 0, 1) := by decide +kernel
theorem dX5_init_13 : decode cX5_init 13 = .ok (.new 15, 3) := by decide +kernel
theorem dX5_init_16 : decode cX5_init 16 = .ok (.dup, 1) := by decide +kernel
theorem dX5_init_17 : decode cX5_init 17 = .ok (.invokespecial 17, 3) := by decide +kernel
theorem dX5_init_20 : decode cX5_init 20 = .ok (.putfield 18, 3) := by decide +kernel
theorem dX5_init_23 : decode cX5_init 23 = .ok (.aload_n 0, 1) := by decide +kernel
theorem dX5_init_24 : decode cX5_init 24 = .ok (.bipush 6, 2) := by decide +kernel
theorem dX5_init_26 : decode cX5_init 26 = .ok (.anewarray 15, 3) := by decide +kernel
theorem dX5_init_29 : decode cX5_init 29 = .ok (.putfield 22, 3) := by decide +kernel
theorem dX5_init_32 : decode cX5_init 32 = .ok (.aload_n 0, 1) := by decide +kernel
theorem dX5_init_33 : decode cX5_init 33 = .ok (.iconst 0, 1) := by decide +kernel
theorem dX5_init_34 : decode cX5_init 34 = .ok (.putfield 26, 3) := by decide +kernel
theorem dX5_init_37 : decode cX5_init 37 = .ok (.aload_n 0, 1) := by decide +kernel
theorem dX5_init_38 : decode cX5_init 38 = .ok (.iconst 0, 1) := by decide +kernel
theorem dX5_init_39 : decode cX5_init 39 = .ok (.putfield 30, 3) := by decide +kernel
theorem dX5_init_42 : decode cX5_init 42 = .ok (.aload_n 0, 1) := by decide +kernel
theorem dX5_init_43 : decode cX5_init 43 = .ok (.new 33, 3) := by decide +kernel
theorem dX5_init_46 : decode cX5_init 46 = .ok (.dup, 1) := by decide +kernel
theorem dX5_init_47 : decode cX5_init 47 = .ok (.invokespecial 35, 3) := by decide +kernel
theorem dX5_init_50 : decode cX5_init 50 = .ok (.putfield 36, 3) := by decide +kernel
theorem dX5_init_53 : decode cX5_init 53 = .ok (.aload_n 0, 1) := by decide +kernel
theorem dX5_init_54 : decode cX5_init 54 = .ok (.iconst 5, 1) := by decide +kernel
theorem dX5_init_55 : decode cX5_init 55 = .ok (.newarray .int, 2) := by decide +kernel
theorem dX5_init_57 : decode cX5_init 57 = .ok (.putfield 40, 3) := by decide +kernel
theorem dX5_init_60 : decode cX5_init 60 = .ok (.aload_n 0, 1) := by decide +kernel
theorem dX5_init_61 : decode cX5_init 61 = .ok (.iconst 0, 1) := by decide +kernel
theorem dX5_init_62 : decode cX5_init 62 = .ok (.putfield 44, 3) := by decide +kernel
theorem dX5_init_65 : decode cX5_init 65 = .ok (.aload_n 0, 1) := by decide +kernel
theorem dX5_init_66 : decode cX5_init 66 = .ok (.iconst 0, 1) := by decide +kernel
theorem dX5_init_67 : decode cX5_init 67 = .ok (.putfield 47, 3) := by decide +kernel
theorem dX5_init_70 : decode cX5_init 70 = .ok (.iconst 0, 1) := by decide +kernel
theorem dX5_init_71 : decode cX5_init 71 = .ok (.istore_n 1, 1) := by decide +kernel
theorem dX5_init_72 : decode cX5_init 72 = .ok (.iload_n 1, 1) := by decide +kernel
theorem dX5_init_73 : decode cX5_init 73 = .ok (.iconst 3, 1) := by decide +kernel
theorem dX5_init_74 : decode cX5_init 74 = .ok (.if_icmp .ge 22, 3) := by decide +kernel
theorem dX5_init_77 : decode cX5_init 77 = .ok (.aload_n 0, 1) := by decide +kernel
theorem dX5_init_78 : decode cX5_init 78 = .ok (.getfield 11, 3) := by decide +kernel
theorem dX5_init_81 : decode cX5_init 81 = .ok (.iload_n 1, 1) := by decide +kernel
theorem dX5_init_82 : decode cX5_init 82 = .ok (.new 9, 3) := by decide +kernel
theorem dX5_init_85 : decode cX5_init 85 = .ok (.dup, 1) := by decide +kernel
theorem dX5_init_86 : decode cX5_init 86 = .ok (.invokespecial 51, 3) := by decide +kernel
theorem dX5_init_89 : decode cX5_init 89 = .ok (.aastore, 1) := by decide +kernel
theorem dX5_init_90 : decode cX5_init 90 = .ok (.iinc 1 1, 3) := by decide +kernel
theorem dX5_init_93 : decode cX5_init 93 = .ok (.goto (-21), 3) := by decide +kernel
theorem dX5_init_96 : decode cX5_init 96 = .ok (.iconst 0, 1) := by decide +kernel
theorem dX5_init_97 : decode cX5_init 97 = .ok (.istore_n 1, 1) := by decide +kernel
theorem dX5_init_98 : decode cX5_init 98 = .ok (.iload_n 1, 1) := by decide +kernel
theorem dX5_init_99 : decode cX5_init 99 = .ok (.bipush 6, 2) := by decide +kernel
theorem dX5_init_101 : decode cX5_init 101 = .ok (.if_icmp .ge 22, 3) := by decide +kernel
theorem dX5_init_104 : decode cX5_init 104 = .ok (.aload_n 0, 1) := by decide +kernel
theorem dX5_init_105 : decode cX5_init 105 = .ok (.getfield 22, 3) := by decide +kernel
theorem dX5_init_108 : decode cX5_init 108 = .ok (.iload_n 1, 1) := by decide +kernel
theorem dX5_init_109 : decode cX5_init 109 = .ok (.new 15, 3) := by decide +kernel
theorem dX5_init_112 : decode cX5_init 112 = .ok (.dup, 1) := by decide +kernel
theorem dX5_init_113 : decode cX5_init 113 = .ok (.invokespecial 17, 3) := by decide +kernel
theorem dX5_init_116 : decode cX5_init 116 = .ok (.aastore, 1) := by decide +kernel
theorem dX5_init_117 : decode cX5_init 117 = .ok (.iinc 1 1, 3) := by decide +kernel
theorem dX5_init_120 : decode cX5_init 120 = .ok (.goto (-22), 3) := by decide +kernel
theorem dX5_init_123 : decode cX5_init 123 = .ok (.return_, 1) := by decide +kernel
theorem dX5_begins_0 : decode cX5_begins 0 = .ok (.iload_n 1, 1) := by decide +kernel
theorem dX5_begins_1 : decode cX5_begins 1 = .ok (.iconst 4, 1) := by decide +kernel
theorem dX5_begins_2 : decode cX5_begins 2 = .ok (.invokestatic 52, 3) := by decide +kernel
theorem dX5_begins_5 : decode cX5_begins 5 = .ok (.ifCond .eq 10, 3) := by decide +kernel
theorem dX5_begins_8 : decode cX5_begins 8 = .ok (.aload_n 0, 1) := by decide +kernel
theorem dX5_begins_9 : decode cX5_begins 9 = .ok (.bipush (-2), 2) := by decide +kernel
theorem dX5_begins_11 : decode cX5_begins 11 = .ok (.invokevirtual 56, 3) := by decide +kernel
theorem dX5_begins_14 : decode cX5_begins 14 = .ok (.ireturn, 1) := by decide +kernel
theorem dX5_begins_15 : decode cX5_begins 15 = .ok (.aload_n 0, 1) := by decide +kernel
theorem dX5_begins_16 : decode cX5_begins 16 = .ok (.getfield 18, 3) := by decide +kernel
theorem dX5_begins_19 : decode cX5_begins 19 = .ok (.getfield 60, 3) := by decide +kernel
theorem dX5_begins_22 : decode cX5_begins 22 = .ok (.iload_n 1, 1) := by decide +kernel
theorem dX5_begins_23 : decode cX5_begins 23 = .ok (.aaload, 1) := by decide +kernel
theorem dX5_begins_24 : decode cX5_begins 24 = .ok (.astore_n 2, 1) := by decide +kernel
theorem dX5_begins_25 : decode cX5_begins 25 = .ok (.aload_n 2, 1) := by decide +kernel
theorem dX5_begins_26 : decode cX5_begins 26 = .ok (.getfield 64, 3) := by decide +kernel
theorem dX5_begins_29 : decode cX5_begins 29 = .ok (.iconst 2, 1) := by decide +kernel
theorem dX5_begins_30 : decode cX5_begins 30 = .ok (.if_icmp .ne 10, 3) := by decide +kernel
theorem dX5_begins_33 : decode cX5_begins 33 = .ok (.aload_n 0, 1) := by decide +kernel
theorem dX5_begins_34 : decode cX5_begins 34 = .ok (.bipush (-3), 2) := by decide +kernel
theorem dX5_begins_36 : decode cX5_begins 36 = .ok (.invokevirtual 56, 3) := by decide +kernel
theorem dX5_begins_39 : decode cX5_begins 39 = .ok (.ireturn, 1) := by decide +kernel
theorem dX5_begins_40 : decode cX5_begins 40 = .ok (.aload_n 2, 1) := by decide +kernel
theorem dX5_begins_41 : decode cX5_begins 41 = .ok (.getfield 69, 3) := by decide +kernel
theorem dX5_begins_44 : decode cX5_begins 44 = .ok (.bipush 99, 2) := by decide +kernel
theorem dX5_begins_46 : decode cX5_begins 46 = .ok (.if_icmp .lt 10, 3) := by decide +kernel
theorem dX5_begins_49 : decode cX5_begins 49 = .ok (.aload_n 0, 1) := by decide +kernel
theorem dX5_begins_50 : decode cX5_begins 50 = .ok (.bipush (-4), 2) := by decide +kernel
theorem dX5_begins_52 : decode cX5_begins 52 = .ok (.invokevirtual 56, 3) := by decide +kernel
theorem dX5_begins_55 : decode cX5_begins 55 = .ok (.ireturn, 1) := by decide +kernel
theorem dX5_begins_56 : decode cX5_begins 56 = .ok (.aload_n 0, 1) := by decide +kernel
theorem dX5_begins_57 : decode cX5_begins 57 = .ok (.invokevirtual 72, 3) := by decide +kernel
theorem dX5_begins_60 : decode cX5_begins 60 = .ok (.aload_n 2, 1) := by decide +kernel
theorem dX5_begins_61 : decode cX5_begins 61 = .ok (.dup, 1) := by decide +kernel
theorem dX5_begins_62 : decode cX5_begins 62 = .ok (.getfield 69, 3) := by decide +kernel
theorem dX5_begins_65 : decode cX5_begins 65 = .ok (.iconst 1, 1) := by decide +kernel
theorem dX5_begins_66 : decode cX5_begins 66 = .ok (.iadd, 1) := by decide +kernel
theorem dX5_begins_67 : decode cX5_begins 67 = .ok (.putfield 69, 3) := by decide +kernel
theorem dX5_begins_70 : decode cX5_begins 70 = .ok (.aload_n 2, 1) := by decide +kernel
theorem dX5_begins_71 : decode cX5_begins 71 = .ok (.getfield 64, 3) := by decide +kernel
theorem dX5_begins_74 : decode cX5_begins 74 = .ok (.iconst 1, 1) := by decide +kernel
theorem dX5_begins_75 : decode cX5_begins 75 = .ok (.if_icmp .ne 10, 3) := by decide +kernel
theorem dX5_begins_78 : decode cX5_begins 78 = .ok (.aload_n 0, 1) := by decide +kernel
theorem dX5_begins_79 : decode cX5_begins 79 = .ok (.aload_n 2, 1) := by decide +kernel
theorem dX5_begins_80 : decode cX5_begins 80 = .ok (.iconst 0, 1) := by decide +kernel
theorem dX5_begins_81 : decode cX5_begins 81 = .ok (.invokevirtual 75, 3) := by decide +kernel
theorem dX5_begins_84 : decode cX5_begins 84 = .ok (.pop, 1) := by decide +kernel
theorem dX5_begins_85 : decode cX5_begins 85 = .ok (.aload_n 2, 1) := by decide +kernel
theorem dX5_begins_86 : decode cX5_begins 86 = .ok (.getfield 69, 3) := by decide +kernel
theorem dX5_begins_89 : decode cX5_begins 89 = .ok (.ireturn, 1) := by decide +kernel
theorem dX5_opens_0 : decode cX5_opens 0 = .ok (.aload_n 0, 1) := by decide +kernel
theorem dX5_opens_1 : decode cX5_opens 1 = .ok (.iload_n 1, 1) := by decide +kernel
theorem dX5_opens_2 : decode cX5_opens 2 = .ok (.iload_n 2, 1) := by decide +kernel
theorem dX5_opens_3 : decode cX5_opens 3 = .ok (.invokevirtual 79, 3) := by decide +kernel
theorem dX5_opens_6 : decode cX5_opens 6 = .ok (.ifCond .eq 10, 3) := by decide +kernel
theorem dX5_opens_9 : decode cX5_opens 9 = .ok (.aload_n 0, 1) := by decide +kernel
theorem dX5_opens_10 : decode cX5_opens 10 = .ok (.bipush (-2), 2) := by decide +kernel
theorem dX5_opens_12 : decode cX5_opens 12 = .ok (.invokevirtual 56, 3) := by decide +kernel
theorem dX5_opens_15 : decode cX5_opens 15 = .ok (.ireturn, 1) := by decide +kernel
theorem dX5_opens_16 : decode cX5_opens 16 = .ok (.aload_n 0, 1) := by decide +kernel
theorem dX5_opens_17 : decode cX5_opens 17 = .ok (.getfield 18, 3) := by decide +kernel
theorem dX5_opens_20 : decode cX5_opens 20 = .ok (.getfield 60, 3) := by decide +kernel
theorem dX5_opens_23 : decode cX5_opens 23 = .ok (.iload_n 1, 1) := by decide +kernel
theorem dX5_opens_24 : decode cX5_opens 24 = .ok (.aaload, 1) := by decide +kernel
theorem dX5_opens_25 : decode cX5_opens 25 = .ok (.astore_n 3, 1) := by decide +kernel
theorem dX5_opens_26 : decode cX5_opens 26 = .ok (.iload_n 2, 1) := by decide +kernel
theorem dX5_opens_27 : decode cX5_opens 27 = .ok (.aload_n 3, 1) := by decide +kernel
theorem dX5_opens_28 : decode cX5_opens 28 = .ok (.getfield 69, 3) := by decide +kernel
theorem dX5_opens_31 : decode cX5_opens 31 = .ok (.if_icmp .ge 10, 3) := by decide +kernel
theorem dX5_opens_34 : decode cX5_opens 34 = .ok (.aload_n 0, 1) := by decide +kernel
theorem dX5_opens_35 : decode cX5_opens 35 = .ok (.bipush (-6), 2) := by decide +kernel
theorem dX5_opens_37 : decode cX5_opens 37 = .ok (.invokevirtual 56, 3) := by decide +kernel
theorem dX5_opens_40 : decode cX5_opens 40 = .ok (.ireturn, 1) := by decide +kernel
theorem dX5_opens_41 : decode cX5_opens 41 = .ok (.aload_n 3, 1) := by decide +kernel
theorem dX5_opens_42 : decode cX5_opens 42 = .ok (.getfield 64, 3) := by decide +kernel
theorem dX5_opens_45 : decode cX5_opens 45 = .ok (.ifCond .eq 10, 3) := by decide +kernel
theorem dX5_opens_48 : decode cX5_opens 48 = .ok (.aload_n 0, 1) := by decide +kernel
theorem dX5_opens_49 : decode cX5_opens 49 = .ok (.bipush (-3), 2) := by decide +kernel
theorem dX5_opens_51 : decode cX5_opens 51 = .ok (.invokevirtual 56, 3) := by decide +kernel
theorem dX5_opens_54 : decode cX5_opens 54 = .ok (.ireturn, 1) := by decide +kernel
theorem dX5_opens_55 : decode cX5_opens 55 = .ok (.aload_n 0, 1) := by decide +kernel
theorem dX5_opens_56 : decode cX5_opens 56 = .ok (.invokevirtual 72, 3) := by decide +kernel
theorem dX5_opens_59 : decode cX5_opens 59 = .ok (.aload_n 3, 1) := by decide +kernel
theorem dX5_opens_60 : decode cX5_opens 60 = .ok (.iconst 1, 1) := by decide +kernel
theorem dX5_opens_61 : decode cX5_opens 61 = .ok (.putfield 64, 3) := by decide +kernel
theorem dX5_opens_64 : decode cX5_opens 64 = .ok (.aload_n 3, 1) := by decide +kernel
theorem dX5_opens_65 : decode cX5_opens 65 = .ok (.aload_n 0, 1) := by decide +kernel
theorem dX5_opens_66 : decode cX5_opens 66 = .ok (.getfield 18, 3) := by decide +kernel
theorem dX5_opens_69 : decode cX5_opens 69 = .ok (.getfield 82, 3) := by decide +kernel
theorem dX5_opens_72 : decode cX5_opens 72 = .ok (.putfield 85, 3) := by decide +kernel
theorem dX5_opens_75 : decode cX5_opens 75 = .ok (.aload_n 0, 1) := by decide +kernel
theorem dX5_opens_76 : decode cX5_opens 76 = .ok (.iconst 1, 1) := by decide +kernel
theorem dX5_opens_77 : decode cX5_opens 77 = .ok (.invokevirtual 88, 3) := by decide +kernel
theorem dX5_opens_80 : decode cX5_opens 80 = .ok (.ireturn, 1) := by decide +kernel
theorem dX5_sends_0 : decode cX5_sends 0 = .ok (.aload_n 0, 1) := by decide +kernel
theorem dX5_sends_1 : decode cX5_sends 1 = .ok (.iload_n 1, 1) := by decide +kernel
theorem dX5_sends_2 : decode cX5_sends 2 = .ok (.iload_n 2, 1) := by decide +kernel
theorem dX5_sends_3 : decode cX5_sends 3 = .ok (.invokevirtual 79, 3) := by decide +kernel
theorem dX5_sends_6 : decode cX5_sends 6 = .ok (.ifCond .ne 31, 3) := by decide +kernel
theorem dX5_sends_9 : decode cX5_sends 9 = .ok (.iload_n 3, 1) := by decide +kernel
theorem dX5_sends_10 : decode cX5_sends 10 = .ok (.iconst 3, 1) := by decide +kernel
theorem dX5_sends_11 : decode cX5_sends 11 = .ok (.invokestatic 52, 3) := by decide +kernel
theorem dX5_sends_14 : decode cX5_sends 14 = .ok (.ifCond .ne 23, 3) := by decide +kernel
theorem dX5_sends_17 : decode cX5_sends 17 = .ok (.iload 4, 2) := by decide +kernel
theorem dX5_sends_19 : decode cX5_sends 19 = .ok (.bipush 100, 2) := by decide +kernel
theorem dX5_sends_21 : decode cX5_sends 21 = .ok (.invokestatic 52, 3) := by decide +kernel
theorem dX5_sends_24 : decode cX5_sends 24 = .ok (.ifCond .ne 13, 3) := by decide +kernel
theorem dX5_sends_27 : decode cX5_sends 27 = .ok (.iload 5, 2) := by decide +kernel
theorem dX5_sends_29 : decode cX5_sends 29 = .ok (.bipush 100, 2) := by decide +kernel
theorem dX5_sends_31 : decode cX5_sends 31 = .ok (.invokestatic 52, 3) := by decide +kernel
theorem dX5_sends_34 : decode cX5_sends 34 = .ok (.ifCond .eq 10, 3) := by decide +kernel
theorem dX5_sends_37 : decode cX5_sends 37 = .ok (.aload_n 0, 1) := by decide +kernel
theorem dX5_sends_38 : decode cX5_sends 38 = .ok (.bipush (-2), 2) := by decide +kernel
theorem dX5_sends_40 : decode cX5_sends 40 = .ok (.invokevirtual 56, 3) := by decide +kernel
theorem dX5_sends_43 : decode cX5_sends 43 = .ok (.ireturn, 1) := by decide +kernel
theorem dX5_sends_44 : decode cX5_sends 44 = .ok (.aload_n 0, 1) := by decide +kernel
theorem dX5_sends_45 : decode cX5_sends 45 = .ok (.getfield 18, 3) := by decide +kernel
theorem dX5_sends_48 : decode cX5_sends 48 = .ok (.getfield 60, 3) := by decide +kernel
theorem dX5_sends_51 : decode cX5_sends 51 = .ok (.iload_n 1, 1) := by decide +kernel
theorem dX5_sends_52 : decode cX5_sends 52 = .ok (.aaload, 1) := by decide +kernel
theorem dX5_sends_53 : decode cX5_sends 53 = .ok (.astore 6, 2) := by decide +kernel
theorem dX5_sends_55 : decode cX5_sends 55 = .ok (.iload_n 2, 1) := by decide +kernel
theorem dX5_sends_56 : decode cX5_sends 56 = .ok (.aload 6, 2) := by decide +kernel
theorem dX5_sends_58 : decode cX5_sends 58 = .ok (.getfield 69, 3) := by decide +kernel
theorem dX5_sends_61 : decode cX5_sends 61 = .ok (.if_icmp .ge 10, 3) := by decide +kernel
theorem dX5_sends_64 : decode cX5_sends 64 = .ok (.aload_n 0, 1) := by decide +kernel
theorem dX5_sends_65 : decode cX5_sends 65 = .ok (.bipush (-6), 2) := by decide +kernel
theorem dX5_sends_67 : decode cX5_sends 67 = .ok (.invokevirtual 56, 3) := by decide +kernel
theorem dX5_sends_70 : decode cX5_sends 70 = .ok (.ireturn, 1) := by decide +kernel
theorem dX5_sends_71 : decode cX5_sends 71 = .ok (.aload 6, 2) := by decide +kernel
theorem dX5_sends_73 : decode cX5_sends 73 = .ok (.getfield 64, 3) := by decide +kernel
theorem dX5_sends_76 : decode cX5_sends 76 = .ok (.iconst 2, 1) := by decide +kernel
theorem dX5_sends_77 : decode cX5_sends 77 = .ok (.if_icmp .ne 10, 3) := by decide +kernel
theorem dX5_sends_80 : decode cX5_sends 80 = .ok (.aload_n 0, 1) := by decide +kernel
theorem dX5_sends_81 : decode cX5_sends 81 = .ok (.bipush (-3), 2) := by decide +kernel
theorem dX5_sends_83 : decode cX5_sends 83 = .ok (.invokevirtual 56, 3) := by decide +kernel
theorem dX5_sends_86 : decode cX5_sends 86 = .ok (.ireturn, 1) := by decide +kernel
theorem dX5_sends_87 : decode cX5_sends 87 = .ok (.aload_n 0, 1) := by decide +kernel
theorem dX5_sends_88 : decode cX5_sends 88 = .ok (.getfield 11, 3) := by decide +kernel
theorem dX5_sends_91 : decode cX5_sends 91 = .ok (.iload_n 3, 1) := by decide +kernel
theorem dX5_sends_92 : decode cX5_sends 92 = .ok (.aaload, 1) := by decide +kernel
theorem dX5_sends_93 : decode cX5_sends 93 = .ok (.astore 7, 2) := by decide +kernel
theorem dX5_sends_95 : decode cX5_sends 95 = .ok (.aload 7, 2) := by decide +kernel
theorem dX5_sends_97 : decode cX5_sends 97 = .ok (.iload_n 1, 1) := by decide +kernel
theorem dX5_sends_98 : decode cX5_sends 98 = .ok (.iload_n 2, 1) := by decide +kernel
theorem dX5_sends_99 : decode cX5_sends 99 = .ok (.iload 4, 2) := by decide +kernel
theorem dX5_sends_101 : decode cX5_sends 101 = .ok (.invokevirtual 91, 3) := by decide +kernel
theorem dX5_sends_104 : decode cX5_sends 104 = .ok (.istore 8, 2) := by decide +kernel
theorem dX5_sends_106 : decode cX5_sends 106 = .ok (.iload 8, 2) := by decide +kernel
theorem dX5_sends_108 : decode cX5_sends 108 = .ok (.iconst (-1), 1) := by decide +kernel
theorem dX5_sends_109 : decode cX5_sends 109 = .ok (.if_icmp .eq 10, 3) := by decide +kernel
theorem dX5_sends_112 : decode cX5_sends 112 = .ok (.sipush 1000, 3) := by decide +kernel
theorem dX5_sends_115 : decode cX5_sends 115 = .ok (.iload 8, 2) := by decide +kernel
theorem dX5_sends_117 : decode cX5_sends 117 = .ok (.iadd, 1) := by decide +kernel
theorem dX5_sends_118 : decode cX5_sends 118 = .ok (.ireturn, 1) := by decide +kernel
theorem dX5_sends_119 : decode cX5_sends 119 = .ok (.iload 4, 2) := by decide +kernel
theorem dX5_sends_121 : decode cX5_sends 121 = .ok (.aload 7, 2) := by decide +kernel
theorem dX5_sends_123 : decode cX5_sends 123 = .ok (.iload_n 1, 1) := by decide +kernel
theorem dX5_sends_124 : decode cX5_sends 124 = .ok (.iload_n 2, 1) := by decide +kernel
theorem dX5_sends_125 : decode cX5_sends 125 = .ok (.invokevirtual 95, 3) := by decide +kernel
theorem dX5_sends_128 : decode cX5_sends 128 = .ok (.if_icmp .eq 10, 3) := by decide +kernel
theorem dX5_sends_131 : decode cX5_sends 131 = .ok (.aload_n 0, 1) := by decide +kernel
theorem dX5_sends_132 : decode cX5_sends 132 = .ok (.bipush (-7), 2) := by decide +kernel
theorem dX5_sends_134 : decode cX5_sends 134 = .ok (.invokevirtual 56, 3) := by decide +kernel
theorem dX5_sends_137 : decode cX5_sends 137 = .ok (.ireturn, 1) := by decide +kernel
theorem dX5_sends_138 : decode cX5_sends 138 = .ok (.aload 7, 2) := by decide +kernel
theorem dX5_sends_140 : decode cX5_sends 140 = .ok (.getfield 99, 3) := by decide +kernel
theorem dX5_sends_143 : decode cX5_sends 143 = .ok (.aload_n 0, 1) := by decide +kernel
theorem dX5_sends_144 : decode cX5_sends 144 = .ok (.iload_n 3, 1) := by decide +kernel
theorem dX5_sends_145 : decode cX5_sends 145 = .ok (.invokevirtual 102, 3) := by decide +kernel
theorem dX5_sends_148 : decode cX5_sends 148 = .ok (.iadd, 1) := by decide +kernel
theorem dX5_sends_149 : decode cX5_sends 149 = .ok (.bipush 48, 2) := by decide +kernel
theorem dX5_sends_151 : decode cX5_sends 151 = .ok (.if_icmp .lt 10, 3) := by decide +kernel
theorem dX5_sends_154 : decode cX5_sends 154 = .ok (.aload_n 0, 1) := by decide +kernel
theorem dX5_sends_155 : decode cX5_sends 155 = .ok (.bipush (-4), 2) := by decide +kernel
theorem dX5_sends_157 : decode cX5_sends 157 = .ok (.invokevirtual 56, 3) := by decide +kernel
theorem dX5_sends_160 : decode cX5_sends 160 = .ok (.ireturn, 1) := by decide +kernel
theorem dX5_sends_161 : decode cX5_sends 161 = .ok (.aload_n 0, 1) := by decide +kernel
theorem dX5_sends_162 : decode cX5_sends 162 = .ok (.invokevirtual 72, 3) := by decide +kernel
theorem dX5_sends_165 : decode cX5_sends 165 = .ok (.aload 6, 2) := by decide +kernel
theorem dX5_sends_167 : decode cX5_sends 167 = .ok (.getfield 64, 3) := by decide +kernel
theorem dX5_sends_170 : decode cX5_sends 170 = .ok (.iconst 1, 1) := by decide +kernel
theorem dX5_sends_171 : decode cX5_sends 171 = .ok (.if_icmp .ne 26, 3) := by decide +kernel
theorem dX5_sends_174 : decode cX5_sends 174 = .ok (.aload 6, 2) := by decide +kernel
theorem dX5_sends_176 : decode cX5_sends 176 = .ok (.getfield 105, 3) := by decide +kernel
theorem dX5_sends_179 : decode cX5_sends 179 = .ok (.iload_n 3, 1) := by decide +kernel
theorem dX5_sends_180 : decode cX5_sends 180 = .ok (.iaload, 1) := by decide +kernel
theorem dX5_sends_181 : decode cX5_sends 181 = .ok (.iconst (-1), 1) := by decide +kernel
theorem dX5_sends_182 : decode cX5_sends 182 = .ok (.if_icmp .ne 15, 3) := by decide +kernel
theorem dX5_sends_185 : decode cX5_sends 185 = .ok (.aload 6, 2) := by decide +kernel
theorem dX5_sends_187 : decode cX5_sends 187 = .ok (.getfield 105, 3) := by decide +kernel
theorem dX5_sends_190 : decode cX5_sends 190 = .ok (.iload_n 3, 1) := by decide +kernel
theorem dX5_sends_191 : decode cX5_sends 191 = .ok (.aload 7, 2) := by decide +kernel
theorem dX5_sends_193 : decode cX5_sends 193 = .ok (.getfield 99, 3) := by decide +kernel
theorem dX5_sends_196 : decode cX5_sends 196 = .ok (.iastore, 1) := by decide +kernel
theorem dX5_sends_197 : decode cX5_sends 197 = .ok (.aload 7, 2) := by decide +kernel
theorem dX5_sends_199 : decode cX5_sends 199 = .ok (.iload_n 1, 1) := by decide +kernel
theorem dX5_sends_200 : decode cX5_sends 200 = .ok (.iload_n 2, 1) := by decide +kernel
theorem dX5_sends_201 : decode cX5_sends 201 = .ok (.iload 4, 2) := by decide +kernel
theorem dX5_sends_203 : decode cX5_sends 203 = .ok (.iload 5, 2) := by decide +kernel
theorem dX5_sends_205 : decode cX5_sends 205 = .ok (.aload 6, 2) := by decide +kernel
theorem dX5_sends_207 : decode cX5_sends 207 = .ok (.getfield 105, 3) := by decide +kernel
theorem dX5_sends_210 : decode cX5_sends 210 = .ok (.iload_n 3, 1) := by decide +kernel
theorem dX5_sends_211 : decode cX5_sends 211 = .ok (.iaload, 1) := by decide +kernel
theorem dX5_sends_212 : decode cX5_sends 212 = .ok (.invokevirtual 108, 3) := by decide +kernel
theorem dX5_sends_215 : decode cX5_sends 215 = .ok (.ireturn, 1) := by decide +kernel
theorem dX5_ends_0 : decode cX5_ends 0 = .ok (.aload_n 0, 1) := by decide +kernel
theorem dX5_ends_1 : decode cX5_ends 1 = .ok (.iload_n 1, 1) := by decide +kernel
theorem dX5_ends_2 : decode cX5_ends 2 = .ok (.iload_n 2, 1) := by decide +kernel
theorem dX5_ends_3 : decode cX5_ends 3 = .ok (.invokevirtual 79, 3) := by decide +kernel
theorem dX5_ends_6 : decode cX5_ends 6 = .ok (.ifCond .ne 11, 3) := by decide +kernel
theorem dX5_ends_9 : decode cX5_ends 9 = .ok (.iload_n 3, 1) := by decide +kernel
theorem dX5_ends_10 : decode cX5_ends 10 = .ok (.iconst 2, 1) := by decide +kernel
theorem dX5_ends_11 : decode cX5_ends 11 = .ok (.invokestatic 52, 3) := by decide +kernel
theorem dX5_ends_14 : decode cX5_ends 14 = .ok (.ifCond .eq 10, 3) := by decide +kernel
theorem dX5_ends_17 : decode cX5_ends 17 = .ok (.aload_n 0, 1) := by decide +kernel
theorem dX5_ends_18 : decode cX5_ends 18 = .ok (.bipush (-2), 2) := by decide +kernel
theorem dX5_ends_20 : decode cX5_ends 20 = .ok (.invokevirtual 56, 3) := by decide +kernel
theorem dX5_ends_23 : decode cX5_ends 23 = .ok (.ireturn, 1) := by decide +kernel
theorem dX5_ends_24 : decode cX5_ends 24 = .ok (.aload_n 0, 1) := by decide +kernel
theorem dX5_ends_25 : decode cX5_ends 25 = .ok (.getfield 18, 3) := by decide +kernel
theorem dX5_ends_28 : decode cX5_ends 28 = .ok (.getfield 60, 3) := by decide +kernel
theorem dX5_ends_31 : decode cX5_ends 31 = .ok (.iload_n 1, 1) := by decide +kernel
theorem dX5_ends_32 : decode cX5_ends 32 = .ok (.aaload, 1) := by decide +kernel
theorem dX5_ends_33 : decode cX5_ends 33 = .ok (.astore 4, 2) := by decide +kernel
theorem dX5_ends_35 : decode cX5_ends 35 = .ok (.iload_n 2, 1) := by decide +kernel
theorem dX5_ends_36 : decode cX5_ends 36 = .ok (.aload 4, 2) := by decide +kernel
theorem dX5_ends_38 : decode cX5_ends 38 = .ok (.getfield 69, 3) := by decide +kernel
theorem dX5_ends_41 : decode cX5_ends 41 = .ok (.if_icmp .ge 10, 3) := by decide +kernel
theorem dX5_ends_44 : decode cX5_ends 44 = .ok (.aload_n 0, 1) := by decide +kernel
theorem dX5_ends_45 : decode cX5_ends 45 = .ok (.bipush (-6), 2) := by decide +kernel
theorem dX5_ends_47 : decode cX5_ends 47 = .ok (.invokevirtual 56, 3) := by decide +kernel
theorem dX5_ends_50 : decode cX5_ends 50 = .ok (.ireturn, 1) := by decide +kernel
theorem dX5_ends_51 : decode cX5_ends 51 = .ok (.aload 4, 2) := by decide +kernel
theorem dX5_ends_53 : decode cX5_ends 53 = .ok (.getfield 64, 3) := by decide +kernel
theorem dX5_ends_56 : decode cX5_ends 56 = .ok (.iconst 1, 1) := by decide +kernel
theorem dX5_ends_57 : decode cX5_ends 57 = .ok (.if_icmp .eq 10, 3) := by decide +kernel
theorem dX5_ends_60 : decode cX5_ends 60 = .ok (.aload_n 0, 1) := by decide +kernel
theorem dX5_ends_61 : decode cX5_ends 61 = .ok (.bipush (-3), 2) := by decide +kernel
theorem dX5_ends_63 : decode cX5_ends 63 = .ok (.invokevirtual 56, 3) := by decide +kernel
theorem dX5_ends_66 : decode cX5_ends 66 = .ok (.ireturn, 1) := by decide +kernel
theorem dX5_ends_67 : decode cX5_ends 67 = .ok (.aload_n 0, 1) := by decide +kernel
theorem dX5_ends_68 : decode cX5_ends 68 = .ok (.invokevirtual 72, 3) := by decide +kernel
theorem dX5_ends_71 : decode cX5_ends 71 = .ok (.aload_n 0, 1) := by decide +kernel
theorem dX5_ends_72 : decode cX5_ends 72 = .ok (.aload 4, 2) := by decide +kernel
theorem dX5_ends_74 : decode cX5_ends 74 = .ok (.iload_n 3, 1) := by decide +kernel
theorem dX5_ends_75 : decode cX5_ends 75 = .ok (.invokevirtual 75, 3) := by decide +kernel
theorem dX5_ends_78 : decode cX5_ends 78 = .ok (.ireturn, 1) := by decide +kernel
theorem dX5_carries_0 : decode cX5_carries 0 = .ok (.aload_n 0, 1) := by decide +kernel
theorem dX5_carries_1 : decode cX5_carries 1 = .ok (.iload_n 1, 1) := by decide +kernel
theorem dX5_carries_2 : decode cX5_carries 2 = .ok (.iload_n 2, 1) := by decide +kernel
theorem dX5_carries_3 : decode cX5_carries 3 = .ok (.invokevirtual 79, 3) := by decide +kernel
theorem dX5_carries_6 : decode cX5_carries 6 = .ok (.ifCond .ne 20, 3) := by decide +kernel
theorem dX5_carries_9 : decode cX5_carries 9 = .ok (.iload_n 3, 1) := by decide +kernel
theorem dX5_carries_10 : decode cX5_carries 10 = .ok (.iconst 2, 1) := by decide +kernel
theorem dX5_carries_11 : decode cX5_carries 11 = .ok (.invokestatic 52, 3) := by decide +kernel
theorem dX5_carries_14 : decode cX5_carries 14 = .ok (.ifCond .ne 12, 3) := by decide +kernel
theorem dX5_carries_17 : decode cX5_carries 17 = .ok (.iload 4, 2) := by decide +kernel
theorem dX5_carries_19 : decode cX5_carries 19 = .ok (.iconst 3, 1) := by decide +kernel
theorem dX5_carries_20 : decode cX5_carries 20 = .ok (.invokestatic 52, 3) := by decide +kernel
theorem dX5_carries_23 : decode cX5_carries 23 = .ok (.ifCond .eq 10, 3) := by decide +kernel
theorem dX5_carries_26 : decode cX5_carries 26 = .ok (.aload_n 0, 1) := by decide +kernel
theorem dX5_carries_27 : decode cX5_carries 27 = .ok (.bipush (-2), 2) := by decide +kernel
theorem dX5_carries_29 : decode cX5_carries 29 = .ok (.invokevirtual 56, 3) := by decide +kernel
theorem dX5_carries_32 : decode cX5_carries 32 = .ok (.ireturn, 1) := by decide +kernel
theorem dX5_carries_33 : decode cX5_carries 33 = .ok (.aload_n 0, 1) := by decide +kernel
theorem dX5_carries_34 : decode cX5_carries 34 = .ok (.getfield 18, 3) := by decide +kernel
theorem dX5_carries_37 : decode cX5_carries 37 = .ok (.getfield 60, 3) := by decide +kernel
theorem dX5_carries_40 : decode cX5_carries 40 = .ok (.iload_n 1, 1) := by decide +kernel
theorem dX5_carries_41 : decode cX5_carries 41 = .ok (.aaload, 1) := by decide +kernel
theorem dX5_carries_42 : decode cX5_carries 42 = .ok (.astore 5, 2) := by decide +kernel
theorem dX5_carries_44 : decode cX5_carries 44 = .ok (.iload_n 2, 1) := by decide +kernel
theorem dX5_carries_45 : decode cX5_carries 45 = .ok (.aload 5, 2) := by decide +kernel
theorem dX5_carries_47 : decode cX5_carries 47 = .ok (.getfield 69, 3) := by decide +kernel
theorem dX5_carries_50 : decode cX5_carries 50 = .ok (.if_icmp .ge 10, 3) := by decide +kernel
theorem dX5_carries_53 : decode cX5_carries 53 = .ok (.aload_n 0, 1) := by decide +kernel
theorem dX5_carries_54 : decode cX5_carries 54 = .ok (.bipush (-6), 2) := by decide +kernel
theorem dX5_carries_56 : decode cX5_carries 56 = .ok (.invokevirtual 56, 3) := by decide +kernel
theorem dX5_carries_59 : decode cX5_carries 59 = .ok (.ireturn, 1) := by decide +kernel
theorem dX5_carries_60 : decode cX5_carries 60 = .ok (.aload 5, 2) := by decide +kernel
theorem dX5_carries_62 : decode cX5_carries 62 = .ok (.getfield 64, 3) := by decide +kernel
theorem dX5_carries_65 : decode cX5_carries 65 = .ok (.iconst 1, 1) := by decide +kernel
theorem dX5_carries_66 : decode cX5_carries 66 = .ok (.if_icmp .eq 10, 3) := by decide +kernel
theorem dX5_carries_69 : decode cX5_carries 69 = .ok (.aload_n 0, 1) := by decide +kernel
theorem dX5_carries_70 : decode cX5_carries 70 = .ok (.bipush (-3), 2) := by decide +kernel
theorem dX5_carries_72 : decode cX5_carries 72 = .ok (.invokevirtual 56, 3) := by decide +kernel
theorem dX5_carries_75 : decode cX5_carries 75 = .ok (.ireturn, 1) := by decide +kernel
theorem dX5_carries_76 : decode cX5_carries 76 = .ok (.aload_n 0, 1) := by decide +kernel
theorem dX5_carries_77 : decode cX5_carries 77 = .ok (.invokevirtual 72, 3) := by decide +kernel
theorem dX5_carries_80 : decode cX5_carries 80 = .ok (.aload_n 0, 1) := by decide +kernel
theorem dX5_carries_81 : decode cX5_carries 81 = .ok (.getfield 18, 3) := by decide +kernel
theorem dX5_carries_84 : decode cX5_carries 84 = .ok (.getfield 112, 3) := by decide +kernel
theorem dX5_carries_87 : decode cX5_carries 87 = .ok (.iload_n 3, 1) := by decide +kernel
theorem dX5_carries_88 : decode cX5_carries 88 = .ok (.aaload, 1) := by decide +kernel
theorem dX5_carries_89 : decode cX5_carries 89 = .ok (.getfield 116, 3) := by decide +kernel
theorem dX5_carries_92 : decode cX5_carries 92 = .ok (.iload 4, 2) := by decide +kernel
theorem dX5_carries_94 : decode cX5_carries 94 = .ok (.iaload, 1) := by decide +kernel
theorem dX5_carries_95 : decode cX5_carries 95 = .ok (.istore 6, 2) := by decide +kernel
theorem dX5_carries_97 : decode cX5_carries 97 = .ok (.aload 5, 2) := by decide +kernel
theorem dX5_carries_99 : decode cX5_carries 99 = .ok (.getfield 121, 3) := by decide +kernel
theorem dX5_carries_102 : decode cX5_carries 102 = .ok (.iload_n 3, 1) := by decide +kernel
theorem dX5_carries_103 : decode cX5_carries 103 = .ok (.iconst 3, 1) := by decide +kernel
theorem dX5_carries_104 : decode cX5_carries 104 = .ok (.imul, 1) := by decide +kernel
theorem dX5_carries_105 : decode cX5_carries 105 = .ok (.iload 4, 2) := by decide +kernel
theorem dX5_carries_107 : decode cX5_carries 107 = .ok (.iadd, 1) := by decide +kernel
theorem dX5_carries_108 : decode cX5_carries 108 = .ok (.iload 6, 2) := by decide +kernel
theorem dX5_carries_110 : decode cX5_carries 110 = .ok (.iastore, 1) := by decide +kernel
theorem dX5_carries_111 : decode cX5_carries 111 = .ok (.iload 6, 2) := by decide +kernel
theorem dX5_carries_113 : decode cX5_carries 113 = .ok (.ireturn, 1) := by decide +kernel
theorem dX5_ticks_0 : decode cX5_ticks 0 = .ok (.iload_n 1, 1) := by decide +kernel
theorem dX5_ticks_1 : decode cX5_ticks 1 = .ok (.iconst 1, 1) := by decide +kernel
theorem dX5_ticks_2 : decode cX5_ticks 2 = .ok (.if_icmp .lt 9, 3) := by decide +kernel
theorem dX5_ticks_5 : decode cX5_ticks 5 = .ok (.iload_n 1, 1) := by decide +kernel
theorem dX5_ticks_6 : decode cX5_ticks 6 = .ok (.bipush 20, 2) := by decide +kernel
theorem dX5_ticks_8 : decode cX5_ticks 8 = .ok (.if_icmp .le 10, 3) := by decide +kernel
theorem dX5_ticks_11 : decode cX5_ticks 11 = .ok (.aload_n 0, 1) := by decide +kernel
theorem dX5_ticks_12 : decode cX5_ticks 12 = .ok (.bipush (-2), 2) := by decide +kernel
theorem dX5_ticks_14 : decode cX5_ticks 14 = .ok (.invokevirtual 56, 3) := by decide +kernel
theorem dX5_ticks_17 : decode cX5_ticks 17 = .ok (.ireturn, 1) := by decide +kernel
theorem dX5_ticks_18 : decode cX5_ticks 18 = .ok (.aload_n 0, 1) := by decide +kernel
theorem dX5_ticks_19 : decode cX5_ticks 19 = .ok (.invokevirtual 72, 3) := by decide +kernel
theorem dX5_ticks_22 : decode cX5_ticks 22 = .ok (.iconst 0, 1) := by decide +kernel
theorem dX5_ticks_23 : decode cX5_ticks 23 = .ok (.istore_n 2, 1) := by decide +kernel
theorem dX5_ticks_24 : decode cX5_ticks 24 = .ok (.iconst 0, 1) := by decide +kernel
theorem dX5_ticks_25 : decode cX5_ticks 25 = .ok (.istore_n 3, 1) := by decide +kernel
theorem dX5_ticks_26 : decode cX5_ticks 26 = .ok (.iload_n 3, 1) := by decide +kernel
theorem dX5_ticks_27 : decode cX5_ticks 27 = .ok (.iload_n 1, 1) := by decide +kernel
theorem dX5_ticks_28 : decode cX5_ticks 28 = .ok (.if_icmp .ge 33, 3) := by decide +kernel
theorem dX5_ticks_31 : decode cX5_ticks 31 = .ok (.aload_n 0, 1) := by decide +kernel
theorem dX5_ticks_32 : decode cX5_ticks 32 = .ok (.getfield 18, 3) := by decide +kernel
theorem dX5_ticks_35 : decode cX5_ticks 35 = .ok (.dup, 1) := by decide +kernel
theorem dX5_ticks_36 : decode cX5_ticks 36 = .ok (.getfield 82, 3) := by decide +kernel
theorem dX5_ticks_39 : decode cX5_ticks 39 = .ok (.iconst 1, 1) := by decide +kernel
theorem dX5_ticks_40 : decode cX5_ticks 40 = .ok (.iadd, 1) := by decide +kernel
theorem dX5_ticks_41 : decode cX5_ticks 41 = .ok (.putfield 82, 3) := by decide +kernel
theorem dX5_ticks_44 : decode cX5_ticks 44 = .ok (.iload_n 2, 1) := by decide +kernel
theorem dX5_ticks_45 : decode cX5_ticks 45 = .ok (.aload_n 0, 1) := by decide +kernel
theorem dX5_ticks_46 : decode cX5_ticks 46 = .ok (.invokevirtual 124, 3) := by decide +kernel
theorem dX5_ticks_49 : decode cX5_ticks 49 = .ok (.iadd, 1) := by decide +kernel
theorem dX5_ticks_50 : decode cX5_ticks 50 = .ok (.istore_n 2, 1) := by decide +kernel
theorem dX5_ticks_51 : decode cX5_ticks 51 = .ok (.aload_n 0, 1) := by decide +kernel
theorem dX5_ticks_52 : decode cX5_ticks 52 = .ok (.invokevirtual 128, 3) := by decide +kernel
theorem dX5_ticks_55 : decode cX5_ticks 55 = .ok (.iinc 3 1, 3) := by decide +kernel
theorem dX5_ticks_58 : decode cX5_ticks 58 = .ok (.goto (-32), 3) := by decide +kernel
theorem dX5_ticks_61 : decode cX5_ticks 61 = .ok (.iload_n 2, 1) := by decide +kernel
theorem dX5_ticks_62 : decode cX5_ticks 62 = .ok (.ireturn, 1) := by decide +kernel
theorem dX5_limit_0 : decode cX5_limit 0 = .ok (.iload_n 1, 1) := by decide +kernel
theorem dX5_limit_1 : decode cX5_limit 1 = .ok (.iconst 1, 1) := by decide +kernel
theorem dX5_limit_2 : decode cX5_limit 2 = .ok (.if_icmp .lt 9, 3) := by decide +kernel
theorem dX5_limit_5 : decode cX5_limit 5 = .ok (.iload_n 1, 1) := by decide +kernel
theorem dX5_limit_6 : decode cX5_limit 6 = .ok (.bipush 20, 2) := by decide +kernel
theorem dX5_limit_8 : decode cX5_limit 8 = .ok (.if_icmp .le 10, 3) := by decide +kernel
theorem dX5_limit_11 : decode cX5_limit 11 = .ok (.aload_n 0, 1) := by decide +kernel
theorem dX5_limit_12 : decode cX5_limit 12 = .ok (.bipush (-2), 2) := by decide +kernel
theorem dX5_limit_14 : decode cX5_limit 14 = .ok (.invokevirtual 56, 3) := by decide +kernel
theorem dX5_limit_17 : decode cX5_limit 17 = .ok (.ireturn, 1) := by decide +kernel
theorem dX5_limit_18 : decode cX5_limit 18 = .ok (.aload_n 0, 1) := by decide +kernel
theorem dX5_limit_19 : decode cX5_limit 19 = .ok (.invokevirtual 72, 3) := by decide +kernel
theorem dX5_limit_22 : decode cX5_limit 22 = .ok (.aload_n 0, 1) := by decide +kernel
theorem dX5_limit_23 : decode cX5_limit 23 = .ok (.getfield 18, 3) := by decide +kernel
theorem dX5_limit_26 : decode cX5_limit 26 = .ok (.getfield 131, 3) := by decide +kernel
theorem dX5_limit_29 : decode cX5_limit 29 = .ok (.istore_n 2, 1) := by decide +kernel
theorem dX5_limit_30 : decode cX5_limit 30 = .ok (.aload_n 0, 1) := by decide +kernel
theorem dX5_limit_31 : decode cX5_limit 31 = .ok (.getfield 18, 3) := by decide +kernel
theorem dX5_limit_34 : decode cX5_limit 34 = .ok (.iload_n 1, 1) := by decide +kernel
theorem dX5_limit_35 : decode cX5_limit 35 = .ok (.putfield 131, 3) := by decide +kernel
theorem dX5_limit_38 : decode cX5_limit 38 = .ok (.iload_n 2, 1) := by decide +kernel
theorem dX5_limit_39 : decode cX5_limit 39 = .ok (.ireturn, 1) := by decide +kernel
theorem dX5_writer_0 : decode cX5_writer 0 = .ok (.iload_n 1, 1) := by decide +kernel
theorem dX5_writer_1 : decode cX5_writer 1 = .ok (.iconst 4, 1) := by decide +kernel
theorem dX5_writer_2 : decode cX5_writer 2 = .ok (.invokestatic 52, 3) := by decide +kernel
theorem dX5_writer_5 : decode cX5_writer 5 = .ok (.ifCond .ne 12, 3) := by decide +kernel
theorem dX5_writer_8 : decode cX5_writer 8 = .ok (.iload_n 2, 1) := by decide +kernel
theorem dX5_writer_9 : decode cX5_writer 9 = .ok (.bipush 9, 2) := by decide +kernel
theorem dX5_writer_11 : decode cX5_writer 11 = .ok (.invokestatic 52, 3) := by decide +kernel
theorem dX5_writer_14 : decode cX5_writer 14 = .ok (.ifCond .eq 10, 3) := by decide +kernel
theorem dX5_writer_17 : decode cX5_writer 17 = .ok (.aload_n 0, 1) := by decide +kernel
theorem dX5_writer_18 : decode cX5_writer 18 = .ok (.bipush (-2), 2) := by decide +kernel
theorem dX5_writer_20 : decode cX5_writer 20 = .ok (.invokevirtual 56, 3) := by decide +kernel
theorem dX5_writer_23 : decode cX5_writer 23 = .ok (.ireturn, 1) := by decide +kernel
theorem dX5_writer_24 : decode cX5_writer 24 = .ok (.aload_n 0, 1) := by decide +kernel
theorem dX5_writer_25 : decode cX5_writer 25 = .ok (.getfield 18, 3) := by decide +kernel
theorem dX5_writer_28 : decode cX5_writer 28 = .ok (.getfield 60, 3) := by decide +kernel
theorem dX5_writer_31 : decode cX5_writer 31 = .ok (.iload_n 1, 1) := by decide +kernel
theorem dX5_writer_32 : decode cX5_writer 32 = .ok (.aaload, 1) := by decide +kernel
theorem dX5_writer_33 : decode cX5_writer 33 = .ok (.astore_n 3, 1) := by decide +kernel
theorem dX5_writer_34 : decode cX5_writer 34 = .ok (.iload_n 2, 1) := by decide +kernel
theorem dX5_writer_35 : decode cX5_writer 35 = .ok (.tableswitch 87 0 5 #[37, 42, 47, 52, 57, 62], 37) := by decide +kernel
theorem dX5_writer_72 : decode cX5_writer 72 = .ok (.aload_n 3, 1) := by decide +kernel
theorem dX5_writer_73 : decode cX5_writer 73 = .ok (.getfield 69, 3) := by decide +kernel
theorem dX5_writer_76 : decode cX5_writer 76 = .ok (.ireturn, 1) := by decide +kernel
theorem dX5_writer_77 : decode cX5_writer 77 = .ok (.aload_n 3, 1) := by decide +kernel
theorem dX5_writer_78 : decode cX5_writer 78 = .ok (.getfield 64, 3) := by decide +kernel
theorem dX5_writer_81 : decode cX5_writer 81 = .ok (.ireturn, 1) := by decide +kernel
theorem dX5_writer_82 : decode cX5_writer 82 = .ok (.aload_n 3, 1) := by decide +kernel
theorem dX5_writer_83 : decode cX5_writer 83 = .ok (.invokevirtual 134, 3) := by decide +kernel
theorem dX5_writer_86 : decode cX5_writer 86 = .ok (.ireturn, 1) := by decide +kernel
theorem dX5_writer_87 : decode cX5_writer 87 = .ok (.aload_n 3, 1) := by decide +kernel
theorem dX5_writer_88 : decode cX5_writer 88 = .ok (.invokevirtual 137, 3) := by decide +kernel
theorem dX5_writer_91 : decode cX5_writer 91 = .ok (.ireturn, 1) := by decide +kernel
theorem dX5_writer_92 : decode cX5_writer 92 = .ok (.aload_n 3, 1) := by decide +kernel
theorem dX5_writer_93 : decode cX5_writer 93 = .ok (.getfield 140, 3) := by decide +kernel
theorem dX5_writer_96 : decode cX5_writer 96 = .ok (.ireturn, 1) := by decide +kernel
theorem dX5_writer_97 : decode cX5_writer 97 = .ok (.aload_n 3, 1) := by decide +kernel
theorem dX5_writer_98 : decode cX5_writer 98 = .ok (.getfield 64, 3) := by decide +kernel
theorem dX5_writer_101 : decode cX5_writer 101 = .ok (.iconst 1, 1) := by decide +kernel
theorem dX5_writer_102 : decode cX5_writer 102 = .ok (.if_icmp .ne 18, 3) := by decide +kernel
