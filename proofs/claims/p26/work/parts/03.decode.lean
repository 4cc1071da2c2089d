theorem dX0_init_0 : decode cX0_init 0 = .ok (.aload_n 0, 1) := by decide +kernel
theorem dX0_init_1 : decode cX0_init 1 = .ok (.invokespecial 3, 3) := by decide +kernel
theorem dX0_init_4 : decode cX0_init 4 = .ok (.aload_n 0, 1) := by decide +kernel
theorem dX0_init_5 : decode cX0_init 5 = .ok (.bipush 36, 2) := by decide +kernel
theorem dX0_init_7 : decode cX0_init 7 = .ok (.newarray .int, 2) := by decide +kernel
theorem dX0_init_9 : decode cX0_init 9 = .ok (.putfield 9, 3) := by decide +kernel
theorem dX0_init_12 : decode cX0_init 12 = .ok (.aload_n 0, 1) := by decide +kernel
theorem dX0_init_13 : decode cX0_init 13 = .ok (.bipush 6, 2) := by decide +kernel
theorem dX0_init_15 : decode cX0_init 15 = .ok (.newarray .int, 2) := by decide +kernel
theorem dX0_init_17 : decode cX0_init 17 = .ok (.putfield 15, 3) := by decide +kernel
theorem dX0_init_20 : decode cX0_init 20 = .ok (.return_, 1) := by decide +kernel
theorem dX0_copyFrom_0 : decode cX0_copyFrom 0 = .ok (.aload_n 1, 1) := by decide +kernel
theorem dX0_copyFrom_1 : decode cX0_copyFrom 1 = .ok (.getfield 9, 3) := by decide +kernel
theorem dX0_copyFrom_4 : decode cX0_copyFrom 4 = .ok (.iconst 0, 1) := by decide +kernel
theorem dX0_copyFrom_5 : decode cX0_copyFrom 5 = .ok (.aload_n 0, 1) := by decide +kernel
theorem dX0_copyFrom_6 : decode cX0_copyFrom 6 = .ok (.getfield 9, 3) := by decide +kernel
theorem dX0_copyFrom_9 : decode cX0_copyFrom 9 = .ok (.iconst 0, 1) := by decide +kernel
theorem dX0_copyFrom_10 : decode cX0_copyFrom 10 = .ok (.bipush 36, 2) := by decide +kernel
theorem dX0_copyFrom_12 : decode cX0_copyFrom 12 = .ok (.invokestatic 18, 3) := by decide +kernel
theorem dX0_copyFrom_15 : decode cX0_copyFrom 15 = .ok (.aload_n 1, 1) := by decide +kernel
theorem dX0_copyFrom_16 : decode cX0_copyFrom 16 = .ok (.getfield 15, 3) := by decide +kernel
theorem dX0_copyFrom_19 : decode cX0_copyFrom 19 = .ok (.iconst 0, 1) := by decide +kernel
theorem dX0_copyFrom_20 : decode cX0_copyFrom 20 = .ok (.aload_n 0, 1) := by decide +kernel
theorem dX0_copyFrom_21 : decode cX0_copyFrom 21 = .ok (.getfield 15, 3) := by decide +kernel
theorem dX0_copyFrom_24 : decode cX0_copyFrom 24 = .ok (.iconst 0, 1) := by decide +kernel
theorem dX0_copyFrom_25 : decode cX0_copyFrom 25 = .ok (.bipush 6, 2) := by decide +kernel
theorem dX0_copyFrom_27 : decode cX0_copyFrom 27 = .ok (.invokestatic 18, 3) := by decide +kernel
theorem dX0_copyFrom_30 : decode cX0_copyFrom 30 = .ok (.return_, 1) := by decide +kernel
theorem dX0_size_0 : decode cX0_size 0 = .ok (.aload_n 0, 1) := by decide +kernel
theorem dX0_size_1 : decode cX0_size 1 = .ok (.getfield 15, 3) := by decide +kernel
theorem dX0_size_4 : decode cX0_size 4 = .ok (.iload_n 1, 1) := by decide +kernel
theorem dX0_size_5 : decode cX0_size 5 = .ok (.iaload, 1) := by decide +kernel
theorem dX0_size_6 : decode cX0_size 6 = .ok (.ireturn, 1) := by decide +kernel
theorem dX0_sizeOfAll_0 : decode cX0_sizeOfAll 0 = .ok (.iconst 0, 1) := by decide +kernel
theorem dX0_sizeOfAll_1 : decode cX0_sizeOfAll 1 = .ok (.istore_n 1, 1) := by decide +kernel
theorem dX0_sizeOfAll_2 : decode cX0_sizeOfAll 2 = .ok (.iconst 0, 1) := by decide +kernel
theorem dX0_sizeOfAll_3 : decode cX0_sizeOfAll 3 = .ok (.istore_n 2, 1) := by decide +kernel
theorem dX0_sizeOfAll_4 : decode cX0_sizeOfAll 4 = .ok (.iload_n 2, 1) := by decide +kernel
theorem dX0_sizeOfAll_5 : decode cX0_sizeOfAll 5 = .ok (.bipush 6, 2) := by decide +kernel
theorem dX0_sizeOfAll_7 : decode cX0_sizeOfAll 7 = .ok (.if_icmp .ge 18, 3) := by decide +kernel
theorem dX0_sizeOfAll_10 : decode cX0_sizeOfAll 10 = .ok (.iload_n 1, 1) := by decide +kernel
theorem dX0_sizeOfAll_11 : decode cX0_sizeOfAll 11 = .ok (.aload_n 0, 1) := by decide +kernel
theorem dX0_sizeOfAll_12 : decode cX0_sizeOfAll 12 = .ok (.getfield 15, 3) := by decide +kernel
theorem dX0_sizeOfAll_15 : decode cX0_sizeOfAll 15 = .ok (.iload_n 2, 1) := by decide +kernel
theorem dX0_sizeOfAll_16 : decode cX0_sizeOfAll 16 = .ok (.iaload, 1) := by decide +kernel
theorem dX0_sizeOfAll_17 : decode cX0_sizeOfAll 17 = .ok (.iadd, 1) := by decide +kernel
theorem dX0_sizeOfAll_18 : decode cX0_sizeOfAll 18 = .ok (.istore_n 1, 1) := by decide +kernel
theorem dX0_sizeOfAll_19 : decode cX0_sizeOfAll 19 = .ok (.iinc 2 1, 3) := by decide +kernel
theorem dX0_sizeOfAll_22 : decode cX0_sizeOfAll 22 = .ok (.goto (-18), 3) := by decide +kernel
theorem dX0_sizeOfAll_25 : decode cX0_sizeOfAll 25 = .ok (.iload_n 1, 1) := by decide +kernel
theorem dX0_sizeOfAll_26 : decode cX0_sizeOfAll 26 = .ok (.ireturn, 1) := by decide +kernel
theorem dX0_first_0 : decode cX0_first 0 = .ok (.aload_n 0, 1) := by decide +kernel
theorem dX0_first_1 : decode cX0_first 1 = .ok (.getfield 15, 3) := by decide +kernel
theorem dX0_first_4 : decode cX0_first 4 = .ok (.iload_n 1, 1) := by decide +kernel
theorem dX0_first_5 : decode cX0_first 5 = .ok (.iaload, 1) := by decide +kernel
theorem dX0_first_6 : decode cX0_first 6 = .ok (.ifCond .ne 8, 3) := by decide +kernel
theorem dX0_first_9 : decode cX0_first 9 = .ok (.bipush (-5), 2) := by decide +kernel
theorem dX0_first_11 : decode cX0_first 11 = .ok (.goto 12, 3) := by decide +kernel
theorem dX0_first_14 : decode cX0_first 14 = .ok (.aload_n 0, 1) := by decide +kernel
theorem dX0_first_15 : decode cX0_first 15 = .ok (.getfield 9, 3) := by decide +kernel
theorem dX0_first_18 : decode cX0_first 18 = .ok (.iload_n 1, 1) := by decide +kernel
theorem dX0_first_19 : decode cX0_first 19 = .ok (.bipush 6, 2) := by decide +kernel
theorem dX0_first_21 : decode cX0_first 21 = .ok (.imul, 1) := by decide +kernel
theorem dX0_first_22 : decode cX0_first 22 = .ok (.iaload, 1) := by decide +kernel
theorem dX0_first_23 : decode cX0_first 23 = .ok (.ireturn, 1) := by decide +kernel
theorem dX0_placeOf_0 : decode cX0_placeOf 0 = .ok (.iconst 0, 1) := by decide +kernel
theorem dX0_placeOf_1 : decode cX0_placeOf 1 = .ok (.istore_n 3, 1) := by decide +kernel
theorem dX0_placeOf_2 : decode cX0_placeOf 2 = .ok (.iload_n 3, 1) := by decide +kernel
theorem dX0_placeOf_3 : decode cX0_placeOf 3 = .ok (.aload_n 0, 1) := by decide +kernel
theorem dX0_placeOf_4 : decode cX0_placeOf 4 = .ok (.getfield 15, 3) := by decide +kernel
theorem dX0_placeOf_7 : decode cX0_placeOf 7 = .ok (.iload_n 2, 1) := by decide +kernel
theorem dX0_placeOf_8 : decode cX0_placeOf 8 = .ok (.iaload, 1) := by decide +kernel
theorem dX0_placeOf_9 : decode cX0_placeOf 9 = .ok (.if_icmp .ge 26, 3) := by decide +kernel
theorem dX0_placeOf_12 : decode cX0_placeOf 12 = .ok (.aload_n 0, 1) := by decide +kernel
theorem dX0_placeOf_13 : decode cX0_placeOf 13 = .ok (.getfield 9, 3) := by decide +kernel
theorem dX0_placeOf_16 : decode cX0_placeOf 16 = .ok (.iload_n 2, 1) := by decide +kernel
theorem dX0_placeOf_17 : decode cX0_placeOf 17 = .ok (.bipush 6, 2) := by decide +kernel
theorem dX0_placeOf_19 : decode cX0_placeOf 19 = .ok (.imul, 1) := by decide +kernel
theorem dX0_placeOf_20 : decode cX0_placeOf 20 = .ok (.iload_n 3, 1) := by decide +kernel
theorem dX0_placeOf_21 : decode cX0_placeOf 21 = .ok (.iadd, 1) := by decide +kernel
theorem dX0_placeOf_22 : decode cX0_placeOf 22 = .ok (.iaload, 1) := by decide +kernel
theorem dX0_placeOf_23 : decode cX0_placeOf 23 = .ok (.iload_n 1, 1) := by decide +kernel
theorem dX0_placeOf_24 : decode cX0_placeOf 24 = .ok (.if_icmp .ne 5, 3) := by decide +kernel
theorem dX0_placeOf_27 : decode cX0_placeOf 27 = .ok (.iload_n 3, 1) := by decide +kernel
theorem dX0_placeOf_28 : decode cX0_placeOf 28 = .ok (.ireturn, 1) := by decide +kernel
theorem dX0_placeOf_29 : decode cX0_placeOf 29 = .ok (.iinc 3 1, 3) := by decide +kernel
theorem dX0_placeOf_32 : decode cX0_placeOf 32 = .ok (.goto (-30), 3) := by decide +kernel
theorem dX0_placeOf_35 : decode cX0_placeOf 35 = .ok (.bipush (-5), 2) := by decide +kernel
theorem dX0_placeOf_37 : decode cX0_placeOf 37 = .ok (.ireturn, 1) := by decide +kernel
theorem dX0_append_0 : decode cX0_append 0 = .ok (.aload_n 0, 1) := by decide +kernel
theorem dX0_append_1 : decode cX0_append 1 = .ok (.getfield 9, 3) := by decide +kernel
theorem dX0_append_4 : decode cX0_append 4 = .ok (.iload_n 2, 1) := by decide +kernel
theorem dX0_append_5 : decode cX0_append 5 = .ok (.bipush 6, 2) := by decide +kernel
theorem dX0_append_7 : decode cX0_append 7 = .ok (.imul, 1) := by decide +kernel
theorem dX0_append_8 : decode cX0_append 8 = .ok (.aload_n 0, 1) := by decide +kernel
theorem dX0_append_9 : decode cX0_append 9 = .ok (.getfield 15, 3) := by decide +kernel
theorem dX0_append_12 : decode cX0_append 12 = .ok (.iload_n 2, 1) := by decide +kernel
theorem dX0_append_13 : decode cX0_append 13 = .ok (.iaload, 1) := by decide +kernel
theorem dX0_append_14 : decode cX0_append 14 = .ok (.iadd, 1) := by decide +kernel
theorem dX0_append_15 : decode cX0_append 15 = .ok (.iload_n 1, 1) := by decide +kernel
theorem dX0_append_16 : decode cX0_append 16 = .ok (.iastore, 1) := by decide +kernel
theorem dX0_append_17 : decode cX0_append 17 = .ok (.aload_n 0, 1) := by decide +kernel
theorem dX0_append_18 : decode cX0_append 18 = .ok (.getfield 15, 3) := by decide +kernel
theorem dX0_append_21 : decode cX0_append 21 = .ok (.iload_n 2, 1) := by decide +kernel
theorem dX0_append_22 : decode cX0_append 22 = .ok (.dup2, 1) := by decide +kernel
theorem dX0_append_23 : decode cX0_append 23 = .ok (.iaload, 1) := by decide +kernel
theorem dX0_append_24 : decode cX0_append 24 = .ok (.iconst 1, 1) := by decide +kernel
theorem dX0_append_25 : decode cX0_append 25 = .ok (.iadd, 1) := by decide +kernel
theorem dX0_append_26 : decode cX0_append 26 = .ok (.iastore, 1) := by decide +kernel
theorem dX0_append_27 : decode cX0_append 27 = .ok (.return_, 1) := by decide +kernel
theorem dX0_remove_0 : decode cX0_remove 0 = .ok (.iload_n 1, 1) := by decide +kernel
theorem dX0_remove_1 : decode cX0_remove 1 = .ok (.bipush 6, 2) := by decide +kernel
theorem dX0_remove_3 : decode cX0_remove 3 = .ok (.imul, 1) := by decide +kernel
theorem dX0_remove_4 : decode cX0_remove 4 = .ok (.istore_n 3, 1) := by decide +kernel
theorem dX0_remove_5 : decode cX0_remove 5 = .ok (.aload_n 0, 1) := by decide +kernel
theorem dX0_remove_6 : decode cX0_remove 6 = .ok (.getfield 15, 3) := by decide +kernel
theorem dX0_remove_9 : decode cX0_remove 9 = .ok (.iload_n 1, 1) := by decide +kernel
theorem dX0_remove_10 : decode cX0_remove 10 = .ok (.dup2, 1) := by decide +kernel
theorem dX0_remove_11 : decode cX0_remove 11 = .ok (.iaload, 1) := by decide +kernel
theorem dX0_remove_12 : decode cX0_remove 12 = .ok (.iconst 1, 1) := by decide +kernel
theorem dX0_remove_13 : decode cX0_remove 13 = .ok (.isub, 1) := by decide +kernel
theorem dX0_remove_14 : decode cX0_remove 14 = .ok (.iastore, 1) := by decide +kernel
theorem dX0_remove_15 : decode cX0_remove 15 = .ok (.iload_n 2, 1) := by decide +kernel
theorem dX0_remove_16 : decode cX0_remove 16 = .ok (.istore 4, 2) := by decide +kernel
theorem dX0_remove_18 : decode cX0_remove 18 = .ok (.iload 4, 2) := by decide +kernel
theorem dX0_remove_20 : decode cX0_remove 20 = .ok (.aload_n 0, 1) := by decide +kernel
theorem dX0_remove_21 : decode cX0_remove 21 = .ok (.getfield 15, 3) := by decide +kernel
theorem dX0_remove_24 : decode cX0_remove 24 = .ok (.iload_n 1, 1) := by decide +kernel
theorem dX0_remove_25 : decode cX0_remove 25 = .ok (.iaload, 1) := by decide +kernel
theorem dX0_remove_26 : decode cX0_remove 26 = .ok (.if_icmp .ge 29, 3) := by decide +kernel
theorem dX0_remove_29 : decode cX0_remove 29 = .ok (.aload_n 0, 1) := by decide +kernel
theorem dX0_remove_30 : decode cX0_remove 30 = .ok (.getfield 9, 3) := by decide +kernel
theorem dX0_remove_33 : decode cX0_remove 33 = .ok (.iload_n 3, 1) := by decide +kernel
theorem dX0_remove_34 : decode cX0_remove 34 = .ok (.iload 4, 2) := by decide +kernel
theorem dX0_remove_36 : decode cX0_remove 36 = .ok (.iadd, 1) := by decide +kernel
theorem dX0_remove_37 : decode cX0_remove 37 = .ok (.aload_n 0, 1) := by decide +kernel
theorem dX0_remove_38 : decode cX0_remove 38 = .ok (.getfield 9, 3) := by decide +kernel
theorem dX0_remove_41 : decode cX0_remove 41 = .ok (.iload_n 3, 1) := by decide +kernel
theorem dX0_remove_42 : decode cX0_remove 42 = .ok (.iload 4, 2) := by decide +kernel
theorem dX0_remove_44 : decode cX0_remove 44 = .ok (.iadd, 1) := by decide +kernel
theorem dX0_remove_45 : decode cX0_remove 45 = .ok (.iconst 1, 1) := by decide +kernel
theorem dX0_remove_46 : decode cX0_remove 46 = .ok (.iadd, 1) := by decide +kernel
theorem dX0_remove_47 : decode cX0_remove 47 = .ok (.iaload, 1) := by decide +kernel
theorem dX0_remove_48 : decode cX0_remove 48 = .ok (.iastore, 1) := by decide +kernel
theorem dX0_remove_49 : decode cX0_remove 49 = .ok (.iinc 4 1, 3) := by decide +kernel
theorem dX0_remove_52 : decode cX0_remove 52 = .ok (.goto (-34), 3) := by decide +kernel
theorem dX0_remove_55 : decode cX0_remove 55 = .ok (.return_, 1) := by decide +kernel
theorem dX1_init_0 : decode cX1_init 0 = .ok (.aload_n 0, 1) := by decide +kernel
theorem dX1_init_1 : decode cX1_init 1 = .ok (.invokespecial 3, 3) := by decide +kernel
theorem dX1_init_4 : decode cX1_init 4 = .ok (.aload_n 0, 1) := by decide +kernel
theorem dX1_init_5 : decode cX1_init 5 = .ok (.sipush 384, 3) := by decide +kernel
theorem dX1_init_8 : decode cX1_init 8 = .ok (.newarray .int, 2) := by decide +kernel
theorem dX1_init_10 : decode cX1_init 10 = .ok (.putfield 9, 3) := by decide +kernel
theorem dX1_init_13 : decode cX1_init 13 = .ok (.return_, 1) := by decide +kernel
theorem dX1_run_0 : decode cX1_run 0 = .ok (.aload_n 0, 1) := by decide +kernel
theorem dX1_run_1 : decode cX1_run 1 = .ok (.getfield 9, 3) := by decide +kernel
theorem dX1_run_4 : decode cX1_run 4 = .ok (.iconst (-1), 1) := by decide +kernel
theorem dX1_run_5 : decode cX1_run 5 = .ok (.invokestatic 15, 3) := by decide +kernel
theorem dX1_run_8 : decode cX1_run 8 = .ok (.aload_n 1, 1) := by decide +kernel
theorem dX1_run_9 : decode cX1_run 9 = .ok (.getfield 21, 3) := by decide +kernel
theorem dX1_run_12 : decode cX1_run 12 = .ok (.getfield 27, 3) := by decide +kernel
theorem dX1_run_15 : decode cX1_run 15 = .ok (.istore 4, 2) := by decide +kernel
theorem dX1_run_17 : decode cX1_run 17 = .ok (.aload_n 1, 1) := by decide +kernel
theorem dX1_run_18 : decode cX1_run 18 = .ok (.aload_n 0, 1) := by decide +kernel
theorem dX1_run_19 : decode cX1_run 19 = .ok (.getfield 9, 3) := by decide +kernel
theorem dX1_run_22 : decode cX1_run 22 = .ok (.iload_n 2, 1) := by decide +kernel
theorem dX1_run_23 : decode cX1_run 23 = .ok (.iload_n 3, 1) := by decide +kernel
theorem dX1_run_24 : decode cX1_run 24 = .ok (.iconst 0, 1) := by decide +kernel
theorem dX1_run_25 : decode cX1_run 25 = .ok (.iconst 0, 1) := by decide +kernel
theorem dX1_run_26 : decode cX1_run 26 = .ok (.invokestatic 33, 3) := by decide +kernel
theorem dX1_run_29 : decode cX1_run 29 = .ok (.aload_n 1, 1) := by decide +kernel
theorem dX1_run_30 : decode cX1_run 30 = .ok (.getfield 21, 3) := by decide +kernel
theorem dX1_run_33 : decode cX1_run 33 = .ok (.getfield 27, 3) := by decide +kernel
theorem dX1_run_36 : decode cX1_run 36 = .ok (.iload 4, 2) := by decide +kernel
theorem dX1_run_38 : decode cX1_run 38 = .ok (.isub, 1) := by decide +kernel
theorem dX1_run_39 : decode cX1_run 39 = .ok (.ireturn, 1) := by decide +kernel
theorem dX1_gatherFor_0 : decode cX1_gatherFor 0 = .ok (.aload_n 0, 1) := by decide +kernel
theorem dX1_gatherFor_1 : decode cX1_gatherFor 1 = .ok (.getfield 21, 3) := by decide +kernel
theorem dX1_gatherFor_4 : decode cX1_gatherFor 4 = .ok (.astore 6, 2) := by decide +kernel
theorem dX1_gatherFor_6 : decode cX1_gatherFor 6 = .ok (.aload 6, 2) := by decide +kernel
theorem dX1_gatherFor_8 : decode cX1_gatherFor 8 = .ok (.getfield 27, 3) := by decide +kernel
theorem dX1_gatherFor_11 : decode cX1_gatherFor 11 = .ok (.istore 7, 2) := by decide +kernel
theorem dX1_gatherFor_13 : decode cX1_gatherFor 13 = .ok (.iload 4, 2) := by decide +kernel
theorem dX1_gatherFor_15 : decode cX1_gatherFor 15 = .ok (.bipush 6, 2) := by decide +kernel
theorem dX1_gatherFor_17 : decode cX1_gatherFor 17 = .ok (.imul, 1) := by decide +kernel
theorem dX1_gatherFor_18 : decode cX1_gatherFor 18 = .ok (.iload_n 2, 1) := by decide +kernel
theorem dX1_gatherFor_19 : decode cX1_gatherFor 19 = .ok (.iadd, 1) := by decide +kernel
theorem dX1_gatherFor_20 : decode cX1_gatherFor 20 = .ok (.istore 8, 2) := by decide +kernel
theorem dX1_gatherFor_22 : decode cX1_gatherFor 22 = .ok (.iload 4, 2) := by decide +kernel
theorem dX1_gatherFor_24 : decode cX1_gatherFor 24 = .ok (.iconst 1, 1) := by decide +kernel
theorem dX1_gatherFor_25 : decode cX1_gatherFor 25 = .ok (.iload_n 2, 1) := by decide +kernel
theorem dX1_gatherFor_26 : decode cX1_gatherFor 26 = .ok (.ishl, 1) := by decide +kernel
theorem dX1_gatherFor_27 : decode cX1_gatherFor 27 = .ok (.ior, 1) := by decide +kernel
theorem dX1_gatherFor_28 : decode cX1_gatherFor 28 = .ok (.istore 9, 2) := by decide +kernel
theorem dX1_gatherFor_30 : decode cX1_gatherFor 30 = .ok (.iload 5, 2) := by decide +kernel
theorem dX1_gatherFor_32 : decode cX1_gatherFor 32 = .ok (.bipush 6, 2) := by decide +kernel
theorem dX1_gatherFor_34 : decode cX1_gatherFor 34 = .ok (.if_icmp .ge 12, 3) := by decide +kernel
theorem dX1_gatherFor_37 : decode cX1_gatherFor 37 = .ok (.aload_n 1, 1) := by decide +kernel
theorem dX1_gatherFor_38 : decode cX1_gatherFor 38 = .ok (.iload 8, 2) := by decide +kernel
theorem dX1_gatherFor_40 : decode cX1_gatherFor 40 = .ok (.iaload, 1) := by decide +kernel
theorem dX1_gatherFor_41 : decode cX1_gatherFor 41 = .ok (.iload 7, 2) := by decide +kernel
theorem dX1_gatherFor_43 : decode cX1_gatherFor 43 = .ok (.if_icmp .ne 4, 3) := by decide +kernel
theorem dX1_gatherFor_46 : decode cX1_gatherFor 46 = .ok (.return_, 1) := by decide +kernel
theorem dX1_gatherFor_47 : decode cX1_gatherFor 47 = .ok (.aload 6, 2) := by decide +kernel
theorem dX1_gatherFor_49 : decode cX1_gatherFor 49 = .ok (.sipush 1000, 3) := by decide +kernel
theorem dX1_gatherFor_52 : decode cX1_gatherFor 52 = .ok (.iload_n 2, 1) := by decide +kernel
theorem dX1_gatherFor_53 : decode cX1_gatherFor 53 = .ok (.iload_n 3, 1) := by decide +kernel
theorem dX1_gatherFor_54 : decode cX1_gatherFor 54 = .ok (.invokevirtual 37, 3) := by decide +kernel
theorem dX1_gatherFor_57 : decode cX1_gatherFor 57 = .ok (.istore 10, 2) := by decide +kernel
theorem dX1_gatherFor_59 : decode cX1_gatherFor 59 = .ok (.iconst 0, 1) := by decide +kernel
theorem dX1_gatherFor_60 : decode cX1_gatherFor 60 = .ok (.istore 11, 2) := by decide +kernel
theorem dX1_gatherFor_62 : decode cX1_gatherFor 62 = .ok (.iload 11, 2) := by decide +kernel
theorem dX1_gatherFor_64 : decode cX1_gatherFor 64 = .ok (.bipush 40, 2) := by decide +kernel
theorem dX1_gatherFor_66 : decode cX1_gatherFor 66 = .ok (.if_icmp .ge 61, 3) := by decide +kernel
theorem dX1_gatherFor_69 : decode cX1_gatherFor 69 = .ok (.iload 10, 2) := by decide +kernel
theorem dX1_gatherFor_71 : decode cX1_gatherFor 71 = .ok (.ifCond .lt 56, 3) := by decide +kernel
theorem dX1_gatherFor_74 : decode cX1_gatherFor 74 = .ok (.aload_n 0, 1) := by decide +kernel
theorem dX1_gatherFor_75 : decode cX1_gatherFor 75 = .ok (.iload 10, 2) := by decide +kernel
theorem dX1_gatherFor_77 : decode cX1_gatherFor 77 = .ok (.iload 9, 2) := by decide +kernel
theorem dX1_gatherFor_79 : decode cX1_gatherFor 79 = .ok (.invokestatic 41, 3) := by decide +kernel
theorem dX1_gatherFor_82 : decode cX1_gatherFor 82 = .ok (.istore 12, 2) := by decide +kernel
theorem dX1_gatherFor_84 : decode cX1_gatherFor 84 = .ok (.iload 12, 2) := by decide +kernel
theorem dX1_gatherFor_86 : decode cX1_gatherFor 86 = .ok (.ifCond .lt 17, 3) := by decide +kernel
theorem dX1_gatherFor_89 : decode cX1_gatherFor 89 = .ok (.aload_n 0, 1) := by decide +kernel
theorem dX1_gatherFor_90 : decode cX1_gatherFor 90 = .ok (.aload_n 1, 1) := by decide +kernel
theorem dX1_gatherFor_91 : decode cX1_gatherFor 91 = .ok (.iload 12, 2) := by decide +kernel
theorem dX1_gatherFor_93 : decode cX1_gatherFor 93 = .ok (.iload_n 3, 1) := by decide +kernel
theorem dX1_gatherFor_94 : decode cX1_gatherFor 94 = .ok (.iload 9, 2) := by decide +kernel
theorem dX1_gatherFor_96 : decode cX1_gatherFor 96 = .ok (.iload 5, 2) := by decide +kernel
theorem dX1_gatherFor_98 : decode cX1_gatherFor 98 = .ok (.iconst 1, 1) := by decide +kernel
theorem dX1_gatherFor_99 : decode cX1_gatherFor 99 = .ok (.iadd, 1) := by decide +kernel
theorem dX1_gatherFor_100 : decode cX1_gatherFor 100 = .ok (.invokestatic 33, 3) := by decide +kernel
theorem dX1_gatherFor_103 : decode cX1_gatherFor 103 = .ok (.aload_n 0, 1) := by decide +kernel
theorem dX1_gatherFor_104 : decode cX1_gatherFor 104 = .ok (.iload 10, 2) := by decide +kernel
theorem dX1_gatherFor_106 : decode cX1_gatherFor 106 = .ok (.invokevirtual 45, 3) := by decide +kernel
theorem dX1_gatherFor_109 : decode cX1_gatherFor 109 = .ok (.pop, 1) := by decide +kernel
theorem dX1_gatherFor_110 : decode cX1_gatherFor 110 = .ok (.aload 6, 2) := by decide +kernel
theorem dX1_gatherFor_112 : decode cX1_gatherFor 112 = .ok (.iload 10, 2) := by decide +kernel
theorem dX1_gatherFor_114 : decode cX1_gatherFor 114 = .ok (.iload_n 2, 1) := by decide +kernel
theorem dX1_gatherFor_115 : decode cX1_gatherFor 115 = .ok (.iload_n 3, 1) := by decide +kernel
theorem dX1_gatherFor_116 : decode cX1_gatherFor 116 = .ok (.invokevirtual 37, 3) := by decide +kernel
theorem dX1_gatherFor_119 : decode cX1_gatherFor 119 = .ok (.istore 10, 2) := by decide +kernel
theorem dX1_gatherFor_121 : decode cX1_gatherFor 121 = .ok (.iinc 11 1, 3) := by decide +kernel
theorem dX1_gatherFor_124 : decode cX1_gatherFor 124 = .ok (.goto (-62), 3) := by decide +kernel
theorem dX1_gatherFor_127 : decode cX1_gatherFor 127 = .ok (.aload 6, 2) := by decide +kernel
theorem dX1_gatherFor_129 : decode cX1_gatherFor 129 = .ok (.getfield 27, 3) := by decide +kernel
theorem dX1_gatherFor_132 : decode cX1_gatherFor 132 = .ok (.iload 7, 2) := by decide +kernel
theorem dX1_gatherFor_134 : decode cX1_gatherFor 134 = .ok (.if_icmp .ne 9, 3) := by decide +kernel
theorem dX1_gatherFor_137 : decode cX1_gatherFor 137 = .ok (.aload_n 1, 1) := by decide +kernel
theorem dX1_gatherFor_138 : decode cX1_gatherFor 138 = .ok (.iload 8, 2) := by decide +kernel
theorem dX1_gatherFor_140 : decode cX1_gatherFor 140 = .ok (.iload 7, 2) := by decide +kernel
theorem dX1_gatherFor_142 : decode cX1_gatherFor 142 = .ok (.iastore, 1) := by decide +kernel
theorem dX1_gatherFor_143 : decode cX1_gatherFor 143 = .ok (.return_, 1) := by decide +kernel
theorem dX1_needyBorrower_0 : decode cX1_needyBorrower 0 = .ok (.aload_n 0, 1) := by decide +kernel
theorem dX1_needyBorrower_1 : decode cX1_needyBorrower 1 = .ok (.getfield 21, 3) := by decide +kernel
theorem dX1_needyBorrower_4 : decode cX1_needyBorrower 4 = .ok (.iload_n 1, 1) := by decide +kernel
theorem dX1_needyBorrower_5 : decode cX1_needyBorrower 5 = .ok (.invokevirtual 49, 3) := by decide +kernel
theorem dX1_needyBorrower_8 : decode cX1_needyBorrower 8 = .ok (.istore_n 3, 1) := by decide +kernel
theorem dX1_needyBorrower_9 : decode cX1_needyBorrower 9 = .ok (.iload_n 3, 1) := by decide +kernel
theorem dX1_needyBorrower_10 : decode cX1_needyBorrower 10 = .ok (.ifCond .ge 5, 3) := by decide +kernel
theorem dX1_needyBorrower_13 : decode cX1_needyBorrower 13 = .ok (.iconst (-1), 1) := by decide +kernel
theorem dX1_needyBorrower_14 : decode cX1_needyBorrower 14 = .ok (.ireturn, 1) := by decide +kernel
theorem dX1_needyBorrower_15 : decode cX1_needyBorrower 15 = .ok (.aload_n 0, 1) := by decide +kernel
theorem dX1_needyBorrower_16 : decode cX1_needyBorrower 16 = .ok (.getfield 21, 3) := by decide +kernel
theorem dX1_needyBorrower_19 : decode cX1_needyBorrower 19 = .ok (.getfield 52, 3) := by decide +kernel
theorem dX1_needyBorrower_22 : decode cX1_needyBorrower 22 = .ok (.iload_n 3, 1) := by decide +kernel
theorem dX1_needyBorrower_23 : decode cX1_needyBorrower 23 = .ok (.iaload, 1) := by decide +kernel
theorem dX1_needyBorrower_24 : decode cX1_needyBorrower 24 = .ok (.istore 4, 2) := by decide +kernel
theorem dX1_needyBorrower_26 : decode cX1_needyBorrower 26 = .ok (.iload_n 2, 1) := by decide +kernel
theorem dX1_needyBorrower_27 : decode cX1_needyBorrower 27 = .ok (.iload 4, 2) := by decide +kernel
theorem dX1_needyBorrower_29 : decode cX1_needyBorrower 29 = .ok (.ishr, 1) := by decide +kernel
theorem dX1_needyBorrower_30 : decode cX1_needyBorrower 30 = .ok (.iconst 1, 1) := by decide +kernel
theorem dX1_needyBorrower_31 : decode cX1_needyBorrower 31 = .ok (.iand, 1) := by decide +kernel
theorem dX1_needyBorrower_32 : decode cX1_needyBorrower 32 = .ok (.ifCond .eq 7, 3) := by decide +kernel
theorem dX1_needyBorrower_35 : decode cX1_needyBorrower 35 = .ok (.iconst 1, 1) := by decide +kernel
theorem dX1_needyBorrower_36 : decode cX1_needyBorrower 36 = .ok (.goto 4, 3) := by decide +kernel
theorem dX1_needyBorrower_39 : decode cX1_needyBorrower 39 = .ok (.iconst 0, 1) := by decide +kernel
theorem dX1_needyBorrower_40 : decode cX1_needyBorrower 40 = .ok (.istore 5, 2) := by decide +kernel
theorem dX1_needyBorrower_42 : decode cX1_needyBorrower 42 = .ok (.aload_n 0, 1) := by decide +kernel
theorem dX1_needyBorrower_43 : decode cX1_needyBorrower 43 = .ok (.iload 4, 2) := by decide +kernel
theorem dX1_needyBorrower_45 : decode cX1_needyBorrower 45 = .ok (.aload_n 0, 1) := by decide +kernel
theorem dX1_needyBorrower_46 : decode cX1_needyBorrower 46 = .ok (.getfield 21, 3) := by decide +kernel
theorem dX1_needyBorrower_49 : decode cX1_needyBorrower 49 = .ok (.getfield 55, 3) := by decide +kernel
theorem dX1_needyBorrower_52 : decode cX1_needyBorrower 52 = .ok (.iload_n 3, 1) := by decide +kernel
theorem dX1_needyBorrower_53 : decode cX1_needyBorrower 53 = .ok (.iaload, 1) := by decide +kernel
theorem dX1_needyBorrower_54 : decode cX1_needyBorrower 54 = .ok (.invokevirtual 58, 3) := by decide +kernel
theorem dX1_needyBorrower_57 : decode cX1_needyBorrower 57 = .ok (.aload_n 0, 1) := by decide +kernel
theorem dX1_needyBorrower_58 : decode cX1_needyBorrower 58 = .ok (.getfield 21, 3) := by decide +kernel
theorem dX1_needyBorrower_61 : decode cX1_needyBorrower 61 = .ok (.getfield 62, 3) := by decide +kernel
theorem dX1_needyBorrower_64 : decode cX1_needyBorrower 64 = .ok (.iload_n 3, 1) := by decide +kernel
theorem dX1_needyBorrower_65 : decode cX1_needyBorrower 65 = .ok (.iaload, 1) := by decide +kernel
theorem dX1_needyBorrower_66 : decode cX1_needyBorrower 66 = .ok (.if_icmp .lt 7, 3) := by decide +kernel
theorem dX1_needyBorrower_69 : decode cX1_needyBorrower 69 = .ok (.iconst 1, 1) := by decide +kernel
theorem dX1_needyBorrower_70 : decode cX1_needyBorrower 70 = .ok (.goto 4, 3) := by decide +kernel
theorem dX1_needyBorrower_73 : decode cX1_needyBorrower 73 = .ok (.iconst 0, 1) := by decide +kernel
theorem dX1_needyBorrower_74 : decode cX1_needyBorrower 74 = .ok (.istore 6, 2) := by decide +kernel
theorem dX1_needyBorrower_76 : decode cX1_needyBorrower 76 = .ok (.iload 5, 2) := by decide +kernel
theorem dX1_needyBorrower_78 : decode cX1_needyBorrower 78 = .ok (.ifCond .ne 8, 3) := by decide +kernel
theorem dX1_needyBorrower_81 : decode cX1_needyBorrower 81 = .ok (.iload 6, 2) := by decide +kernel
theorem dX1_needyBorrower_83 : decode cX1_needyBorrower 83 = .ok (.ifCond .eq 7, 3) := by decide +kernel
theorem dX1_needyBorrower_86 : decode cX1_needyBorrower 86 = .ok (.iconst (-1), 1) := by decide +kernel
theorem dX1_needyBorrower_87 : decode cX1_needyBorrower 87 = .ok (.goto 5, 3) := by decide +kernel
theorem dX1_needyBorrower_90 : decode cX1_needyBorrower 90 = .ok (.iload 4, 2) := by decide +kernel
theorem dX1_needyBorrower_92 : decode cX1_needyBorrower 92 = .ok (.ireturn, 1) := by decide +kernel
theorem dX2_init_0 : decode cX2_init 0 = .ok (.aload_n 0, 1) := by decide +kernel
theorem dX2_init_1 : decode cX2_init 1 = .ok (.invokespecial 3, 3) := by decide +kernel
theorem dX2_init_4 : decode cX2_init 4 = .ok (.aload_n 0, 1) := by decide +kernel
theorem dX2_init_5 : decode cX2_init 5 = .ok (.iconst 5, 1) := by decide +kernel
theorem dX2_init_6 : decode cX2_init 6 = .ok (.anewarray 11, 3) := by decide +kernel
theorem dX2_init_9 : decode cX2_init 9 = .ok (.putfield 13, 3) := by decide +kernel
theorem dX2_init_12 : decode cX2_init 12 = .ok (.iconst 0, 1) := by decide +kernel
theorem dX2_init_13 : decode cX2_init 13 = .ok (.istore_n 1, 1) := by decide +kernel
theorem dX2_init_14 : decode cX2_init 14 = .ok (.iload_n 1, 1) := by decide +kernel
theorem dX2_init_15 : decode cX2_init 15 = .ok (.iconst 5, 1) := by decide +kernel
theorem dX2_init_16 : decode cX2_init 16 = .ok (.if_icmp .ge 22, 3) := by decide +kernel
theorem dX2_init_19 : decode cX2_init 19 = .ok (.aload_n 0, 1) := by decide +kernel
theorem dX2_init_20 : decode cX2_init 20 = .ok (.getfield 13, 3) := by decide +kernel
theorem dX2_init_23 : decode cX2_init 23 = .ok (.iload_n 1, 1) := by decide +kernel
theorem dX2_init_24 : decode cX2_init 24 = .ok (.new 11, 3) := by decide +kernel
theorem dX2_init_27 : decode cX2_init 27 = .ok (.dup, 1) := by decide +kernel
theorem dX2_init_28 : decode cX2_init 28 = .ok (.invokespecial 17, 3) := by decide +kernel
theorem dX2_init_31 : decode cX2_init 31 = .ok (.aastore, 1) := by decide +kernel
theorem dX2_init_32 : decode cX2_init 32 = .ok (.iinc 1 1, 3) := by decide +kernel
theorem dX2_init_35 : decode cX2_init 35 = .ok (.goto (-21), 3) := by decide +kernel
theorem dX2_init_38 : decode cX2_init 38 = .ok (.return_, 1) := by decide +kernel
theorem dX2_size_0 : decode cX2_size 0 = .ok (.aload_n 0, 1) := by decide +kernel
theorem dX2_size_1 : decode cX2_size 1 = .ok (.getfield 18, 3) := by decide +kernel
theorem dX2_size_4 : decode cX2_size 4 = .ok (.ireturn, 1) := by decide +kernel
theorem dX2_open_0 : decode cX2_open 0 = .ok (.aload_n 0, 1) := by decide +kernel
theorem dX2_open_1 : decode cX2_open 1 = .ok (.getfield 13, 3) := by decide +kernel
theorem dX2_open_4 : decode cX2_open 4 = .ok (.aload_n 0, 1) := by decide +kernel
theorem dX2_open_5 : decode cX2_open 5 = .ok (.getfield 22, 3) := by decide +kernel
theorem dX2_open_8 : decode cX2_open 8 = .ok (.aaload, 1) := by decide +kernel
theorem dX2_open_9 : decode cX2_open 9 = .ok (.aload_n 1, 1) := by decide +kernel
theorem dX2_open_10 : decode cX2_open 10 = .ok (.invokevirtual 25, 3) := by decide +kernel
theorem dX2_open_13 : decode cX2_open 13 = .ok (.return_, 1) := by decide +kernel
theorem dX2_opened_0 : decode cX2_opened 0 = .ok (.aload_n 0, 1) := by decide +kernel
theorem dX2_opened_1 : decode cX2_opened 1 = .ok (.getfield 13, 3) := by decide +kernel
theorem dX2_opened_4 : decode cX2_opened 4 = .ok (.aload_n 0, 1) := by decide +kernel
theorem dX2_opened_5 : decode cX2_opened 5 = .ok (.getfield 22, 3) := by decide +kernel
theorem dX2_opened_8 : decode cX2_opened 8 = .ok (.aaload, 1) := by decide +kernel
theorem dX2_opened_9 : decode cX2_opened 9 = .ok (.areturn, 1) := by decide +kernel
theorem dX2_record_0 : decode cX2_record 0 = .ok (.aload_n 0, 1) := by decide +kernel
theorem dX2_record_1 : decode cX2_record 1 = .ok (.aload_n 0, 1) := by decide +kernel
theorem dX2_record_2 : decode cX2_record 2 = .ok (.getfield 22, 3) := by decide +kernel
theorem dX2_record_5 : decode cX2_record 5 = .ok (.iconst 1, 1) := by decide +kernel
theorem dX2_record_6 : decode cX2_record 6 = .ok (.iadd, 1) := by decide +kernel
theorem dX2_record_7 : decode cX2_record 7 = .ok (.iconst 5, 1) := by decide +kernel
theorem dX2_record_8 : decode cX2_record 8 = .ok (.irem, 1) := by decide +kernel
theorem dX2_record_9 : decode cX2_record 9 = .ok (.putfield 22, 3) := by decide +kernel
theorem dX2_record_12 : decode cX2_record 12 = .ok (.aload_n 0, 1) := by decide +kernel
theorem dX2_record_13 : decode cX2_record 13 = .ok (.aload_n 0, 1) := by decide +kernel
theorem dX2_record_14 : decode cX2_record 14 = .ok (.getfield 18, 3) := by decide +kernel
theorem dX2_record_17 : decode cX2_record 17 = .ok (.iconst 1, 1) := by decide +kernel
theorem dX2_record_18 : decode cX2_record 18 = .ok (.iadd, 1) := by decide +kernel
theorem dX2_record_19 : decode cX2_record 19 = .ok (.iconst 4, 1) := by decide +kernel
theorem dX2_record_20 : decode cX2_record 20 = .ok (.invokestatic 29, 3) := by decide +kernel
theorem dX2_record_23 : decode cX2_record 23 = .ok (.putfield 18, 3) := by decide +kernel
theorem dX2_record_26 : decode cX2_record 26 = .ok (.return_, 1) := by decide +kernel
theorem dX2_takeLatest_0 : decode cX2_takeLatest 0 = .ok (.aload_n 0, 1) := by decide +kernel
theorem dX2_takeLatest_1 : decode cX2_takeLatest 1 = .ok (.getfield 18, 3) := by decide +kernel
theorem dX2_takeLatest_4 : decode cX2_takeLatest 4 = .ok (.ifCond .ne 5, 3) := by decide +kernel
theorem dX2_takeLatest_7 : decode cX2_takeLatest 7 = .ok (.aconst_null, 1) := by decide +kernel
theorem dX2_takeLatest_8 : decode cX2_takeLatest 8 = .ok (.areturn, 1) := by decide +kernel
theorem dX2_takeLatest_9 : decode cX2_takeLatest 9 = .ok (.aload_n 0, 1) := by decide +kernel
theorem dX2_takeLatest_10 : decode cX2_takeLatest 10 = .ok (.dup, 1) := by decide +kernel
theorem dX2_takeLatest_11 : decode cX2_takeLatest 11 = .ok (.getfield 18, 3) := by decide +kernel
theorem dX2_takeLatest_14 : decode cX2_takeLatest 14 = .ok (.iconst 1, 1) := by decide +kernel
theorem dX2_takeLatest_15 : decode cX2_takeLatest 15 = .ok (.isub, 1) := by decide +kernel
theorem dX2_takeLatest_16 : decode cX2_takeLatest 16 = .ok (.putfield 18, 3) := by decide +kernel
theorem dX2_takeLatest_19 : decode cX2_takeLatest 19 = .ok (.aload_n 0, 1) := by decide +kernel
theorem dX2_takeLatest_20 : decode cX2_takeLatest 20 = .ok (.aload_n 0, 1) := by decide +kernel
theorem dX2_takeLatest_21 : decode cX2_takeLatest 21 = .ok (.getfield 22, 3) := by decide +kernel
theorem dX2_takeLatest_24 : decode cX2_takeLatest 24 = .ok (.iconst 5, 1) := by decide +kernel
theorem dX2_takeLatest_25 : decode cX2_takeLatest 25 = .ok (.iadd, 1) := by decide +kernel
theorem dX2_takeLatest_26 : decode cX2_takeLatest 26 = .ok (.iconst 1, 1) := by decide +kernel
theorem dX2_takeLatest_27 : decode cX2_takeLatest 27 = .ok (.isub, 1) := by decide +kernel
theorem dX2_takeLatest_28 : decode cX2_takeLatest 28 = .ok (.iconst 5, 1) := by decide +kernel
theorem dX2_takeLatest_29 : decode cX2_takeLatest 29 = .ok (.irem, 1) := by decide +kernel
theorem dX2_takeLatest_30 : decode cX2_takeLatest 30 = .ok (.putfield 22, 3) := by decide +kernel
theorem dX2_takeLatest_33 : decode cX2_takeLatest 33 = .ok (.aload_n 0, 1) := by decide +kernel
theorem dX2_takeLatest_34 : decode cX2_takeLatest 34 = .ok (.getfield 13, 3) := by decide +kernel
theorem dX2_takeLatest_37 : decode cX2_takeLatest 37 = .ok (.aload_n 0, 1) := by decide +kernel
theorem dX2_takeLatest_38 : decode cX2_takeLatest 38 = .ok (.getfield 22, 3) := by decide +kernel
theorem dX2_takeLatest_41 : decode cX2_takeLatest 41 = .ok (.aaload, 1) := by decide +kernel
theorem dX2_takeLatest_42 : decode cX2_takeLatest 42 = .ok (.areturn, 1) := by decide +kernel
theorem dX3_init_0 : decode cX3_init 0 = .ok (.aload_n 0, 1) := by decide +kernel
theorem dX3_init_1 : decode cX3_init 1 = .ok (.invokespecial 3, 3) := by decide +kernel
theorem dX3_init_4 : decode cX3_init 4 = .ok (.aload_n 0, 1) := by decide +kernel
theorem dX3_init_5 : decode cX3_init 5 = .ok (.bipush 40, 2) := by decide +kernel
theorem dX3_init_7 : decode cX3_init 7 = .ok (.newarray .int, 2) := by decide +kernel
theorem dX3_init_9 : decode cX3_init 9 = .ok (.putfield 9, 3) := by decide +kernel
theorem dX3_init_12 : decode cX3_init 12 = .ok (.aload_n 0, 1) := by decide +kernel
theorem dX3_init_13 : decode cX3_init 13 = .ok (.bipush 40, 2) := by decide +kernel
theorem dX3_init_15 : decode cX3_init 15 = .ok (.newarray .int, 2) := by decide +kernel
theorem dX3_init_17 : decode cX3_init 17 = .ok (.putfield 15, 3) := by decide +kernel
theorem dX3_init_20 : decode cX3_init 20 = .ok (.aload_n 0, 1) := by decide +kernel
theorem dX3_init_21 : decode cX3_init 21 = .ok (.bipush 40, 2) := by decide +kernel
theorem dX3_init_23 : decode cX3_init 23 = .ok (.newarray .int, 2) := by decide +kernel
theorem dX3_init_25 : decode cX3_init 25 = .ok (.putfield 18, 3) := by decide +kernel
theorem dX3_init_28 : decode cX3_init 28 = .ok (.aload_n 0, 1) := by decide +kernel
theorem dX3_init_29 : decode cX3_init 29 = .ok (.bipush 40, 2) := by decide +kernel
theorem dX3_init_31 : decode cX3_init 31 = .ok (.newarray .int, 2) := by decide +kernel
theorem dX3_init_33 : decode cX3_init 33 = .ok (.putfield 21, 3) := by decide +kernel
theorem dX3_init_36 : decode cX3_init 36 = .ok (.aload_n 0, 1) := by decide +kernel
theorem dX3_init_37 : decode cX3_init 37 = .ok (.bipush 40, 2) := by decide +kernel
theorem dX3_init_39 : decode cX3_init 39 = .ok (.newarray .int, 2) := by decide +kernel
theorem dX3_init_41 : decode cX3_init 41 = .ok (.putfield 24, 3) := by decide +kernel
theorem dX3_init_44 : decode cX3_init 44 = .ok (.return_, 1) := by decide +kernel
theorem dX3_copyFrom_0 : decode cX3_copyFrom 0 = .ok (.aload_n 0, 1) := by decide +kernel
theorem dX3_copyFrom_1 : decode cX3_copyFrom 1 = .ok (.aload_n 1, 1) := by decide +kernel
theorem dX3_copyFrom_2 : decode cX3_copyFrom 2 = .ok (.getfield 27, 3) := by decide +kernel
theorem dX3_copyFrom_5 : decode cX3_copyFrom 5 = .ok (.putfield 27, 3) := by decide +kernel
theorem dX3_copyFrom_8 : decode cX3_copyFrom 8 = .ok (.aload_n 0, 1) := by decide +kernel
theorem dX3_copyFrom_9 : decode cX3_copyFrom 9 = .ok (.aload_n 1, 1) := by decide +kernel
theorem dX3_copyFrom_10 : decode cX3_copyFrom 10 = .ok (.getfield 31, 3) := by decide +kernel
theorem dX3_copyFrom_13 : decode cX3_copyFrom 13 = .ok (.putfield 31, 3) := by decide +kernel
theorem dX3_copyFrom_16 : decode cX3_copyFrom 16 = .ok (.aload_n 0, 1) := by decide +kernel
theorem dX3_copyFrom_17 : decode cX3_copyFrom 17 = .ok (.aload_n 1, 1) := by decide +kernel
theorem dX3_copyFrom_18 : decode cX3_copyFrom 18 = .ok (.getfield 34, 3) := by decide +kernel
theorem dX3_copyFrom_21 : decode cX3_copyFrom 21 = .ok (.putfield 34, 3) := by decide +kernel
theorem dX3_copyFrom_24 : decode cX3_copyFrom 24 = .ok (.aload_n 1, 1) := by decide +kernel
theorem dX3_copyFrom_25 : decode cX3_copyFrom 25 = .ok (.getfield 9, 3) := by decide +kernel
theorem dX3_copyFrom_28 : decode cX3_copyFrom 28 = .ok (.iconst 0, 1) := by decide +kernel
theorem dX3_copyFrom_29 : decode cX3_copyFrom 29 = .ok (.aload_n 0, 1) := by decide +kernel
theorem dX3_copyFrom_30 : decode cX3_copyFrom 30 = .ok (.getfield 9, 3) := by decide +kernel
theorem dX3_copyFrom_33 : decode cX3_copyFrom 33 = .ok (.iconst 0, 1) := by decide +kernel
theorem dX3_copyFrom_34 : decode cX3_copyFrom 34 = .ok (.aload_n 0, 1) := by decide +kernel
theorem dX3_copyFrom_35 : decode cX3_copyFrom 35 = .ok (.getfield 27, 3) := by decide +kernel
theorem dX3_copyFrom_38 : decode cX3_copyFrom 38 = .ok (.invokestatic 37, 3) := by decide +kernel
theorem dX3_copyFrom_41 : decode cX3_copyFrom 41 = .ok (.aload_n 1, 1) := by decide +kernel
theorem dX3_copyFrom_42 : decode cX3_copyFrom 42 = .ok (.getfield 15, 3) := by decide +kernel
theorem dX3_copyFrom_45 : decode cX3_copyFrom 45 = .ok (.iconst 0, 1) := by decide +kernel
theorem dX3_copyFrom_46 : decode cX3_copyFrom 46 = .ok (.aload_n 0, 1) := by decide +kernel
theorem dX3_copyFrom_47 : decode cX3_copyFrom 47 = .ok (.getfield 15, 3) := by decide +kernel
theorem dX3_copyFrom_50 : decode cX3_copyFrom 50 = .ok (.iconst 0, 1) := by decide +kernel
theorem dX3_copyFrom_51 : decode cX3_copyFrom 51 = .ok (.aload_n 0, 1) := by decide +kernel
theorem dX3_copyFrom_52 : decode cX3_copyFrom 52 = .ok (.getfield 27, 3) := by decide +kernel
theorem dX3_copyFrom_55 : decode cX3_copyFrom 55 = .ok (.invokestatic 37, 3) := by decide +kernel
theorem dX3_copyFrom_58 : decode cX3_copyFrom 58 = .ok (.aload_n 1, 1) := by decide +kernel
theorem dX3_copyFrom_59 : decode cX3_copyFrom 59 = .ok (.getfield 18, 3) := by decide +kernel
theorem dX3_copyFrom_62 : decode cX3_copyFrom 62 = .ok (.iconst 0, 1) := by decide +kernel
theorem dX3_copyFrom_63 : decode cX3_copyFrom 63 = .ok (.aload_n 0, 1) := by decide +kernel
theorem dX3_copyFrom_64 : decode cX3_copyFrom 64 = .ok (.getfield 18, 3) := by decide +kernel
theorem dX3_copyFrom_67 : decode cX3_copyFrom 67 = .ok (.iconst 0, 1) := by decide +kernel
theorem dX3_copyFrom_68 : decode cX3_copyFrom 68 = .ok (.aload_n 0, 1) := by decide +kernel
theorem dX3_copyFrom_69 : decode cX3_copyFrom 69 = .ok (.getfield 27, 3) := by decide +kernel
theorem dX3_copyFrom_72 : decode cX3_copyFrom 72 = .ok (.invokestatic 37, 3) := by decide +kernel
theorem dX3_copyFrom_75 : decode cX3_copyFrom 75 = .ok (.aload_n 1, 1) := by decide +kernel
theorem dX3_copyFrom_76 : decode cX3_copyFrom 76 = .ok (.getfield 21, 3) := by decide +kernel
theorem dX3_copyFrom_79 : decode cX3_copyFrom 79 = .ok (.iconst 0, 1) := by decide +kernel
theorem dX3_copyFrom_80 : decode cX3_copyFrom 80 = .ok (.aload_n 0, 1) := by decide +kernel
theorem dX3_copyFrom_81 : decode cX3_copyFrom 81 = .ok (.getfield 21, 3) := by decide +kernel
theorem dX3_copyFrom_84 : decode cX3_copyFrom 84 = .ok (.iconst 0, 1) := by decide +kernel
theorem dX3_copyFrom_85 : decode cX3_copyFrom 85 = .ok (.aload_n 0, 1) := by decide +kernel
theorem dX3_copyFrom_86 : decode cX3_copyFrom 86 = .ok (.getfield 27, 3) := by decide +kernel
theorem dX3_copyFrom_89 : decode cX3_copyFrom 89 = .ok (.invokestatic 37, 3) := by decide +kernel
theorem dX3_copyFrom_92 : decode cX3_copyFrom 92 = .ok (.aload_n 1, 1) := by decide +kernel
theorem dX3_copyFrom_93 : decode cX3_copyFrom 93 = .ok (.getfield 24, 3) := by decide +kernel
theorem dX3_copyFrom_96 : decode cX3_copyFrom 96 = .ok (.iconst 0, 1) := by decide +kernel
theorem dX3_copyFrom_97 : decode cX3_copyFrom 97 = .ok (.aload_n 0, 1) := by decide +kernel
theorem dX3_copyFrom_98 : decode cX3_copyFrom 98 = .ok (.getfield 24, 3) := by decide +kernel
theorem dX3_copyFrom_101 : decode cX3_copyFrom 101 = .ok (.iconst 0, 1) := by decide +kernel
theorem dX3_copyFrom_102 : decode cX3_copyFrom 102 = .ok (.aload_n 0, 1) := by decide +kernel
theorem dX3_copyFrom_103 : decode cX3_copyFrom 103 = .ok (.getfield 27, 3) := by decide +kernel
theorem dX3_copyFrom_106 : decode cX3_copyFrom 106 = .ok (.invokestatic 37, 3) := by decide +kernel
theorem dX3_copyFrom_109 : decode cX3_copyFrom 109 = .ok (.return_, 1) := by decide +kernel
theorem dX3_hasRoom_0 : decode cX3_hasRoom 0 = .ok (.aload_n 0, 1) := by decide +kernel
theorem dX3_hasRoom_1 : decode cX3_hasRoom 1 = .ok (.getfield 27, 3) := by decide +kernel
theorem dX3_hasRoom_4 : decode cX3_hasRoom 4 = .ok (.bipush 40, 2) := by decide +kernel
theorem dX3_hasRoom_6 : decode cX3_hasRoom 6 = .ok (.if_icmp .ge 17, 3) := by decide +kernel
theorem dX3_hasRoom_9 : decode cX3_hasRoom 9 = .ok (.aload_n 0, 1) := by decide +kernel
theorem dX3_hasRoom_10 : decode cX3_hasRoom 10 = .ok (.getfield 31, 3) := by decide +kernel
theorem dX3_hasRoom_13 : decode cX3_hasRoom 13 = .ok (.sipush 1000, 3) := by decide +kernel
theorem dX3_hasRoom_16 : decode cX3_hasRoom 16 = .ok (.if_icmp .ge 7, 3) := by decide +kernel
theorem dX3_hasRoom_19 : decode cX3_hasRoom 19 = .ok (.iconst 1, 1) := by decide +kernel
theorem dX3_hasRoom_20 : decode cX3_hasRoom 20 = .ok (.goto 4, 3) := by decide +kernel
theorem dX3_hasRoom_23 : decode cX3_hasRoom 23 = .ok (.iconst 0, 1) := by decide +kernel
theorem dX3_hasRoom_24 : decode cX3_hasRoom 24 = .ok (.ireturn, 1) := by decide +kernel
theorem dX3_append_0 : decode cX3_append 0 = .ok (.aload_n 0, 1) := by decide +kernel
theorem dX3_append_1 : decode cX3_append 1 = .ok (.getfield 9, 3) := by decide +kernel
theorem dX3_append_4 : decode cX3_append 4 = .ok (.aload_n 0, 1) := by decide +kernel
theorem dX3_append_5 : decode cX3_append 5 = .ok (.getfield 27, 3) := by decide +kernel
theorem dX3_append_8 : decode cX3_append 8 = .ok (.aload_n 0, 1) := by decide +kernel
theorem dX3_append_9 : decode cX3_append 9 = .ok (.getfield 31, 3) := by decide +kernel
theorem dX3_append_12 : decode cX3_append 12 = .ok (.iastore, 1) := by decide +kernel
theorem dX3_append_13 : decode cX3_append 13 = .ok (.aload_n 0, 1) := by decide +kernel
theorem dX3_append_14 : decode cX3_append 14 = .ok (.getfield 15, 3) := by decide +kernel
theorem dX3_append_17 : decode cX3_append 17 = .ok (.aload_n 0, 1) := by decide +kernel
theorem dX3_append_18 : decode cX3_append 18 = .ok (.getfield 27, 3) := by decide +kernel
theorem dX3_append_21 : decode cX3_append 21 = .ok (.iload_n 1, 1) := by decide +kernel
theorem dX3_append_22 : decode cX3_append 22 = .ok (.iastore, 1) := by decide +kernel
theorem dX3_append_23 : decode cX3_append 23 = .ok (.aload_n 0, 1) := by decide +kernel
theorem dX3_append_24 : decode cX3_append 24 = .ok (.getfield 18, 3) := by decide +kernel
theorem dX3_append_27 : decode cX3_append 27 = .ok (.aload_n 0, 1) := by decide +kernel
theorem dX3_append_28 : decode cX3_append 28 = .ok (.getfield 27, 3) := by decide +kernel
theorem dX3_append_31 : decode cX3_append 31 = .ok (.iload_n 2, 1) := by decide +kernel
theorem dX3_append_32 : decode cX3_append 32 = .ok (.iastore, 1) := by decide +kernel
theorem dX3_append_33 : decode cX3_append 33 = .ok (.aload_n 0, 1) := by decide +kernel
theorem dX3_append_34 : decode cX3_append 34 = .ok (.getfield 21, 3) := by decide +kernel
theorem dX3_append_37 : decode cX3_append 37 = .ok (.aload_n 0, 1) := by decide +kernel
theorem dX3_append_38 : decode cX3_append 38 = .ok (.getfield 27, 3) := by decide +kernel
theorem dX3_append_41 : decode cX3_append 41 = .ok (.iload_n 3, 1) := by decide +kernel
theorem dX3_append_42 : decode cX3_append 42 = .ok (.iastore, 1) := by decide +kernel
theorem dX3_append_43 : decode cX3_append 43 = .ok (.aload_n 0, 1) := by decide +kernel
theorem dX3_append_44 : decode cX3_append 44 = .ok (.getfield 24, 3) := by decide +kernel
theorem dX3_append_47 : decode cX3_append 47 = .ok (.aload_n 0, 1) := by decide +kernel
theorem dX3_append_48 : decode cX3_append 48 = .ok (.getfield 27, 3) := by decide +kernel
theorem dX3_append_51 : decode cX3_append 51 = .ok (.iload 4, 2) := by decide +kernel
theorem dX3_append_53 : decode cX3_append 53 = .ok (.iastore, 1) := by decide +kernel
theorem dX3_append_54 : decode cX3_append 54 = .ok (.aload_n 0, 1) := by decide +kernel
theorem dX3_append_55 : decode cX3_append 55 = .ok (.dup, 1) := by decide +kernel
theorem dX3_append_56 : decode cX3_append 56 = .ok (.getfield 27, 3) := by decide +kernel
theorem dX3_append_59 : decode cX3_append 59 = .ok (.iconst 1, 1) := by decide +kernel
theorem dX3_append_60 : decode cX3_append 60 = .ok (.iadd, 1) := by decide +kernel
theorem dX3_append_61 : decode cX3_append 61 = .ok (.putfield 27, 3) := by decide +kernel
theorem dX3_append_64 : decode cX3_append 64 = .ok (.aload_n 0, 1) := by decide +kernel
theorem dX3_append_65 : decode cX3_append 65 = .ok (.dup, 1) := by decide +kernel
theorem dX3_append_66 : decode cX3_append 66 = .ok (.getfield 31, 3) := by decide +kernel
theorem dX3_append_69 : decode cX3_append 69 = .ok (.iconst 1, 1) := by decide +kernel
theorem dX3_append_70 : decode cX3_append 70 = .ok (.iadd, 1) := by decide +kernel
theorem dX3_append_71 : decode cX3_append 71 = .ok (.putfield 31, 3) := by decide +kernel
theorem dX3_append_74 : decode cX3_append 74 = .ok (.aload_n 0, 1) := by decide +kernel
theorem dX3_append_75 : decode cX3_append 75 = .ok (.getfield 31, 3) := by decide +kernel
theorem dX3_append_78 : decode cX3_append 78 = .ok (.iconst 1, 1) := by decide +kernel
theorem dX3_append_79 : decode cX3_append 79 = .ok (.isub, 1) := by decide +kernel
theorem dX3_append_80 : decode cX3_append 80 = .ok (.ireturn, 1) := by decide +kernel
theorem dX3_remove_0 : decode cX3_remove 0 = .ok (.aload_n 0, 1) := by decide +kernel
theorem dX3_remove_1 : decode cX3_remove 1 = .ok (.getfield 27, 3) := by decide +kernel
theorem dX3_remove_4 : decode cX3_remove 4 = .ok (.iload_n 1, 1) := by decide +kernel
theorem dX3_remove_5 : decode cX3_remove 5 = .ok (.isub, 1) := by decide +kernel
theorem dX3_remove_6 : decode cX3_remove 6 = .ok (.iconst 1, 1) := by decide +kernel
theorem dX3_remove_7 : decode cX3_remove 7 = .ok (.isub, 1) := by decide +kernel
theorem dX3_remove_8 : decode cX3_remove 8 = .ok (.istore_n 2, 1) := by decide +kernel
theorem dX3_remove_9 : decode cX3_remove 9 = .ok (.aload_n 0, 1) := by decide +kernel
theorem dX3_remove_10 : decode cX3_remove 10 = .ok (.getfield 9, 3) := by decide +kernel
theorem dX3_remove_13 : decode cX3_remove 13 = .ok (.iload_n 1, 1) := by decide +kernel
theorem dX3_remove_14 : decode cX3_remove 14 = .ok (.iconst 1, 1) := by decide +kernel
theorem dX3_remove_15 : decode cX3_remove 15 = .ok (.iadd, 1) := by decide +kernel
theorem dX3_remove_16 : decode cX3_remove 16 = .ok (.aload_n 0, 1) := by decide +kernel
theorem dX3_remove_17 : decode cX3_remove 17 = .ok (.getfield 9, 3) := by decide +kernel
theorem dX3_remove_20 : decode cX3_remove 20 = .ok (.iload_n 1, 1) := by decide +kernel
theorem dX3_remove_21 : decode cX3_remove 21 = .ok (.iload_n 2, 1) := by decide +kernel
theorem dX3_remove_22 : decode cX3_remove 22 = .ok (.invokestatic 37, 3) := by decide +kernel
theorem dX3_remove_25 : decode cX3_remove 25 = .ok (.aload_n 0, 1) := by decide +kernel
theorem dX3_remove_26 : decode cX3_remove 26 = .ok (.getfield 15, 3) := by decide +kernel
theorem dX3_remove_29 : decode cX3_remove 29 = .ok (.iload_n 1, 1) := by decide +kernel
theorem dX3_remove_30 : decode cX3_remove 30 = .ok (.iconst 1, 1) := by decide +kernel
theorem dX3_remove_31 : decode cX3_remove 31 = .ok (.iadd, 1) := by decide +kernel
theorem dX3_remove_32 : decode cX3_remove 32 = .ok (.aload_n 0, 1) := by decide +kernel
theorem dX3_remove_33 : decode cX3_remove 33 = .ok (.getfield 15, 3) := by decide +kernel
theorem dX3_remove_36 : decode cX3_remove 36 = .ok (.iload_n 1, 1) := by decide +kernel
theorem dX3_remove_37 : decode cX3_remove 37 = .ok (.iload_n 2, 1) := by decide +kernel
theorem dX3_remove_38 : decode cX3_remove 38 = .ok (.invokestatic 37, 3) := by decide +kernel
theorem dX3_remove_41 : decode cX3_remove 41 = .ok (.aload_n 0, 1) := by decide +kernel
theorem dX3_remove_42 : decode cX3_remove 42 = .ok (.getfield 18, 3) := by decide +kernel
theorem dX3_remove_45 : decode cX3_remove 45 = .ok (.iload_n 1, 1) := by decide +kernel
theorem dX3_remove_46 : decode cX3_remove 46 = .ok (.iconst 1, 1) := by decide +kernel
theorem dX3_remove_47 : decode cX3_remove 47 = .ok (.iadd, 1) := by decide +kernel
theorem dX3_remove_48 : decode cX3_remove 48 = .ok (.aload_n 0, 1) := by decide +kernel
theorem dX3_remove_49 : decode cX3_remove 49 = .ok (.getfield 18, 3) := by decide +kernel
theorem dX3_remove_52 : decode cX3_remove 52 = .ok (.iload_n 1, 1) := by decide +kernel
theorem dX3_remove_53 : decode cX3_remove 53 = .ok (.iload_n 2, 1) := by decide +kernel
theorem dX3_remove_54 : decode cX3_remove 54 = .ok (.invokestatic 37, 3) := by decide +kernel
theorem dX3_remove_57 : decode cX3_remove 57 = .ok (.aload_n 0, 1) := by decide +kernel
theorem dX3_remove_58 : decode cX3_remove 58 = .ok (.getfield 21, 3) := by decide +kernel
theorem dX3_remove_61 : decode cX3_remove 61 = .ok (.iload_n 1, 1) := by decide +kernel
theorem dX3_remove_62 : decode cX3_remove 62 = .ok (.iconst 1, 1) := by decide +kernel
theorem dX3_remove_63 : decode cX3_remove 63 = .ok (.iadd, 1) := by decide +kernel
theorem dX3_remove_64 : decode cX3_remove 64 = .ok (.aload_n 0, 1) := by decide +kernel
theorem dX3_remove_65 : decode cX3_remove 65 = .ok (.getfield 21, 3) := by decide +kernel
theorem dX3_remove_68 : decode cX3_remove 68 = .ok (.iload_n 1, 1) := by decide +kernel
theorem dX3_remove_69 : decode cX3_remove 69 = .ok (.iload_n 2, 1) := by decide +kernel
theorem dX3_remove_70 : decode cX3_remove 70 = .ok (.invokestatic 37, 3) := by decide +kernel
theorem dX3_remove_73 : decode cX3_remove 73 = .ok (.aload_n 0, 1) := by decide +kernel
theorem dX3_remove_74 : decode cX3_remove 74 = .ok (.getfield 24, 3) := by decide +kernel
theorem dX3_remove_77 : decode cX3_remove 77 = .ok (.iload_n 1, 1) := by decide +kernel
theorem dX3_remove_78 : decode cX3_remove 78 = .ok (.iconst 1, 1) := by decide +kernel
theorem dX3_remove_79 : decode cX3_remove 79 = .ok (.iadd, 1) := by decide +kernel
theorem dX3_remove_80 : decode cX3_remove 80 = .ok (.aload_n 0, 1) := by decide +kernel
theorem dX3_remove_81 : decode cX3_remove 81 = .ok (.getfield 24, 3) := by decide +kernel
theorem dX3_remove_84 : decode cX3_remove 84 = .ok (.iload_n 1, 1) := by decide +kernel
theorem dX3_remove_85 : decode cX3_remove 85 = .ok (.iload_n 2, 1) := by decide +kernel
theorem dX3_remove_86 : decode cX3_remove 86 = .ok (.invokestatic 37, 3) := by decide +kernel
theorem dX3_remove_89 : decode cX3_remove 89 = .ok (.aload_n 0, 1) := by decide +kernel
theorem dX3_remove_90 : decode cX3_remove 90 = .ok (.dup, 1) := by decide +kernel
theorem dX3_remove_91 : decode cX3_remove 91 = .ok (.getfield 27, 3) := by decide +kernel
theorem dX3_remove_94 : decode cX3_remove 94 = .ok (.iconst 1, 1) := by decide +kernel
theorem dX3_remove_95 : decode cX3_remove 95 = .ok (.isub, 1) := by decide +kernel
theorem dX3_remove_96 : decode cX3_remove 96 = .ok (.putfield 27, 3) := by decide +kernel
theorem dX3_remove_99 : decode cX3_remove 99 = .ok (.aload_n 0, 1) := by decide +kernel
theorem dX3_remove_100 : decode cX3_remove 100 = .ok (.dup, 1) := by decide +kernel
theorem dX3_remove_101 : decode cX3_remove 101 = .ok (.getfield 34, 3) := by decide +kernel
theorem dX3_remove_104 : decode cX3_remove 104 = .ok (.iconst 1, 1) := by decide +kernel
theorem dX3_remove_105 : decode cX3_remove 105 = .ok (.iadd, 1) := by decide +kernel
theorem dX3_remove_106 : decode cX3_remove 106 = .ok (.putfield 34, 3) := by decide +kernel
theorem dX3_remove_109 : decode cX3_remove 109 = .ok (.return_, 1) := by decide +kernel
theorem dX3_rowOf_0 : decode cX3_rowOf 0 = .ok (.iconst 0, 1) := by decide +kernel
theorem dX3_rowOf_1 : decode cX3_rowOf 1 = .ok (.istore_n 2, 1) := by decide +kernel
theorem dX3_rowOf_2 : decode cX3_rowOf 2 = .ok (.iload_n 2, 1) := by decide +kernel
theorem dX3_rowOf_3 : decode cX3_rowOf 3 = .ok (.aload_n 0, 1) := by decide +kernel
theorem dX3_rowOf_4 : decode cX3_rowOf 4 = .ok (.getfield 27, 3) := by decide +kernel
theorem dX3_rowOf_7 : decode cX3_rowOf 7 = .ok (.if_icmp .ge 21, 3) := by decide +kernel
theorem dX3_rowOf_10 : decode cX3_rowOf 10 = .ok (.aload_n 0, 1) := by decide +kernel
theorem dX3_rowOf_11 : decode cX3_rowOf 11 = .ok (.getfield 9, 3) := by decide +kernel
theorem dX3_rowOf_14 : decode cX3_rowOf 14 = .ok (.iload_n 2, 1) := by decide +kernel
theorem dX3_rowOf_15 : decode cX3_rowOf 15 = .ok (.iaload, 1) := by decide +kernel
theorem dX3_rowOf_16 : decode cX3_rowOf 16 = .ok (.iload_n 1, 1) := by decide +kernel
theorem dX3_rowOf_17 : decode cX3_rowOf 17 = .ok (.if_icmp .ne 5, 3) := by decide +kernel
theorem dX3_rowOf_20 : decode cX3_rowOf 20 = .ok (.iload_n 2, 1) := by decide +kernel
theorem dX3_rowOf_21 : decode cX3_rowOf 21 = .ok (.ireturn, 1) := by decide +kernel
theorem dX3_rowOf_22 : decode cX3_rowOf 22 = .ok (.iinc 2 1, 3) := by decide +kernel
theorem dX3_rowOf_25 : decode cX3_rowOf 25 = .ok (.goto (-23), 3) := by decide +kernel
theorem dX3_rowOf_28 : decode cX3_rowOf 28 = .ok (.iconst (-1), 1) := by decide +kernel
theorem dX3_rowOf_29 : decode cX3_rowOf 29 = .ok (.ireturn, 1) := by decide +kernel
theorem dX3_latestAhead_0 : decode cX3_latestAhead 0 = .ok (.aload_n 0, 1) := by decide +kernel
theorem dX3_latestAhead_1 : decode cX3_latestAhead 1 = .ok (.getfield 27, 3) := by decide +kernel
theorem dX3_latestAhead_4 : decode cX3_latestAhead 4 = .ok (.iconst 1, 1) := by decide +kernel
theorem dX3_latestAhead_5 : decode cX3_latestAhead 5 = .ok (.isub, 1) := by decide +kernel
theorem dX3_latestAhead_6 : decode cX3_latestAhead 6 = .ok (.istore 4, 2) := by decide +kernel
theorem dX3_latestAhead_8 : decode cX3_latestAhead 8 = .ok (.iload 4, 2) := by decide +kernel
theorem dX3_latestAhead_10 : decode cX3_latestAhead 10 = .ok (.ifCond .lt 50, 3) := by decide +kernel
theorem dX3_latestAhead_13 : decode cX3_latestAhead 13 = .ok (.aload_n 0, 1) := by decide +kernel
theorem dX3_latestAhead_14 : decode cX3_latestAhead 14 = .ok (.getfield 9, 3) := by decide +kernel
theorem dX3_latestAhead_17 : decode cX3_latestAhead 17 = .ok (.iload 4, 2) := by decide +kernel
theorem dX3_latestAhead_19 : decode cX3_latestAhead 19 = .ok (.iaload, 1) := by decide +kernel
theorem dX3_latestAhead_20 : decode cX3_latestAhead 20 = .ok (.iload_n 1, 1) := by decide +kernel
theorem dX3_latestAhead_21 : decode cX3_latestAhead 21 = .ok (.if_icmp .ge 33, 3) := by decide +kernel
theorem dX3_latestAhead_24 : decode cX3_latestAhead 24 = .ok (.aload_n 0, 1) := by decide +kernel
theorem dX3_latestAhead_25 : decode cX3_latestAhead 25 = .ok (.getfield 15, 3) := by decide +kernel
theorem dX3_latestAhead_28 : decode cX3_latestAhead 28 = .ok (.iload 4, 2) := by decide +kernel
theorem dX3_latestAhead_30 : decode cX3_latestAhead 30 = .ok (.iaload, 1) := by decide +kernel
theorem dX3_latestAhead_31 : decode cX3_latestAhead 31 = .ok (.iload_n 2, 1) := by decide +kernel
theorem dX3_latestAhead_32 : decode cX3_latestAhead 32 = .ok (.if_icmp .ne 22, 3) := by decide +kernel
theorem dX3_latestAhead_35 : decode cX3_latestAhead 35 = .ok (.aload_n 0, 1) := by decide +kernel
theorem dX3_latestAhead_36 : decode cX3_latestAhead 36 = .ok (.getfield 21, 3) := by decide +kernel
theorem dX3_latestAhead_39 : decode cX3_latestAhead 39 = .ok (.iload 4, 2) := by decide +kernel
theorem dX3_latestAhead_41 : decode cX3_latestAhead 41 = .ok (.iaload, 1) := by decide +kernel
theorem dX3_latestAhead_42 : decode cX3_latestAhead 42 = .ok (.iload_n 3, 1) := by decide +kernel
theorem dX3_latestAhead_43 : decode cX3_latestAhead 43 = .ok (.if_icmp .ne 11, 3) := by decide +kernel
theorem dX3_latestAhead_46 : decode cX3_latestAhead 46 = .ok (.aload_n 0, 1) := by decide +kernel
theorem dX3_latestAhead_47 : decode cX3_latestAhead 47 = .ok (.getfield 9, 3) := by decide +kernel
theorem dX3_latestAhead_50 : decode cX3_latestAhead 50 = .ok (.iload 4, 2) := by decide +kernel
theorem dX3_latestAhead_52 : decode cX3_latestAhead 52 = .ok (.iaload, 1) := by decide +kernel
theorem dX3_latestAhead_53 : decode cX3_latestAhead 53 = .ok (.ireturn, 1) := by decide +kernel
theorem dX3_latestAhead_54 : decode cX3_latestAhead 54 = .ok (.iinc 4 (-1), 3) := by decide +kernel
theorem dX3_latestAhead_57 : decode cX3_latestAhead 57 = .ok (.goto (-49), 3) := by decide +kernel
theorem dX3_latestAhead_60 : decode cX3_latestAhead 60 = .ok (.iconst (-1), 1) := by decide +kernel
theorem dX3_latestAhead_61 : decode cX3_latestAhead 61 = .ok (.ireturn, 1) := by decide +kernel
theorem dX3_countOf_0 : decode cX3_countOf 0 = .ok (.iconst 0, 1) := by decide +kernel
theorem dX3_countOf_1 : decode cX3_countOf 1 = .ok (.istore_n 2, 1) := by decide +kernel
theorem dX3_countOf_2 : decode cX3_countOf 2 = .ok (.iconst 0, 1) := by decide +kernel
theorem dX3_countOf_3 : decode cX3_countOf 3 = .ok (.istore_n 3, 1) := by decide +kernel
theorem dX3_countOf_4 : decode cX3_countOf 4 = .ok (.iload_n 3, 1) := by decide +kernel
theorem dX3_countOf_5 : decode cX3_countOf 5 = .ok (.aload_n 0, 1) := by decide +kernel
theorem dX3_countOf_6 : decode cX3_countOf 6 = .ok (.getfield 27, 3) := by decide +kernel
theorem dX3_countOf_9 : decode cX3_countOf 9 = .ok (.if_icmp .ge 22, 3) := by decide +kernel
theorem dX3_countOf_12 : decode cX3_countOf 12 = .ok (.aload_n 0, 1) := by decide +kernel
theorem dX3_countOf_13 : decode cX3_countOf 13 = .ok (.getfield 21, 3) := by decide +kernel
theorem dX3_countOf_16 : decode cX3_countOf 16 = .ok (.iload_n 3, 1) := by decide +kernel
theorem dX3_countOf_17 : decode cX3_countOf 17 = .ok (.iaload, 1) := by decide +kernel
theorem dX3_countOf_18 : decode cX3_countOf 18 = .ok (.iload_n 1, 1) := by decide +kernel
theorem dX3_countOf_19 : decode cX3_countOf 19 = .ok (.if_icmp .ne 6, 3) := by decide +kernel
theorem dX3_countOf_22 : decode cX3_countOf 22 = .ok (.iinc 2 1, 3) := by decide +kernel
theorem dX3_countOf_25 : decode cX3_countOf 25 = .ok (.iinc 3 1, 3) := by decide +kernel
theorem dX3_countOf_28 : decode cX3_countOf 28 = .ok (.goto (-24), 3) := by decide +kernel
theorem dX3_countOf_31 : decode cX3_countOf 31 = .ok (.iload_n 2, 1) := by decide +kernel
theorem dX3_countOf_32 : decode cX3_countOf 32 = .ok (.ireturn, 1) := by decide +kernel
theorem dX3_partsLent_0 : decode cX3_partsLent 0 = .ok (.aload_n 0, 1) := by decide +kernel
theorem dX3_partsLent_1 : decode cX3_partsLent 1 = .ok (.aload_n 0, 1) := by decide +kernel
theorem dX3_partsLent_2 : decode cX3_partsLent 2 = .ok (.getfield 15, 3) := by decide +kernel
theorem dX3_partsLent_5 : decode cX3_partsLent 5 = .ok (.iload_n 1, 1) := by decide +kernel
theorem dX3_partsLent_6 : decode cX3_partsLent 6 = .ok (.iload_n 2, 1) := by decide +kernel
theorem dX3_partsLent_7 : decode cX3_partsLent 7 = .ok (.invokevirtual 43, 3) := by decide +kernel
theorem dX3_partsLent_10 : decode cX3_partsLent 10 = .ok (.ireturn, 1) := by decide +kernel
theorem dX3_partsBorrowed_0 : decode cX3_partsBorrowed 0 = .ok (.aload_n 0, 1) := by decide +kernel
theorem dX3_partsBorrowed_1 : decode cX3_partsBorrowed 1 = .ok (.aload_n 0, 1) := by decide +kernel
theorem dX3_partsBorrowed_2 : decode cX3_partsBorrowed 2 = .ok (.getfield 18, 3) := by decide +kernel
theorem dX3_partsBorrowed_5 : decode cX3_partsBorrowed 5 = .ok (.iload_n 1, 1) := by decide +kernel
theorem dX3_partsBorrowed_6 : decode cX3_partsBorrowed 6 = .ok (.iload_n 2, 1) := by decide +kernel
theorem dX3_partsBorrowed_7 : decode cX3_partsBorrowed 7 = .ok (.invokevirtual 43, 3) := by decide +kernel
theorem dX3_partsBorrowed_10 : decode cX3_partsBorrowed 10 = .ok (.ireturn, 1) := by decide +kernel
theorem dX3_sumParts_0 : decode cX3_sumParts 0 = .ok (.iconst 0, 1) := by decide +kernel
theorem dX3_sumParts_1 : decode cX3_sumParts 1 = .ok (.istore 4, 2) := by decide +kernel
theorem dX3_sumParts_3 : decode cX3_sumParts 3 = .ok (.iconst 0, 1) := by decide +kernel
theorem dX3_sumParts_4 : decode cX3_sumParts 4 = .ok (.istore 5, 2) := by decide +kernel
theorem dX3_sumParts_6 : decode cX3_sumParts 6 = .ok (.iload 5, 2) := by decide +kernel
theorem dX3_sumParts_8 : decode cX3_sumParts 8 = .ok (.aload_n 0, 1) := by decide +kernel
theorem dX3_sumParts_9 : decode cX3_sumParts 9 = .ok (.getfield 27, 3) := by decide +kernel
theorem dX3_sumParts_12 : decode cX3_sumParts 12 = .ok (.if_icmp .ge 40, 3) := by decide +kernel
theorem dX3_sumParts_15 : decode cX3_sumParts 15 = .ok (.aload_n 1, 1) := by decide +kernel
theorem dX3_sumParts_16 : decode cX3_sumParts 16 = .ok (.iload 5, 2) := by decide +kernel
theorem dX3_sumParts_18 : decode cX3_sumParts 18 = .ok (.iaload, 1) := by decide +kernel
theorem dX3_sumParts_19 : decode cX3_sumParts 19 = .ok (.iload_n 2, 1) := by decide +kernel
theorem dX3_sumParts_20 : decode cX3_sumParts 20 = .ok (.if_icmp .ne 26, 3) := by decide +kernel
theorem dX3_sumParts_23 : decode cX3_sumParts 23 = .ok (.aload_n 0, 1) := by decide +kernel
theorem dX3_sumParts_24 : decode cX3_sumParts 24 = .ok (.getfield 21, 3) := by decide +kernel
theorem dX3_sumParts_27 : decode cX3_sumParts 27 = .ok (.iload 5, 2) := by decide +kernel
theorem dX3_sumParts_29 : decode cX3_sumParts 29 = .ok (.iaload, 1) := by decide +kernel
theorem dX3_sumParts_30 : decode cX3_sumParts 30 = .ok (.iload_n 3, 1) := by decide +kernel
theorem dX3_sumParts_31 : decode cX3_sumParts 31 = .ok (.if_icmp .ne 15, 3) := by decide +kernel
theorem dX3_sumParts_34 : decode cX3_sumParts 34 = .ok (.iload 4, 2) := by decide +kernel
theorem dX3_sumParts_36 : decode cX3_sumParts 36 = .ok (.aload_n 0, 1) := by decide +kernel
theorem dX3_sumParts_37 : decode cX3_sumParts 37 = .ok (.getfield 24, 3) := by decide +kernel
theorem dX3_sumParts_40 : decode cX3_sumParts 40 = .ok (.iload 5, 2) := by decide +kernel
theorem dX3_sumParts_42 : decode cX3_sumParts 42 = .ok (.iaload, 1) := by decide +kernel
theorem dX3_sumParts_43 : decode cX3_sumParts 43 = .ok (.iadd, 1) := by decide +kernel
theorem dX3_sumParts_44 : decode cX3_sumParts 44 = .ok (.istore 4, 2) := by decide +kernel
theorem dX3_sumParts_46 : decode cX3_sumParts 46 = .ok (.iinc 5 1, 3) := by decide +kernel
theorem dX3_sumParts_49 : decode cX3_sumParts 49 = .ok (.goto (-43), 3) := by decide +kernel
theorem dX3_sumParts_52 : decode cX3_sumParts 52 = .ok (.iload 4, 2) := by decide +kernel
theorem dX3_sumParts_54 : decode cX3_sumParts 54 = .ok (.ireturn, 1) := by decide +kernel
theorem dX3_longestChain_0 : decode cX3_longestChain 0 = .ok (.aload_n 0, 1) := by decide +kernel
theorem dX3_longestChain_1 : decode cX3_longestChain 1 = .ok (.iload_n 1, 1) := by decide +kernel
theorem dX3_longestChain_2 : decode cX3_longestChain 2 = .ok (.invokevirtual 47, 3) := by decide +kernel
theorem dX3_longestChain_5 : decode cX3_longestChain 5 = .ok (.lstore_n 2, 1) := by decide +kernel
theorem dX3_longestChain_6 : decode cX3_longestChain 6 = .ok (.iconst 0, 1) := by decide +kernel
theorem dX3_longestChain_7 : decode cX3_longestChain 7 = .ok (.istore 4, 2) := by decide +kernel
theorem dX3_longestChain_9 : decode cX3_longestChain 9 = .ok (.iconst 0, 1) := by decide +kernel
theorem dX3_longestChain_10 : decode cX3_longestChain 10 = .ok (.istore 5, 2) := by decide +kernel
theorem dX3_longestChain_12 : decode cX3_longestChain 12 = .ok (.iload 5, 2) := by decide +kernel
theorem dX3_longestChain_14 : decode cX3_longestChain 14 = .ok (.bipush 6, 2) := by decide +kernel
theorem dX3_longestChain_16 : decode cX3_longestChain 16 = .ok (.if_icmp .ge 27, 3) := by decide +kernel
theorem dX3_longestChain_19 : decode cX3_longestChain 19 = .ok (.iload 4, 2) := by decide +kernel
theorem dX3_longestChain_21 : decode cX3_longestChain 21 = .ok (.lload_n 2, 1) := by decide +kernel
theorem dX3_longestChain_22 : decode cX3_longestChain 22 = .ok (.iload 5, 2) := by decide +kernel
theorem dX3_longestChain_24 : decode cX3_longestChain 24 = .ok (.iconst 1, 1) := by decide +kernel
theorem dX3_longestChain_25 : decode cX3_longestChain 25 = .ok (.iload 5, 2) := by decide +kernel
theorem dX3_longestChain_27 : decode cX3_longestChain 27 = .ok (.ishl, 1) := by decide +kernel
theorem dX3_longestChain_28 : decode cX3_longestChain 28 = .ok (.iconst 1, 1) := by decide +kernel
theorem dX3_longestChain_29 : decode cX3_longestChain 29 = .ok (.invokestatic 51, 3) := by decide +kernel
theorem dX3_longestChain_32 : decode cX3_longestChain 32 = .ok (.invokestatic 55, 3) := by decide +kernel
theorem dX3_longestChain_35 : decode cX3_longestChain 35 = .ok (.istore 4, 2) := by decide +kernel
theorem dX3_longestChain_37 : decode cX3_longestChain 37 = .ok (.iinc 5 1, 3) := by decide +kernel
theorem dX3_longestChain_40 : decode cX3_longestChain 40 = .ok (.goto (-28), 3) := by decide +kernel
theorem dX3_longestChain_43 : decode cX3_longestChain 43 = .ok (.iload 4, 2) := by decide +kernel
theorem dX3_longestChain_45 : decode cX3_longestChain 45 = .ok (.ireturn, 1) := by decide +kernel
theorem dX3_linksOf_0 : decode cX3_linksOf 0 = .ok (.lconst 0, 1) := by decide +kernel
theorem dX3_linksOf_1 : decode cX3_linksOf 1 = .ok (.lstore_n 2, 1) := by decide +kernel
theorem dX3_linksOf_2 : decode cX3_linksOf 2 = .ok (.iconst 0, 1) := by decide +kernel
theorem dX3_linksOf_3 : decode cX3_linksOf 3 = .ok (.istore 4, 2) := by decide +kernel
theorem dX3_linksOf_5 : decode cX3_linksOf 5 = .ok (.iload 4, 2) := by decide +kernel
theorem dX3_linksOf_7 : decode cX3_linksOf 7 = .ok (.aload_n 0, 1) := by decide +kernel
theorem dX3_linksOf_8 : decode cX3_linksOf 8 = .ok (.getfield 27, 3) := by decide +kernel
theorem dX3_linksOf_11 : decode cX3_linksOf 11 = .ok (.if_icmp .ge 43, 3) := by decide +kernel
theorem dX3_linksOf_14 : decode cX3_linksOf 14 = .ok (.aload_n 0, 1) := by decide +kernel
theorem dX3_linksOf_15 : decode cX3_linksOf 15 = .ok (.getfield 21, 3) := by decide +kernel
theorem dX3_linksOf_18 : decode cX3_linksOf 18 = .ok (.iload 4, 2) := by decide +kernel
theorem dX3_linksOf_20 : decode cX3_linksOf 20 = .ok (.iaload, 1) := by decide +kernel
theorem dX3_linksOf_21 : decode cX3_linksOf 21 = .ok (.iload_n 1, 1) := by decide +kernel
theorem dX3_linksOf_22 : decode cX3_linksOf 22 = .ok (.if_icmp .ne 26, 3) := by decide +kernel
theorem dX3_linksOf_25 : decode cX3_linksOf 25 = .ok (.lload_n 2, 1) := by decide +kernel
theorem dX3_linksOf_26 : decode cX3_linksOf 26 = .ok (.lconst 1, 1) := by decide +kernel
theorem dX3_linksOf_27 : decode cX3_linksOf 27 = .ok (.aload_n 0, 1) := by decide +kernel
theorem dX3_linksOf_28 : decode cX3_linksOf 28 = .ok (.getfield 15, 3) := by decide +kernel
theorem dX3_linksOf_31 : decode cX3_linksOf 31 = .ok (.iload 4, 2) := by decide +kernel
theorem dX3_linksOf_33 : decode cX3_linksOf 33 = .ok (.iaload, 1) := by decide +kernel
theorem dX3_linksOf_34 : decode cX3_linksOf 34 = .ok (.bipush 6, 2) := by decide +kernel
theorem dX3_linksOf_36 : decode cX3_linksOf 36 = .ok (.imul, 1) := by decide +kernel
theorem dX3_linksOf_37 : decode cX3_linksOf 37 = .ok (.aload_n 0, 1) := by decide +kernel
theorem dX3_linksOf_38 : decode cX3_linksOf 38 = .ok (.getfield 18, 3) := by decide +kernel
theorem dX3_linksOf_41 : decode cX3_linksOf 41 = .ok (.iload 4, 2) := by decide +kernel
theorem dX3_linksOf_43 : decode cX3_linksOf 43 = .ok (.iaload, 1) := by decide +kernel
theorem dX3_linksOf_44 : decode cX3_linksOf 44 = .ok (.iadd, 1) := by decide +kernel
theorem dX3_linksOf_45 : decode cX3_linksOf 45 = .ok (.lshl, 1) := by decide +kernel
theorem dX3_linksOf_46 : decode cX3_linksOf 46 = .ok (.lor, 1) := by decide +kernel
theorem dX3_linksOf_47 : decode cX3_linksOf 47 = .ok (.lstore_n 2, 1) := by decide +kernel
theorem dX3_linksOf_48 : decode cX3_linksOf 48 = .ok (.iinc 4 1, 3) := by decide +kernel
theorem dX3_linksOf_51 : decode cX3_linksOf 51 = .ok (.goto (-46), 3) := by decide +kernel
theorem dX3_linksOf_54 : decode cX3_linksOf 54 = .ok (.lload_n 2, 1) := by decide +kernel
theorem dX3_linksOf_55 : decode cX3_linksOf 55 = .ok (.lreturn, 1) := by decide +kernel
theorem dX3_longestFrom_0 : decode cX3_longestFrom 0 = .ok (.iload 4, 2) := by decide +kernel
theorem dX3_longestFrom_2 : decode cX3_longestFrom 2 = .ok (.bipush 6, 2) := by decide +kernel
theorem dX3_longestFrom_4 : decode cX3_longestFrom 4 = .ok (.if_icmp .lt 5, 3) := by decide +kernel
theorem dX3_longestFrom_7 : decode cX3_longestFrom 7 = .ok (.iconst 0, 1) := by decide +kernel
theorem dX3_longestFrom_8 : decode cX3_longestFrom 8 = .ok (.ireturn, 1) := by decide +kernel
theorem dX3_longestFrom_9 : decode cX3_longestFrom 9 = .ok (.iconst 0, 1) := by decide +kernel
theorem dX3_longestFrom_10 : decode cX3_longestFrom 10 = .ok (.istore 5, 2) := by decide +kernel
theorem dX3_longestFrom_12 : decode cX3_longestFrom 12 = .ok (.iconst 0, 1) := by decide +kernel
theorem dX3_longestFrom_13 : decode cX3_longestFrom 13 = .ok (.istore 6, 2) := by decide +kernel
theorem dX3_longestFrom_15 : decode cX3_longestFrom 15 = .ok (.iload 6, 2) := by decide +kernel
theorem dX3_longestFrom_17 : decode cX3_longestFrom 17 = .ok (.bipush 6, 2) := by decide +kernel
theorem dX3_longestFrom_19 : decode cX3_longestFrom 19 = .ok (.if_icmp .ge 83, 3) := by decide +kernel
theorem dX3_longestFrom_22 : decode cX3_longestFrom 22 = .ok (.lload_n 0, 1) := by decide +kernel
theorem dX3_longestFrom_23 : decode cX3_longestFrom 23 = .ok (.iload_n 2, 1) := by decide +kernel
theorem dX3_longestFrom_24 : decode cX3_longestFrom 24 = .ok (.bipush 6, 2) := by decide +kernel
theorem dX3_longestFrom_26 : decode cX3_longestFrom 26 = .ok (.imul, 1) := by decide +kernel
theorem dX3_longestFrom_27 : decode cX3_longestFrom 27 = .ok (.iload 6, 2) := by decide +kernel
theorem dX3_longestFrom_29 : decode cX3_longestFrom 29 = .ok (.iadd, 1) := by decide +kernel
theorem dX3_longestFrom_30 : decode cX3_longestFrom 30 = .ok (.lshr, 1) := by decide +kernel
theorem dX3_longestFrom_31 : decode cX3_longestFrom 31 = .ok (.lconst 1, 1) := by decide +kernel
theorem dX3_longestFrom_32 : decode cX3_longestFrom 32 = .ok (.land, 1) := by decide +kernel
theorem dX3_longestFrom_33 : decode cX3_longestFrom 33 = .ok (.lconst 0, 1) := by decide +kernel
theorem dX3_longestFrom_34 : decode cX3_longestFrom 34 = .ok (.lcmp, 1) := by decide +kernel
theorem dX3_longestFrom_35 : decode cX3_longestFrom 35 = .ok (.ifCond .eq 7, 3) := by decide +kernel
theorem dX3_longestFrom_38 : decode cX3_longestFrom 38 = .ok (.iconst 1, 1) := by decide +kernel
theorem dX3_longestFrom_39 : decode cX3_longestFrom 39 = .ok (.goto 4, 3) := by decide +kernel
theorem dX3_longestFrom_42 : decode cX3_longestFrom 42 = .ok (.iconst 0, 1) := by decide +kernel
theorem dX3_longestFrom_43 : decode cX3_longestFrom 43 = .ok (.istore 7, 2) := by decide +kernel
theorem dX3_longestFrom_45 : decode cX3_longestFrom 45 = .ok (.iload_n 3, 1) := by decide +kernel
theorem dX3_longestFrom_46 : decode cX3_longestFrom 46 = .ok (.iload 6, 2) := by decide +kernel
theorem dX3_longestFrom_48 : decode cX3_longestFrom 48 = .ok (.ishr, 1) := by decide +kernel
theorem dX3_longestFrom_49 : decode cX3_longestFrom 49 = .ok (.iconst 1, 1) := by decide +kernel
theorem dX3_longestFrom_50 : decode cX3_longestFrom 50 = .ok (.iand, 1) := by decide +kernel
theorem dX3_longestFrom_51 : decode cX3_longestFrom 51 = .ok (.ifCond .eq 7, 3) := by decide +kernel
theorem dX3_longestFrom_54 : decode cX3_longestFrom 54 = .ok (.iconst 1, 1) := by decide +kernel
theorem dX3_longestFrom_55 : decode cX3_longestFrom 55 = .ok (.goto 4, 3) := by decide +kernel
theorem dX3_longestFrom_58 : decode cX3_longestFrom 58 = .ok (.iconst 0, 1) := by decide +kernel
theorem dX3_longestFrom_59 : decode cX3_longestFrom 59 = .ok (.istore 8, 2) := by decide +kernel
theorem dX3_longestFrom_61 : decode cX3_longestFrom 61 = .ok (.iload 7, 2) := by decide +kernel
theorem dX3_longestFrom_63 : decode cX3_longestFrom 63 = .ok (.ifCond .eq 33, 3) := by decide +kernel
theorem dX3_longestFrom_66 : decode cX3_longestFrom 66 = .ok (.iload 8, 2) := by decide +kernel
theorem dX3_longestFrom_68 : decode cX3_longestFrom 68 = .ok (.ifCond .ne 28, 3) := by decide +kernel
theorem dX3_longestFrom_71 : decode cX3_longestFrom 71 = .ok (.iload 5, 2) := by decide +kernel
theorem dX3_longestFrom_73 : decode cX3_longestFrom 73 = .ok (.iconst 1, 1) := by decide +kernel
theorem dX3_longestFrom_74 : decode cX3_longestFrom 74 = .ok (.lload_n 0, 1) := by decide +kernel
theorem dX3_longestFrom_75 : decode cX3_longestFrom 75 = .ok (.iload 6, 2) := by decide +kernel
theorem dX3_longestFrom_77 : decode cX3_longestFrom 77 = .ok (.iload_n 3, 1) := by decide +kernel
theorem dX3_longestFrom_78 : decode cX3_longestFrom 78 = .ok (.iconst 1, 1) := by decide +kernel
theorem dX3_longestFrom_79 : decode cX3_longestFrom 79 = .ok (.iload 6, 2) := by decide +kernel
theorem dX3_longestFrom_81 : decode cX3_longestFrom 81 = .ok (.ishl, 1) := by decide +kernel
theorem dX3_longestFrom_82 : decode cX3_longestFrom 82 = .ok (.ior, 1) := by decide +kernel
theorem dX3_longestFrom_83 : decode cX3_longestFrom 83 = .ok (.iload 4, 2) := by decide +kernel
theorem dX3_longestFrom_85 : decode cX3_longestFrom 85 = .ok (.iconst 1, 1) := by decide +kernel
theorem dX3_longestFrom_86 : decode cX3_longestFrom 86 = .ok (.iadd, 1) := by decide +kernel
theorem dX3_longestFrom_87 : decode cX3_longestFrom 87 = .ok (.invokestatic 51, 3) := by decide +kernel
theorem dX3_longestFrom_90 : decode cX3_longestFrom 90 = .ok (.iadd, 1) := by decide +kernel
theorem dX3_longestFrom_91 : decode cX3_longestFrom 91 = .ok (.invokestatic 55, 3) := by decide +kernel
theorem dX3_longestFrom_94 : decode cX3_longestFrom 94 = .ok (.istore 5, 2) := by decide +kernel
theorem dX3_longestFrom_96 : decode cX3_longestFrom 96 = .ok (.iinc 6 1, 3) := by decide +kernel
theorem dX3_longestFrom_99 : decode cX3_longestFrom 99 = .ok (.goto (-84), 3) := by decide +kernel
theorem dX3_longestFrom_102 : decode cX3_longestFrom 102 = .ok (.iload 5, 2) := by decide +kernel
theorem dX3_longestFrom_104 : decode cX3_longestFrom 104 = .ok (.ireturn, 1) := by decide +kernel
theorem dX4_init_0 : decode cX4_init 0 = .ok (.aload_n 0, 1) := by decide +kernel
theorem dX4_init_1 : decode cX4_init 1 = .ok (.invokespecial 3, 3) := by decide +kernel
theorem dX4_init_4 : decode cX4_init 4 = .ok (.aload_n 0, 1) := by decide +kernel
theorem dX4_init_5 : decode cX4_init 5 = .ok (.bipush 6, 2) := by decide +kernel
theorem dX4_init_7 : decode cX4_init 7 = .ok (.newarray .int, 2) := by decide +kernel
theorem dX4_init_9 : decode cX4_init 9 = .ok (.putfield 9, 3) := by decide +kernel
theorem dX4_init_12 : decode cX4_init 12 = .ok (.aload_n 0, 1) := by decide +kernel
theorem dX4_init_13 : decode cX4_init 13 = .ok (.bipush 6, 2) := by decide +kernel
theorem dX4_init_15 : decode cX4_init 15 = .ok (.newarray .int, 2) := by decide +kernel
theorem dX4_init_17 : decode cX4_init 17 = .ok (.putfield 15, 3) := by decide +kernel
theorem dX4_init_20 : decode cX4_init 20 = .ok (.aload_n 0, 1) := by decide +kernel
theorem dX4_init_21 : decode cX4_init 21 = .ok (.bipush 6, 2) := by decide +kernel
theorem dX4_init_23 : decode cX4_init 23 = .ok (.newarray .int, 2) := by decide +kernel
theorem dX4_init_25 : decode cX4_init 25 = .ok (.putfield 18, 3) := by decide +kernel
theorem dX4_init_28 : decode cX4_init 28 = .ok (.aload_n 0, 1) := by decide +kernel
theorem dX4_init_29 : decode cX4_init 29 = .ok (.bipush 36, 2) := by decide +kernel
theorem dX4_init_31 : decode cX4_init 31 = .ok (.newarray .int, 2) := by decide +kernel
theorem dX4_init_33 : decode cX4_init 33 = .ok (.putfield 21, 3) := by decide +kernel
theorem dX4_init_36 : decode cX4_init 36 = .ok (.aload_n 0, 1) := by decide +kernel
theorem dX4_init_37 : decode cX4_init 37 = .ok (.bipush 6, 2) := by decide +kernel
theorem dX4_init_39 : decode cX4_init 39 = .ok (.newarray .int, 2) := by decide +kernel
theorem dX4_init_41 : decode cX4_init 41 = .ok (.putfield 24, 3) := by decide +kernel
theorem dX4_init_44 : decode cX4_init 44 = .ok (.aload_n 0, 1) := by decide +kernel
theorem dX4_init_45 : decode cX4_init 45 = .ok (.new 27, 3) := by decide +kernel
theorem dX4_init_48 : decode cX4_init 48 = .ok (.dup, 1) := by decide +kernel
theorem dX4_init_49 : decode cX4_init 49 = .ok (.invokespecial 29, 3) := by decide +kernel
theorem dX4_init_52 : decode cX4_init 52 = .ok (.putfield 30, 3) := by decide +kernel
theorem dX4_init_55 : decode cX4_init 55 = .ok (.aload_n 0, 1) := by decide +kernel
theorem dX4_init_56 : decode cX4_init 56 = .ok (.new 34, 3) := by decide +kernel
theorem dX4_init_59 : decode cX4_init 59 = .ok (.dup, 1) := by decide +kernel
theorem dX4_init_60 : decode cX4_init 60 = .ok (.invokespecial 36, 3) := by decide +kernel
theorem dX4_init_63 : decode cX4_init 63 = .ok (.putfield 37, 3) := by decide +kernel
theorem dX4_init_66 : decode cX4_init 66 = .ok (.iconst 0, 1) := by decide +kernel
theorem dX4_init_67 : decode cX4_init 67 = .ok (.istore_n 1, 1) := by decide +kernel
theorem dX4_init_68 : decode cX4_init 68 = .ok (.iload_n 1, 1) := by decide +kernel
theorem dX4_init_69 : decode cX4_init 69 = .ok (.bipush 6, 2) := by decide +kernel
theorem dX4_init_71 : decode cX4_init 71 = .ok (.if_icmp .ge 29, 3) := by decide +kernel
theorem dX4_init_74 : decode cX4_init 74 = .ok (.aload_n 0, 1) := by decide +kernel
theorem dX4_init_75 : decode cX4_init 75 = .ok (.getfield 18, 3) := by decide +kernel
theorem dX4_init_78 : decode cX4_init 78 = .ok (.iload_n 1, 1) := by decide +kernel
theorem dX4_init_79 : decode cX4_init 79 = .ok (.iload_n 1, 1) := by decide +kernel
theorem dX4_init_80 : decode cX4_init 80 = .ok (.iastore, 1) := by decide +kernel
theorem dX4_init_81 : decode cX4_init 81 = .ok (.aload_n 0, 1) := by decide +kernel
theorem dX4_init_82 : decode cX4_init 82 = .ok (.getfield 21, 3) := by decide +kernel
theorem dX4_init_85 : decode cX4_init 85 = .ok (.iload_n 1, 1) := by decide +kernel
theorem dX4_init_86 : decode cX4_init 86 = .ok (.bipush 6, 2) := by decide +kernel
theorem dX4_init_88 : decode cX4_init 88 = .ok (.imul, 1) := by decide +kernel
theorem dX4_init_89 : decode cX4_init 89 = .ok (.iload_n 1, 1) := by decide +kernel
theorem dX4_init_90 : decode cX4_init 90 = .ok (.iadd, 1) := by decide +kernel
theorem dX4_init_91 : decode cX4_init 91 = .ok (.bipush 64, 2) := by decide +kernel
theorem dX4_init_93 : decode cX4_init 93 = .ok (.iastore, 1) := by decide +kernel
theorem dX4_init_94 : decode cX4_init 94 = .ok (.iinc 1 1, 3) := by decide +kernel
theorem dX4_init_97 : decode cX4_init 97 = .ok (.goto (-29), 3) := by decide +kernel
theorem dX4_init_100 : decode cX4_init 100 = .ok (.return_, 1) := by decide +kernel
theorem dX4_copyFrom_0 : decode cX4_copyFrom 0 = .ok (.aload_n 1, 1) := by decide +kernel
theorem dX4_copyFrom_1 : decode cX4_copyFrom 1 = .ok (.getfield 9, 3) := by decide +kernel
theorem dX4_copyFrom_4 : decode cX4_copyFrom 4 = .ok (.iconst 0, 1) := by decide +kernel
theorem dX4_copyFrom_5 : decode cX4_copyFrom 5 = .ok (.aload_n 0, 1) := by decide +kernel
theorem dX4_copyFrom_6 : decode cX4_copyFrom 6 = .ok (.getfield 9, 3) := by decide +kernel
theorem dX4_copyFrom_9 : decode cX4_copyFrom 9 = .ok (.iconst 0, 1) := by decide +kernel
theorem dX4_copyFrom_10 : decode cX4_copyFrom 10 = .ok (.bipush 6, 2) := by decide +kernel
theorem dX4_copyFrom_12 : decode cX4_copyFrom 12 = .ok (.invokestatic 41, 3) := by decide +kernel
theorem dX4_copyFrom_15 : decode cX4_copyFrom 15 = .ok (.aload_n 1, 1) := by decide +kernel
theorem dX4_copyFrom_16 : decode cX4_copyFrom 16 = .ok (.getfield 15, 3) := by decide +kernel
theorem dX4_copyFrom_19 : decode cX4_copyFrom 19 = .ok (.iconst 0, 1) := by decide +kernel
theorem dX4_copyFrom_20 : decode cX4_copyFrom 20 = .ok (.aload_n 0, 1) := by decide +kernel
theorem dX4_copyFrom_21 : decode cX4_copyFrom 21 = .ok (.getfield 15, 3) := by decide +kernel
theorem dX4_copyFrom_24 : decode cX4_copyFrom 24 = .ok (.iconst 0, 1) := by decide +kernel
theorem dX4_copyFrom_25 : decode cX4_copyFrom 25 = .ok (.bipush 6, 2) := by decide +kernel
theorem dX4_copyFrom_27 : decode cX4_copyFrom 27 = .ok (.invokestatic 41, 3) := by decide +kernel
theorem dX4_copyFrom_30 : decode cX4_copyFrom 30 = .ok (.aload_n 1, 1) := by decide +kernel
theorem dX4_copyFrom_31 : decode cX4_copyFrom 31 = .ok (.getfield 18, 3) := by decide +kernel
theorem dX4_copyFrom_34 : decode cX4_copyFrom 34 = .ok (.iconst 0, 1) := by decide +kernel
theorem dX4_copyFrom_35 : decode cX4_copyFrom 35 = .ok (.aload_n 0, 1) := by decide +kernel
theorem dX4_copyFrom_36 : decode cX4_copyFrom 36 = .ok (.getfield 18, 3) := by decide +kernel
theorem dX4_copyFrom_39 : decode cX4_copyFrom 39 = .ok (.iconst 0, 1) := by decide +kernel
theorem dX4_copyFrom_40 : decode cX4_copyFrom 40 = .ok (.bipush 6, 2) := by decide +kernel
theorem dX4_copyFrom_42 : decode cX4_copyFrom 42 = .ok (.invokestatic 41, 3) := by decide +kernel
theorem dX4_copyFrom_45 : decode cX4_copyFrom 45 = .ok (.aload_n 1, 1) := by decide +kernel
theorem dX4_copyFrom_46 : decode cX4_copyFrom 46 = .ok (.getfield 21, 3) := by decide +kernel
theorem dX4_copyFrom_49 : decode cX4_copyFrom 49 = .ok (.iconst 0, 1) := by decide +kernel
theorem dX4_copyFrom_50 : decode cX4_copyFrom 50 = .ok (.aload_n 0, 1) := by decide +kernel
theorem dX4_copyFrom_51 : decode cX4_copyFrom 51 = .ok (.getfield 21, 3) := by decide +kernel
theorem dX4_copyFrom_54 : decode cX4_copyFrom 54 = .ok (.iconst 0, 1) := by decide +kernel
theorem dX4_copyFrom_55 : decode cX4_copyFrom 55 = .ok (.bipush 36, 2) := by decide +kernel
theorem dX4_copyFrom_57 : decode cX4_copyFrom 57 = .ok (.invokestatic 41, 3) := by decide +kernel
theorem dX4_copyFrom_60 : decode cX4_copyFrom 60 = .ok (.aload_n 1, 1) := by decide +kernel
theorem dX4_copyFrom_61 : decode cX4_copyFrom 61 = .ok (.getfield 24, 3) := by decide +kernel
theorem dX4_copyFrom_64 : decode cX4_copyFrom 64 = .ok (.iconst 0, 1) := by decide +kernel
theorem dX4_copyFrom_65 : decode cX4_copyFrom 65 = .ok (.aload_n 0, 1) := by decide +kernel
theorem dX4_copyFrom_66 : decode cX4_copyFrom 66 = .ok (.getfield 24, 3) := by decide +kernel
theorem dX4_copyFrom_69 : decode cX4_copyFrom 69 = .ok (.iconst 0, 1) := by decide +kernel
theorem dX4_copyFrom_70 : decode cX4_copyFrom 70 = .ok (.bipush 6, 2) := by decide +kernel
theorem dX4_copyFrom_72 : decode cX4_copyFrom 72 = .ok (.invokestatic 41, 3) := by decide +kernel
theorem dX4_copyFrom_75 : decode cX4_copyFrom 75 = .ok (.aload_n 0, 1) := by decide +kernel
theorem dX4_copyFrom_76 : decode cX4_copyFrom 76 = .ok (.getfield 30, 3) := by decide +kernel
theorem dX4_copyFrom_79 : decode cX4_copyFrom 79 = .ok (.aload_n 1, 1) := by decide +kernel
theorem dX4_copyFrom_80 : decode cX4_copyFrom 80 = .ok (.getfield 30, 3) := by decide +kernel
theorem dX4_copyFrom_83 : decode cX4_copyFrom 83 = .ok (.invokevirtual 47, 3) := by decide +kernel
theorem dX4_copyFrom_86 : decode cX4_copyFrom 86 = .ok (.aload_n 0, 1) := by decide +kernel
theorem dX4_copyFrom_87 : decode cX4_copyFrom 87 = .ok (.getfield 37, 3) := by decide +kernel
theorem dX4_copyFrom_90 : decode cX4_copyFrom 90 = .ok (.aload_n 1, 1) := by decide +kernel
theorem dX4_copyFrom_91 : decode cX4_copyFrom 91 = .ok (.getfield 37, 3) := by decide +kernel
theorem dX4_copyFrom_94 : decode cX4_copyFrom 94 = .ok (.invokevirtual 51, 3) := by decide +kernel
theorem dX4_copyFrom_97 : decode cX4_copyFrom 97 = .ok (.aload_n 0, 1) := by decide +kernel
theorem dX4_copyFrom_98 : decode cX4_copyFrom 98 = .ok (.aload_n 1, 1) := by decide +kernel
theorem dX4_copyFrom_99 : decode cX4_copyFrom 99 = .ok (.getfield 54, 3) := by decide +kernel
theorem dX4_copyFrom_102 : decode cX4_copyFrom 102 = .ok (.putfield 54, 3) := by decide +kernel
theorem dX4_copyFrom_105 : decode cX4_copyFrom 105 = .ok (.return_, 1) := by decide +kernel
theorem dX4_heldBy_0 : decode cX4_heldBy 0 = .ok (.aload_n 0, 1) := by decide +kernel
theorem dX4_heldBy_1 : decode cX4_heldBy 1 = .ok (.getfield 21, 3) := by decide +kernel
theorem dX4_heldBy_4 : decode cX4_heldBy 4 = .ok (.iload_n 2, 1) := by decide +kernel
theorem dX4_heldBy_5 : decode cX4_heldBy 5 = .ok (.bipush 6, 2) := by decide +kernel
theorem dX4_heldBy_7 : decode cX4_heldBy 7 = .ok (.imul, 1) := by decide +kernel
theorem dX4_heldBy_8 : decode cX4_heldBy 8 = .ok (.iload_n 1, 1) := by decide +kernel
theorem dX4_heldBy_9 : decode cX4_heldBy 9 = .ok (.iadd, 1) := by decide +kernel
theorem dX4_heldBy_10 : decode cX4_heldBy 10 = .ok (.iaload, 1) := by decide +kernel
theorem dX4_heldBy_11 : decode cX4_heldBy 11 = .ok (.ireturn, 1) := by decide +kernel
theorem dX4_isHolding_0 : decode cX4_isHolding 0 = .ok (.aload_n 0, 1) := by decide +kernel
theorem dX4_isHolding_1 : decode cX4_isHolding 1 = .ok (.getfield 24, 3) := by decide +kernel
theorem dX4_isHolding_4 : decode cX4_isHolding 4 = .ok (.iload_n 2, 1) := by decide +kernel
theorem dX4_isHolding_5 : decode cX4_isHolding 5 = .ok (.iaload, 1) := by decide +kernel
theorem dX4_isHolding_6 : decode cX4_isHolding 6 = .ok (.iconst 1, 1) := by decide +kernel
theorem dX4_isHolding_7 : decode cX4_isHolding 7 = .ok (.iload_n 1, 1) := by decide +kernel
theorem dX4_isHolding_8 : decode cX4_isHolding 8 = .ok (.ishl, 1) := by decide +kernel
theorem dX4_isHolding_9 : decode cX4_isHolding 9 = .ok (.iand, 1) := by decide +kernel
theorem dX4_isHolding_10 : decode cX4_isHolding 10 = .ok (.ifCond .eq 7, 3) := by decide +kernel
theorem dX4_isHolding_13 : decode cX4_isHolding 13 = .ok (.iconst 1, 1) := by decide +kernel
theorem dX4_isHolding_14 : decode cX4_isHolding 14 = .ok (.goto 4, 3) := by decide +kernel
theorem dX4_isHolding_17 : decode cX4_isHolding 17 = .ok (.iconst 0, 1) := by decide +kernel
theorem dX4_isHolding_18 : decode cX4_isHolding 18 = .ok (.ireturn, 1) := by decide +kernel
theorem dX4_makeLoan_0 : decode cX4_makeLoan 0 = .ok (.iload_n 1, 1) := by decide +kernel
theorem dX4_makeLoan_1 : decode cX4_makeLoan 1 = .ok (.invokestatic 58, 3) := by decide +kernel
theorem dX4_makeLoan_4 : decode cX4_makeLoan 4 = .ok (.ifCond .eq 17, 3) := by decide +kernel
theorem dX4_makeLoan_7 : decode cX4_makeLoan 7 = .ok (.iload_n 2, 1) := by decide +kernel
theorem dX4_makeLoan_8 : decode cX4_makeLoan 8 = .ok (.invokestatic 58, 3) := by decide +kernel
theorem dX4_makeLoan_11 : decode cX4_makeLoan 11 = .ok (.ifCond .eq 10, 3) := by decide +kernel
theorem dX4_makeLoan_14 : decode cX4_makeLoan 14 = .ok (.iload_n 3, 1) := by decide +kernel
theorem dX4_makeLoan_15 : decode cX4_makeLoan 15 = .ok (.invokestatic 62, 3) := by decide +kernel
theorem dX4_makeLoan_18 : decode cX4_makeLoan 18 = .ok (.ifCond .ne 5, 3) := by decide +kernel
theorem dX4_makeLoan_21 : decode cX4_makeLoan 21 = .ok (.iconst (-1), 1) := by decide +kernel
theorem dX4_makeLoan_22 : decode cX4_makeLoan 22 = .ok (.ireturn, 1) := by decide +kernel
theorem dX4_makeLoan_23 : decode cX4_makeLoan 23 = .ok (.iload 4, 2) := by decide +kernel
theorem dX4_makeLoan_25 : decode cX4_makeLoan 25 = .ok (.iconst 1, 1) := by decide +kernel
theorem dX4_makeLoan_26 : decode cX4_makeLoan 26 = .ok (.if_icmp .lt 15, 3) := by decide +kernel
theorem dX4_makeLoan_29 : decode cX4_makeLoan 29 = .ok (.iload 4, 2) := by decide +kernel
theorem dX4_makeLoan_31 : decode cX4_makeLoan 31 = .ok (.bipush 64, 2) := by decide +kernel
theorem dX4_makeLoan_33 : decode cX4_makeLoan 33 = .ok (.if_icmp .gt 8, 3) := by decide +kernel
theorem dX4_makeLoan_36 : decode cX4_makeLoan 36 = .ok (.iload_n 1, 1) := by decide +kernel
theorem dX4_makeLoan_37 : decode cX4_makeLoan 37 = .ok (.iload_n 2, 1) := by decide +kernel
theorem dX4_makeLoan_38 : decode cX4_makeLoan 38 = .ok (.if_icmp .ne 6, 3) := by decide +kernel
theorem dX4_makeLoan_41 : decode cX4_makeLoan 41 = .ok (.bipush (-2), 2) := by decide +kernel
theorem dX4_makeLoan_43 : decode cX4_makeLoan 43 = .ok (.ireturn, 1) := by decide +kernel
theorem dX4_makeLoan_44 : decode cX4_makeLoan 44 = .ok (.aload_n 0, 1) := by decide +kernel
theorem dX4_makeLoan_45 : decode cX4_makeLoan 45 = .ok (.iload_n 1, 1) := by decide +kernel
theorem dX4_makeLoan_46 : decode cX4_makeLoan 46 = .ok (.iload_n 3, 1) := by decide +kernel
theorem dX4_makeLoan_47 : decode cX4_makeLoan 47 = .ok (.invokevirtual 65, 3) := by decide +kernel
theorem dX4_makeLoan_50 : decode cX4_makeLoan 50 = .ok (.iload 4, 2) := by decide +kernel
theorem dX4_makeLoan_52 : decode cX4_makeLoan 52 = .ok (.if_icmp .lt 12, 3) := by decide +kernel
theorem dX4_makeLoan_55 : decode cX4_makeLoan 55 = .ok (.aload_n 0, 1) := by decide +kernel
theorem dX4_makeLoan_56 : decode cX4_makeLoan 56 = .ok (.iload_n 1, 1) := by decide +kernel
theorem dX4_makeLoan_57 : decode cX4_makeLoan 57 = .ok (.iload_n 3, 1) := by decide +kernel
theorem dX4_makeLoan_58 : decode cX4_makeLoan 58 = .ok (.invokevirtual 69, 3) := by decide +kernel
theorem dX4_makeLoan_61 : decode cX4_makeLoan 61 = .ok (.ifCond .eq 6, 3) := by decide +kernel
theorem dX4_makeLoan_64 : decode cX4_makeLoan 64 = .ok (.bipush (-4), 2) := by decide +kernel
theorem dX4_makeLoan_66 : decode cX4_makeLoan 66 = .ok (.ireturn, 1) := by decide +kernel
theorem dX4_makeLoan_67 : decode cX4_makeLoan 67 = .ok (.aload_n 0, 1) := by decide +kernel
theorem dX4_makeLoan_68 : decode cX4_makeLoan 68 = .ok (.getfield 37, 3) := by decide +kernel
theorem dX4_makeLoan_71 : decode cX4_makeLoan 71 = .ok (.invokevirtual 73, 3) := by decide +kernel
theorem dX4_makeLoan_74 : decode cX4_makeLoan 74 = .ok (.ifCond .ne 6, 3) := by decide +kernel
theorem dX4_makeLoan_77 : decode cX4_makeLoan 77 = .ok (.bipush (-3), 2) := by decide +kernel
theorem dX4_makeLoan_79 : decode cX4_makeLoan 79 = .ok (.ireturn, 1) := by decide +kernel
theorem dX4_makeLoan_80 : decode cX4_makeLoan 80 = .ok (.aload_n 0, 1) := by decide +kernel
theorem dX4_makeLoan_81 : decode cX4_makeLoan 81 = .ok (.iload_n 1, 1) := by decide +kernel
theorem dX4_makeLoan_82 : decode cX4_makeLoan 82 = .ok (.iload_n 2, 1) := by decide +kernel
theorem dX4_makeLoan_83 : decode cX4_makeLoan 83 = .ok (.iload_n 3, 1) := by decide +kernel
theorem dX4_makeLoan_84 : decode cX4_makeLoan 84 = .ok (.iload 4, 2) := by decide +kernel
theorem dX4_makeLoan_86 : decode cX4_makeLoan 86 = .ok (.invokevirtual 77, 3) := by decide +kernel
theorem dX4_makeLoan_89 : decode cX4_makeLoan 89 = .ok (.aload_n 0, 1) := by decide +kernel
theorem dX4_makeLoan_90 : decode cX4_makeLoan 90 = .ok (.getfield 37, 3) := by decide +kernel
theorem dX4_makeLoan_93 : decode cX4_makeLoan 93 = .ok (.iload_n 1, 1) := by decide +kernel
theorem dX4_makeLoan_94 : decode cX4_makeLoan 94 = .ok (.iload_n 2, 1) := by decide +kernel
theorem dX4_makeLoan_95 : decode cX4_makeLoan 95 = .ok (.iload_n 3, 1) := by decide +kernel
theorem dX4_makeLoan_96 : decode cX4_makeLoan 96 = .ok (.iload 4, 2) := by decide +kernel
theorem dX4_makeLoan_98 : decode cX4_makeLoan 98 = .ok (.invokevirtual 81, 3) := by decide +kernel
theorem dX4_makeLoan_101 : decode cX4_makeLoan 101 = .ok (.ireturn, 1) := by decide +kernel
theorem dX4_makeHalfLoan_0 : decode cX4_makeHalfLoan 0 = .ok (.iload_n 1, 1) := by decide +kernel
theorem dX4_makeHalfLoan_1 : decode cX4_makeHalfLoan 1 = .ok (.invokestatic 58, 3) := by decide +kernel
theorem dX4_makeHalfLoan_4 : decode cX4_makeHalfLoan 4 = .ok (.ifCond .eq 17, 3) := by decide +kernel
theorem dX4_makeHalfLoan_7 : decode cX4_makeHalfLoan 7 = .ok (.iload_n 2, 1) := by decide +kernel
theorem dX4_makeHalfLoan_8 : decode cX4_makeHalfLoan 8 = .ok (.invokestatic 58, 3) := by decide +kernel
theorem dX4_makeHalfLoan_11 : decode cX4_makeHalfLoan 11 = .ok (.ifCond .eq 10, 3) := by decide +kernel
theorem dX4_makeHalfLoan_14 : decode cX4_makeHalfLoan 14 = .ok (.iload_n 3, 1) := by decide +kernel
theorem dX4_makeHalfLoan_15 : decode cX4_makeHalfLoan 15 = .ok (.invokestatic 62, 3) := by decide +kernel
theorem dX4_makeHalfLoan_18 : decode cX4_makeHalfLoan 18 = .ok (.ifCond .ne 5, 3) := by decide +kernel
theorem dX4_makeHalfLoan_21 : decode cX4_makeHalfLoan 21 = .ok (.iconst (-1), 1) := by decide +kernel
theorem dX4_makeHalfLoan_22 : decode cX4_makeHalfLoan 22 = .ok (.ireturn, 1) := by decide +kernel
theorem dX4_makeHalfLoan_23 : decode cX4_makeHalfLoan 23 = .ok (.iload_n 1, 1) := by decide +kernel
theorem dX4_makeHalfLoan_24 : decode cX4_makeHalfLoan 24 = .ok (.iload_n 2, 1) := by decide +kernel
theorem dX4_makeHalfLoan_25 : decode cX4_makeHalfLoan 25 = .ok (.if_icmp .ne 6, 3) := by decide +kernel
theorem dX4_makeHalfLoan_28 : decode cX4_makeHalfLoan 28 = .ok (.bipush (-2), 2) := by decide +kernel
theorem dX4_makeHalfLoan_30 : decode cX4_makeHalfLoan 30 = .ok (.ireturn, 1) := by decide +kernel
theorem dX4_makeHalfLoan_31 : decode cX4_makeHalfLoan 31 = .ok (.aload_n 0, 1) := by decide +kernel
theorem dX4_makeHalfLoan_32 : decode cX4_makeHalfLoan 32 = .ok (.iload_n 1, 1) := by decide +kernel
theorem dX4_makeHalfLoan_33 : decode cX4_makeHalfLoan 33 = .ok (.iload_n 3, 1) := by decide +kernel
theorem dX4_makeHalfLoan_34 : decode cX4_makeHalfLoan 34 = .ok (.invokevirtual 65, 3) := by decide +kernel
theorem dX4_makeHalfLoan_37 : decode cX4_makeHalfLoan 37 = .ok (.iconst 2, 1) := by decide +kernel
theorem dX4_makeHalfLoan_38 : decode cX4_makeHalfLoan 38 = .ok (.idiv, 1) := by decide +kernel
theorem dX4_makeHalfLoan_39 : decode cX4_makeHalfLoan 39 = .ok (.istore 4, 2) := by decide +kernel
theorem dX4_makeHalfLoan_41 : decode cX4_makeHalfLoan 41 = .ok (.iload 4, 2) := by decide +kernel
theorem dX4_makeHalfLoan_43 : decode cX4_makeHalfLoan 43 = .ok (.ifCond .ne 6, 3) := by decide +kernel
theorem dX4_makeHalfLoan_46 : decode cX4_makeHalfLoan 46 = .ok (.bipush (-4), 2) := by decide +kernel
theorem dX4_makeHalfLoan_48 : decode cX4_makeHalfLoan 48 = .ok (.ireturn, 1) := by decide +kernel
theorem dX4_makeHalfLoan_49 : decode cX4_makeHalfLoan 49 = .ok (.aload_n 0, 1) := by decide +kernel
theorem dX4_makeHalfLoan_50 : decode cX4_makeHalfLoan 50 = .ok (.iload_n 1, 1) := by decide +kernel
theorem dX4_makeHalfLoan_51 : decode cX4_makeHalfLoan 51 = .ok (.iload_n 2, 1) := by decide +kernel
theorem dX4_makeHalfLoan_52 : decode cX4_makeHalfLoan 52 = .ok (.iload_n 3, 1) := by decide +kernel
theorem dX4_makeHalfLoan_53 : decode cX4_makeHalfLoan 53 = .ok (.iload 4, 2) := by decide +kernel
theorem dX4_makeHalfLoan_55 : decode cX4_makeHalfLoan 55 = .ok (.invokevirtual 85, 3) := by decide +kernel
theorem dX4_makeHalfLoan_58 : decode cX4_makeHalfLoan 58 = .ok (.istore 5, 2) := by decide +kernel
theorem dX4_makeHalfLoan_60 : decode cX4_makeHalfLoan 60 = .ok (.iload 5, 2) := by decide +kernel
theorem dX4_makeHalfLoan_62 : decode cX4_makeHalfLoan 62 = .ok (.ifCond .ge 8, 3) := by decide +kernel
theorem dX4_makeHalfLoan_65 : decode cX4_makeHalfLoan 65 = .ok (.iload 5, 2) := by decide +kernel
theorem dX4_makeHalfLoan_67 : decode cX4_makeHalfLoan 67 = .ok (.goto 5, 3) := by decide +kernel
theorem dX4_makeHalfLoan_70 : decode cX4_makeHalfLoan 70 = .ok (.iload 4, 2) := by decide +kernel
theorem dX4_makeHalfLoan_72 : decode cX4_makeHalfLoan 72 = .ok (.ireturn, 1) := by decide +kernel
theorem dX4_endLoan_0 : decode cX4_endLoan 0 = .ok (.aload_n 0, 1) := by decide +kernel
theorem dX4_endLoan_1 : decode cX4_endLoan 1 = .ok (.getfield 37, 3) := by decide +kernel
theorem dX4_endLoan_4 : decode cX4_endLoan 4 = .ok (.iload_n 1, 1) := by decide +kernel
theorem dX4_endLoan_5 : decode cX4_endLoan 5 = .ok (.invokevirtual 88, 3) := by decide +kernel
theorem dX4_endLoan_8 : decode cX4_endLoan 8 = .ok (.istore_n 2, 1) := by decide +kernel
theorem dX4_endLoan_9 : decode cX4_endLoan 9 = .ok (.iload_n 2, 1) := by decide +kernel
theorem dX4_endLoan_10 : decode cX4_endLoan 10 = .ok (.ifCond .ge 5, 3) := by decide +kernel
theorem dX4_endLoan_13 : decode cX4_endLoan 13 = .ok (.iconst (-1), 1) := by decide +kernel
theorem dX4_endLoan_14 : decode cX4_endLoan 14 = .ok (.ireturn, 1) := by decide +kernel
theorem dX4_endLoan_15 : decode cX4_endLoan 15 = .ok (.aload_n 0, 1) := by decide +kernel
theorem dX4_endLoan_16 : decode cX4_endLoan 16 = .ok (.iload_n 2, 1) := by decide +kernel
theorem dX4_endLoan_17 : decode cX4_endLoan 17 = .ok (.invokevirtual 92, 3) := by decide +kernel
theorem dX4_endLoan_20 : decode cX4_endLoan 20 = .ok (.ifCond .ne 6, 3) := by decide +kernel
theorem dX4_endLoan_23 : decode cX4_endLoan 23 = .ok (.bipush (-4), 2) := by decide +kernel
theorem dX4_endLoan_25 : decode cX4_endLoan 25 = .ok (.ireturn, 1) := by decide +kernel
theorem dX4_endLoan_26 : decode cX4_endLoan 26 = .ok (.aload_n 0, 1) := by decide +kernel
theorem dX4_endLoan_27 : decode cX4_endLoan 27 = .ok (.getfield 37, 3) := by decide +kernel
theorem dX4_endLoan_30 : decode cX4_endLoan 30 = .ok (.getfield 95, 3) := by decide +kernel
theorem dX4_endLoan_33 : decode cX4_endLoan 33 = .ok (.iload_n 2, 1) := by decide +kernel
theorem dX4_endLoan_34 : decode cX4_endLoan 34 = .ok (.iaload, 1) := by decide +kernel
theorem dX4_endLoan_35 : decode cX4_endLoan 35 = .ok (.istore_n 3, 1) := by decide +kernel
theorem dX4_endLoan_36 : decode cX4_endLoan 36 = .ok (.aload_n 0, 1) := by decide +kernel
theorem dX4_endLoan_37 : decode cX4_endLoan 37 = .ok (.getfield 37, 3) := by decide +kernel
theorem dX4_endLoan_40 : decode cX4_endLoan 40 = .ok (.getfield 98, 3) := by decide +kernel
theorem dX4_endLoan_43 : decode cX4_endLoan 43 = .ok (.iload_n 2, 1) := by decide +kernel
theorem dX4_endLoan_44 : decode cX4_endLoan 44 = .ok (.iaload, 1) := by decide +kernel
theorem dX4_endLoan_45 : decode cX4_endLoan 45 = .ok (.istore 4, 2) := by decide +kernel
theorem dX4_endLoan_47 : decode cX4_endLoan 47 = .ok (.aload_n 0, 1) := by decide +kernel
theorem dX4_endLoan_48 : decode cX4_endLoan 48 = .ok (.aload_n 0, 1) := by decide +kernel
theorem dX4_endLoan_49 : decode cX4_endLoan 49 = .ok (.getfield 37, 3) := by decide +kernel
theorem dX4_endLoan_52 : decode cX4_endLoan 52 = .ok (.getfield 101, 3) := by decide +kernel
theorem dX4_endLoan_55 : decode cX4_endLoan 55 = .ok (.iload_n 2, 1) := by decide +kernel
theorem dX4_endLoan_56 : decode cX4_endLoan 56 = .ok (.iaload, 1) := by decide +kernel
theorem dX4_endLoan_57 : decode cX4_endLoan 57 = .ok (.iload_n 3, 1) := by decide +kernel
theorem dX4_endLoan_58 : decode cX4_endLoan 58 = .ok (.iload 4, 2) := by decide +kernel
theorem dX4_endLoan_60 : decode cX4_endLoan 60 = .ok (.aload_n 0, 1) := by decide +kernel
theorem dX4_endLoan_61 : decode cX4_endLoan 61 = .ok (.getfield 37, 3) := by decide +kernel
theorem dX4_endLoan_64 : decode cX4_endLoan 64 = .ok (.getfield 104, 3) := by decide +kernel
theorem dX4_endLoan_67 : decode cX4_endLoan 67 = .ok (.iload_n 2, 1) := by decide +kernel
theorem dX4_endLoan_68 : decode cX4_endLoan 68 = .ok (.iaload, 1) := by decide +kernel
theorem dX4_endLoan_69 : decode cX4_endLoan 69 = .ok (.invokevirtual 77, 3) := by decide +kernel
theorem dX4_endLoan_72 : decode cX4_endLoan 72 = .ok (.aload_n 0, 1) := by decide +kernel
theorem dX4_endLoan_73 : decode cX4_endLoan 73 = .ok (.getfield 37, 3) := by decide +kernel
theorem dX4_endLoan_76 : decode cX4_endLoan 76 = .ok (.iload_n 2, 1) := by decide +kernel
theorem dX4_endLoan_77 : decode cX4_endLoan 77 = .ok (.invokevirtual 107, 3) := by decide +kernel
theorem dX4_endLoan_80 : decode cX4_endLoan 80 = .ok (.aload_n 0, 1) := by decide +kernel
theorem dX4_endLoan_81 : decode cX4_endLoan 81 = .ok (.iload_n 3, 1) := by decide +kernel
theorem dX4_endLoan_82 : decode cX4_endLoan 82 = .ok (.iload 4, 2) := by decide +kernel
theorem dX4_endLoan_84 : decode cX4_endLoan 84 = .ok (.invokevirtual 65, 3) := by decide +kernel
theorem dX4_endLoan_87 : decode cX4_endLoan 87 = .ok (.ireturn, 1) := by decide +kernel
theorem dX4_canEndLoan_0 : decode cX4_canEndLoan 0 = .ok (.aload_n 0, 1) := by decide +kernel
theorem dX4_canEndLoan_1 : decode cX4_canEndLoan 1 = .ok (.getfield 37, 3) := by decide +kernel
theorem dX4_canEndLoan_4 : decode cX4_canEndLoan 4 = .ok (.getfield 101, 3) := by decide +kernel
theorem dX4_canEndLoan_7 : decode cX4_canEndLoan 7 = .ok (.iload_n 1, 1) := by decide +kernel
theorem dX4_canEndLoan_8 : decode cX4_canEndLoan 8 = .ok (.iaload, 1) := by decide +kernel
theorem dX4_canEndLoan_9 : decode cX4_canEndLoan 9 = .ok (.istore_n 2, 1) := by decide +kernel
theorem dX4_canEndLoan_10 : decode cX4_canEndLoan 10 = .ok (.aload_n 0, 1) := by decide +kernel
theorem dX4_canEndLoan_11 : decode cX4_canEndLoan 11 = .ok (.getfield 37, 3) := by decide +kernel
theorem dX4_canEndLoan_14 : decode cX4_canEndLoan 14 = .ok (.getfield 98, 3) := by decide +kernel
theorem dX4_canEndLoan_17 : decode cX4_canEndLoan 17 = .ok (.iload_n 1, 1) := by decide +kernel
theorem dX4_canEndLoan_18 : decode cX4_canEndLoan 18 = .ok (.iaload, 1) := by decide +kernel
theorem dX4_canEndLoan_19 : decode cX4_canEndLoan 19 = .ok (.istore_n 3, 1) := by decide +kernel
theorem dX4_canEndLoan_20 : decode cX4_canEndLoan 20 = .ok (.aload_n 0, 1) := by decide +kernel
theorem dX4_canEndLoan_21 : decode cX4_canEndLoan 21 = .ok (.iload_n 2, 1) := by decide +kernel
theorem dX4_canEndLoan_22 : decode cX4_canEndLoan 22 = .ok (.iload_n 3, 1) := by decide +kernel
theorem dX4_canEndLoan_23 : decode cX4_canEndLoan 23 = .ok (.invokevirtual 65, 3) := by decide +kernel
theorem dX4_canEndLoan_26 : decode cX4_canEndLoan 26 = .ok (.aload_n 0, 1) := by decide +kernel
theorem dX4_canEndLoan_27 : decode cX4_canEndLoan 27 = .ok (.getfield 37, 3) := by decide +kernel
theorem dX4_canEndLoan_30 : decode cX4_canEndLoan 30 = .ok (.getfield 104, 3) := by decide +kernel
theorem dX4_canEndLoan_33 : decode cX4_canEndLoan 33 = .ok (.iload_n 1, 1) := by decide +kernel
theorem dX4_canEndLoan_34 : decode cX4_canEndLoan 34 = .ok (.iaload, 1) := by decide +kernel
theorem dX4_canEndLoan_35 : decode cX4_canEndLoan 35 = .ok (.if_icmp .lt 16, 3) := by decide +kernel
theorem dX4_canEndLoan_38 : decode cX4_canEndLoan 38 = .ok (.aload_n 0, 1) := by decide +kernel
theorem dX4_canEndLoan_39 : decode cX4_canEndLoan 39 = .ok (.iload_n 2, 1) := by decide +kernel
theorem dX4_canEndLoan_40 : decode cX4_canEndLoan 40 = .ok (.iload_n 3, 1) := by decide +kernel
theorem dX4_canEndLoan_41 : decode cX4_canEndLoan 41 = .ok (.invokevirtual 69, 3) := by decide +kernel
theorem dX4_canEndLoan_44 : decode cX4_canEndLoan 44 = .ok (.ifCond .ne 7, 3) := by decide +kernel
theorem dX4_canEndLoan_47 : decode cX4_canEndLoan 47 = .ok (.iconst 1, 1) := by decide +kernel
theorem dX4_canEndLoan_48 : decode cX4_canEndLoan 48 = .ok (.goto 4, 3) := by decide +kernel
theorem dX4_canEndLoan_51 : decode cX4_canEndLoan 51 = .ok (.iconst 0, 1) := by decide +kernel
theorem dX4_canEndLoan_52 : decode cX4_canEndLoan 52 = .ok (.ireturn, 1) := by decide +kernel
theorem dX4_moveParts_0 : decode cX4_moveParts 0 = .ok (.aload_n 0, 1) := by decide +kernel
theorem dX4_moveParts_1 : decode cX4_moveParts 1 = .ok (.getfield 21, 3) := by decide +kernel
theorem dX4_moveParts_4 : decode cX4_moveParts 4 = .ok (.iload_n 3, 1) := by decide +kernel
theorem dX4_moveParts_5 : decode cX4_moveParts 5 = .ok (.bipush 6, 2) := by decide +kernel
theorem dX4_moveParts_7 : decode cX4_moveParts 7 = .ok (.imul, 1) := by decide +kernel
theorem dX4_moveParts_8 : decode cX4_moveParts 8 = .ok (.iload_n 1, 1) := by decide +kernel
theorem dX4_moveParts_9 : decode cX4_moveParts 9 = .ok (.iadd, 1) := by decide +kernel
theorem dX4_moveParts_10 : decode cX4_moveParts 10 = .ok (.dup2, 1) := by decide +kernel
theorem dX4_moveParts_11 : decode cX4_moveParts 11 = .ok (.iaload, 1) := by decide +kernel
theorem dX4_moveParts_12 : decode cX4_moveParts 12 = .ok (.iload 4, 2) := by decide +kernel
theorem dX4_moveParts_14 : decode cX4_moveParts 14 = .ok (.isub, 1) := by decide +kernel
theorem dX4_moveParts_15 : decode cX4_moveParts 15 = .ok (.iastore, 1) := by decide +kernel
theorem dX4_moveParts_16 : decode cX4_moveParts 16 = .ok (.aload_n 0, 1) := by decide +kernel
theorem dX4_moveParts_17 : decode cX4_moveParts 17 = .ok (.getfield 21, 3) := by decide +kernel
theorem dX4_moveParts_20 : decode cX4_moveParts 20 = .ok (.iload_n 3, 1) := by decide +kernel
theorem dX4_moveParts_21 : decode cX4_moveParts 21 = .ok (.bipush 6, 2) := by decide +kernel
theorem dX4_moveParts_23 : decode cX4_moveParts 23 = .ok (.imul, 1) := by decide +kernel
theorem dX4_moveParts_24 : decode cX4_moveParts 24 = .ok (.iload_n 2, 1) := by decide +kernel
theorem dX4_moveParts_25 : decode cX4_moveParts 25 = .ok (.iadd, 1) := by decide +kernel
theorem dX4_moveParts_26 : decode cX4_moveParts 26 = .ok (.dup2, 1) := by decide +kernel
theorem dX4_moveParts_27 : decode cX4_moveParts 27 = .ok (.iaload, 1) := by decide +kernel
theorem dX4_moveParts_28 : decode cX4_moveParts 28 = .ok (.iload 4, 2) := by decide +kernel
theorem dX4_moveParts_30 : decode cX4_moveParts 30 = .ok (.iadd, 1) := by decide +kernel
theorem dX4_moveParts_31 : decode cX4_moveParts 31 = .ok (.iastore, 1) := by decide +kernel
theorem dX4_moveParts_32 : decode cX4_moveParts 32 = .ok (.return_, 1) := by decide +kernel
theorem dX4_setHolding_0 : decode cX4_setHolding 0 = .ok (.iload_n 1, 1) := by decide +kernel
theorem dX4_setHolding_1 : decode cX4_setHolding 1 = .ok (.invokestatic 58, 3) := by decide +kernel
theorem dX4_setHolding_4 : decode cX4_setHolding 4 = .ok (.ifCond .eq 10, 3) := by decide +kernel
theorem dX4_setHolding_7 : decode cX4_setHolding 7 = .ok (.iload_n 2, 1) := by decide +kernel
theorem dX4_setHolding_8 : decode cX4_setHolding 8 = .ok (.invokestatic 62, 3) := by decide +kernel
theorem dX4_setHolding_11 : decode cX4_setHolding 11 = .ok (.ifCond .ne 5, 3) := by decide +kernel
theorem dX4_setHolding_14 : decode cX4_setHolding 14 = .ok (.iconst (-1), 1) := by decide +kernel
theorem dX4_setHolding_15 : decode cX4_setHolding 15 = .ok (.ireturn, 1) := by decide +kernel
theorem dX4_setHolding_16 : decode cX4_setHolding 16 = .ok (.iload_n 3, 1) := by decide +kernel
theorem dX4_setHolding_17 : decode cX4_setHolding 17 = .ok (.ifCond .eq 15, 3) := by decide +kernel
theorem dX4_setHolding_20 : decode cX4_setHolding 20 = .ok (.aload_n 0, 1) := by decide +kernel
theorem dX4_setHolding_21 : decode cX4_setHolding 21 = .ok (.iload_n 1, 1) := by decide +kernel
theorem dX4_setHolding_22 : decode cX4_setHolding 22 = .ok (.iload_n 2, 1) := by decide +kernel
theorem dX4_setHolding_23 : decode cX4_setHolding 23 = .ok (.invokevirtual 65, 3) := by decide +kernel
theorem dX4_setHolding_26 : decode cX4_setHolding 26 = .ok (.ifCond .ne 6, 3) := by decide +kernel
theorem dX4_setHolding_29 : decode cX4_setHolding 29 = .ok (.bipush (-4), 2) := by decide +kernel
theorem dX4_setHolding_31 : decode cX4_setHolding 31 = .ok (.ireturn, 1) := by decide +kernel
theorem dX4_setHolding_32 : decode cX4_setHolding 32 = .ok (.iload_n 3, 1) := by decide +kernel
theorem dX4_setHolding_33 : decode cX4_setHolding 33 = .ok (.aload_n 0, 1) := by decide +kernel
theorem dX4_setHolding_34 : decode cX4_setHolding 34 = .ok (.iload_n 1, 1) := by decide +kernel
theorem dX4_setHolding_35 : decode cX4_setHolding 35 = .ok (.iload_n 2, 1) := by decide +kernel
theorem dX4_setHolding_36 : decode cX4_setHolding 36 = .ok (.invokevirtual 69, 3) := by decide +kernel
theorem dX4_setHolding_39 : decode cX4_setHolding 39 = .ok (.if_icmp .ne 6, 3) := by decide +kernel
theorem dX4_setHolding_42 : decode cX4_setHolding 42 = .ok (.bipush (-5), 2) := by decide +kernel
theorem dX4_setHolding_44 : decode cX4_setHolding 44 = .ok (.ireturn, 1) := by decide +kernel
theorem dX4_setHolding_45 : decode cX4_setHolding 45 = .ok (.aload_n 0, 1) := by decide +kernel
theorem dX4_setHolding_46 : decode cX4_setHolding 46 = .ok (.getfield 24, 3) := by decide +kernel
theorem dX4_setHolding_49 : decode cX4_setHolding 49 = .ok (.iload_n 2, 1) := by decide +kernel
theorem dX4_setHolding_50 : decode cX4_setHolding 50 = .ok (.dup2, 1) := by decide +kernel
theorem dX4_setHolding_51 : decode cX4_setHolding 51 = .ok (.iaload, 1) := by decide +kernel
theorem dX4_setHolding_52 : decode cX4_setHolding 52 = .ok (.iconst 1, 1) := by decide +kernel
theorem dX4_setHolding_53 : decode cX4_setHolding 53 = .ok (.iload_n 1, 1) := by decide +kernel
theorem dX4_setHolding_54 : decode cX4_setHolding 54 = .ok (.ishl, 1) := by decide +kernel
theorem dX4_setHolding_55 : decode cX4_setHolding 55 = .ok (.ixor, 1) := by decide +kernel
theorem dX4_setHolding_56 : decode cX4_setHolding 56 = .ok (.iastore, 1) := by decide +kernel
theorem dX4_setHolding_57 : decode cX4_setHolding 57 = .ok (.aload_n 0, 1) := by decide +kernel
theorem dX4_setHolding_58 : decode cX4_setHolding 58 = .ok (.getfield 9, 3) := by decide +kernel
theorem dX4_setHolding_61 : decode cX4_setHolding 61 = .ok (.iload_n 2, 1) := by decide +kernel
theorem dX4_setHolding_62 : decode cX4_setHolding 62 = .ok (.iaload, 1) := by decide +kernel
theorem dX4_setHolding_63 : decode cX4_setHolding 63 = .ok (.ireturn, 1) := by decide +kernel
theorem dX4_writeValue_0 : decode cX4_writeValue 0 = .ok (.iload_n 1, 1) := by decide +kernel
theorem dX4_writeValue_1 : decode cX4_writeValue 1 = .ok (.invokestatic 58, 3) := by decide +kernel
theorem dX4_writeValue_4 : decode cX4_writeValue 4 = .ok (.ifCond .eq 10, 3) := by decide +kernel
theorem dX4_writeValue_7 : decode cX4_writeValue 7 = .ok (.iload_n 2, 1) := by decide +kernel
theorem dX4_writeValue_8 : decode cX4_writeValue 8 = .ok (.invokestatic 62, 3) := by decide +kernel
theorem dX4_writeValue_11 : decode cX4_writeValue 11 = .ok (.ifCond .ne 5, 3) := by decide +kernel
theorem dX4_writeValue_14 : decode cX4_writeValue 14 = .ok (.iconst (-1), 1) := by decide +kernel
theorem dX4_writeValue_15 : decode cX4_writeValue 15 = .ok (.ireturn, 1) := by decide +kernel
theorem dX4_writeValue_16 : decode cX4_writeValue 16 = .ok (.iload_n 3, 1) := by decide +kernel
theorem dX4_writeValue_17 : decode cX4_writeValue 17 = .ok (.ifCond .lt 10, 3) := by decide +kernel
theorem dX4_writeValue_20 : decode cX4_writeValue 20 = .ok (.iload_n 3, 1) := by decide +kernel
theorem dX4_writeValue_21 : decode cX4_writeValue 21 = .ok (.sipush 999, 3) := by decide +kernel
theorem dX4_writeValue_24 : decode cX4_writeValue 24 = .ok (.if_icmp .le 6, 3) := by decide +kernel
theorem dX4_writeValue_27 : decode cX4_writeValue 27 = .ok (.bipush (-2), 2) := by decide +kernel
theorem dX4_writeValue_29 : decode cX4_writeValue 29 = .ok (.ireturn, 1) := by decide +kernel
theorem dX4_writeValue_30 : decode cX4_writeValue 30 = .ok (.aload_n 0, 1) := by decide +kernel
theorem dX4_writeValue_31 : decode cX4_writeValue 31 = .ok (.iload_n 1, 1) := by decide +kernel
theorem dX4_writeValue_32 : decode cX4_writeValue 32 = .ok (.iload_n 2, 1) := by decide +kernel
theorem dX4_writeValue_33 : decode cX4_writeValue 33 = .ok (.invokevirtual 65, 3) := by decide +kernel
theorem dX4_writeValue_36 : decode cX4_writeValue 36 = .ok (.bipush 64, 2) := by decide +kernel
theorem dX4_writeValue_38 : decode cX4_writeValue 38 = .ok (.if_icmp .eq 6, 3) := by decide +kernel
theorem dX4_writeValue_41 : decode cX4_writeValue 41 = .ok (.bipush (-4), 2) := by decide +kernel
theorem dX4_writeValue_43 : decode cX4_writeValue 43 = .ok (.ireturn, 1) := by decide +kernel
theorem dX4_writeValue_44 : decode cX4_writeValue 44 = .ok (.aload_n 0, 1) := by decide +kernel
theorem dX4_writeValue_45 : decode cX4_writeValue 45 = .ok (.getfield 9, 3) := by decide +kernel
theorem dX4_writeValue_48 : decode cX4_writeValue 48 = .ok (.iload_n 2, 1) := by decide +kernel
theorem dX4_writeValue_49 : decode cX4_writeValue 49 = .ok (.iload_n 3, 1) := by decide +kernel
theorem dX4_writeValue_50 : decode cX4_writeValue 50 = .ok (.iastore, 1) := by decide +kernel
theorem dX4_writeValue_51 : decode cX4_writeValue 51 = .ok (.aload_n 0, 1) := by decide +kernel
theorem dX4_writeValue_52 : decode cX4_writeValue 52 = .ok (.getfield 15, 3) := by decide +kernel
theorem dX4_writeValue_55 : decode cX4_writeValue 55 = .ok (.iload_n 2, 1) := by decide +kernel
theorem dX4_writeValue_56 : decode cX4_writeValue 56 = .ok (.dup2, 1) := by decide +kernel
theorem dX4_writeValue_57 : decode cX4_writeValue 57 = .ok (.iaload, 1) := by decide +kernel
theorem dX4_writeValue_58 : decode cX4_writeValue 58 = .ok (.iconst 1, 1) := by decide +kernel
theorem dX4_writeValue_59 : decode cX4_writeValue 59 = .ok (.iadd, 1) := by decide +kernel
theorem dX4_writeValue_60 : decode cX4_writeValue 60 = .ok (.iastore, 1) := by decide +kernel
theorem dX4_writeValue_61 : decode cX4_writeValue 61 = .ok (.aload_n 0, 1) := by decide +kernel
theorem dX4_writeValue_62 : decode cX4_writeValue 62 = .ok (.dup, 1) := by decide +kernel
theorem dX4_writeValue_63 : decode cX4_writeValue 63 = .ok (.getfield 54, 3) := by decide +kernel
theorem dX4_writeValue_66 : decode cX4_writeValue 66 = .ok (.iconst 1, 1) := by decide +kernel
theorem dX4_writeValue_67 : decode cX4_writeValue 67 = .ok (.iadd, 1) := by decide +kernel
theorem dX4_writeValue_68 : decode cX4_writeValue 68 = .ok (.putfield 54, 3) := by decide +kernel
theorem dX4_writeValue_71 : decode cX4_writeValue 71 = .ok (.aload_n 0, 1) := by decide +kernel
theorem dX4_writeValue_72 : decode cX4_writeValue 72 = .ok (.getfield 15, 3) := by decide +kernel
theorem dX4_writeValue_75 : decode cX4_writeValue 75 = .ok (.iload_n 2, 1) := by decide +kernel
theorem dX4_writeValue_76 : decode cX4_writeValue 76 = .ok (.iaload, 1) := by decide +kernel
theorem dX4_writeValue_77 : decode cX4_writeValue 77 = .ok (.ireturn, 1) := by decide +kernel
theorem dX4_setClaim_0 : decode cX4_setClaim 0 = .ok (.iload_n 1, 1) := by decide +kernel
theorem dX4_setClaim_1 : decode cX4_setClaim 1 = .ok (.invokestatic 58, 3) := by decide +kernel
theorem dX4_setClaim_4 : decode cX4_setClaim 4 = .ok (.ifCond .eq 10, 3) := by decide +kernel
theorem dX4_setClaim_7 : decode cX4_setClaim 7 = .ok (.iload_n 2, 1) := by decide +kernel
theorem dX4_setClaim_8 : decode cX4_setClaim 8 = .ok (.invokestatic 62, 3) := by decide +kernel
theorem dX4_setClaim_11 : decode cX4_setClaim 11 = .ok (.ifCond .ne 5, 3) := by decide +kernel
theorem dX4_setClaim_14 : decode cX4_setClaim 14 = .ok (.iconst (-1), 1) := by decide +kernel
theorem dX4_setClaim_15 : decode cX4_setClaim 15 = .ok (.ireturn, 1) := by decide +kernel
theorem dX4_setClaim_16 : decode cX4_setClaim 16 = .ok (.aload_n 0, 1) := by decide +kernel
theorem dX4_setClaim_17 : decode cX4_setClaim 17 = .ok (.getfield 30, 3) := by decide +kernel
theorem dX4_setClaim_20 : decode cX4_setClaim 20 = .ok (.iload_n 1, 1) := by decide +kernel
theorem dX4_setClaim_21 : decode cX4_setClaim 21 = .ok (.iload_n 2, 1) := by decide +kernel
theorem dX4_setClaim_22 : decode cX4_setClaim 22 = .ok (.invokevirtual 111, 3) := by decide +kernel
theorem dX4_setClaim_25 : decode cX4_setClaim 25 = .ok (.istore 4, 2) := by decide +kernel
theorem dX4_setClaim_27 : decode cX4_setClaim 27 = .ok (.iload_n 3, 1) := by decide +kernel
theorem dX4_setClaim_28 : decode cX4_setClaim 28 = .ok (.iload 4, 2) := by decide +kernel
theorem dX4_setClaim_30 : decode cX4_setClaim 30 = .ok (.ifCond .lt 7, 3) := by decide +kernel
theorem dX4_setClaim_33 : decode cX4_setClaim 33 = .ok (.iconst 1, 1) := by decide +kernel
theorem dX4_setClaim_34 : decode cX4_setClaim 34 = .ok (.goto 4, 3) := by decide +kernel
theorem dX4_setClaim_37 : decode cX4_setClaim 37 = .ok (.iconst 0, 1) := by decide +kernel
theorem dX4_setClaim_38 : decode cX4_setClaim 38 = .ok (.if_icmp .ne 6, 3) := by decide +kernel
theorem dX4_setClaim_41 : decode cX4_setClaim 41 = .ok (.bipush (-5), 2) := by decide +kernel
theorem dX4_setClaim_43 : decode cX4_setClaim 43 = .ok (.ireturn, 1) := by decide +kernel
theorem dX4_setClaim_44 : decode cX4_setClaim 44 = .ok (.iload_n 3, 1) := by decide +kernel
theorem dX4_setClaim_45 : decode cX4_setClaim 45 = .ok (.ifCond .eq 15, 3) := by decide +kernel
theorem dX4_setClaim_48 : decode cX4_setClaim 48 = .ok (.aload_n 0, 1) := by decide +kernel
theorem dX4_setClaim_49 : decode cX4_setClaim 49 = .ok (.getfield 30, 3) := by decide +kernel
theorem dX4_setClaim_52 : decode cX4_setClaim 52 = .ok (.iload_n 1, 1) := by decide +kernel
theorem dX4_setClaim_53 : decode cX4_setClaim 53 = .ok (.iload_n 2, 1) := by decide +kernel
theorem dX4_setClaim_54 : decode cX4_setClaim 54 = .ok (.invokevirtual 114, 3) := by decide +kernel
theorem dX4_setClaim_57 : decode cX4_setClaim 57 = .ok (.goto 13, 3) := by decide +kernel
theorem dX4_setClaim_60 : decode cX4_setClaim 60 = .ok (.aload_n 0, 1) := by decide +kernel
theorem dX4_setClaim_61 : decode cX4_setClaim 61 = .ok (.getfield 30, 3) := by decide +kernel
theorem dX4_setClaim_64 : decode cX4_setClaim 64 = .ok (.iload_n 2, 1) := by decide +kernel
theorem dX4_setClaim_65 : decode cX4_setClaim 65 = .ok (.iload 4, 2) := by decide +kernel
theorem dX4_setClaim_67 : decode cX4_setClaim 67 = .ok (.invokevirtual 117, 3) := by decide +kernel
theorem dX4_setClaim_70 : decode cX4_setClaim 70 = .ok (.aload_n 0, 1) := by decide +kernel
theorem dX4_setClaim_71 : decode cX4_setClaim 71 = .ok (.getfield 30, 3) := by decide +kernel
theorem dX4_setClaim_74 : decode cX4_setClaim 74 = .ok (.iload_n 2, 1) := by decide +kernel
theorem dX4_setClaim_75 : decode cX4_setClaim 75 = .ok (.invokevirtual 119, 3) := by decide +kernel
theorem dX4_setClaim_78 : decode cX4_setClaim 78 = .ok (.ireturn, 1) := by decide +kernel
theorem dX4_grantFirstClaim_0 : decode cX4_grantFirstClaim 0 = .ok (.aload_n 0, 1) := by decide +kernel
theorem dX4_grantFirstClaim_1 : decode cX4_grantFirstClaim 1 = .ok (.getfield 30, 3) := by decide +kernel
theorem dX4_grantFirstClaim_4 : decode cX4_grantFirstClaim 4 = .ok (.iload_n 1, 1) := by decide +kernel
theorem dX4_grantFirstClaim_5 : decode cX4_grantFirstClaim 5 = .ok (.invokevirtual 122, 3) := by decide +kernel
theorem dX4_grantFirstClaim_8 : decode cX4_grantFirstClaim 8 = .ok (.istore_n 2, 1) := by decide +kernel
theorem dX4_grantFirstClaim_9 : decode cX4_grantFirstClaim 9 = .ok (.iload_n 2, 1) := by decide +kernel
theorem dX4_grantFirstClaim_10 : decode cX4_grantFirstClaim 10 = .ok (.aload_n 0, 1) := by decide +kernel
theorem dX4_grantFirstClaim_11 : decode cX4_grantFirstClaim 11 = .ok (.getfield 18, 3) := by decide +kernel
theorem dX4_grantFirstClaim_14 : decode cX4_grantFirstClaim 14 = .ok (.iload_n 1, 1) := by decide +kernel
theorem dX4_grantFirstClaim_15 : decode cX4_grantFirstClaim 15 = .ok (.iaload, 1) := by decide +kernel
theorem dX4_grantFirstClaim_16 : decode cX4_grantFirstClaim 16 = .ok (.if_icmp .eq 24, 3) := by decide +kernel
theorem dX4_grantFirstClaim_19 : decode cX4_grantFirstClaim 19 = .ok (.aload_n 0, 1) := by decide +kernel
theorem dX4_grantFirstClaim_20 : decode cX4_grantFirstClaim 20 = .ok (.aload_n 0, 1) := by decide +kernel
theorem dX4_grantFirstClaim_21 : decode cX4_grantFirstClaim 21 = .ok (.getfield 18, 3) := by decide +kernel
theorem dX4_grantFirstClaim_24 : decode cX4_grantFirstClaim 24 = .ok (.iload_n 1, 1) := by decide +kernel
theorem dX4_grantFirstClaim_25 : decode cX4_grantFirstClaim 25 = .ok (.iaload, 1) := by decide +kernel
theorem dX4_grantFirstClaim_26 : decode cX4_grantFirstClaim 26 = .ok (.iload_n 2, 1) := by decide +kernel
theorem dX4_grantFirstClaim_27 : decode cX4_grantFirstClaim 27 = .ok (.iload_n 1, 1) := by decide +kernel
theorem dX4_grantFirstClaim_28 : decode cX4_grantFirstClaim 28 = .ok (.bipush 64, 2) := by decide +kernel
theorem dX4_grantFirstClaim_30 : decode cX4_grantFirstClaim 30 = .ok (.invokevirtual 85, 3) := by decide +kernel
theorem dX4_grantFirstClaim_33 : decode cX4_grantFirstClaim 33 = .ok (.istore_n 3, 1) := by decide +kernel
theorem dX4_grantFirstClaim_34 : decode cX4_grantFirstClaim 34 = .ok (.iload_n 3, 1) := by decide +kernel
theorem dX4_grantFirstClaim_35 : decode cX4_grantFirstClaim 35 = .ok (.ifCond .ge 5, 3) := by decide +kernel
theorem dX4_grantFirstClaim_38 : decode cX4_grantFirstClaim 38 = .ok (.iload_n 3, 1) := by decide +kernel
theorem dX4_grantFirstClaim_39 : decode cX4_grantFirstClaim 39 = .ok (.ireturn, 1) := by decide +kernel
theorem dX4_grantFirstClaim_40 : decode cX4_grantFirstClaim 40 = .ok (.aload_n 0, 1) := by decide +kernel
theorem dX4_grantFirstClaim_41 : decode cX4_grantFirstClaim 41 = .ok (.getfield 30, 3) := by decide +kernel
theorem dX4_grantFirstClaim_44 : decode cX4_grantFirstClaim 44 = .ok (.iload_n 1, 1) := by decide +kernel
theorem dX4_grantFirstClaim_45 : decode cX4_grantFirstClaim 45 = .ok (.iconst 0, 1) := by decide +kernel
theorem dX4_grantFirstClaim_46 : decode cX4_grantFirstClaim 46 = .ok (.invokevirtual 117, 3) := by decide +kernel
theorem dX4_grantFirstClaim_49 : decode cX4_grantFirstClaim 49 = .ok (.iload_n 2, 1) := by decide +kernel
theorem dX4_grantFirstClaim_50 : decode cX4_grantFirstClaim 50 = .ok (.ireturn, 1) := by decide +kernel
theorem dX4_changeOwner_0 : decode cX4_changeOwner 0 = .ok (.iload_n 1, 1) := by decide +kernel
theorem dX4_changeOwner_1 : decode cX4_changeOwner 1 = .ok (.invokestatic 62, 3) := by decide +kernel
theorem dX4_changeOwner_4 : decode cX4_changeOwner 4 = .ok (.ifCond .eq 10, 3) := by decide +kernel
theorem dX4_changeOwner_7 : decode cX4_changeOwner 7 = .ok (.iload_n 2, 1) := by decide +kernel
theorem dX4_changeOwner_8 : decode cX4_changeOwner 8 = .ok (.invokestatic 58, 3) := by decide +kernel
theorem dX4_changeOwner_11 : decode cX4_changeOwner 11 = .ok (.ifCond .ne 5, 3) := by decide +kernel
theorem dX4_changeOwner_14 : decode cX4_changeOwner 14 = .ok (.iconst (-1), 1) := by decide +kernel
theorem dX4_changeOwner_15 : decode cX4_changeOwner 15 = .ok (.ireturn, 1) := by decide +kernel
theorem dX4_changeOwner_16 : decode cX4_changeOwner 16 = .ok (.aload_n 0, 1) := by decide +kernel
theorem dX4_changeOwner_17 : decode cX4_changeOwner 17 = .ok (.getfield 18, 3) := by decide +kernel
theorem dX4_changeOwner_20 : decode cX4_changeOwner 20 = .ok (.iload_n 1, 1) := by decide +kernel
theorem dX4_changeOwner_21 : decode cX4_changeOwner 21 = .ok (.iaload, 1) := by decide +kernel
theorem dX4_changeOwner_22 : decode cX4_changeOwner 22 = .ok (.istore_n 3, 1) := by decide +kernel
theorem dX4_changeOwner_23 : decode cX4_changeOwner 23 = .ok (.aload_n 0, 1) := by decide +kernel
theorem dX4_changeOwner_24 : decode cX4_changeOwner 24 = .ok (.getfield 37, 3) := by decide +kernel
theorem dX4_changeOwner_27 : decode cX4_changeOwner 27 = .ok (.iload_n 1, 1) := by decide +kernel
theorem dX4_changeOwner_28 : decode cX4_changeOwner 28 = .ok (.invokevirtual 125, 3) := by decide +kernel
theorem dX4_changeOwner_31 : decode cX4_changeOwner 31 = .ok (.ifCond .gt 12, 3) := by decide +kernel
theorem dX4_changeOwner_34 : decode cX4_changeOwner 34 = .ok (.aload_n 0, 1) := by decide +kernel
theorem dX4_changeOwner_35 : decode cX4_changeOwner 35 = .ok (.iload_n 3, 1) := by decide +kernel
theorem dX4_changeOwner_36 : decode cX4_changeOwner 36 = .ok (.iload_n 1, 1) := by decide +kernel
theorem dX4_changeOwner_37 : decode cX4_changeOwner 37 = .ok (.invokevirtual 69, 3) := by decide +kernel
theorem dX4_changeOwner_40 : decode cX4_changeOwner 40 = .ok (.ifCond .eq 6, 3) := by decide +kernel
theorem dX4_changeOwner_43 : decode cX4_changeOwner 43 = .ok (.bipush (-4), 2) := by decide +kernel
theorem dX4_changeOwner_45 : decode cX4_changeOwner 45 = .ok (.ireturn, 1) := by decide +kernel
theorem dX4_changeOwner_46 : decode cX4_changeOwner 46 = .ok (.iload_n 2, 1) := by decide +kernel
theorem dX4_changeOwner_47 : decode cX4_changeOwner 47 = .ok (.iload_n 3, 1) := by decide +kernel
theorem dX4_changeOwner_48 : decode cX4_changeOwner 48 = .ok (.if_icmp .ne 6, 3) := by decide +kernel
theorem dX4_changeOwner_51 : decode cX4_changeOwner 51 = .ok (.bipush (-5), 2) := by decide +kernel
theorem dX4_changeOwner_53 : decode cX4_changeOwner 53 = .ok (.ireturn, 1) := by decide +kernel
theorem dX4_changeOwner_54 : decode cX4_changeOwner 54 = .ok (.aload_n 0, 1) := by decide +kernel
theorem dX4_changeOwner_55 : decode cX4_changeOwner 55 = .ok (.iload_n 3, 1) := by decide +kernel
theorem dX4_changeOwner_56 : decode cX4_changeOwner 56 = .ok (.iload_n 2, 1) := by decide +kernel
theorem dX4_changeOwner_57 : decode cX4_changeOwner 57 = .ok (.iload_n 1, 1) := by decide +kernel
theorem dX4_changeOwner_58 : decode cX4_changeOwner 58 = .ok (.bipush 64, 2) := by decide +kernel
theorem dX4_changeOwner_60 : decode cX4_changeOwner 60 = .ok (.invokevirtual 77, 3) := by decide +kernel
theorem dX4_changeOwner_63 : decode cX4_changeOwner 63 = .ok (.aload_n 0, 1) := by decide +kernel
theorem dX4_changeOwner_64 : decode cX4_changeOwner 64 = .ok (.getfield 18, 3) := by decide +kernel
theorem dX4_changeOwner_67 : decode cX4_changeOwner 67 = .ok (.iload_n 1, 1) := by decide +kernel
theorem dX4_changeOwner_68 : decode cX4_changeOwner 68 = .ok (.iload_n 2, 1) := by decide +kernel
theorem dX4_changeOwner_69 : decode cX4_changeOwner 69 = .ok (.iastore, 1) := by decide +kernel
theorem dX4_changeOwner_70 : decode cX4_changeOwner 70 = .ok (.iload_n 3, 1) := by decide +kernel
theorem dX4_changeOwner_71 : decode cX4_changeOwner 71 = .ok (.ireturn, 1) := by decide +kernel
theorem dX4_countReaders_0 : decode cX4_countReaders 0 = .ok (.iconst 0, 1) := by decide +kernel
theorem dX4_countReaders_1 : decode cX4_countReaders 1 = .ok (.istore_n 2, 1) := by decide +kernel
theorem dX4_countReaders_2 : decode cX4_countReaders 2 = .ok (.iconst 0, 1) := by decide +kernel
theorem dX4_countReaders_3 : decode cX4_countReaders 3 = .ok (.istore_n 3, 1) := by decide +kernel
theorem dX4_countReaders_4 : decode cX4_countReaders 4 = .ok (.iload_n 3, 1) := by decide +kernel
theorem dX4_countReaders_5 : decode cX4_countReaders 5 = .ok (.bipush 6, 2) := by decide +kernel
theorem dX4_countReaders_7 : decode cX4_countReaders 7 = .ok (.if_icmp .ge 21, 3) := by decide +kernel
theorem dX4_countReaders_10 : decode cX4_countReaders 10 = .ok (.aload_n 0, 1) := by decide +kernel
theorem dX4_countReaders_11 : decode cX4_countReaders 11 = .ok (.iload_n 3, 1) := by decide +kernel
theorem dX4_countReaders_12 : decode cX4_countReaders 12 = .ok (.iload_n 1, 1) := by decide +kernel
theorem dX4_countReaders_13 : decode cX4_countReaders 13 = .ok (.invokevirtual 65, 3) := by decide +kernel
theorem dX4_countReaders_16 : decode cX4_countReaders 16 = .ok (.ifCond .le 6, 3) := by decide +kernel
theorem dX4_countReaders_19 : decode cX4_countReaders 19 = .ok (.iinc 2 1, 3) := by decide +kernel
theorem dX4_countReaders_22 : decode cX4_countReaders 22 = .ok (.iinc 3 1, 3) := by decide +kernel
theorem dX4_countReaders_25 : decode cX4_countReaders 25 = .ok (.goto (-21), 3) := by decide +kernel
theorem dX4_countReaders_28 : decode cX4_countReaders 28 = .ok (.iload_n 2, 1) := by decide +kernel
theorem dX4_countReaders_29 : decode cX4_countReaders 29 = .ok (.ireturn, 1) := by decide +kernel
theorem dX4_holderOfWhole_0 : decode cX4_holderOfWhole 0 = .ok (.iconst 0, 1) := by decide +kernel
theorem dX4_holderOfWhole_1 : decode cX4_holderOfWhole 1 = .ok (.istore_n 2, 1) := by decide +kernel
theorem dX4_holderOfWhole_2 : decode cX4_holderOfWhole 2 = .ok (.iload_n 2, 1) := by decide +kernel
theorem dX4_holderOfWhole_3 : decode cX4_holderOfWhole 3 = .ok (.bipush 6, 2) := by decide +kernel
theorem dX4_holderOfWhole_5 : decode cX4_holderOfWhole 5 = .ok (.if_icmp .ge 22, 3) := by decide +kernel
theorem dX4_holderOfWhole_8 : decode cX4_holderOfWhole 8 = .ok (.aload_n 0, 1) := by decide +kernel
theorem dX4_holderOfWhole_9 : decode cX4_holderOfWhole 9 = .ok (.iload_n 2, 1) := by decide +kernel
theorem dX4_holderOfWhole_10 : decode cX4_holderOfWhole 10 = .ok (.iload_n 1, 1) := by decide +kernel
theorem dX4_holderOfWhole_11 : decode cX4_holderOfWhole 11 = .ok (.invokevirtual 65, 3) := by decide +kernel
theorem dX4_holderOfWhole_14 : decode cX4_holderOfWhole 14 = .ok (.bipush 64, 2) := by decide +kernel
theorem dX4_holderOfWhole_16 : decode cX4_holderOfWhole 16 = .ok (.if_icmp .ne 5, 3) := by decide +kernel
theorem dX4_holderOfWhole_19 : decode cX4_holderOfWhole 19 = .ok (.iload_n 2, 1) := by decide +kernel
theorem dX4_holderOfWhole_20 : decode cX4_holderOfWhole 20 = .ok (.ireturn, 1) := by decide +kernel
theorem dX4_holderOfWhole_21 : decode cX4_holderOfWhole 21 = .ok (.iinc 2 1, 3) := by decide +kernel
theorem dX4_holderOfWhole_24 : decode cX4_holderOfWhole 24 = .ok (.goto (-22), 3) := by decide +kernel
theorem dX4_holderOfWhole_27 : decode cX4_holderOfWhole 27 = .ok (.bipush (-5), 2) := by decide +kernel
theorem dX4_holderOfWhole_29 : decode cX4_holderOfWhole 29 = .ok (.ireturn, 1) := by decide +kernel
theorem dX4_countWholeCells_0 : decode cX4_countWholeCells 0 = .ok (.iconst 0, 1) := by decide +kernel
theorem dX4_countWholeCells_1 : decode cX4_countWholeCells 1 = .ok (.istore_n 1, 1) := by decide +kernel
theorem dX4_countWholeCells_2 : decode cX4_countWholeCells 2 = .ok (.iconst 0, 1) := by decide +kernel
theorem dX4_countWholeCells_3 : decode cX4_countWholeCells 3 = .ok (.istore_n 2, 1) := by decide +kernel
theorem dX4_countWholeCells_4 : decode cX4_countWholeCells 4 = .ok (.iload_n 2, 1) := by decide +kernel
theorem dX4_countWholeCells_5 : decode cX4_countWholeCells 5 = .ok (.bipush 6, 2) := by decide +kernel
theorem dX4_countWholeCells_7 : decode cX4_countWholeCells 7 = .ok (.if_icmp .ge 22, 3) := by decide +kernel
theorem dX4_countWholeCells_10 : decode cX4_countWholeCells 10 = .ok (.aload_n 0, 1) := by decide +kernel
theorem dX4_countWholeCells_11 : decode cX4_countWholeCells 11 = .ok (.iload_n 2, 1) := by decide +kernel
theorem dX4_countWholeCells_12 : decode cX4_countWholeCells 12 = .ok (.invokevirtual 128, 3) := by decide +kernel
theorem dX4_countWholeCells_15 : decode cX4_countWholeCells 15 = .ok (.bipush (-5), 2) := by decide +kernel
theorem dX4_countWholeCells_17 : decode cX4_countWholeCells 17 = .ok (.if_icmp .eq 6, 3) := by decide +kernel
theorem dX4_countWholeCells_20 : decode cX4_countWholeCells 20 = .ok (.iinc 1 1, 3) := by decide +kernel
theorem dX4_countWholeCells_23 : decode cX4_countWholeCells 23 = .ok (.iinc 2 1, 3) := by decide +kernel
theorem dX4_countWholeCells_26 : decode cX4_countWholeCells 26 = .ok (.goto (-22), 3) := by decide +kernel
theorem dX4_countWholeCells_29 : decode cX4_countWholeCells 29 = .ok (.iload_n 1, 1) := by decide +kernel
theorem dX4_countWholeCells_30 : decode cX4_countWholeCells 30 = .ok (.ireturn, 1) := by decide +kernel
theorem dX4_countHolding_0 : decode cX4_countHolding 0 = .ok (.aload_n 0, 1) := by decide +kernel
theorem dX4_countHolding_1 : decode cX4_countHolding 1 = .ok (.getfield 24, 3) := by decide +kernel
theorem dX4_countHolding_4 : decode cX4_countHolding 4 = .ok (.iload_n 1, 1) := by decide +kernel
theorem dX4_countHolding_5 : decode cX4_countHolding 5 = .ok (.iaload, 1) := by decide +kernel
theorem dX4_countHolding_6 : decode cX4_countHolding 6 = .ok (.invokestatic 131, 3) := by decide +kernel
theorem dX4_countHolding_9 : decode cX4_countHolding 9 = .ok (.ireturn, 1) := by decide +kernel
theorem dX4_countAllHolding_0 : decode cX4_countAllHolding 0 = .ok (.iconst 0, 1) := by decide +kernel
theorem dX4_countAllHolding_1 : decode cX4_countAllHolding 1 = .ok (.istore_n 1, 1) := by decide +kernel
theorem dX4_countAllHolding_2 : decode cX4_countAllHolding 2 = .ok (.iconst 0, 1) := by decide +kernel
theorem dX4_countAllHolding_3 : decode cX4_countAllHolding 3 = .ok (.istore_n 2, 1) := by decide +kernel
theorem dX4_countAllHolding_4 : decode cX4_countAllHolding 4 = .ok (.iload_n 2, 1) := by decide +kernel
theorem dX4_countAllHolding_5 : decode cX4_countAllHolding 5 = .ok (.bipush 6, 2) := by decide +kernel
theorem dX4_countAllHolding_7 : decode cX4_countAllHolding 7 = .ok (.if_icmp .ge 17, 3) := by decide +kernel
theorem dX4_countAllHolding_10 : decode cX4_countAllHolding 10 = .ok (.iload_n 1, 1) := by decide +kernel
theorem dX4_countAllHolding_11 : decode cX4_countAllHolding 11 = .ok (.aload_n 0, 1) := by decide +kernel
theorem dX4_countAllHolding_12 : decode cX4_countAllHolding 12 = .ok (.iload_n 2, 1) := by decide +kernel
theorem dX4_countAllHolding_13 : decode cX4_countAllHolding 13 = .ok (.invokevirtual 136, 3) := by decide +kernel
theorem dX4_countAllHolding_16 : decode cX4_countAllHolding 16 = .ok (.iadd, 1) := by decide +kernel
theorem dX4_countAllHolding_17 : decode cX4_countAllHolding 17 = .ok (.istore_n 1, 1) := by decide +kernel
theorem dX4_countAllHolding_18 : decode cX4_countAllHolding 18 = .ok (.iinc 2 1, 3) := by decide +kernel
theorem dX4_countAllHolding_21 : decode cX4_countAllHolding 21 = .ok (.goto (-17), 3) := by decide +kernel
theorem dX4_countAllHolding_24 : decode cX4_countAllHolding 24 = .ok (.iload_n 1, 1) := by decide +kernel
theorem dX4_countAllHolding_25 : decode cX4_countAllHolding 25 = .ok (.ireturn, 1) := by decide +kernel
theorem dX5_init_0 : decode cX5_init 0 = .ok (.aload_n 0, 1) := by decide +kernel
theorem dX5_init_1 : decode cX5_init 1 = .ok (.invokespecial 3, 3) := by decide +kernel
theorem dX5_init_4 : decode cX5_init 4 = .ok (.aload_n 0, 1) := by decide +kernel
theorem dX5_init_5 : decode cX5_init 5 = .ok (.bipush 60, 2) := by decide +kernel
theorem dX5_init_7 : decode cX5_init 7 = .ok (.newarray .int, 2) := by decide +kernel
theorem dX5_init_9 : decode cX5_init 9 = .ok (.putfield 9, 3) := by decide +kernel
theorem dX5_init_12 : decode cX5_init 12 = .ok (.aload_n 0, 1) := by decide +kernel
theorem dX5_init_13 : decode cX5_init 13 = .ok (.sipush 150, 3) := by decide +kernel
theorem dX5_init_16 : decode cX5_init 16 = .ok (.newarray .int, 2) := by decide +kernel
theorem dX5_init_18 : decode cX5_init 18 = .ok (.putfield 15, 3) := by decide +kernel
theorem dX5_init_21 : decode cX5_init 21 = .ok (.return_, 1) := by decide +kernel
theorem dX5_size_0 : decode cX5_size 0 = .ok (.aload_n 0, 1) := by decide +kernel
theorem dX5_size_1 : decode cX5_size 1 = .ok (.getfield 18, 3) := by decide +kernel
theorem dX5_size_4 : decode cX5_size 4 = .ok (.ireturn, 1) := by decide +kernel
theorem dX6_init_0 : decode cX6_init 0 = .ok (.aload_n 0, 1) := by decide +kernel
theorem dX6_init_1 : decode cX6_init 1 = .ok (.invokespecial 1, 3) := by decide +kernel
theorem dX6_init_4 : decode cX6_init 4 = .ok (.aload_n 0, 1) := by decide +kernel
theorem dX6_init_5 : decode cX6_init 5 = .ok (.new 7, 3) := by decide +kernel
theorem dX6_init_8 : decode cX6_init 8 = .ok (.dup, 1) := by decide +kernel
theorem dX6_init_9 : decode cX6_init 9 = .ok (.invokespecial 9, 3) := by decide +kernel
theorem dX6_init_12 : decode cX6_init 12 = .ok (.putfield 10, 3) := by decide +kernel
theorem dX6_init_15 : decode cX6_init 15 = .ok (.aload_n 0, 1) := by decide +kernel
theorem dX6_init_16 : decode cX6_init 16 = .ok (.new 7, 3) := by decide +kernel
theorem dX6_init_19 : decode cX6_init 19 = .ok (.dup, 1) := by decide +kernel
theorem dX6_init_20 : decode cX6_init 20 = .ok (.invokespecial 9, 3) := by decide +kernel
theorem dX6_init_23 : decode cX6_init 23 = .ok (.putfield 16, 3) := by decide +kernel
theorem dX6_init_26 : decode cX6_init 26 = .ok (.aload_n 0, 1) := by decide +kernel
theorem dX6_init_27 : decode cX6_init 27 = .ok (.new 7, 3) := by decide +kernel
theorem dX6_init_30 : decode cX6_init 30 = .ok (.dup, 1) := by decide +kernel
theorem dX6_init_31 : decode cX6_init 31 = .ok (.invokespecial 9, 3) := by decide +kernel
theorem dX6_init_34 : decode cX6_init 34 = .ok (.putfield 19, 3) := by decide +kernel
theorem dX6_init_37 : decode cX6_init 37 = .ok (.aload_n 0, 1) := by decide +kernel
theorem dX6_init_38 : decode cX6_init 38 = .ok (.new 22, 3) := by decide +kernel
theorem dX6_init_41 : decode cX6_init 41 = .ok (.dup, 1) := by decide +kernel
theorem dX6_init_42 : decode cX6_init 42 = .ok (.invokespecial 24, 3) := by decide +kernel
theorem dX6_init_45 : decode cX6_init 45 = .ok (.putfield 25, 3) := by decide +kernel
theorem dX6_init_48 : decode cX6_init 48 = .ok (.aload_n 0, 1) := by decide +kernel
theorem dX6_init_49 : decode cX6_init 49 = .ok (.new 29, 3) := by decide +kernel
theorem dX6_init_52 : decode cX6_init 52 = .ok (.dup, 1) := by decide +kernel
theorem dX6_init_53 : decode cX6_init 53 = .ok (.invokespecial 31, 3) := by decide +kernel
theorem dX6_init_56 : decode cX6_init 56 = .ok (.putfield 32, 3) := by decide +kernel
theorem dX6_init_59 : decode cX6_init 59 = .ok (.aload_n 0, 1) := by decide +kernel
theorem dX6_init_60 : decode cX6_init 60 = .ok (.new 36, 3) := by decide +kernel
theorem dX6_init_63 : decode cX6_init 63 = .ok (.dup, 1) := by decide +kernel
theorem dX6_init_64 : decode cX6_init 64 = .ok (.invokespecial 38, 3) := by decide +kernel
theorem dX6_init_67 : decode cX6_init 67 = .ok (.putfield 39, 3) := by decide +kernel
theorem dX6_init_70 : decode cX6_init 70 = .ok (.return_, 1) := by decide +kernel
theorem dX6_lend_0 : decode cX6_lend 0 = .ok (.aload_n 0, 1) := by decide +kernel
theorem dX6_lend_1 : decode cX6_lend 1 = .ok (.getfield 25, 3) := by decide +kernel
theorem dX6_lend_4 : decode cX6_lend 4 = .ok (.aload_n 0, 1) := by decide +kernel
theorem dX6_lend_5 : decode cX6_lend 5 = .ok (.getfield 10, 3) := by decide +kernel
theorem dX6_lend_8 : decode cX6_lend 8 = .ok (.invokevirtual 43, 3) := by decide +kernel
theorem dX6_lend_11 : decode cX6_lend 11 = .ok (.aload_n 0, 1) := by decide +kernel
theorem dX6_lend_12 : decode cX6_lend 12 = .ok (.aload_n 0, 1) := by decide +kernel
theorem dX6_lend_13 : decode cX6_lend 13 = .ok (.getfield 10, 3) := by decide +kernel
theorem dX6_lend_16 : decode cX6_lend 16 = .ok (.iload_n 1, 1) := by decide +kernel
theorem dX6_lend_17 : decode cX6_lend 17 = .ok (.iload_n 2, 1) := by decide +kernel
theorem dX6_lend_18 : decode cX6_lend 18 = .ok (.iload_n 3, 1) := by decide +kernel
theorem dX6_lend_19 : decode cX6_lend 19 = .ok (.iload 4, 2) := by decide +kernel
theorem dX6_lend_21 : decode cX6_lend 21 = .ok (.invokevirtual 47, 3) := by decide +kernel
theorem dX6_lend_24 : decode cX6_lend 24 = .ok (.invokevirtual 51, 3) := by decide +kernel
theorem dX6_lend_27 : decode cX6_lend 27 = .ok (.ireturn, 1) := by decide +kernel
theorem dX6_half_0 : decode cX6_half 0 = .ok (.aload_n 0, 1) := by decide +kernel
theorem dX6_half_1 : decode cX6_half 1 = .ok (.getfield 25, 3) := by decide +kernel
theorem dX6_half_4 : decode cX6_half 4 = .ok (.aload_n 0, 1) := by decide +kernel
theorem dX6_half_5 : decode cX6_half 5 = .ok (.getfield 10, 3) := by decide +kernel
theorem dX6_half_8 : decode cX6_half 8 = .ok (.invokevirtual 43, 3) := by decide +kernel
theorem dX6_half_11 : decode cX6_half 11 = .ok (.aload_n 0, 1) := by decide +kernel
theorem dX6_half_12 : decode cX6_half 12 = .ok (.aload_n 0, 1) := by decide +kernel
theorem dX6_half_13 : decode cX6_half 13 = .ok (.getfield 10, 3) := by decide +kernel
theorem dX6_half_16 : decode cX6_half 16 = .ok (.iload_n 1, 1) := by decide +kernel
theorem dX6_half_17 : decode cX6_half 17 = .ok (.iload_n 2, 1) := by decide +kernel
theorem dX6_half_18 : decode cX6_half 18 = .ok (.iload_n 3, 1) := by decide +kernel
theorem dX6_half_19 : decode cX6_half 19 = .ok (.invokevirtual 55, 3) := by decide +kernel
theorem dX6_half_22 : decode cX6_half 22 = .ok (.invokevirtual 51, 3) := by decide +kernel
theorem dX6_half_25 : decode cX6_half 25 = .ok (.ireturn, 1) := by decide +kernel
theorem dX6_giveBack_0 : decode cX6_giveBack 0 = .ok (.aload_n 0, 1) := by decide +kernel
theorem dX6_giveBack_1 : decode cX6_giveBack 1 = .ok (.getfield 25, 3) := by decide +kernel
theorem dX6_giveBack_4 : decode cX6_giveBack 4 = .ok (.aload_n 0, 1) := by decide +kernel
theorem dX6_giveBack_5 : decode cX6_giveBack 5 = .ok (.getfield 10, 3) := by decide +kernel
theorem dX6_giveBack_8 : decode cX6_giveBack 8 = .ok (.invokevirtual 43, 3) := by decide +kernel
theorem dX6_giveBack_11 : decode cX6_giveBack 11 = .ok (.aload_n 0, 1) := by decide +kernel
theorem dX6_giveBack_12 : decode cX6_giveBack 12 = .ok (.aload_n 0, 1) := by decide +kernel
theorem dX6_giveBack_13 : decode cX6_giveBack 13 = .ok (.getfield 10, 3) := by decide +kernel
theorem dX6_giveBack_16 : decode cX6_giveBack 16 = .ok (.iload_n 1, 1) := by decide +kernel
theorem dX6_giveBack_17 : decode cX6_giveBack 17 = .ok (.invokevirtual 59, 3) := by decide +kernel
theorem dX6_giveBack_20 : decode cX6_giveBack 20 = .ok (.invokevirtual 51, 3) := by decide +kernel
theorem dX6_giveBack_23 : decode cX6_giveBack 23 = .ok (.ireturn, 1) := by decide +kernel
theorem dX6_gather_0 : decode cX6_gather 0 = .ok (.aload_n 0, 1) := by decide +kernel
theorem dX6_gather_1 : decode cX6_gather 1 = .ok (.getfield 25, 3) := by decide +kernel
theorem dX6_gather_4 : decode cX6_gather 4 = .ok (.aload_n 0, 1) := by decide +kernel
theorem dX6_gather_5 : decode cX6_gather 5 = .ok (.getfield 10, 3) := by decide +kernel
theorem dX6_gather_8 : decode cX6_gather 8 = .ok (.invokevirtual 43, 3) := by decide +kernel
theorem dX6_gather_11 : decode cX6_gather 11 = .ok (.aload_n 0, 1) := by decide +kernel
theorem dX6_gather_12 : decode cX6_gather 12 = .ok (.aload_n 0, 1) := by decide +kernel
theorem dX6_gather_13 : decode cX6_gather 13 = .ok (.iload_n 1, 1) := by decide +kernel
theorem dX6_gather_14 : decode cX6_gather 14 = .ok (.iload_n 2, 1) := by decide +kernel
theorem dX6_gather_15 : decode cX6_gather 15 = .ok (.invokevirtual 62, 3) := by decide +kernel
theorem dX6_gather_18 : decode cX6_gather 18 = .ok (.invokevirtual 51, 3) := by decide +kernel
theorem dX6_gather_21 : decode cX6_gather 21 = .ok (.ireturn, 1) := by decide +kernel
theorem dX6_hold_0 : decode cX6_hold 0 = .ok (.aload_n 0, 1) := by decide +kernel
theorem dX6_hold_1 : decode cX6_hold 1 = .ok (.getfield 25, 3) := by decide +kernel
theorem dX6_hold_4 : decode cX6_hold 4 = .ok (.aload_n 0, 1) := by decide +kernel
theorem dX6_hold_5 : decode cX6_hold 5 = .ok (.getfield 10, 3) := by decide +kernel
theorem dX6_hold_8 : decode cX6_hold 8 = .ok (.invokevirtual 43, 3) := by decide +kernel
theorem dX6_hold_11 : decode cX6_hold 11 = .ok (.aload_n 0, 1) := by decide +kernel
theorem dX6_hold_12 : decode cX6_hold 12 = .ok (.aload_n 0, 1) := by decide +kernel
theorem dX6_hold_13 : decode cX6_hold 13 = .ok (.getfield 10, 3) := by decide +kernel
theorem dX6_hold_16 : decode cX6_hold 16 = .ok (.iload_n 1, 1) := by decide +kernel
theorem dX6_hold_17 : decode cX6_hold 17 = .ok (.iload_n 2, 1) := by decide +kernel
theorem dX6_hold_18 : decode cX6_hold 18 = .ok (.iload_n 3, 1) := by decide +kernel
theorem dX6_hold_19 : decode cX6_hold 19 = .ok (.invokevirtual 66, 3) := by decide +kernel
theorem dX6_hold_22 : decode cX6_hold 22 = .ok (.invokevirtual 51, 3) := by decide +kernel
theorem dX6_hold_25 : decode cX6_hold 25 = .ok (.ireturn, 1) := by decide +kernel
theorem dX6_write_0 : decode cX6_write 0 = .ok (.aload_n 0, 1) := by decide +kernel
theorem dX6_write_1 : decode cX6_write 1 = .ok (.getfield 25, 3) := by decide +kernel
theorem dX6_write_4 : decode cX6_write 4 = .ok (.aload_n 0, 1) := by decide +kernel
theorem dX6_write_5 : decode cX6_write 5 = .ok (.getfield 10, 3) := by decide +kernel
theorem dX6_write_8 : decode cX6_write 8 = .ok (.invokevirtual 43, 3) := by decide +kernel
theorem dX6_write_11 : decode cX6_write 11 = .ok (.aload_n 0, 1) := by decide +kernel
theorem dX6_write_12 : decode cX6_write 12 = .ok (.aload_n 0, 1) := by decide +kernel
theorem dX6_write_13 : decode cX6_write 13 = .ok (.getfield 10, 3) := by decide +kernel
theorem dX6_write_16 : decode cX6_write 16 = .ok (.iload_n 1, 1) := by decide +kernel
theorem dX6_write_17 : decode cX6_write 17 = .ok (.iload_n 2, 1) := by decide +kernel
theorem dX6_write_18 : decode cX6_write 18 = .ok (.iload_n 3, 1) := by decide +kernel
theorem dX6_write_19 : decode cX6_write 19 = .ok (.invokevirtual 70, 3) := by decide +kernel
theorem dX6_write_22 : decode cX6_write 22 = .ok (.invokevirtual 51, 3) := by decide +kernel
theorem dX6_write_25 : decode cX6_write 25 = .ok (.ireturn, 1) := by decide +kernel
theorem dX6_read_0 : decode cX6_read 0 = .ok (.iload_n 1, 1) := by decide +kernel
theorem dX6_read_1 : decode cX6_read 1 = .ok (.invokestatic 73, 3) := by decide +kernel
theorem dX6_read_4 : decode cX6_read 4 = .ok (.ifCond .eq 10, 3) := by decide +kernel
theorem dX6_read_7 : decode cX6_read 7 = .ok (.iload_n 2, 1) := by decide +kernel
theorem dX6_read_8 : decode cX6_read 8 = .ok (.invokestatic 77, 3) := by decide +kernel
theorem dX6_read_11 : decode cX6_read 11 = .ok (.ifCond .ne 5, 3) := by decide +kernel
theorem dX6_read_14 : decode cX6_read 14 = .ok (.iconst (-1), 1) := by decide +kernel
theorem dX6_read_15 : decode cX6_read 15 = .ok (.ireturn, 1) := by decide +kernel
theorem dX6_read_16 : decode cX6_read 16 = .ok (.aload_n 0, 1) := by decide +kernel
theorem dX6_read_17 : decode cX6_read 17 = .ok (.getfield 10, 3) := by decide +kernel
theorem dX6_read_20 : decode cX6_read 20 = .ok (.iload_n 1, 1) := by decide +kernel
theorem dX6_read_21 : decode cX6_read 21 = .ok (.iload_n 2, 1) := by decide +kernel
theorem dX6_read_22 : decode cX6_read 22 = .ok (.invokevirtual 80, 3) := by decide +kernel
theorem dX6_read_25 : decode cX6_read 25 = .ok (.ifCond .ne 8, 3) := by decide +kernel
theorem dX6_read_28 : decode cX6_read 28 = .ok (.bipush (-4), 2) := by decide +kernel
theorem dX6_read_30 : decode cX6_read 30 = .ok (.goto 12, 3) := by decide +kernel
theorem dX6_read_33 : decode cX6_read 33 = .ok (.aload_n 0, 1) := by decide +kernel
theorem dX6_read_34 : decode cX6_read 34 = .ok (.getfield 10, 3) := by decide +kernel
theorem dX6_read_37 : decode cX6_read 37 = .ok (.getfield 83, 3) := by decide +kernel
theorem dX6_read_40 : decode cX6_read 40 = .ok (.iload_n 2, 1) := by decide +kernel
theorem dX6_read_41 : decode cX6_read 41 = .ok (.iaload, 1) := by decide +kernel
theorem dX6_read_42 : decode cX6_read 42 = .ok (.ireturn, 1) := by decide +kernel
theorem dX6_claim_0 : decode cX6_claim 0 = .ok (.aload_n 0, 1) := by decide +kernel
theorem dX6_claim_1 : decode cX6_claim 1 = .ok (.getfield 25, 3) := by decide +kernel
theorem dX6_claim_4 : decode cX6_claim 4 = .ok (.aload_n 0, 1) := by decide +kernel
theorem dX6_claim_5 : decode cX6_claim 5 = .ok (.getfield 10, 3) := by decide +kernel
theorem dX6_claim_8 : decode cX6_claim 8 = .ok (.invokevirtual 43, 3) := by decide +kernel
theorem dX6_claim_11 : decode cX6_claim 11 = .ok (.aload_n 0, 1) := by decide +kernel
theorem dX6_claim_12 : decode cX6_claim 12 = .ok (.aload_n 0, 1) := by decide +kernel
theorem dX6_claim_13 : decode cX6_claim 13 = .ok (.getfield 10, 3) := by decide +kernel
theorem dX6_claim_16 : decode cX6_claim 16 = .ok (.iload_n 1, 1) := by decide +kernel
theorem dX6_claim_17 : decode cX6_claim 17 = .ok (.iload_n 2, 1) := by decide +kernel
theorem dX6_claim_18 : decode cX6_claim 18 = .ok (.iload_n 3, 1) := by decide +kernel
theorem dX6_claim_19 : decode cX6_claim 19 = .ok (.invokevirtual 87, 3) := by decide +kernel
theorem dX6_claim_22 : decode cX6_claim 22 = .ok (.invokevirtual 51, 3) := by decide +kernel
theorem dX6_claim_25 : decode cX6_claim 25 = .ok (.ireturn, 1) := by decide +kernel
theorem dX6_serve_0 : decode cX6_serve 0 = .ok (.aload_n 0, 1) := by decide +kernel
theorem dX6_serve_1 : decode cX6_serve 1 = .ok (.getfield 25, 3) := by decide +kernel
theorem dX6_serve_4 : decode cX6_serve 4 = .ok (.aload_n 0, 1) := by decide +kernel
theorem dX6_serve_5 : decode cX6_serve 5 = .ok (.getfield 10, 3) := by decide +kernel
theorem dX6_serve_8 : decode cX6_serve 8 = .ok (.invokevirtual 43, 3) := by decide +kernel
theorem dX6_serve_11 : decode cX6_serve 11 = .ok (.aload_n 0, 1) := by decide +kernel
theorem dX6_serve_12 : decode cX6_serve 12 = .ok (.aload_n 0, 1) := by decide +kernel
theorem dX6_serve_13 : decode cX6_serve 13 = .ok (.iload_n 1, 1) := by decide +kernel
theorem dX6_serve_14 : decode cX6_serve 14 = .ok (.invokevirtual 90, 3) := by decide +kernel
theorem dX6_serve_17 : decode cX6_serve 17 = .ok (.invokevirtual 51, 3) := by decide +kernel
theorem dX6_serve_20 : decode cX6_serve 20 = .ok (.ireturn, 1) := by decide +kernel
theorem dX6_handOver_0 : decode cX6_handOver 0 = .ok (.aload_n 0, 1) := by decide +kernel
theorem dX6_handOver_1 : decode cX6_handOver 1 = .ok (.getfield 25, 3) := by decide +kernel
theorem dX6_handOver_4 : decode cX6_handOver 4 = .ok (.aload_n 0, 1) := by decide +kernel
theorem dX6_handOver_5 : decode cX6_handOver 5 = .ok (.getfield 10, 3) := by decide +kernel
theorem dX6_handOver_8 : decode cX6_handOver 8 = .ok (.invokevirtual 43, 3) := by decide +kernel
theorem dX6_handOver_11 : decode cX6_handOver 11 = .ok (.aload_n 0, 1) := by decide +kernel
theorem dX6_handOver_12 : decode cX6_handOver 12 = .ok (.aload_n 0, 1) := by decide +kernel
theorem dX6_handOver_13 : decode cX6_handOver 13 = .ok (.getfield 10, 3) := by decide +kernel
theorem dX6_handOver_16 : decode cX6_handOver 16 = .ok (.iload_n 1, 1) := by decide +kernel
theorem dX6_handOver_17 : decode cX6_handOver 17 = .ok (.iload_n 2, 1) := by decide +kernel
theorem dX6_handOver_18 : decode cX6_handOver 18 = .ok (.invokevirtual 93, 3) := by decide +kernel
theorem dX6_handOver_21 : decode cX6_handOver 21 = .ok (.invokevirtual 51, 3) := by decide +kernel
theorem dX6_handOver_24 : decode cX6_handOver 24 = .ok (.ireturn, 1) := by decide +kernel
theorem dX6_undo_0 : decode cX6_undo 0 = .ok (.aload_n 0, 1) := by decide +kernel
theorem dX6_undo_1 : decode cX6_undo 1 = .ok (.getfield 25, 3) := by decide +kernel
theorem dX6_undo_4 : decode cX6_undo 4 = .ok (.invokevirtual 128, 3) := by decide +kernel
theorem dX6_undo_7 : decode cX6_undo 7 = .ok (.astore_n 1, 1) := by decide +kernel
theorem dX6_undo_8 : decode cX6_undo 8 = .ok (.aload_n 1, 1) := by decide +kernel
theorem dX6_undo_9 : decode cX6_undo 9 = .ok (.ifnonnull 6, 3) := by decide +kernel
theorem dX6_undo_12 : decode cX6_undo 12 = .ok (.bipush (-5), 2) := by decide +kernel
theorem dX6_undo_14 : decode cX6_undo 14 = .ok (.ireturn, 1) := by decide +kernel
theorem dX6_undo_15 : decode cX6_undo 15 = .ok (.aload_n 0, 1) := by decide +kernel
theorem dX6_undo_16 : decode cX6_undo 16 = .ok (.getfield 10, 3) := by decide +kernel
theorem dX6_undo_19 : decode cX6_undo 19 = .ok (.aload_n 1, 1) := by decide +kernel
theorem dX6_undo_20 : decode cX6_undo 20 = .ok (.invokevirtual 132, 3) := by decide +kernel
theorem dX6_undo_23 : decode cX6_undo 23 = .ok (.aload_n 0, 1) := by decide +kernel
theorem dX6_undo_24 : decode cX6_undo 24 = .ok (.getfield 25, 3) := by decide +kernel
theorem dX6_undo_27 : decode cX6_undo 27 = .ok (.invokevirtual 135, 3) := by decide +kernel
theorem dX6_undo_30 : decode cX6_undo 30 = .ok (.ireturn, 1) := by decide +kernel
theorem dX6_cell_0 : decode cX6_cell 0 = .ok (.iload_n 1, 1) := by decide +kernel
theorem dX6_cell_1 : decode cX6_cell 1 = .ok (.invokestatic 77, 3) := by decide +kernel
theorem dX6_cell_4 : decode cX6_cell 4 = .ok (.ifCond .ne 5, 3) := by decide +kernel
theorem dX6_cell_7 : decode cX6_cell 7 = .ok (.iconst (-1), 1) := by decide +kernel
theorem dX6_cell_8 : decode cX6_cell 8 = .ok (.ireturn, 1) := by decide +kernel
theorem dX6_cell_9 : decode cX6_cell 9 = .ok (.iload_n 2, 1) := by decide +kernel
theorem dX6_cell_10 : decode cX6_cell 10 = .ok (.tableswitch 143 0 8 #[50, 60, 70, 80, 89, 101, 113, 125, 134], 50) := by decide +kernel
theorem dX6_cell_60 : decode cX6_cell 60 = .ok (.aload_n 0, 1) := by decide +kernel
theorem dX6_cell_61 : decode cX6_cell 61 = .ok (.getfield 10, 3) := by decide +kernel
theorem dX6_cell_64 : decode cX6_cell 64 = .ok (.getfield 83, 3) := by decide +kernel
theorem dX6_cell_67 : decode cX6_cell 67 = .ok (.iload_n 1, 1) := by decide +kernel
theorem dX6_cell_68 : decode cX6_cell 68 = .ok (.iaload, 1) := by decide +kernel
theorem dX6_cell_69 : decode cX6_cell 69 = .ok (.ireturn, 1) := by decide +kernel
theorem dX6_cell_70 : decode cX6_cell 70 = .ok (.aload_n 0, 1) := by decide +kernel
theorem dX6_cell_71 : decode cX6_cell 71 = .ok (.getfield 10, 3) := by decide +kernel
theorem dX6_cell_74 : decode cX6_cell 74 = .ok (.getfield 150, 3) := by decide +kernel
theorem dX6_cell_77 : decode cX6_cell 77 = .ok (.iload_n 1, 1) := by decide +kernel
theorem dX6_cell_78 : decode cX6_cell 78 = .ok (.iaload, 1) := by decide +kernel
theorem dX6_cell_79 : decode cX6_cell 79 = .ok (.ireturn, 1) := by decide +kernel
theorem dX6_cell_80 : decode cX6_cell 80 = .ok (.aload_n 0, 1) := by decide +kernel
theorem dX6_cell_81 : decode cX6_cell 81 = .ok (.getfield 10, 3) := by decide +kernel
theorem dX6_cell_84 : decode cX6_cell 84 = .ok (.getfield 153, 3) := by decide +kernel
theorem dX6_cell_87 : decode cX6_cell 87 = .ok (.iload_n 1, 1) := by decide +kernel
theorem dX6_cell_88 : decode cX6_cell 88 = .ok (.iaload, 1) := by decide +kernel
theorem dX6_cell_89 : decode cX6_cell 89 = .ok (.ireturn, 1) := by decide +kernel
theorem dX6_cell_90 : decode cX6_cell 90 = .ok (.aload_n 0, 1) := by decide +kernel
theorem dX6_cell_91 : decode cX6_cell 91 = .ok (.getfield 10, 3) := by decide +kernel
theorem dX6_cell_94 : decode cX6_cell 94 = .ok (.iload_n 1, 1) := by decide +kernel
theorem dX6_cell_95 : decode cX6_cell 95 = .ok (.invokevirtual 156, 3) := by decide +kernel
theorem dX6_cell_98 : decode cX6_cell 98 = .ok (.ireturn, 1) := by decide +kernel
theorem dX6_cell_99 : decode cX6_cell 99 = .ok (.aload_n 0, 1) := by decide +kernel
theorem dX6_cell_100 : decode cX6_cell 100 = .ok (.getfield 10, 3) := by decide +kernel
theorem dX6_cell_103 : decode cX6_cell 103 = .ok (.getfield 159, 3) := by decide +kernel
theorem dX6_cell_106 : decode cX6_cell 106 = .ok (.iload_n 1, 1) := by decide +kernel
theorem dX6_cell_107 : decode cX6_cell 107 = .ok (.invokevirtual 163, 3) := by decide +kernel
theorem dX6_cell_110 : decode cX6_cell 110 = .ok (.ireturn, 1) := by decide +kernel
theorem dX6_cell_111 : decode cX6_cell 111 = .ok (.aload_n 0, 1) := by decide +kernel
theorem dX6_cell_112 : decode cX6_cell 112 = .ok (.getfield 10, 3) := by decide +kernel
theorem dX6_cell_115 : decode cX6_cell 115 = .ok (.getfield 159, 3) := by decide +kernel
theorem dX6_cell_118 : decode cX6_cell 118 = .ok (.iload_n 1, 1) := by decide +kernel
theorem dX6_cell_119 : decode cX6_cell 119 = .ok (.invokevirtual 167, 3) := by decide +kernel
theorem dX6_cell_122 : decode cX6_cell 122 = .ok (.ireturn, 1) := by decide +kernel
theorem dX6_cell_123 : decode cX6_cell 123 = .ok (.aload_n 0, 1) := by decide +kernel
theorem dX6_cell_124 : decode cX6_cell 124 = .ok (.getfield 10, 3) := by decide +kernel
theorem dX6_cell_127 : decode cX6_cell 127 = .ok (.getfield 141, 3) := by decide +kernel
theorem dX6_cell_130 : decode cX6_cell 130 = .ok (.iload_n 1, 1) := by decide +kernel
theorem dX6_cell_131 : decode cX6_cell 131 = .ok (.invokevirtual 170, 3) := by decide +kernel
theorem dX6_cell_134 : decode cX6_cell 134 = .ok (.ireturn, 1) := by decide +kernel
theorem dX6_cell_135 : decode cX6_cell 135 = .ok (.aload_n 0, 1) := by decide +kernel
theorem dX6_cell_136 : decode cX6_cell 136 = .ok (.getfield 10, 3) := by decide +kernel
theorem dX6_cell_139 : decode cX6_cell 139 = .ok (.iload_n 1, 1) := by decide +kernel
theorem dX6_cell_140 : decode cX6_cell 140 = .ok (.invokevirtual 173, 3) := by decide +kernel
theorem dX6_cell_143 : decode cX6_cell 143 = .ok (.ireturn, 1) := by decide +kernel
theorem dX6_cell_144 : decode cX6_cell 144 = .ok (.aload_n 0, 1) := by decide +kernel
theorem dX6_cell_145 : decode cX6_cell 145 = .ok (.getfield 10, 3) := by decide +kernel
theorem dX6_cell_148 : decode cX6_cell 148 = .ok (.iload_n 1, 1) := by decide +kernel
theorem dX6_cell_149 : decode cX6_cell 149 = .ok (.invokevirtual 176, 3) := by decide +kernel
theorem dX6_cell_152 : decode cX6_cell 152 = .ok (.ireturn, 1) := by decide +kernel
theorem dX6_cell_153 : decode cX6_cell 153 = .ok (.bipush (-2), 2) := by decide +kernel
theorem dX6_cell_155 : decode cX6_cell 155 = .ok (.ireturn, 1) := by decide +kernel
theorem dX6_part_0 : decode cX6_part 0 = .ok (.iload_n 1, 1) := by decide +kernel
theorem dX6_part_1 : decode cX6_part 1 = .ok (.invokestatic 73, 3) := by decide +kernel
theorem dX6_part_4 : decode cX6_part 4 = .ok (.ifCond .eq 10, 3) := by decide +kernel
theorem dX6_part_7 : decode cX6_part 7 = .ok (.iload_n 2, 1) := by decide +kernel
theorem dX6_part_8 : decode cX6_part 8 = .ok (.invokestatic 77, 3) := by decide +kernel
theorem dX6_part_11 : decode cX6_part 11 = .ok (.ifCond .ne 5, 3) := by decide +kernel
theorem dX6_part_14 : decode cX6_part 14 = .ok (.iconst (-1), 1) := by decide +kernel
theorem dX6_part_15 : decode cX6_part 15 = .ok (.ireturn, 1) := by decide +kernel
theorem dX6_part_16 : decode cX6_part 16 = .ok (.iload_n 3, 1) := by decide +kernel
theorem dX6_part_17 : decode cX6_part 17 = .ok (.tableswitch 113 0 5 #[39, 49, 62, 75, 93, 106], 39) := by decide +kernel
theorem dX6_part_56 : decode cX6_part 56 = .ok (.aload_n 0, 1) := by decide +kernel
theorem dX6_part_57 : decode cX6_part 57 = .ok (.getfield 10, 3) := by decide +kernel
theorem dX6_part_60 : decode cX6_part 60 = .ok (.iload_n 1, 1) := by decide +kernel
theorem dX6_part_61 : decode cX6_part 61 = .ok (.iload_n 2, 1) := by decide +kernel
theorem dX6_part_62 : decode cX6_part 62 = .ok (.invokevirtual 80, 3) := by decide +kernel
theorem dX6_part_65 : decode cX6_part 65 = .ok (.ireturn, 1) := by decide +kernel
theorem dX6_part_66 : decode cX6_part 66 = .ok (.aload_n 0, 1) := by decide +kernel
theorem dX6_part_67 : decode cX6_part 67 = .ok (.getfield 10, 3) := by decide +kernel
theorem dX6_part_70 : decode cX6_part 70 = .ok (.getfield 141, 3) := by decide +kernel
theorem dX6_part_73 : decode cX6_part 73 = .ok (.iload_n 1, 1) := by decide +kernel
theorem dX6_part_74 : decode cX6_part 74 = .ok (.iload_n 2, 1) := by decide +kernel
theorem dX6_part_75 : decode cX6_part 75 = .ok (.invokevirtual 179, 3) := by decide +kernel
theorem dX6_part_78 : decode cX6_part 78 = .ok (.ireturn, 1) := by decide +kernel
theorem dX6_part_79 : decode cX6_part 79 = .ok (.aload_n 0, 1) := by decide +kernel
theorem dX6_part_80 : decode cX6_part 80 = .ok (.getfield 10, 3) := by decide +kernel
theorem dX6_part_83 : decode cX6_part 83 = .ok (.getfield 141, 3) := by decide +kernel
theorem dX6_part_86 : decode cX6_part 86 = .ok (.iload_n 1, 1) := by decide +kernel
theorem dX6_part_87 : decode cX6_part 87 = .ok (.iload_n 2, 1) := by decide +kernel
theorem dX6_part_88 : decode cX6_part 88 = .ok (.invokevirtual 182, 3) := by decide +kernel
theorem dX6_part_91 : decode cX6_part 91 = .ok (.ireturn, 1) := by decide +kernel
theorem dX6_part_92 : decode cX6_part 92 = .ok (.aload_n 0, 1) := by decide +kernel
theorem dX6_part_93 : decode cX6_part 93 = .ok (.getfield 10, 3) := by decide +kernel
theorem dX6_part_96 : decode cX6_part 96 = .ok (.iload_n 1, 1) := by decide +kernel
theorem dX6_part_97 : decode cX6_part 97 = .ok (.iload_n 2, 1) := by decide +kernel
theorem dX6_part_98 : decode cX6_part 98 = .ok (.invokevirtual 185, 3) := by decide +kernel
theorem dX6_part_101 : decode cX6_part 101 = .ok (.ifCond .eq 7, 3) := by decide +kernel
theorem dX6_part_104 : decode cX6_part 104 = .ok (.iconst 1, 1) := by decide +kernel
theorem dX6_part_105 : decode cX6_part 105 = .ok (.goto 4, 3) := by decide +kernel
theorem dX6_part_108 : decode cX6_part 108 = .ok (.iconst 0, 1) := by decide +kernel
theorem dX6_part_109 : decode cX6_part 109 = .ok (.ireturn, 1) := by decide +kernel
theorem dX6_part_110 : decode cX6_part 110 = .ok (.aload_n 0, 1) := by decide +kernel
theorem dX6_part_111 : decode cX6_part 111 = .ok (.getfield 10, 3) := by decide +kernel
theorem dX6_part_114 : decode cX6_part 114 = .ok (.getfield 159, 3) := by decide +kernel
theorem dX6_part_117 : decode cX6_part 117 = .ok (.iload_n 1, 1) := by decide +kernel
theorem dX6_part_118 : decode cX6_part 118 = .ok (.iload_n 2, 1) := by decide +kernel
theorem dX6_part_119 : decode cX6_part 119 = .ok (.invokevirtual 189, 3) := by decide +kernel
theorem dX6_part_122 : decode cX6_part 122 = .ok (.ireturn, 1) := by decide +kernel
theorem dX6_part_123 : decode cX6_part 123 = .ok (.aload_n 0, 1) := by decide +kernel
theorem dX6_part_124 : decode cX6_part 124 = .ok (.iload_n 1, 1) := by decide +kernel
theorem dX6_part_125 : decode cX6_part 125 = .ok (.iload_n 2, 1) := by decide +kernel
theorem dX6_part_126 : decode cX6_part 126 = .ok (.invokevirtual 192, 3) := by decide +kernel
theorem dX6_part_129 : decode cX6_part 129 = .ok (.ireturn, 1) := by decide +kernel
theorem dX6_part_130 : decode cX6_part 130 = .ok (.bipush (-2), 2) := by decide +kernel
theorem dX6_part_132 : decode cX6_part 132 = .ok (.ireturn, 1) := by decide +kernel
theorem dX6_loan_0 : decode cX6_loan 0 = .ok (.aload_n 0, 1) := by decide +kernel
theorem dX6_loan_1 : decode cX6_loan 1 = .ok (.getfield 10, 3) := by decide +kernel
theorem dX6_loan_4 : decode cX6_loan 4 = .ok (.getfield 141, 3) := by decide +kernel
theorem dX6_loan_7 : decode cX6_loan 7 = .ok (.iload_n 1, 1) := by decide +kernel
theorem dX6_loan_8 : decode cX6_loan 8 = .ok (.invokevirtual 195, 3) := by decide +kernel
theorem dX6_loan_11 : decode cX6_loan 11 = .ok (.istore_n 3, 1) := by decide +kernel
theorem dX6_loan_12 : decode cX6_loan 12 = .ok (.iload_n 3, 1) := by decide +kernel
theorem dX6_loan_13 : decode cX6_loan 13 = .ok (.ifCond .ge 5, 3) := by decide +kernel
theorem dX6_loan_16 : decode cX6_loan 16 = .ok (.iconst (-1), 1) := by decide +kernel
theorem dX6_loan_17 : decode cX6_loan 17 = .ok (.ireturn, 1) := by decide +kernel
theorem dX6_loan_18 : decode cX6_loan 18 = .ok (.iload_n 2, 1) := by decide +kernel
theorem dX6_loan_19 : decode cX6_loan 19 = .ok (.tableswitch 102 0 4 #[33, 46, 59, 72, 85], 33) := by decide +kernel
theorem dX6_loan_52 : decode cX6_loan 52 = .ok (.aload_n 0, 1) := by decide +kernel
theorem dX6_loan_53 : decode cX6_loan 53 = .ok (.getfield 10, 3) := by decide +kernel
theorem dX6_loan_56 : decode cX6_loan 56 = .ok (.getfield 141, 3) := by decide +kernel
theorem dX6_loan_59 : decode cX6_loan 59 = .ok (.getfield 198, 3) := by decide +kernel
theorem dX6_loan_62 : decode cX6_loan 62 = .ok (.iload_n 3, 1) := by decide +kernel
theorem dX6_loan_63 : decode cX6_loan 63 = .ok (.iaload, 1) := by decide +kernel
theorem dX6_loan_64 : decode cX6_loan 64 = .ok (.ireturn, 1) := by decide +kernel
theorem dX6_loan_65 : decode cX6_loan 65 = .ok (.aload_n 0, 1) := by decide +kernel
theorem dX6_loan_66 : decode cX6_loan 66 = .ok (.getfield 10, 3) := by decide +kernel
theorem dX6_loan_69 : decode cX6_loan 69 = .ok (.getfield 141, 3) := by decide +kernel
theorem dX6_loan_72 : decode cX6_loan 72 = .ok (.getfield 201, 3) := by decide +kernel
theorem dX6_loan_75 : decode cX6_loan 75 = .ok (.iload_n 3, 1) := by decide +kernel
theorem dX6_loan_76 : decode cX6_loan 76 = .ok (.iaload, 1) := by decide +kernel
theorem dX6_loan_77 : decode cX6_loan 77 = .ok (.ireturn, 1) := by decide +kernel
theorem dX6_loan_78 : decode cX6_loan 78 = .ok (.aload_n 0, 1) := by decide +kernel
theorem dX6_loan_79 : decode cX6_loan 79 = .ok (.getfield 10, 3) := by decide +kernel
theorem dX6_loan_82 : decode cX6_loan 82 = .ok (.getfield 141, 3) := by decide +kernel
theorem dX6_loan_85 : decode cX6_loan 85 = .ok (.getfield 204, 3) := by decide +kernel
theorem dX6_loan_88 : decode cX6_loan 88 = .ok (.iload_n 3, 1) := by decide +kernel
theorem dX6_loan_89 : decode cX6_loan 89 = .ok (.iaload, 1) := by decide +kernel
theorem dX6_loan_90 : decode cX6_loan 90 = .ok (.ireturn, 1) := by decide +kernel
theorem dX6_loan_91 : decode cX6_loan 91 = .ok (.aload_n 0, 1) := by decide +kernel
theorem dX6_loan_92 : decode cX6_loan 92 = .ok (.getfield 10, 3) := by decide +kernel
theorem dX6_loan_95 : decode cX6_loan 95 = .ok (.getfield 141, 3) := by decide +kernel
theorem dX6_loan_98 : decode cX6_loan 98 = .ok (.getfield 207, 3) := by decide +kernel
theorem dX6_loan_101 : decode cX6_loan 101 = .ok (.iload_n 3, 1) := by decide +kernel
theorem dX6_loan_102 : decode cX6_loan 102 = .ok (.iaload, 1) := by decide +kernel
theorem dX6_loan_103 : decode cX6_loan 103 = .ok (.ireturn, 1) := by decide +kernel
theorem dX6_loan_104 : decode cX6_loan 104 = .ok (.aload_n 0, 1) := by decide +kernel
theorem dX6_loan_105 : decode cX6_loan 105 = .ok (.getfield 10, 3) := by decide +kernel
theorem dX6_loan_108 : decode cX6_loan 108 = .ok (.iload_n 3, 1) := by decide +kernel
theorem dX6_loan_109 : decode cX6_loan 109 = .ok (.invokevirtual 210, 3) := by decide +kernel
theorem dX6_loan_112 : decode cX6_loan 112 = .ok (.ifCond .eq 7, 3) := by decide +kernel
theorem dX6_loan_115 : decode cX6_loan 115 = .ok (.iconst 1, 1) := by decide +kernel
theorem dX6_loan_116 : decode cX6_loan 116 = .ok (.goto 4, 3) := by decide +kernel
theorem dX6_loan_119 : decode cX6_loan 119 = .ok (.iconst 0, 1) := by decide +kernel
theorem dX6_loan_120 : decode cX6_loan 120 = .ok (.ireturn, 1) := by decide +kernel
theorem dX6_loan_121 : decode cX6_loan 121 = .ok (.bipush (-2), 2) := by decide +kernel
theorem dX6_loan_123 : decode cX6_loan 123 = .ok (.ireturn, 1) := by decide +kernel
theorem dX6_reason_0 : decode cX6_reason 0 = .ok (.iload_n 1, 1) := by decide +kernel
theorem dX6_reason_1 : decode cX6_reason 1 = .ok (.invokestatic 73, 3) := by decide +kernel
theorem dX6_reason_4 : decode cX6_reason 4 = .ok (.ifCond .eq 10, 3) := by decide +kernel
theorem dX6_reason_7 : decode cX6_reason 7 = .ok (.iload_n 2, 1) := by decide +kernel
theorem dX6_reason_8 : decode cX6_reason 8 = .ok (.invokestatic 77, 3) := by decide +kernel
theorem dX6_reason_11 : decode cX6_reason 11 = .ok (.ifCond .ne 5, 3) := by decide +kernel
theorem dX6_reason_14 : decode cX6_reason 14 = .ok (.iconst (-1), 1) := by decide +kernel
theorem dX6_reason_15 : decode cX6_reason 15 = .ok (.ireturn, 1) := by decide +kernel
theorem dX6_reason_16 : decode cX6_reason 16 = .ok (.aload_n 0, 1) := by decide +kernel
theorem dX6_reason_17 : decode cX6_reason 17 = .ok (.iload_n 1, 1) := by decide +kernel
theorem dX6_reason_18 : decode cX6_reason 18 = .ok (.iload_n 2, 1) := by decide +kernel
theorem dX6_reason_19 : decode cX6_reason 19 = .ok (.invokevirtual 192, 3) := by decide +kernel
theorem dX6_reason_22 : decode cX6_reason 22 = .ok (.bipush 64, 2) := by decide +kernel
theorem dX6_reason_24 : decode cX6_reason 24 = .ok (.if_icmp .ne 5, 3) := by decide +kernel
theorem dX6_reason_27 : decode cX6_reason 27 = .ok (.iconst 0, 1) := by decide +kernel
theorem dX6_reason_28 : decode cX6_reason 28 = .ok (.ireturn, 1) := by decide +kernel
theorem dX6_reason_29 : decode cX6_reason 29 = .ok (.aload_n 0, 1) := by decide +kernel
theorem dX6_reason_30 : decode cX6_reason 30 = .ok (.getfield 10, 3) := by decide +kernel
theorem dX6_reason_33 : decode cX6_reason 33 = .ok (.iload_n 2, 1) := by decide +kernel
theorem dX6_reason_34 : decode cX6_reason 34 = .ok (.invokevirtual 176, 3) := by decide +kernel
theorem dX6_reason_37 : decode cX6_reason 37 = .ok (.ifCond .le 7, 3) := by decide +kernel
theorem dX6_reason_40 : decode cX6_reason 40 = .ok (.iconst 1, 1) := by decide +kernel
theorem dX6_reason_41 : decode cX6_reason 41 = .ok (.goto 4, 3) := by decide +kernel
theorem dX6_reason_44 : decode cX6_reason 44 = .ok (.iconst 2, 1) := by decide +kernel
theorem dX6_reason_45 : decode cX6_reason 45 = .ok (.ireturn, 1) := by decide +kernel
theorem dX6_chain_0 : decode cX6_chain 0 = .ok (.iload_n 1, 1) := by decide +kernel
theorem dX6_chain_1 : decode cX6_chain 1 = .ok (.invokestatic 77, 3) := by decide +kernel
theorem dX6_chain_4 : decode cX6_chain 4 = .ok (.ifCond .eq 17, 3) := by decide +kernel
theorem dX6_chain_7 : decode cX6_chain 7 = .ok (.aload_n 0, 1) := by decide +kernel
theorem dX6_chain_8 : decode cX6_chain 8 = .ok (.getfield 10, 3) := by decide +kernel
theorem dX6_chain_11 : decode cX6_chain 11 = .ok (.getfield 141, 3) := by decide +kernel
theorem dX6_chain_14 : decode cX6_chain 14 = .ok (.iload_n 1, 1) := by decide +kernel
theorem dX6_chain_15 : decode cX6_chain 15 = .ok (.invokevirtual 213, 3) := by decide +kernel
theorem dX6_chain_18 : decode cX6_chain 18 = .ok (.goto 4, 3) := by decide +kernel
theorem dX6_chain_21 : decode cX6_chain 21 = .ok (.iconst (-1), 1) := by decide +kernel
theorem dX6_chain_22 : decode cX6_chain 22 = .ok (.ireturn, 1) := by decide +kernel
theorem dX6_count_0 : decode cX6_count 0 = .ok (.iload_n 1, 1) := by decide +kernel
theorem dX6_count_1 : decode cX6_count 1 = .ok (.tableswitch 135 0 8 #[51, 62, 73, 81, 92, 100, 111, 119, 127], 51) := by decide +kernel
theorem dX6_count_52 : decode cX6_count 52 = .ok (.aload_n 0, 1) := by decide +kernel
theorem dX6_count_53 : decode cX6_count 53 = .ok (.getfield 10, 3) := by decide +kernel
theorem dX6_count_56 : decode cX6_count 56 = .ok (.getfield 141, 3) := by decide +kernel
theorem dX6_count_59 : decode cX6_count 59 = .ok (.getfield 145, 3) := by decide +kernel
theorem dX6_count_62 : decode cX6_count 62 = .ok (.ireturn, 1) := by decide +kernel
theorem dX6_count_63 : decode cX6_count 63 = .ok (.aload_n 0, 1) := by decide +kernel
theorem dX6_count_64 : decode cX6_count 64 = .ok (.getfield 10, 3) := by decide +kernel
theorem dX6_count_67 : decode cX6_count 67 = .ok (.getfield 141, 3) := by decide +kernel
theorem dX6_count_70 : decode cX6_count 70 = .ok (.getfield 216, 3) := by decide +kernel
theorem dX6_count_73 : decode cX6_count 73 = .ok (.ireturn, 1) := by decide +kernel
theorem dX6_count_74 : decode cX6_count 74 = .ok (.aload_n 0, 1) := by decide +kernel
theorem dX6_count_75 : decode cX6_count 75 = .ok (.getfield 10, 3) := by decide +kernel
theorem dX6_count_78 : decode cX6_count 78 = .ok (.invokevirtual 219, 3) := by decide +kernel
theorem dX6_count_81 : decode cX6_count 81 = .ok (.ireturn, 1) := by decide +kernel
theorem dX6_count_82 : decode cX6_count 82 = .ok (.aload_n 0, 1) := by decide +kernel
theorem dX6_count_83 : decode cX6_count 83 = .ok (.getfield 10, 3) := by decide +kernel
theorem dX6_count_86 : decode cX6_count 86 = .ok (.getfield 159, 3) := by decide +kernel
theorem dX6_count_89 : decode cX6_count 89 = .ok (.invokevirtual 222, 3) := by decide +kernel
theorem dX6_count_92 : decode cX6_count 92 = .ok (.ireturn, 1) := by decide +kernel
theorem dX6_count_93 : decode cX6_count 93 = .ok (.aload_n 0, 1) := by decide +kernel
theorem dX6_count_94 : decode cX6_count 94 = .ok (.getfield 10, 3) := by decide +kernel
theorem dX6_count_97 : decode cX6_count 97 = .ok (.getfield 225, 3) := by decide +kernel
theorem dX6_count_100 : decode cX6_count 100 = .ok (.ireturn, 1) := by decide +kernel
theorem dX6_count_101 : decode cX6_count 101 = .ok (.aload_n 0, 1) := by decide +kernel
theorem dX6_count_102 : decode cX6_count 102 = .ok (.getfield 10, 3) := by decide +kernel
theorem dX6_count_105 : decode cX6_count 105 = .ok (.getfield 141, 3) := by decide +kernel
theorem dX6_count_108 : decode cX6_count 108 = .ok (.getfield 228, 3) := by decide +kernel
theorem dX6_count_111 : decode cX6_count 111 = .ok (.ireturn, 1) := by decide +kernel
theorem dX6_count_112 : decode cX6_count 112 = .ok (.aload_n 0, 1) := by decide +kernel
theorem dX6_count_113 : decode cX6_count 113 = .ok (.getfield 10, 3) := by decide +kernel
theorem dX6_count_116 : decode cX6_count 116 = .ok (.invokevirtual 231, 3) := by decide +kernel
theorem dX6_count_119 : decode cX6_count 119 = .ok (.ireturn, 1) := by decide +kernel
theorem dX6_count_120 : decode cX6_count 120 = .ok (.aload_n 0, 1) := by decide +kernel
theorem dX6_count_121 : decode cX6_count 121 = .ok (.getfield 25, 3) := by decide +kernel
theorem dX6_count_124 : decode cX6_count 124 = .ok (.invokevirtual 135, 3) := by decide +kernel
theorem dX6_count_127 : decode cX6_count 127 = .ok (.ireturn, 1) := by decide +kernel
theorem dX6_count_128 : decode cX6_count 128 = .ok (.aload_n 0, 1) := by decide +kernel
theorem dX6_count_129 : decode cX6_count 129 = .ok (.getfield 39, 3) := by decide +kernel
theorem dX6_count_132 : decode cX6_count 132 = .ok (.invokevirtual 234, 3) := by decide +kernel
theorem dX6_count_135 : decode cX6_count 135 = .ok (.ireturn, 1) := by decide +kernel
theorem dX6_count_136 : decode cX6_count 136 = .ok (.bipush (-2), 2) := by decide +kernel
theorem dX6_count_138 : decode cX6_count 138 = .ok (.ireturn, 1) := by decide +kernel
theorem dX6_close_0 : decode cX6_close 0 = .ok (.iload_n 1, 1) := by decide +kernel
theorem dX6_close_1 : decode cX6_close 1 = .ok (.ifCond .ge 20, 3) := by decide +kernel
theorem dX6_close_4 : decode cX6_close 4 = .ok (.aload_n 0, 1) := by decide +kernel
theorem dX6_close_5 : decode cX6_close 5 = .ok (.getfield 10, 3) := by decide +kernel
theorem dX6_close_8 : decode cX6_close 8 = .ok (.aload_n 0, 1) := by decide +kernel
theorem dX6_close_9 : decode cX6_close 9 = .ok (.getfield 25, 3) := by decide +kernel
theorem dX6_close_12 : decode cX6_close 12 = .ok (.invokevirtual 235, 3) := by decide +kernel
theorem dX6_close_15 : decode cX6_close 15 = .ok (.invokevirtual 132, 3) := by decide +kernel
theorem dX6_close_18 : decode cX6_close 18 = .ok (.goto 10, 3) := by decide +kernel
theorem dX6_close_21 : decode cX6_close 21 = .ok (.aload_n 0, 1) := by decide +kernel
theorem dX6_close_22 : decode cX6_close 22 = .ok (.getfield 25, 3) := by decide +kernel
theorem dX6_close_25 : decode cX6_close 25 = .ok (.invokevirtual 238, 3) := by decide +kernel
theorem dX6_close_28 : decode cX6_close 28 = .ok (.iload_n 1, 1) := by decide +kernel
theorem dX6_close_29 : decode cX6_close 29 = .ok (.ireturn, 1) := by decide +kernel
theorem dX6_gatherCell_0 : decode cX6_gatherCell 0 = .ok (.iload_n 1, 1) := by decide +kernel
theorem dX6_gatherCell_1 : decode cX6_gatherCell 1 = .ok (.invokestatic 73, 3) := by decide +kernel
theorem dX6_gatherCell_4 : decode cX6_gatherCell 4 = .ok (.ifCond .eq 10, 3) := by decide +kernel
theorem dX6_gatherCell_7 : decode cX6_gatherCell 7 = .ok (.iload_n 2, 1) := by decide +kernel
theorem dX6_gatherCell_8 : decode cX6_gatherCell 8 = .ok (.invokestatic 77, 3) := by decide +kernel
theorem dX6_gatherCell_11 : decode cX6_gatherCell 11 = .ok (.ifCond .ne 5, 3) := by decide +kernel
theorem dX6_gatherCell_14 : decode cX6_gatherCell 14 = .ok (.iconst (-1), 1) := by decide +kernel
theorem dX6_gatherCell_15 : decode cX6_gatherCell 15 = .ok (.ireturn, 1) := by decide +kernel
theorem dX6_gatherCell_16 : decode cX6_gatherCell 16 = .ok (.aload_n 0, 1) := by decide +kernel
theorem dX6_gatherCell_17 : decode cX6_gatherCell 17 = .ok (.getfield 32, 3) := by decide +kernel
theorem dX6_gatherCell_20 : decode cX6_gatherCell 20 = .ok (.aload_n 0, 1) := by decide +kernel
theorem dX6_gatherCell_21 : decode cX6_gatherCell 21 = .ok (.getfield 10, 3) := by decide +kernel
theorem dX6_gatherCell_24 : decode cX6_gatherCell 24 = .ok (.iload_n 1, 1) := by decide +kernel
theorem dX6_gatherCell_25 : decode cX6_gatherCell 25 = .ok (.iload_n 2, 1) := by decide +kernel
theorem dX6_gatherCell_26 : decode cX6_gatherCell 26 = .ok (.invokevirtual 241, 3) := by decide +kernel
theorem dX6_gatherCell_29 : decode cX6_gatherCell 29 = .ok (.istore_n 3, 1) := by decide +kernel
theorem dX6_gatherCell_30 : decode cX6_gatherCell 30 = .ok (.iload_n 3, 1) := by decide +kernel
theorem dX6_gatherCell_31 : decode cX6_gatherCell 31 = .ok (.ifCond .ne 8, 3) := by decide +kernel
theorem dX6_gatherCell_34 : decode cX6_gatherCell 34 = .ok (.bipush (-5), 2) := by decide +kernel
theorem dX6_gatherCell_36 : decode cX6_gatherCell 36 = .ok (.goto 12, 3) := by decide +kernel
theorem dX6_gatherCell_39 : decode cX6_gatherCell 39 = .ok (.aload_n 0, 1) := by decide +kernel
theorem dX6_gatherCell_40 : decode cX6_gatherCell 40 = .ok (.getfield 10, 3) := by decide +kernel
theorem dX6_gatherCell_43 : decode cX6_gatherCell 43 = .ok (.iload_n 1, 1) := by decide +kernel
theorem dX6_gatherCell_44 : decode cX6_gatherCell 44 = .ok (.iload_n 2, 1) := by decide +kernel
theorem dX6_gatherCell_45 : decode cX6_gatherCell 45 = .ok (.invokevirtual 80, 3) := by decide +kernel
theorem dX6_gatherCell_48 : decode cX6_gatherCell 48 = .ok (.ireturn, 1) := by decide +kernel
theorem dX6_heldAfterGathering_0 : decode cX6_heldAfterGathering 0 = .ok (.aload_n 0, 1) := by decide +kernel
theorem dX6_heldAfterGathering_1 : decode cX6_heldAfterGathering 1 = .ok (.getfield 16, 3) := by decide +kernel
theorem dX6_heldAfterGathering_4 : decode cX6_heldAfterGathering 4 = .ok (.aload_n 0, 1) := by decide +kernel
theorem dX6_heldAfterGathering_5 : decode cX6_heldAfterGathering 5 = .ok (.getfield 10, 3) := by decide +kernel
theorem dX6_heldAfterGathering_8 : decode cX6_heldAfterGathering 8 = .ok (.invokevirtual 132, 3) := by decide +kernel
theorem dX6_heldAfterGathering_11 : decode cX6_heldAfterGathering 11 = .ok (.aload_n 0, 1) := by decide +kernel
theorem dX6_heldAfterGathering_12 : decode cX6_heldAfterGathering 12 = .ok (.getfield 32, 3) := by decide +kernel
theorem dX6_heldAfterGathering_15 : decode cX6_heldAfterGathering 15 = .ok (.aload_n 0, 1) := by decide +kernel
theorem dX6_heldAfterGathering_16 : decode cX6_heldAfterGathering 16 = .ok (.getfield 16, 3) := by decide +kernel
theorem dX6_heldAfterGathering_19 : decode cX6_heldAfterGathering 19 = .ok (.iload_n 1, 1) := by decide +kernel
theorem dX6_heldAfterGathering_20 : decode cX6_heldAfterGathering 20 = .ok (.iload_n 2, 1) := by decide +kernel
theorem dX6_heldAfterGathering_21 : decode cX6_heldAfterGathering 21 = .ok (.invokevirtual 241, 3) := by decide +kernel
theorem dX6_heldAfterGathering_24 : decode cX6_heldAfterGathering 24 = .ok (.pop, 1) := by decide +kernel
theorem dX6_heldAfterGathering_25 : decode cX6_heldAfterGathering 25 = .ok (.aload_n 0, 1) := by decide +kernel
theorem dX6_heldAfterGathering_26 : decode cX6_heldAfterGathering 26 = .ok (.getfield 16, 3) := by decide +kernel
theorem dX6_heldAfterGathering_29 : decode cX6_heldAfterGathering 29 = .ok (.iload_n 1, 1) := by decide +kernel
theorem dX6_heldAfterGathering_30 : decode cX6_heldAfterGathering 30 = .ok (.iload_n 2, 1) := by decide +kernel
theorem dX6_heldAfterGathering_31 : decode cX6_heldAfterGathering 31 = .ok (.invokevirtual 80, 3) := by decide +kernel
theorem dX6_heldAfterGathering_34 : decode cX6_heldAfterGathering 34 = .ok (.ireturn, 1) := by decide +kernel
theorem dX6_serveClaims_0 : decode cX6_serveClaims 0 = .ok (.iload_n 1, 1) := by decide +kernel
theorem dX6_serveClaims_1 : decode cX6_serveClaims 1 = .ok (.invokestatic 77, 3) := by decide +kernel
theorem dX6_serveClaims_4 : decode cX6_serveClaims 4 = .ok (.ifCond .ne 5, 3) := by decide +kernel
theorem dX6_serveClaims_7 : decode cX6_serveClaims 7 = .ok (.iconst (-1), 1) := by decide +kernel
theorem dX6_serveClaims_8 : decode cX6_serveClaims 8 = .ok (.ireturn, 1) := by decide +kernel
theorem dX6_serveClaims_9 : decode cX6_serveClaims 9 = .ok (.aload_n 0, 1) := by decide +kernel
theorem dX6_serveClaims_10 : decode cX6_serveClaims 10 = .ok (.getfield 10, 3) := by decide +kernel
theorem dX6_serveClaims_13 : decode cX6_serveClaims 13 = .ok (.getfield 159, 3) := by decide +kernel
theorem dX6_serveClaims_16 : decode cX6_serveClaims 16 = .ok (.iload_n 1, 1) := by decide +kernel
theorem dX6_serveClaims_17 : decode cX6_serveClaims 17 = .ok (.invokevirtual 163, 3) := by decide +kernel
theorem dX6_serveClaims_20 : decode cX6_serveClaims 20 = .ok (.ifCond .ne 6, 3) := by decide +kernel
theorem dX6_serveClaims_23 : decode cX6_serveClaims 23 = .ok (.bipush (-4), 2) := by decide +kernel
theorem dX6_serveClaims_25 : decode cX6_serveClaims 25 = .ok (.ireturn, 1) := by decide +kernel
theorem dX6_serveClaims_26 : decode cX6_serveClaims 26 = .ok (.aload_n 0, 1) := by decide +kernel
theorem dX6_serveClaims_27 : decode cX6_serveClaims 27 = .ok (.getfield 10, 3) := by decide +kernel
theorem dX6_serveClaims_30 : decode cX6_serveClaims 30 = .ok (.getfield 153, 3) := by decide +kernel
theorem dX6_serveClaims_33 : decode cX6_serveClaims 33 = .ok (.iload_n 1, 1) := by decide +kernel
theorem dX6_serveClaims_34 : decode cX6_serveClaims 34 = .ok (.iaload, 1) := by decide +kernel
theorem dX6_serveClaims_35 : decode cX6_serveClaims 35 = .ok (.istore_n 2, 1) := by decide +kernel
theorem dX6_serveClaims_36 : decode cX6_serveClaims 36 = .ok (.aload_n 0, 1) := by decide +kernel
theorem dX6_serveClaims_37 : decode cX6_serveClaims 37 = .ok (.getfield 32, 3) := by decide +kernel
theorem dX6_serveClaims_40 : decode cX6_serveClaims 40 = .ok (.aload_n 0, 1) := by decide +kernel
theorem dX6_serveClaims_41 : decode cX6_serveClaims 41 = .ok (.getfield 10, 3) := by decide +kernel
theorem dX6_serveClaims_44 : decode cX6_serveClaims 44 = .ok (.iload_n 2, 1) := by decide +kernel
theorem dX6_serveClaims_45 : decode cX6_serveClaims 45 = .ok (.iload_n 1, 1) := by decide +kernel
theorem dX6_serveClaims_46 : decode cX6_serveClaims 46 = .ok (.invokevirtual 241, 3) := by decide +kernel
theorem dX6_serveClaims_49 : decode cX6_serveClaims 49 = .ok (.istore_n 3, 1) := by decide +kernel
theorem dX6_serveClaims_50 : decode cX6_serveClaims 50 = .ok (.aload_n 0, 1) := by decide +kernel
theorem dX6_serveClaims_51 : decode cX6_serveClaims 51 = .ok (.getfield 10, 3) := by decide +kernel
theorem dX6_serveClaims_54 : decode cX6_serveClaims 54 = .ok (.iload_n 2, 1) := by decide +kernel
theorem dX6_serveClaims_55 : decode cX6_serveClaims 55 = .ok (.iload_n 1, 1) := by decide +kernel
theorem dX6_serveClaims_56 : decode cX6_serveClaims 56 = .ok (.invokevirtual 80, 3) := by decide +kernel
theorem dX6_serveClaims_59 : decode cX6_serveClaims 59 = .ok (.bipush 64, 2) := by decide +kernel
theorem dX6_serveClaims_61 : decode cX6_serveClaims 61 = .ok (.if_icmp .ne 24, 3) := by decide +kernel
theorem dX6_serveClaims_64 : decode cX6_serveClaims 64 = .ok (.aload_n 0, 1) := by decide +kernel
theorem dX6_serveClaims_65 : decode cX6_serveClaims 65 = .ok (.getfield 10, 3) := by decide +kernel
theorem dX6_serveClaims_68 : decode cX6_serveClaims 68 = .ok (.iload_n 2, 1) := by decide +kernel
theorem dX6_serveClaims_69 : decode cX6_serveClaims 69 = .ok (.iload_n 1, 1) := by decide +kernel
theorem dX6_serveClaims_70 : decode cX6_serveClaims 70 = .ok (.invokevirtual 185, 3) := by decide +kernel
theorem dX6_serveClaims_73 : decode cX6_serveClaims 73 = .ok (.ifCond .ne 12, 3) := by decide +kernel
theorem dX6_serveClaims_76 : decode cX6_serveClaims 76 = .ok (.aload_n 0, 1) := by decide +kernel
theorem dX6_serveClaims_77 : decode cX6_serveClaims 77 = .ok (.getfield 10, 3) := by decide +kernel
theorem dX6_serveClaims_80 : decode cX6_serveClaims 80 = .ok (.iload_n 1, 1) := by decide +kernel
theorem dX6_serveClaims_81 : decode cX6_serveClaims 81 = .ok (.invokevirtual 245, 3) := by decide +kernel
theorem dX6_serveClaims_84 : decode cX6_serveClaims 84 = .ok (.ireturn, 1) := by decide +kernel
theorem dX6_serveClaims_85 : decode cX6_serveClaims 85 = .ok (.iload_n 3, 1) := by decide +kernel
theorem dX6_serveClaims_86 : decode cX6_serveClaims 86 = .ok (.ifCond .ne 8, 3) := by decide +kernel
theorem dX6_serveClaims_89 : decode cX6_serveClaims 89 = .ok (.bipush (-5), 2) := by decide +kernel
theorem dX6_serveClaims_91 : decode cX6_serveClaims 91 = .ok (.goto 5, 3) := by decide +kernel
theorem dX6_serveClaims_94 : decode cX6_serveClaims 94 = .ok (.bipush 9, 2) := by decide +kernel
theorem dX6_serveClaims_96 : decode cX6_serveClaims 96 = .ok (.ireturn, 1) := by decide +kernel
theorem dX6_isAgent_0 : decode cX6_isAgent 0 = .ok (.iload_n 0, 1) := by decide +kernel
theorem dX6_isAgent_1 : decode cX6_isAgent 1 = .ok (.ifCond .lt 13, 3) := by decide +kernel
theorem dX6_isAgent_4 : decode cX6_isAgent 4 = .ok (.iload_n 0, 1) := by decide +kernel
theorem dX6_isAgent_5 : decode cX6_isAgent 5 = .ok (.bipush 6, 2) := by decide +kernel
theorem dX6_isAgent_7 : decode cX6_isAgent 7 = .ok (.if_icmp .ge 7, 3) := by decide +kernel
theorem dX6_isAgent_10 : decode cX6_isAgent 10 = .ok (.iconst 1, 1) := by decide +kernel
theorem dX6_isAgent_11 : decode cX6_isAgent 11 = .ok (.goto 4, 3) := by decide +kernel
theorem dX6_isAgent_14 : decode cX6_isAgent 14 = .ok (.iconst 0, 1) := by decide +kernel
theorem dX6_isAgent_15 : decode cX6_isAgent 15 = .ok (.ireturn, 1) := by decide +kernel
theorem dX6_isCell_0 : decode cX6_isCell 0 = .ok (.iload_n 0, 1) := by decide +kernel
theorem dX6_isCell_1 : decode cX6_isCell 1 = .ok (.ifCond .lt 13, 3) := by decide +kernel
theorem dX6_isCell_4 : decode cX6_isCell 4 = .ok (.iload_n 0, 1) := by decide +kernel
theorem dX6_isCell_5 : decode cX6_isCell 5 = .ok (.bipush 6, 2) := by decide +kernel
theorem dX6_isCell_7 : decode cX6_isCell 7 = .ok (.if_icmp .ge 7, 3) := by decide +kernel
theorem dX6_isCell_10 : decode cX6_isCell 10 = .ok (.iconst 1, 1) := by decide +kernel
theorem dX6_isCell_11 : decode cX6_isCell 11 = .ok (.goto 4, 3) := by decide +kernel
theorem dX6_isCell_14 : decode cX6_isCell 14 = .ok (.iconst 0, 1) := by decide +kernel
theorem dX6_isCell_15 : decode cX6_isCell 15 = .ok (.ireturn, 1) := by decide +kernel
theorem dJ6_bitCount_0f7a4_0 : decode cJ6_bitCount_0f7a4 0 = .ok (.iload_n 0, 1) := by decide +kernel
theorem dJ6_bitCount_0f7a4_1 : decode cJ6_bitCount_0f7a4 1 = .ok (.iload_n 0, 1) := by decide +kernel
theorem dJ6_bitCount_0f7a4_2 : decode cJ6_bitCount_0f7a4 2 = .ok (.iconst 1, 1) := by decide +kernel
theorem dJ6_bitCount_0f7a4_3 : decode cJ6_bitCount_0f7a4 3 = .ok (.iushr, 1) := by decide +kernel
theorem dJ6_bitCount_0f7a4_4 : decode cJ6_bitCount_0f7a4 4 = .ok (.ldc_w 265, 3) := by decide +kernel
theorem dJ6_bitCount_0f7a4_7 : decode cJ6_bitCount_0f7a4 7 = .ok (.iand, 1) := by decide +kernel
theorem dJ6_bitCount_0f7a4_8 : decode cJ6_bitCount_0f7a4 8 = .ok (.isub, 1) := by decide +kernel
theorem dJ6_bitCount_0f7a4_9 : decode cJ6_bitCount_0f7a4 9 = .ok (.istore_n 0, 1) := by decide +kernel
theorem dJ6_bitCount_0f7a4_10 : decode cJ6_bitCount_0f7a4 10 = .ok (.iload_n 0, 1) := by decide +kernel
theorem dJ6_bitCount_0f7a4_11 : decode cJ6_bitCount_0f7a4 11 = .ok (.ldc_w 266, 3) := by decide +kernel
theorem dJ6_bitCount_0f7a4_14 : decode cJ6_bitCount_0f7a4 14 = .ok (.iand, 1) := by decide +kernel
theorem dJ6_bitCount_0f7a4_15 : decode cJ6_bitCount_0f7a4 15 = .ok (.iload_n 0, 1) := by decide +kernel
theorem dJ6_bitCount_0f7a4_16 : decode cJ6_bitCount_0f7a4 16 = .ok (.iconst 2, 1) := by decide +kernel
theorem dJ6_bitCount_0f7a4_17 : decode cJ6_bitCount_0f7a4 17 = .ok (.iushr, 1) := by decide +kernel
theorem dJ6_bitCount_0f7a4_18 : decode cJ6_bitCount_0f7a4 18 = .ok (.ldc_w 266, 3) := by decide +kernel
theorem dJ6_bitCount_0f7a4_21 : decode cJ6_bitCount_0f7a4 21 = .ok (.iand, 1) := by decide +kernel
theorem dJ6_bitCount_0f7a4_22 : decode cJ6_bitCount_0f7a4 22 = .ok (.iadd, 1) := by decide +kernel
theorem dJ6_bitCount_0f7a4_23 : decode cJ6_bitCount_0f7a4 23 = .ok (.istore_n 0, 1) := by decide +kernel
theorem dJ6_bitCount_0f7a4_24 : decode cJ6_bitCount_0f7a4 24 = .ok (.iload_n 0, 1) := by decide +kernel
theorem dJ6_bitCount_0f7a4_25 : decode cJ6_bitCount_0f7a4 25 = .ok (.iload_n 0, 1) := by decide +kernel
theorem dJ6_bitCount_0f7a4_26 : decode cJ6_bitCount_0f7a4 26 = .ok (.iconst 4, 1) := by decide +kernel
theorem dJ6_bitCount_0f7a4_27 : decode cJ6_bitCount_0f7a4 27 = .ok (.iushr, 1) := by decide +kernel
theorem dJ6_bitCount_0f7a4_28 : decode cJ6_bitCount_0f7a4 28 = .ok (.iadd, 1) := by decide +kernel
theorem dJ6_bitCount_0f7a4_29 : decode cJ6_bitCount_0f7a4 29 = .ok (.ldc_w 267, 3) := by decide +kernel
theorem dJ6_bitCount_0f7a4_32 : decode cJ6_bitCount_0f7a4 32 = .ok (.iand, 1) := by decide +kernel
theorem dJ6_bitCount_0f7a4_33 : decode cJ6_bitCount_0f7a4 33 = .ok (.istore_n 0, 1) := by decide +kernel
theorem dJ6_bitCount_0f7a4_34 : decode cJ6_bitCount_0f7a4 34 = .ok (.iload_n 0, 1) := by decide +kernel
theorem dJ6_bitCount_0f7a4_35 : decode cJ6_bitCount_0f7a4 35 = .ok (.iload_n 0, 1) := by decide +kernel
theorem dJ6_bitCount_0f7a4_36 : decode cJ6_bitCount_0f7a4 36 = .ok (.bipush 8, 2) := by decide +kernel
theorem dJ6_bitCount_0f7a4_38 : decode cJ6_bitCount_0f7a4 38 = .ok (.iushr, 1) := by decide +kernel
theorem dJ6_bitCount_0f7a4_39 : decode cJ6_bitCount_0f7a4 39 = .ok (.iadd, 1) := by decide +kernel
theorem dJ6_bitCount_0f7a4_40 : decode cJ6_bitCount_0f7a4 40 = .ok (.istore_n 0, 1) := by decide +kernel
theorem dJ6_bitCount_0f7a4_41 : decode cJ6_bitCount_0f7a4 41 = .ok (.iload_n 0, 1) := by decide +kernel
theorem dJ6_bitCount_0f7a4_42 : decode cJ6_bitCount_0f7a4 42 = .ok (.iload_n 0, 1) := by decide +kernel
theorem dJ6_bitCount_0f7a4_43 : decode cJ6_bitCount_0f7a4 43 = .ok (.bipush 16, 2) := by decide +kernel
theorem dJ6_bitCount_0f7a4_45 : decode cJ6_bitCount_0f7a4 45 = .ok (.iushr, 1) := by decide +kernel
theorem dJ6_bitCount_0f7a4_46 : decode cJ6_bitCount_0f7a4 46 = .ok (.iadd, 1) := by decide +kernel
theorem dJ6_bitCount_0f7a4_47 : decode cJ6_bitCount_0f7a4 47 = .ok (.istore_n 0, 1) := by decide +kernel
theorem dJ6_bitCount_0f7a4_48 : decode cJ6_bitCount_0f7a4 48 = .ok (.iload_n 0, 1) := by decide +kernel
theorem dJ6_bitCount_0f7a4_49 : decode cJ6_bitCount_0f7a4 49 = .ok (.bipush 63, 2) := by decide +kernel
theorem dJ6_bitCount_0f7a4_51 : decode cJ6_bitCount_0f7a4 51 = .ok (.iand, 1) := by decide +kernel
theorem dJ6_bitCount_0f7a4_52 : decode cJ6_bitCount_0f7a4 52 = .ok (.ireturn, 1) := by decide +kernel
theorem dJ9_max_7cf53_0 : decode cJ9_max_7cf53 0 = .ok (.iload_n 0, 1) := by decide +kernel
theorem dJ9_max_7cf53_1 : decode cJ9_max_7cf53 1 = .ok (.iload_n 1, 1) := by decide +kernel
theorem dJ9_max_7cf53_2 : decode cJ9_max_7cf53 2 = .ok (.if_icmp .lt 7, 3) := by decide +kernel
theorem dJ9_max_7cf53_5 : decode cJ9_max_7cf53 5 = .ok (.iload_n 0, 1) := by decide +kernel
theorem dJ9_max_7cf53_6 : decode cJ9_max_7cf53 6 = .ok (.goto 4, 3) := by decide +kernel
theorem dJ9_max_7cf53_9 : decode cJ9_max_7cf53 9 = .ok (.iload_n 1, 1) := by decide +kernel
theorem dJ9_max_7cf53_10 : decode cJ9_max_7cf53 10 = .ok (.ireturn, 1) := by decide +kernel
theorem dJ9_min_7cf53_0 : decode cJ9_min_7cf53 0 = .ok (.iload_n 0, 1) := by decide +kernel
theorem dJ9_min_7cf53_1 : decode cJ9_min_7cf53 1 = .ok (.iload_n 1, 1) := by decide +kernel
theorem dJ9_min_7cf53_2 : decode cJ9_min_7cf53 2 = .ok (.if_icmp .gt 7, 3) := by decide +kernel
theorem dJ9_min_7cf53_5 : decode cJ9_min_7cf53 5 = .ok (.iload_n 0, 1) := by decide +kernel
theorem dJ9_min_7cf53_6 : decode cJ9_min_7cf53 6 = .ok (.goto 4, 3) := by decide +kernel
theorem dJ9_min_7cf53_9 : decode cJ9_min_7cf53 9 = .ok (.iload_n 1, 1) := by decide +kernel
theorem dJ9_min_7cf53_10 : decode cJ9_min_7cf53 10 = .ok (.ireturn, 1) := by decide +kernel
theorem dJ7_fill_53178_0 : decode cJ7_fill_53178 0 = .ok (.iconst 0, 1) := by decide +kernel
theorem dJ7_fill_53178_1 : decode cJ7_fill_53178 1 = .ok (.istore_n 2, 1) := by decide +kernel
theorem dJ7_fill_53178_2 : decode cJ7_fill_53178 2 = .ok (.aload_n 0, 1) := by decide +kernel
theorem dJ7_fill_53178_3 : decode cJ7_fill_53178 3 = .ok (.arraylength, 1) := by decide +kernel
theorem dJ7_fill_53178_4 : decode cJ7_fill_53178 4 = .ok (.istore_n 3, 1) := by decide +kernel
theorem dJ7_fill_53178_5 : decode cJ7_fill_53178 5 = .ok (.iload_n 2, 1) := by decide +kernel
theorem dJ7_fill_53178_6 : decode cJ7_fill_53178 6 = .ok (.iload_n 3, 1) := by decide +kernel
theorem dJ7_fill_53178_7 : decode cJ7_fill_53178 7 = .ok (.if_icmp .ge 13, 3) := by decide +kernel
theorem dJ7_fill_53178_10 : decode cJ7_fill_53178 10 = .ok (.aload_n 0, 1) := by decide +kernel
theorem dJ7_fill_53178_11 : decode cJ7_fill_53178 11 = .ok (.iload_n 2, 1) := by decide +kernel
theorem dJ7_fill_53178_12 : decode cJ7_fill_53178 12 = .ok (.iload_n 1, 1) := by decide +kernel
theorem dJ7_fill_53178_13 : decode cJ7_fill_53178 13 = .ok (.iastore, 1) := by decide +kernel
theorem dJ7_fill_53178_14 : decode cJ7_fill_53178 14 = .ok (.iinc 2 1, 3) := by decide +kernel
theorem dJ7_fill_53178_17 : decode cJ7_fill_53178 17 = .ok (.goto (-12), 3) := by decide +kernel
theorem dJ7_fill_53178_20 : decode cJ7_fill_53178 20 = .ok (.return_, 1) := by decide +kernel
theorem dL_cell_0 : decode cL_cell 0 = .ok (.iload_n 1, 1) := by decide +kernel
theorem dL_cell_1 : decode cL_cell 1 = .ok (.aload_n 0, 1) := by decide +kernel
theorem dL_cell_2 : decode cL_cell 2 = .ok (.arraylength, 1) := by decide +kernel
theorem dL_cell_3 : decode cL_cell 3 = .ok (.if_icmp .ge 9, 3) := by decide +kernel
theorem dL_cell_6 : decode cL_cell 6 = .ok (.aload_n 0, 1) := by decide +kernel
theorem dL_cell_7 : decode cL_cell 7 = .ok (.iload_n 1, 1) := by decide +kernel
theorem dL_cell_8 : decode cL_cell 8 = .ok (.iaload, 1) := by decide +kernel
theorem dL_cell_9 : decode cL_cell 9 = .ok (.goto 15, 3) := by decide +kernel
theorem dL_cell_12 : decode cL_cell 12 = .ok (.sipush 7919, 3) := by decide +kernel
theorem dL_cell_15 : decode cL_cell 15 = .ok (.iload_n 1, 1) := by decide +kernel
theorem dL_cell_16 : decode cL_cell 16 = .ok (.iconst 3, 1) := by decide +kernel
theorem dL_cell_17 : decode cL_cell 17 = .ok (.iadd, 1) := by decide +kernel
theorem dL_cell_18 : decode cL_cell 18 = .ok (.imul, 1) := by decide +kernel
theorem dL_cell_19 : decode cL_cell 19 = .ok (.iload_n 1, 1) := by decide +kernel
theorem dL_cell_20 : decode cL_cell 20 = .ok (.bipush 11, 2) := by decide +kernel
theorem dL_cell_22 : decode cL_cell 22 = .ok (.iadd, 1) := by decide +kernel
theorem dL_cell_23 : decode cL_cell 23 = .ok (.imul, 1) := by decide +kernel
theorem dL_cell_24 : decode cL_cell 24 = .ok (.ireturn, 1) := by decide +kernel
theorem dL_low_0 : decode cL_low 0 = .ok (.iload_n 0, 1) := by decide +kernel
theorem dL_low_1 : decode cL_low 1 = .ok (.ldc 7, 2) := by decide +kernel
theorem dL_low_3 : decode cL_low 3 = .ok (.iand, 1) := by decide +kernel
theorem dL_low_4 : decode cL_low 4 = .ok (.iload_n 1, 1) := by decide +kernel
theorem dL_low_5 : decode cL_low 5 = .ok (.irem, 1) := by decide +kernel
theorem dL_low_6 : decode cL_low 6 = .ok (.ireturn, 1) := by decide +kernel
theorem dL_does_0 : decode cL_does 0 = .ok (.iload_n 1, 1) := by decide +kernel
theorem dL_does_1 : decode cL_does 1 = .ok (.iconst 4, 1) := by decide +kernel
theorem dL_does_2 : decode cL_does 2 = .ok (.ishr, 1) := by decide +kernel
theorem dL_does_3 : decode cL_does 3 = .ok (.bipush 6, 2) := by decide +kernel
theorem dL_does_5 : decode cL_does 5 = .ok (.invokestatic 8, 3) := by decide +kernel
theorem dL_does_8 : decode cL_does 8 = .ok (.istore_n 2, 1) := by decide +kernel
theorem dL_does_9 : decode cL_does 9 = .ok (.iload_n 1, 1) := by decide +kernel
theorem dL_does_10 : decode cL_does 10 = .ok (.bipush 7, 2) := by decide +kernel
theorem dL_does_12 : decode cL_does 12 = .ok (.ishr, 1) := by decide +kernel
theorem dL_does_13 : decode cL_does 13 = .ok (.bipush 6, 2) := by decide +kernel
theorem dL_does_15 : decode cL_does 15 = .ok (.invokestatic 8, 3) := by decide +kernel
theorem dL_does_18 : decode cL_does 18 = .ok (.istore_n 3, 1) := by decide +kernel
theorem dL_does_19 : decode cL_does 19 = .ok (.iload_n 1, 1) := by decide +kernel
theorem dL_does_20 : decode cL_does 20 = .ok (.bipush 10, 2) := by decide +kernel
theorem dL_does_22 : decode cL_does 22 = .ok (.ishr, 1) := by decide +kernel
theorem dL_does_23 : decode cL_does 23 = .ok (.iconst 2, 1) := by decide +kernel
theorem dL_does_24 : decode cL_does 24 = .ok (.invokestatic 8, 3) := by decide +kernel
theorem dL_does_27 : decode cL_does 27 = .ok (.istore 4, 2) := by decide +kernel
theorem dL_does_29 : decode cL_does 29 = .ok (.aload_n 0, 1) := by decide +kernel
theorem dL_does_30 : decode cL_does 30 = .ok (.iconst 1, 1) := by decide +kernel
theorem dL_does_31 : decode cL_does 31 = .ok (.invokevirtual 14, 3) := by decide +kernel
theorem dL_does_34 : decode cL_does 34 = .ok (.istore 5, 2) := by decide +kernel
theorem dL_does_36 : decode cL_does 36 = .ok (.iload_n 1, 1) := by decide +kernel
theorem dL_does_37 : decode cL_does 37 = .ok (.bipush 15, 2) := by decide +kernel
theorem dL_does_39 : decode cL_does 39 = .ok (.iand, 1) := by decide +kernel
theorem dL_does_40 : decode cL_does 40 = .ok (.tableswitch 213 0 14 #[76, 76, 76, 85, 85, 105, 128, 136, 136, 158, 176, 176, 198, 198, 205], 76) := by decide +kernel
theorem dL_does_116 : decode cL_does 116 = .ok (.aload_n 0, 1) := by decide +kernel
theorem dL_does_117 : decode cL_does 117 = .ok (.iload_n 2, 1) := by decide +kernel
theorem dL_does_118 : decode cL_does 118 = .ok (.iload_n 3, 1) := by decide +kernel
theorem dL_does_119 : decode cL_does 119 = .ok (.iload 4, 2) := by decide +kernel
theorem dL_does_121 : decode cL_does 121 = .ok (.invokevirtual 20, 3) := by decide +kernel
theorem dL_does_124 : decode cL_does 124 = .ok (.ireturn, 1) := by decide +kernel
theorem dL_does_125 : decode cL_does 125 = .ok (.aload_n 0, 1) := by decide +kernel
theorem dL_does_126 : decode cL_does 126 = .ok (.iload_n 2, 1) := by decide +kernel
theorem dL_does_127 : decode cL_does 127 = .ok (.iload_n 3, 1) := by decide +kernel
theorem dL_does_128 : decode cL_does 128 = .ok (.iload 4, 2) := by decide +kernel
theorem dL_does_130 : decode cL_does 130 = .ok (.iconst 1, 1) := by decide +kernel
theorem dL_does_131 : decode cL_does 131 = .ok (.iload_n 1, 1) := by decide +kernel
theorem dL_does_132 : decode cL_does 132 = .ok (.bipush 12, 2) := by decide +kernel
theorem dL_does_134 : decode cL_does 134 = .ok (.ishr, 1) := by decide +kernel
theorem dL_does_135 : decode cL_does 135 = .ok (.bipush 40, 2) := by decide +kernel
theorem dL_does_137 : decode cL_does 137 = .ok (.invokestatic 8, 3) := by decide +kernel
theorem dL_does_140 : decode cL_does 140 = .ok (.iadd, 1) := by decide +kernel
theorem dL_does_141 : decode cL_does 141 = .ok (.invokevirtual 24, 3) := by decide +kernel
theorem dL_does_144 : decode cL_does 144 = .ok (.ireturn, 1) := by decide +kernel
theorem dL_does_145 : decode cL_does 145 = .ok (.aload_n 0, 1) := by decide +kernel
theorem dL_does_146 : decode cL_does 146 = .ok (.iload 5, 2) := by decide +kernel
theorem dL_does_148 : decode cL_does 148 = .ok (.ifCond .ne 7, 3) := by decide +kernel
theorem dL_does_151 : decode cL_does 151 = .ok (.iconst 0, 1) := by decide +kernel
theorem dL_does_152 : decode cL_does 152 = .ok (.goto 12, 3) := by decide +kernel
theorem dL_does_155 : decode cL_does 155 = .ok (.iload_n 1, 1) := by decide +kernel
theorem dL_does_156 : decode cL_does 156 = .ok (.bipush 6, 2) := by decide +kernel
theorem dL_does_158 : decode cL_does 158 = .ok (.ishr, 1) := by decide +kernel
theorem dL_does_159 : decode cL_does 159 = .ok (.iload 5, 2) := by decide +kernel
theorem dL_does_161 : decode cL_does 161 = .ok (.invokestatic 8, 3) := by decide +kernel
theorem dL_does_164 : decode cL_does 164 = .ok (.invokevirtual 28, 3) := by decide +kernel
theorem dL_does_167 : decode cL_does 167 = .ok (.ireturn, 1) := by decide +kernel
theorem dL_does_168 : decode cL_does 168 = .ok (.aload_n 0, 1) := by decide +kernel
theorem dL_does_169 : decode cL_does 169 = .ok (.iload_n 2, 1) := by decide +kernel
theorem dL_does_170 : decode cL_does 170 = .ok (.iload 4, 2) := by decide +kernel
theorem dL_does_172 : decode cL_does 172 = .ok (.invokevirtual 31, 3) := by decide +kernel
theorem dL_does_175 : decode cL_does 175 = .ok (.ireturn, 1) := by decide +kernel
theorem dL_does_176 : decode cL_does 176 = .ok (.aload_n 0, 1) := by decide +kernel
theorem dL_does_177 : decode cL_does 177 = .ok (.iload_n 2, 1) := by decide +kernel
theorem dL_does_178 : decode cL_does 178 = .ok (.iload 4, 2) := by decide +kernel
theorem dL_does_180 : decode cL_does 180 = .ok (.iload_n 1, 1) := by decide +kernel
theorem dL_does_181 : decode cL_does 181 = .ok (.bipush 13, 2) := by decide +kernel
theorem dL_does_183 : decode cL_does 183 = .ok (.ishr, 1) := by decide +kernel
theorem dL_does_184 : decode cL_does 184 = .ok (.iconst 3, 1) := by decide +kernel
theorem dL_does_185 : decode cL_does 185 = .ok (.iand, 1) := by decide +kernel
theorem dL_does_186 : decode cL_does 186 = .ok (.ifCond .ne 7, 3) := by decide +kernel
theorem dL_does_189 : decode cL_does 189 = .ok (.iconst 1, 1) := by decide +kernel
theorem dL_does_190 : decode cL_does 190 = .ok (.goto 4, 3) := by decide +kernel
theorem dL_does_193 : decode cL_does 193 = .ok (.iconst 0, 1) := by decide +kernel
theorem dL_does_194 : decode cL_does 194 = .ok (.invokevirtual 34, 3) := by decide +kernel
theorem dL_does_197 : decode cL_does 197 = .ok (.ireturn, 1) := by decide +kernel
theorem dL_does_198 : decode cL_does 198 = .ok (.aload_n 0, 1) := by decide +kernel
theorem dL_does_199 : decode cL_does 199 = .ok (.iload_n 2, 1) := by decide +kernel
theorem dL_does_200 : decode cL_does 200 = .ok (.iload 4, 2) := by decide +kernel
theorem dL_does_202 : decode cL_does 202 = .ok (.iload_n 1, 1) := by decide +kernel
theorem dL_does_203 : decode cL_does 203 = .ok (.bipush 12, 2) := by decide +kernel
theorem dL_does_205 : decode cL_does 205 = .ok (.ishr, 1) := by decide +kernel
theorem dL_does_206 : decode cL_does 206 = .ok (.sipush 1000, 3) := by decide +kernel
theorem dL_does_209 : decode cL_does 209 = .ok (.invokestatic 8, 3) := by decide +kernel
theorem dL_does_212 : decode cL_does 212 = .ok (.invokevirtual 38, 3) := by decide +kernel
theorem dL_does_215 : decode cL_does 215 = .ok (.ireturn, 1) := by decide +kernel
theorem dL_does_216 : decode cL_does 216 = .ok (.aload_n 0, 1) := by decide +kernel
theorem dL_does_217 : decode cL_does 217 = .ok (.iload_n 2, 1) := by decide +kernel
theorem dL_does_218 : decode cL_does 218 = .ok (.iload 4, 2) := by decide +kernel
theorem dL_does_220 : decode cL_does 220 = .ok (.iload_n 1, 1) := by decide +kernel
theorem dL_does_221 : decode cL_does 221 = .ok (.bipush 13, 2) := by decide +kernel
theorem dL_does_223 : decode cL_does 223 = .ok (.ishr, 1) := by decide +kernel
theorem dL_does_224 : decode cL_does 224 = .ok (.iconst 3, 1) := by decide +kernel
theorem dL_does_225 : decode cL_does 225 = .ok (.iand, 1) := by decide +kernel
theorem dL_does_226 : decode cL_does 226 = .ok (.ifCond .le 7, 3) := by decide +kernel
theorem dL_does_229 : decode cL_does 229 = .ok (.iconst 1, 1) := by decide +kernel
theorem dL_does_230 : decode cL_does 230 = .ok (.goto 4, 3) := by decide +kernel
theorem dL_does_233 : decode cL_does 233 = .ok (.iconst 0, 1) := by decide +kernel
theorem dL_does_234 : decode cL_does 234 = .ok (.invokevirtual 41, 3) := by decide +kernel
theorem dL_does_237 : decode cL_does 237 = .ok (.ireturn, 1) := by decide +kernel
theorem dL_does_238 : decode cL_does 238 = .ok (.aload_n 0, 1) := by decide +kernel
theorem dL_does_239 : decode cL_does 239 = .ok (.iload 4, 2) := by decide +kernel
theorem dL_does_241 : decode cL_does 241 = .ok (.invokevirtual 44, 3) := by decide +kernel
theorem dL_does_244 : decode cL_does 244 = .ok (.ireturn, 1) := by decide +kernel
theorem dL_does_245 : decode cL_does 245 = .ok (.aload_n 0, 1) := by decide +kernel
theorem dL_does_246 : decode cL_does 246 = .ok (.iload 4, 2) := by decide +kernel
theorem dL_does_248 : decode cL_does 248 = .ok (.iload_n 2, 1) := by decide +kernel
theorem dL_does_249 : decode cL_does 249 = .ok (.invokevirtual 47, 3) := by decide +kernel
theorem dL_does_252 : decode cL_does 252 = .ok (.ireturn, 1) := by decide +kernel
theorem dL_does_253 : decode cL_does 253 = .ok (.aload_n 0, 1) := by decide +kernel
theorem dL_does_254 : decode cL_does 254 = .ok (.aload_n 0, 1) := by decide +kernel
theorem dL_does_255 : decode cL_does 255 = .ok (.iload 4, 2) := by decide +kernel
theorem dL_does_257 : decode cL_does 257 = .ok (.iconst 2, 1) := by decide +kernel
theorem dL_does_258 : decode cL_does 258 = .ok (.invokevirtual 50, 3) := by decide +kernel
theorem dL_does_261 : decode cL_does 261 = .ok (.iload_n 3, 1) := by decide +kernel
theorem dL_does_262 : decode cL_does 262 = .ok (.iload 4, 2) := by decide +kernel
theorem dL_does_264 : decode cL_does 264 = .ok (.iconst 1, 1) := by decide +kernel
theorem dL_does_265 : decode cL_does 265 = .ok (.iload_n 1, 1) := by decide +kernel
theorem dL_does_266 : decode cL_does 266 = .ok (.bipush 12, 2) := by decide +kernel
theorem dL_does_268 : decode cL_does 268 = .ok (.ishr, 1) := by decide +kernel
theorem dL_does_269 : decode cL_does 269 = .ok (.bipush 64, 2) := by decide +kernel
theorem dL_does_271 : decode cL_does 271 = .ok (.invokestatic 8, 3) := by decide +kernel
theorem dL_does_274 : decode cL_does 274 = .ok (.iadd, 1) := by decide +kernel
theorem dL_does_275 : decode cL_does 275 = .ok (.invokevirtual 24, 3) := by decide +kernel
theorem dL_does_278 : decode cL_does 278 = .ok (.ireturn, 1) := by decide +kernel
theorem dL_isCellSo_0 : decode cL_isCellSo 0 = .ok (.iconst 0, 1) := by decide +kernel
theorem dL_isCellSo_1 : decode cL_isCellSo 1 = .ok (.istore_n 2, 1) := by decide +kernel
theorem dL_isCellSo_2 : decode cL_isCellSo 2 = .ok (.iconst 0, 1) := by decide +kernel
theorem dL_isCellSo_3 : decode cL_isCellSo 3 = .ok (.istore_n 3, 1) := by decide +kernel
theorem dL_isCellSo_4 : decode cL_isCellSo 4 = .ok (.iconst 0, 1) := by decide +kernel
theorem dL_isCellSo_5 : decode cL_isCellSo 5 = .ok (.istore 4, 2) := by decide +kernel
theorem dL_isCellSo_7 : decode cL_isCellSo 7 = .ok (.bipush (-5), 2) := by decide +kernel
theorem dL_isCellSo_9 : decode cL_isCellSo 9 = .ok (.istore 5, 2) := by decide +kernel
theorem dL_isCellSo_11 : decode cL_isCellSo 11 = .ok (.iconst 0, 1) := by decide +kernel
theorem dL_isCellSo_12 : decode cL_isCellSo 12 = .ok (.istore 6, 2) := by decide +kernel
theorem dL_isCellSo_14 : decode cL_isCellSo 14 = .ok (.iconst 0, 1) := by decide +kernel
theorem dL_isCellSo_15 : decode cL_isCellSo 15 = .ok (.istore 7, 2) := by decide +kernel
theorem dL_isCellSo_17 : decode cL_isCellSo 17 = .ok (.iconst 0, 1) := by decide +kernel
theorem dL_isCellSo_18 : decode cL_isCellSo 18 = .ok (.istore 8, 2) := by decide +kernel
theorem dL_isCellSo_20 : decode cL_isCellSo 20 = .ok (.iconst 0, 1) := by decide +kernel
theorem dL_isCellSo_21 : decode cL_isCellSo 21 = .ok (.istore 9, 2) := by decide +kernel
theorem dL_isCellSo_23 : decode cL_isCellSo 23 = .ok (.iload 9, 2) := by decide +kernel
theorem dL_isCellSo_25 : decode cL_isCellSo 25 = .ok (.aload_n 0, 1) := by decide +kernel
theorem dL_isCellSo_26 : decode cL_isCellSo 26 = .ok (.iconst 1, 1) := by decide +kernel
theorem dL_isCellSo_27 : decode cL_isCellSo 27 = .ok (.invokevirtual 14, 3) := by decide +kernel
theorem dL_isCellSo_30 : decode cL_isCellSo 30 = .ok (.if_icmp .ge 30, 3) := by decide +kernel
theorem dL_isCellSo_33 : decode cL_isCellSo 33 = .ok (.iload 8, 2) := by decide +kernel
theorem dL_isCellSo_35 : decode cL_isCellSo 35 = .ok (.aload_n 0, 1) := by decide +kernel
theorem dL_isCellSo_36 : decode cL_isCellSo 36 = .ok (.iload 9, 2) := by decide +kernel
theorem dL_isCellSo_38 : decode cL_isCellSo 38 = .ok (.iconst 2, 1) := by decide +kernel
theorem dL_isCellSo_39 : decode cL_isCellSo 39 = .ok (.invokevirtual 53, 3) := by decide +kernel
theorem dL_isCellSo_42 : decode cL_isCellSo 42 = .ok (.iload_n 1, 1) := by decide +kernel
theorem dL_isCellSo_43 : decode cL_isCellSo 43 = .ok (.if_icmp .ne 7, 3) := by decide +kernel
theorem dL_isCellSo_46 : decode cL_isCellSo 46 = .ok (.iconst 1, 1) := by decide +kernel
theorem dL_isCellSo_47 : decode cL_isCellSo 47 = .ok (.goto 4, 3) := by decide +kernel
theorem dL_isCellSo_50 : decode cL_isCellSo 50 = .ok (.iconst 0, 1) := by decide +kernel
theorem dL_isCellSo_51 : decode cL_isCellSo 51 = .ok (.iadd, 1) := by decide +kernel
theorem dL_isCellSo_52 : decode cL_isCellSo 52 = .ok (.istore 8, 2) := by decide +kernel
theorem dL_isCellSo_54 : decode cL_isCellSo 54 = .ok (.iinc 9 1, 3) := by decide +kernel
theorem dL_isCellSo_57 : decode cL_isCellSo 57 = .ok (.goto (-34), 3) := by decide +kernel
theorem dL_isCellSo_60 : decode cL_isCellSo 60 = .ok (.iconst 0, 1) := by decide +kernel
theorem dL_isCellSo_61 : decode cL_isCellSo 61 = .ok (.istore 9, 2) := by decide +kernel
theorem dL_isCellSo_63 : decode cL_isCellSo 63 = .ok (.iload 9, 2) := by decide +kernel
theorem dL_isCellSo_65 : decode cL_isCellSo 65 = .ok (.bipush 6, 2) := by decide +kernel
theorem dL_isCellSo_67 : decode cL_isCellSo 67 = .ok (.if_icmp .ge 296, 3) := by decide +kernel
theorem dL_isCellSo_70 : decode cL_isCellSo 70 = .ok (.aload_n 0, 1) := by decide +kernel
theorem dL_isCellSo_71 : decode cL_isCellSo 71 = .ok (.iload 9, 2) := by decide +kernel
theorem dL_isCellSo_73 : decode cL_isCellSo 73 = .ok (.iload_n 1, 1) := by decide +kernel
theorem dL_isCellSo_74 : decode cL_isCellSo 74 = .ok (.iconst 0, 1) := by decide +kernel
theorem dL_isCellSo_75 : decode cL_isCellSo 75 = .ok (.invokevirtual 56, 3) := by decide +kernel
theorem dL_isCellSo_78 : decode cL_isCellSo 78 = .ok (.istore 10, 2) := by decide +kernel
theorem dL_isCellSo_80 : decode cL_isCellSo 80 = .ok (.aload_n 0, 1) := by decide +kernel
theorem dL_isCellSo_81 : decode cL_isCellSo 81 = .ok (.iload 9, 2) := by decide +kernel
theorem dL_isCellSo_83 : decode cL_isCellSo 83 = .ok (.iload_n 1, 1) := by decide +kernel
theorem dL_isCellSo_84 : decode cL_isCellSo 84 = .ok (.iconst 4, 1) := by decide +kernel
theorem dL_isCellSo_85 : decode cL_isCellSo 85 = .ok (.invokevirtual 56, 3) := by decide +kernel
theorem dL_isCellSo_88 : decode cL_isCellSo 88 = .ok (.istore 11, 2) := by decide +kernel
theorem dL_isCellSo_90 : decode cL_isCellSo 90 = .ok (.aload_n 0, 1) := by decide +kernel
theorem dL_isCellSo_91 : decode cL_isCellSo 91 = .ok (.iload 9, 2) := by decide +kernel
theorem dL_isCellSo_93 : decode cL_isCellSo 93 = .ok (.iload_n 1, 1) := by decide +kernel
theorem dL_isCellSo_94 : decode cL_isCellSo 94 = .ok (.iconst 5, 1) := by decide +kernel
theorem dL_isCellSo_95 : decode cL_isCellSo 95 = .ok (.invokevirtual 56, 3) := by decide +kernel
theorem dL_isCellSo_98 : decode cL_isCellSo 98 = .ok (.istore 12, 2) := by decide +kernel
theorem dL_isCellSo_100 : decode cL_isCellSo 100 = .ok (.iload 9, 2) := by decide +kernel
theorem dL_isCellSo_102 : decode cL_isCellSo 102 = .ok (.aload_n 0, 1) := by decide +kernel
theorem dL_isCellSo_103 : decode cL_isCellSo 103 = .ok (.iload_n 1, 1) := by decide +kernel
theorem dL_isCellSo_104 : decode cL_isCellSo 104 = .ok (.iconst 2, 1) := by decide +kernel
theorem dL_isCellSo_105 : decode cL_isCellSo 105 = .ok (.invokevirtual 50, 3) := by decide +kernel
theorem dL_isCellSo_108 : decode cL_isCellSo 108 = .ok (.if_icmp .ne 8, 3) := by decide +kernel
theorem dL_isCellSo_111 : decode cL_isCellSo 111 = .ok (.bipush 64, 2) := by decide +kernel
theorem dL_isCellSo_113 : decode cL_isCellSo 113 = .ok (.goto 4, 3) := by decide +kernel
theorem dL_isCellSo_116 : decode cL_isCellSo 116 = .ok (.iconst 0, 1) := by decide +kernel
theorem dL_isCellSo_117 : decode cL_isCellSo 117 = .ok (.istore 13, 2) := by decide +kernel
theorem dL_isCellSo_119 : decode cL_isCellSo 119 = .ok (.iload_n 2, 1) := by decide +kernel
theorem dL_isCellSo_120 : decode cL_isCellSo 120 = .ok (.iload 10, 2) := by decide +kernel
theorem dL_isCellSo_122 : decode cL_isCellSo 122 = .ok (.iadd, 1) := by decide +kernel
theorem dL_isCellSo_123 : decode cL_isCellSo 123 = .ok (.istore_n 2, 1) := by decide +kernel
theorem dL_isCellSo_124 : decode cL_isCellSo 124 = .ok (.iload_n 3, 1) := by decide +kernel
theorem dL_isCellSo_125 : decode cL_isCellSo 125 = .ok (.iload 10, 2) := by decide +kernel
theorem dL_isCellSo_127 : decode cL_isCellSo 127 = .ok (.ifCond .le 7, 3) := by decide +kernel
theorem dL_isCellSo_130 : decode cL_isCellSo 130 = .ok (.iconst 1, 1) := by decide +kernel
theorem dL_isCellSo_131 : decode cL_isCellSo 131 = .ok (.goto 4, 3) := by decide +kernel
theorem dL_isCellSo_134 : decode cL_isCellSo 134 = .ok (.iconst 0, 1) := by decide +kernel
theorem dL_isCellSo_135 : decode cL_isCellSo 135 = .ok (.iadd, 1) := by decide +kernel
theorem dL_isCellSo_136 : decode cL_isCellSo 136 = .ok (.istore_n 3, 1) := by decide +kernel
theorem dL_isCellSo_137 : decode cL_isCellSo 137 = .ok (.iload 4, 2) := by decide +kernel
theorem dL_isCellSo_139 : decode cL_isCellSo 139 = .ok (.aload_n 0, 1) := by decide +kernel
theorem dL_isCellSo_140 : decode cL_isCellSo 140 = .ok (.iload 9, 2) := by decide +kernel
theorem dL_isCellSo_142 : decode cL_isCellSo 142 = .ok (.iload_n 1, 1) := by decide +kernel
theorem dL_isCellSo_143 : decode cL_isCellSo 143 = .ok (.iconst 3, 1) := by decide +kernel
theorem dL_isCellSo_144 : decode cL_isCellSo 144 = .ok (.invokevirtual 56, 3) := by decide +kernel
theorem dL_isCellSo_147 : decode cL_isCellSo 147 = .ok (.iadd, 1) := by decide +kernel
theorem dL_isCellSo_148 : decode cL_isCellSo 148 = .ok (.istore 4, 2) := by decide +kernel
theorem dL_isCellSo_150 : decode cL_isCellSo 150 = .ok (.iload 10, 2) := by decide +kernel
theorem dL_isCellSo_152 : decode cL_isCellSo 152 = .ok (.bipush 64, 2) := by decide +kernel
theorem dL_isCellSo_154 : decode cL_isCellSo 154 = .ok (.if_icmp .ne 8, 3) := by decide +kernel
theorem dL_isCellSo_157 : decode cL_isCellSo 157 = .ok (.iload 9, 2) := by decide +kernel
theorem dL_isCellSo_159 : decode cL_isCellSo 159 = .ok (.goto 5, 3) := by decide +kernel
theorem dL_isCellSo_162 : decode cL_isCellSo 162 = .ok (.iload 5, 2) := by decide +kernel
theorem dL_isCellSo_164 : decode cL_isCellSo 164 = .ok (.istore 5, 2) := by decide +kernel
theorem dL_isCellSo_166 : decode cL_isCellSo 166 = .ok (.iload 6, 2) := by decide +kernel
theorem dL_isCellSo_168 : decode cL_isCellSo 168 = .ok (.iload 11, 2) := by decide +kernel
theorem dL_isCellSo_170 : decode cL_isCellSo 170 = .ok (.ifCond .lt 7, 3) := by decide +kernel
theorem dL_isCellSo_173 : decode cL_isCellSo 173 = .ok (.iconst 1, 1) := by decide +kernel
theorem dL_isCellSo_174 : decode cL_isCellSo 174 = .ok (.goto 4, 3) := by decide +kernel
theorem dL_isCellSo_177 : decode cL_isCellSo 177 = .ok (.iconst 0, 1) := by decide +kernel
theorem dL_isCellSo_178 : decode cL_isCellSo 178 = .ok (.iadd, 1) := by decide +kernel
theorem dL_isCellSo_179 : decode cL_isCellSo 179 = .ok (.istore 6, 2) := by decide +kernel
theorem dL_isCellSo_181 : decode cL_isCellSo 181 = .ok (.iload 7, 2) := by decide +kernel
theorem dL_isCellSo_183 : decode cL_isCellSo 183 = .ok (.iload 11, 2) := by decide +kernel
theorem dL_isCellSo_185 : decode cL_isCellSo 185 = .ok (.ifCond .lt 10, 3) := by decide +kernel
theorem dL_isCellSo_188 : decode cL_isCellSo 188 = .ok (.iconst 1, 1) := by decide +kernel
theorem dL_isCellSo_189 : decode cL_isCellSo 189 = .ok (.iload 11, 2) := by decide +kernel
theorem dL_isCellSo_191 : decode cL_isCellSo 191 = .ok (.ishl, 1) := by decide +kernel
theorem dL_isCellSo_192 : decode cL_isCellSo 192 = .ok (.goto 4, 3) := by decide +kernel
theorem dL_isCellSo_195 : decode cL_isCellSo 195 = .ok (.iconst 0, 1) := by decide +kernel
theorem dL_isCellSo_196 : decode cL_isCellSo 196 = .ok (.ior, 1) := by decide +kernel
theorem dL_isCellSo_197 : decode cL_isCellSo 197 = .ok (.istore 7, 2) := by decide +kernel
theorem dL_isCellSo_199 : decode cL_isCellSo 199 = .ok (.iload 10, 2) := by decide +kernel
theorem dL_isCellSo_201 : decode cL_isCellSo 201 = .ok (.ifCond .lt 76, 3) := by decide +kernel
theorem dL_isCellSo_204 : decode cL_isCellSo 204 = .ok (.iload 10, 2) := by decide +kernel
theorem dL_isCellSo_206 : decode cL_isCellSo 206 = .ok (.iload 13, 2) := by decide +kernel
theorem dL_isCellSo_208 : decode cL_isCellSo 208 = .ok (.aload_n 0, 1) := by decide +kernel
theorem dL_isCellSo_209 : decode cL_isCellSo 209 = .ok (.iload 9, 2) := by decide +kernel
theorem dL_isCellSo_211 : decode cL_isCellSo 211 = .ok (.iload_n 1, 1) := by decide +kernel
theorem dL_isCellSo_212 : decode cL_isCellSo 212 = .ok (.iconst 2, 1) := by decide +kernel
theorem dL_isCellSo_213 : decode cL_isCellSo 213 = .ok (.invokevirtual 56, 3) := by decide +kernel
theorem dL_isCellSo_216 : decode cL_isCellSo 216 = .ok (.iadd, 1) := by decide +kernel
theorem dL_isCellSo_217 : decode cL_isCellSo 217 = .ok (.aload_n 0, 1) := by decide +kernel
theorem dL_isCellSo_218 : decode cL_isCellSo 218 = .ok (.iload 9, 2) := by decide +kernel
theorem dL_isCellSo_220 : decode cL_isCellSo 220 = .ok (.iload_n 1, 1) := by decide +kernel
theorem dL_isCellSo_221 : decode cL_isCellSo 221 = .ok (.iconst 1, 1) := by decide +kernel
theorem dL_isCellSo_222 : decode cL_isCellSo 222 = .ok (.invokevirtual 56, 3) := by decide +kernel
theorem dL_isCellSo_225 : decode cL_isCellSo 225 = .ok (.isub, 1) := by decide +kernel
theorem dL_isCellSo_226 : decode cL_isCellSo 226 = .ok (.if_icmp .ne 51, 3) := by decide +kernel
theorem dL_isCellSo_229 : decode cL_isCellSo 229 = .ok (.aload_n 0, 1) := by decide +kernel
theorem dL_isCellSo_230 : decode cL_isCellSo 230 = .ok (.iload 9, 2) := by decide +kernel
theorem dL_isCellSo_232 : decode cL_isCellSo 232 = .ok (.iload_n 1, 1) := by decide +kernel
theorem dL_isCellSo_233 : decode cL_isCellSo 233 = .ok (.iconst 3, 1) := by decide +kernel
theorem dL_isCellSo_234 : decode cL_isCellSo 234 = .ok (.invokevirtual 56, 3) := by decide +kernel
theorem dL_isCellSo_237 : decode cL_isCellSo 237 = .ok (.ifCond .eq 8, 3) := by decide +kernel
theorem dL_isCellSo_240 : decode cL_isCellSo 240 = .ok (.iload 10, 2) := by decide +kernel
theorem dL_isCellSo_242 : decode cL_isCellSo 242 = .ok (.ifCond .le 35, 3) := by decide +kernel
theorem dL_isCellSo_245 : decode cL_isCellSo 245 = .ok (.aload_n 0, 1) := by decide +kernel
theorem dL_isCellSo_246 : decode cL_isCellSo 246 = .ok (.iload 9, 2) := by decide +kernel
theorem dL_isCellSo_248 : decode cL_isCellSo 248 = .ok (.iload_n 1, 1) := by decide +kernel
theorem dL_isCellSo_249 : decode cL_isCellSo 249 = .ok (.invokevirtual 59, 3) := by decide +kernel
theorem dL_isCellSo_252 : decode cL_isCellSo 252 = .ok (.ifCond .lt 7, 3) := by decide +kernel
theorem dL_isCellSo_255 : decode cL_isCellSo 255 = .ok (.iconst 1, 1) := by decide +kernel
theorem dL_isCellSo_256 : decode cL_isCellSo 256 = .ok (.goto 4, 3) := by decide +kernel
theorem dL_isCellSo_259 : decode cL_isCellSo 259 = .ok (.iconst 0, 1) := by decide +kernel
theorem dL_isCellSo_260 : decode cL_isCellSo 260 = .ok (.iload 10, 2) := by decide +kernel
theorem dL_isCellSo_262 : decode cL_isCellSo 262 = .ok (.ifCond .le 7, 3) := by decide +kernel
theorem dL_isCellSo_265 : decode cL_isCellSo 265 = .ok (.iconst 1, 1) := by decide +kernel
theorem dL_isCellSo_266 : decode cL_isCellSo 266 = .ok (.goto 4, 3) := by decide +kernel
theorem dL_isCellSo_269 : decode cL_isCellSo 269 = .ok (.iconst 0, 1) := by decide +kernel
theorem dL_isCellSo_270 : decode cL_isCellSo 270 = .ok (.if_icmp .ne 7, 3) := by decide +kernel
theorem dL_isCellSo_273 : decode cL_isCellSo 273 = .ok (.iconst 1, 1) := by decide +kernel
theorem dL_isCellSo_274 : decode cL_isCellSo 274 = .ok (.goto 4, 3) := by decide +kernel
theorem dL_isCellSo_277 : decode cL_isCellSo 277 = .ok (.iconst 0, 1) := by decide +kernel
theorem dL_isCellSo_278 : decode cL_isCellSo 278 = .ok (.istore 14, 2) := by decide +kernel
theorem dL_isCellSo_280 : decode cL_isCellSo 280 = .ok (.iload 14, 2) := by decide +kernel
theorem dL_isCellSo_282 : decode cL_isCellSo 282 = .ok (.ifCond .eq 65, 3) := by decide +kernel
theorem dL_isCellSo_285 : decode cL_isCellSo 285 = .ok (.iload 12, 2) := by decide +kernel
theorem dL_isCellSo_287 : decode cL_isCellSo 287 = .ok (.ifCond .lt 60, 3) := by decide +kernel
theorem dL_isCellSo_290 : decode cL_isCellSo 290 = .ok (.iload 12, 2) := by decide +kernel
theorem dL_isCellSo_292 : decode cL_isCellSo 292 = .ok (.bipush 64, 2) := by decide +kernel
theorem dL_isCellSo_294 : decode cL_isCellSo 294 = .ok (.if_icmp .gt 53, 3) := by decide +kernel
theorem dL_isCellSo_297 : decode cL_isCellSo 297 = .ok (.aload_n 0, 1) := by decide +kernel
theorem dL_isCellSo_298 : decode cL_isCellSo 298 = .ok (.iload 9, 2) := by decide +kernel
theorem dL_isCellSo_300 : decode cL_isCellSo 300 = .ok (.iload_n 1, 1) := by decide +kernel
theorem dL_isCellSo_301 : decode cL_isCellSo 301 = .ok (.invokevirtual 62, 3) := by decide +kernel
theorem dL_isCellSo_304 : decode cL_isCellSo 304 = .ok (.ifCond .ne 7, 3) := by decide +kernel
theorem dL_isCellSo_307 : decode cL_isCellSo 307 = .ok (.iconst 1, 1) := by decide +kernel
theorem dL_isCellSo_308 : decode cL_isCellSo 308 = .ok (.goto 4, 3) := by decide +kernel
theorem dL_isCellSo_311 : decode cL_isCellSo 311 = .ok (.iconst 0, 1) := by decide +kernel
theorem dL_isCellSo_312 : decode cL_isCellSo 312 = .ok (.iload 12, 2) := by decide +kernel
theorem dL_isCellSo_314 : decode cL_isCellSo 314 = .ok (.bipush 64, 2) := by decide +kernel
theorem dL_isCellSo_316 : decode cL_isCellSo 316 = .ok (.if_icmp .ne 7, 3) := by decide +kernel
theorem dL_isCellSo_319 : decode cL_isCellSo 319 = .ok (.iconst 1, 1) := by decide +kernel
theorem dL_isCellSo_320 : decode cL_isCellSo 320 = .ok (.goto 4, 3) := by decide +kernel
theorem dL_isCellSo_323 : decode cL_isCellSo 323 = .ok (.iconst 0, 1) := by decide +kernel
theorem dL_isCellSo_324 : decode cL_isCellSo 324 = .ok (.if_icmp .ne 23, 3) := by decide +kernel
theorem dL_isCellSo_327 : decode cL_isCellSo 327 = .ok (.iload 11, 2) := by decide +kernel
theorem dL_isCellSo_329 : decode cL_isCellSo 329 = .ok (.ifCond .ne 14, 3) := by decide +kernel
theorem dL_isCellSo_332 : decode cL_isCellSo 332 = .ok (.aload_n 0, 1) := by decide +kernel
theorem dL_isCellSo_333 : decode cL_isCellSo 333 = .ok (.iload_n 1, 1) := by decide +kernel
theorem dL_isCellSo_334 : decode cL_isCellSo 334 = .ok (.iconst 5, 1) := by decide +kernel
theorem dL_isCellSo_335 : decode cL_isCellSo 335 = .ok (.invokevirtual 50, 3) := by decide +kernel
theorem dL_isCellSo_338 : decode cL_isCellSo 338 = .ok (.iload 9, 2) := by decide +kernel
theorem dL_isCellSo_340 : decode cL_isCellSo 340 = .ok (.if_icmp .ne 7, 3) := by decide +kernel
theorem dL_isCellSo_343 : decode cL_isCellSo 343 = .ok (.iconst 1, 1) := by decide +kernel
theorem dL_isCellSo_344 : decode cL_isCellSo 344 = .ok (.goto 4, 3) := by decide +kernel
theorem dL_isCellSo_347 : decode cL_isCellSo 347 = .ok (.iconst 0, 1) := by decide +kernel
theorem dL_isCellSo_348 : decode cL_isCellSo 348 = .ok (.istore 14, 2) := by decide +kernel
theorem dL_isCellSo_350 : decode cL_isCellSo 350 = .ok (.iload 14, 2) := by decide +kernel
theorem dL_isCellSo_352 : decode cL_isCellSo 352 = .ok (.ifCond .ne 5, 3) := by decide +kernel
theorem dL_isCellSo_355 : decode cL_isCellSo 355 = .ok (.iconst 0, 1) := by decide +kernel
theorem dL_isCellSo_356 : decode cL_isCellSo 356 = .ok (.ireturn, 1) := by decide +kernel
theorem dL_isCellSo_357 : decode cL_isCellSo 357 = .ok (.iinc 9 1, 3) := by decide +kernel
theorem dL_isCellSo_360 : decode cL_isCellSo 360 = .ok (.goto (-297), 3) := by decide +kernel
theorem dL_isCellSo_363 : decode cL_isCellSo 363 = .ok (.iload_n 2, 1) := by decide +kernel
theorem dL_isCellSo_364 : decode cL_isCellSo 364 = .ok (.bipush 64, 2) := by decide +kernel
theorem dL_isCellSo_366 : decode cL_isCellSo 366 = .ok (.if_icmp .ne 75, 3) := by decide +kernel
theorem dL_isCellSo_369 : decode cL_isCellSo 369 = .ok (.iload_n 3, 1) := by decide +kernel
theorem dL_isCellSo_370 : decode cL_isCellSo 370 = .ok (.aload_n 0, 1) := by decide +kernel
theorem dL_isCellSo_371 : decode cL_isCellSo 371 = .ok (.iload_n 1, 1) := by decide +kernel
theorem dL_isCellSo_372 : decode cL_isCellSo 372 = .ok (.iconst 3, 1) := by decide +kernel
theorem dL_isCellSo_373 : decode cL_isCellSo 373 = .ok (.invokevirtual 50, 3) := by decide +kernel
theorem dL_isCellSo_376 : decode cL_isCellSo 376 = .ok (.if_icmp .ne 65, 3) := by decide +kernel
theorem dL_isCellSo_379 : decode cL_isCellSo 379 = .ok (.iload 4, 2) := by decide +kernel
theorem dL_isCellSo_381 : decode cL_isCellSo 381 = .ok (.aload_n 0, 1) := by decide +kernel
theorem dL_isCellSo_382 : decode cL_isCellSo 382 = .ok (.iload_n 1, 1) := by decide +kernel
theorem dL_isCellSo_383 : decode cL_isCellSo 383 = .ok (.bipush 8, 2) := by decide +kernel
theorem dL_isCellSo_385 : decode cL_isCellSo 385 = .ok (.invokevirtual 50, 3) := by decide +kernel
theorem dL_isCellSo_388 : decode cL_isCellSo 388 = .ok (.if_icmp .ne 53, 3) := by decide +kernel
theorem dL_isCellSo_391 : decode cL_isCellSo 391 = .ok (.iload 5, 2) := by decide +kernel
theorem dL_isCellSo_393 : decode cL_isCellSo 393 = .ok (.aload_n 0, 1) := by decide +kernel
theorem dL_isCellSo_394 : decode cL_isCellSo 394 = .ok (.iload_n 1, 1) := by decide +kernel
theorem dL_isCellSo_395 : decode cL_isCellSo 395 = .ok (.bipush 7, 2) := by decide +kernel
theorem dL_isCellSo_397 : decode cL_isCellSo 397 = .ok (.invokevirtual 50, 3) := by decide +kernel
theorem dL_isCellSo_400 : decode cL_isCellSo 400 = .ok (.if_icmp .ne 41, 3) := by decide +kernel
theorem dL_isCellSo_403 : decode cL_isCellSo 403 = .ok (.iload 6, 2) := by decide +kernel
theorem dL_isCellSo_405 : decode cL_isCellSo 405 = .ok (.aload_n 0, 1) := by decide +kernel
theorem dL_isCellSo_406 : decode cL_isCellSo 406 = .ok (.iload_n 1, 1) := by decide +kernel
theorem dL_isCellSo_407 : decode cL_isCellSo 407 = .ok (.iconst 4, 1) := by decide +kernel
theorem dL_isCellSo_408 : decode cL_isCellSo 408 = .ok (.invokevirtual 50, 3) := by decide +kernel
theorem dL_isCellSo_411 : decode cL_isCellSo 411 = .ok (.if_icmp .ne 30, 3) := by decide +kernel
theorem dL_isCellSo_414 : decode cL_isCellSo 414 = .ok (.iload 7, 2) := by decide +kernel
theorem dL_isCellSo_416 : decode cL_isCellSo 416 = .ok (.iconst 1, 1) := by decide +kernel
theorem dL_isCellSo_417 : decode cL_isCellSo 417 = .ok (.iload 6, 2) := by decide +kernel
theorem dL_isCellSo_419 : decode cL_isCellSo 419 = .ok (.ishl, 1) := by decide +kernel
theorem dL_isCellSo_420 : decode cL_isCellSo 420 = .ok (.iconst 1, 1) := by decide +kernel
theorem dL_isCellSo_421 : decode cL_isCellSo 421 = .ok (.isub, 1) := by decide +kernel
theorem dL_isCellSo_422 : decode cL_isCellSo 422 = .ok (.if_icmp .ne 19, 3) := by decide +kernel
theorem dL_isCellSo_425 : decode cL_isCellSo 425 = .ok (.iload 8, 2) := by decide +kernel
theorem dL_isCellSo_427 : decode cL_isCellSo 427 = .ok (.aload_n 0, 1) := by decide +kernel
theorem dL_isCellSo_428 : decode cL_isCellSo 428 = .ok (.iload_n 1, 1) := by decide +kernel
theorem dL_isCellSo_429 : decode cL_isCellSo 429 = .ok (.bipush 6, 2) := by decide +kernel
theorem dL_isCellSo_431 : decode cL_isCellSo 431 = .ok (.invokevirtual 50, 3) := by decide +kernel
theorem dL_isCellSo_434 : decode cL_isCellSo 434 = .ok (.if_icmp .ne 7, 3) := by decide +kernel
theorem dL_isCellSo_437 : decode cL_isCellSo 437 = .ok (.iconst 1, 1) := by decide +kernel
theorem dL_isCellSo_438 : decode cL_isCellSo 438 = .ok (.goto 4, 3) := by decide +kernel
theorem dL_isCellSo_441 : decode cL_isCellSo 441 = .ok (.iconst 0, 1) := by decide +kernel
theorem dL_isCellSo_442 : decode cL_isCellSo 442 = .ok (.istore 9, 2) := by decide +kernel
theorem dL_isCellSo_444 : decode cL_isCellSo 444 = .ok (.iload 9, 2) := by decide +kernel
theorem dL_isCellSo_446 : decode cL_isCellSo 446 = .ok (.ifCond .eq 42, 3) := by decide +kernel
theorem dL_isCellSo_449 : decode cL_isCellSo 449 = .ok (.aload_n 0, 1) := by decide +kernel
theorem dL_isCellSo_450 : decode cL_isCellSo 450 = .ok (.iload_n 1, 1) := by decide +kernel
theorem dL_isCellSo_451 : decode cL_isCellSo 451 = .ok (.invokevirtual 65, 3) := by decide +kernel
theorem dL_isCellSo_454 : decode cL_isCellSo 454 = .ok (.iconst 5, 1) := by decide +kernel
theorem dL_isCellSo_455 : decode cL_isCellSo 455 = .ok (.if_icmp .gt 33, 3) := by decide +kernel
theorem dL_isCellSo_458 : decode cL_isCellSo 458 = .ok (.iload 8, 2) := by decide +kernel
theorem dL_isCellSo_460 : decode cL_isCellSo 460 = .ok (.ifCond .le 7, 3) := by decide +kernel
theorem dL_isCellSo_463 : decode cL_isCellSo 463 = .ok (.iconst 1, 1) := by decide +kernel
theorem dL_isCellSo_464 : decode cL_isCellSo 464 = .ok (.goto 4, 3) := by decide +kernel
theorem dL_isCellSo_467 : decode cL_isCellSo 467 = .ok (.iconst 0, 1) := by decide +kernel
theorem dL_isCellSo_468 : decode cL_isCellSo 468 = .ok (.aload_n 0, 1) := by decide +kernel
theorem dL_isCellSo_469 : decode cL_isCellSo 469 = .ok (.iload_n 1, 1) := by decide +kernel
theorem dL_isCellSo_470 : decode cL_isCellSo 470 = .ok (.invokevirtual 65, 3) := by decide +kernel
theorem dL_isCellSo_473 : decode cL_isCellSo 473 = .ok (.ifCond .le 7, 3) := by decide +kernel
theorem dL_isCellSo_476 : decode cL_isCellSo 476 = .ok (.iconst 1, 1) := by decide +kernel
theorem dL_isCellSo_477 : decode cL_isCellSo 477 = .ok (.goto 4, 3) := by decide +kernel
theorem dL_isCellSo_480 : decode cL_isCellSo 480 = .ok (.iconst 0, 1) := by decide +kernel
theorem dL_isCellSo_481 : decode cL_isCellSo 481 = .ok (.if_icmp .ne 7, 3) := by decide +kernel
theorem dL_isCellSo_484 : decode cL_isCellSo 484 = .ok (.iconst 1, 1) := by decide +kernel
theorem dL_isCellSo_485 : decode cL_isCellSo 485 = .ok (.goto 4, 3) := by decide +kernel
theorem dL_isCellSo_488 : decode cL_isCellSo 488 = .ok (.iconst 0, 1) := by decide +kernel
theorem dL_isCellSo_489 : decode cL_isCellSo 489 = .ok (.istore 9, 2) := by decide +kernel
theorem dL_isCellSo_491 : decode cL_isCellSo 491 = .ok (.iload 9, 2) := by decide +kernel
theorem dL_isCellSo_493 : decode cL_isCellSo 493 = .ok (.ifCond .eq 29, 3) := by decide +kernel
theorem dL_isCellSo_496 : decode cL_isCellSo 496 = .ok (.iload 8, 2) := by decide +kernel
theorem dL_isCellSo_498 : decode cL_isCellSo 498 = .ok (.ifCond .gt 20, 3) := by decide +kernel
theorem dL_isCellSo_501 : decode cL_isCellSo 501 = .ok (.aload_n 0, 1) := by decide +kernel
theorem dL_isCellSo_502 : decode cL_isCellSo 502 = .ok (.aload_n 0, 1) := by decide +kernel
theorem dL_isCellSo_503 : decode cL_isCellSo 503 = .ok (.iload_n 1, 1) := by decide +kernel
theorem dL_isCellSo_504 : decode cL_isCellSo 504 = .ok (.iconst 2, 1) := by decide +kernel
theorem dL_isCellSo_505 : decode cL_isCellSo 505 = .ok (.invokevirtual 50, 3) := by decide +kernel
theorem dL_isCellSo_508 : decode cL_isCellSo 508 = .ok (.iload_n 1, 1) := by decide +kernel
theorem dL_isCellSo_509 : decode cL_isCellSo 509 = .ok (.iconst 0, 1) := by decide +kernel
theorem dL_isCellSo_510 : decode cL_isCellSo 510 = .ok (.invokevirtual 56, 3) := by decide +kernel
theorem dL_isCellSo_513 : decode cL_isCellSo 513 = .ok (.bipush 64, 2) := by decide +kernel
theorem dL_isCellSo_515 : decode cL_isCellSo 515 = .ok (.if_icmp .ne 7, 3) := by decide +kernel
theorem dL_isCellSo_518 : decode cL_isCellSo 518 = .ok (.iconst 1, 1) := by decide +kernel
theorem dL_isCellSo_519 : decode cL_isCellSo 519 = .ok (.goto 4, 3) := by decide +kernel
theorem dL_isCellSo_522 : decode cL_isCellSo 522 = .ok (.iconst 0, 1) := by decide +kernel
theorem dL_isCellSo_523 : decode cL_isCellSo 523 = .ok (.ireturn, 1) := by decide +kernel
theorem dL_isGatherSo_0 : decode cL_isGatherSo 0 = .ok (.aload_n 0, 1) := by decide +kernel
theorem dL_isGatherSo_1 : decode cL_isGatherSo 1 = .ok (.iload_n 1, 1) := by decide +kernel
theorem dL_isGatherSo_2 : decode cL_isGatherSo 2 = .ok (.iload_n 2, 1) := by decide +kernel
theorem dL_isGatherSo_3 : decode cL_isGatherSo 3 = .ok (.iconst 5, 1) := by decide +kernel
theorem dL_isGatherSo_4 : decode cL_isGatherSo 4 = .ok (.invokevirtual 56, 3) := by decide +kernel
theorem dL_isGatherSo_7 : decode cL_isGatherSo 7 = .ok (.istore_n 3, 1) := by decide +kernel
theorem dL_isGatherSo_8 : decode cL_isGatherSo 8 = .ok (.aload_n 0, 1) := by decide +kernel
theorem dL_isGatherSo_9 : decode cL_isGatherSo 9 = .ok (.iload_n 1, 1) := by decide +kernel
theorem dL_isGatherSo_10 : decode cL_isGatherSo 10 = .ok (.iload_n 2, 1) := by decide +kernel
theorem dL_isGatherSo_11 : decode cL_isGatherSo 11 = .ok (.iconst 0, 1) := by decide +kernel
theorem dL_isGatherSo_12 : decode cL_isGatherSo 12 = .ok (.invokevirtual 56, 3) := by decide +kernel
theorem dL_isGatherSo_15 : decode cL_isGatherSo 15 = .ok (.istore 4, 2) := by decide +kernel
theorem dL_isGatherSo_17 : decode cL_isGatherSo 17 = .ok (.aload_n 0, 1) := by decide +kernel
theorem dL_isGatherSo_18 : decode cL_isGatherSo 18 = .ok (.iload_n 2, 1) := by decide +kernel
theorem dL_isGatherSo_19 : decode cL_isGatherSo 19 = .ok (.iconst 0, 1) := by decide +kernel
theorem dL_isGatherSo_20 : decode cL_isGatherSo 20 = .ok (.invokevirtual 50, 3) := by decide +kernel
theorem dL_isGatherSo_23 : decode cL_isGatherSo 23 = .ok (.istore 5, 2) := by decide +kernel
theorem dL_isGatherSo_25 : decode cL_isGatherSo 25 = .ok (.aload_n 0, 1) := by decide +kernel
theorem dL_isGatherSo_26 : decode cL_isGatherSo 26 = .ok (.iconst 0, 1) := by decide +kernel
theorem dL_isGatherSo_27 : decode cL_isGatherSo 27 = .ok (.invokevirtual 14, 3) := by decide +kernel
theorem dL_isGatherSo_30 : decode cL_isGatherSo 30 = .ok (.istore 6, 2) := by decide +kernel
theorem dL_isGatherSo_32 : decode cL_isGatherSo 32 = .ok (.aload_n 0, 1) := by decide +kernel
theorem dL_isGatherSo_33 : decode cL_isGatherSo 33 = .ok (.iconst 5, 1) := by decide +kernel
theorem dL_isGatherSo_34 : decode cL_isGatherSo 34 = .ok (.invokevirtual 14, 3) := by decide +kernel
theorem dL_isGatherSo_37 : decode cL_isGatherSo 37 = .ok (.istore 7, 2) := by decide +kernel
theorem dL_isGatherSo_39 : decode cL_isGatherSo 39 = .ok (.aload_n 0, 1) := by decide +kernel
theorem dL_isGatherSo_40 : decode cL_isGatherSo 40 = .ok (.iload_n 1, 1) := by decide +kernel
theorem dL_isGatherSo_41 : decode cL_isGatherSo 41 = .ok (.iload_n 2, 1) := by decide +kernel
theorem dL_isGatherSo_42 : decode cL_isGatherSo 42 = .ok (.invokevirtual 31, 3) := by decide +kernel
theorem dL_isGatherSo_45 : decode cL_isGatherSo 45 = .ok (.istore 8, 2) := by decide +kernel
theorem dL_isGatherSo_47 : decode cL_isGatherSo 47 = .ok (.iload 8, 2) := by decide +kernel
theorem dL_isGatherSo_49 : decode cL_isGatherSo 49 = .ok (.bipush (-5), 2) := by decide +kernel
theorem dL_isGatherSo_51 : decode cL_isGatherSo 51 = .ok (.if_icmp .ne 25, 3) := by decide +kernel
theorem dL_isGatherSo_54 : decode cL_isGatherSo 54 = .ok (.iload_n 3, 1) := by decide +kernel
theorem dL_isGatherSo_55 : decode cL_isGatherSo 55 = .ok (.iload 4, 2) := by decide +kernel
theorem dL_isGatherSo_57 : decode cL_isGatherSo 57 = .ok (.if_icmp .ne 17, 3) := by decide +kernel
theorem dL_isGatherSo_60 : decode cL_isGatherSo 60 = .ok (.aload_n 0, 1) := by decide +kernel
theorem dL_isGatherSo_61 : decode cL_isGatherSo 61 = .ok (.iconst 0, 1) := by decide +kernel
theorem dL_isGatherSo_62 : decode cL_isGatherSo 62 = .ok (.invokevirtual 14, 3) := by decide +kernel
theorem dL_isGatherSo_65 : decode cL_isGatherSo 65 = .ok (.iload 6, 2) := by decide +kernel
theorem dL_isGatherSo_67 : decode cL_isGatherSo 67 = .ok (.if_icmp .ne 7, 3) := by decide +kernel
theorem dL_isGatherSo_70 : decode cL_isGatherSo 70 = .ok (.iconst 1, 1) := by decide +kernel
theorem dL_isGatherSo_71 : decode cL_isGatherSo 71 = .ok (.goto 4, 3) := by decide +kernel
theorem dL_isGatherSo_74 : decode cL_isGatherSo 74 = .ok (.iconst 0, 1) := by decide +kernel
theorem dL_isGatherSo_75 : decode cL_isGatherSo 75 = .ok (.ireturn, 1) := by decide +kernel
theorem dL_isGatherSo_76 : decode cL_isGatherSo 76 = .ok (.iload 8, 2) := by decide +kernel
theorem dL_isGatherSo_78 : decode cL_isGatherSo 78 = .ok (.iload_n 3, 1) := by decide +kernel
theorem dL_isGatherSo_79 : decode cL_isGatherSo 79 = .ok (.if_icmp .ne 58, 3) := by decide +kernel
theorem dL_isGatherSo_82 : decode cL_isGatherSo 82 = .ok (.aload_n 0, 1) := by decide +kernel
theorem dL_isGatherSo_83 : decode cL_isGatherSo 83 = .ok (.iload_n 1, 1) := by decide +kernel
theorem dL_isGatherSo_84 : decode cL_isGatherSo 84 = .ok (.iload_n 2, 1) := by decide +kernel
theorem dL_isGatherSo_85 : decode cL_isGatherSo 85 = .ok (.iconst 0, 1) := by decide +kernel
theorem dL_isGatherSo_86 : decode cL_isGatherSo 86 = .ok (.invokevirtual 56, 3) := by decide +kernel
theorem dL_isGatherSo_89 : decode cL_isGatherSo 89 = .ok (.iload_n 3, 1) := by decide +kernel
theorem dL_isGatherSo_90 : decode cL_isGatherSo 90 = .ok (.if_icmp .ne 47, 3) := by decide +kernel
theorem dL_isGatherSo_93 : decode cL_isGatherSo 93 = .ok (.aload_n 0, 1) := by decide +kernel
theorem dL_isGatherSo_94 : decode cL_isGatherSo 94 = .ok (.iload_n 2, 1) := by decide +kernel
theorem dL_isGatherSo_95 : decode cL_isGatherSo 95 = .ok (.iconst 0, 1) := by decide +kernel
theorem dL_isGatherSo_96 : decode cL_isGatherSo 96 = .ok (.invokevirtual 50, 3) := by decide +kernel
theorem dL_isGatherSo_99 : decode cL_isGatherSo 99 = .ok (.iload 5, 2) := by decide +kernel
theorem dL_isGatherSo_101 : decode cL_isGatherSo 101 = .ok (.if_icmp .ne 36, 3) := by decide +kernel
theorem dL_isGatherSo_104 : decode cL_isGatherSo 104 = .ok (.aload_n 0, 1) := by decide +kernel
theorem dL_isGatherSo_105 : decode cL_isGatherSo 105 = .ok (.iconst 5, 1) := by decide +kernel
theorem dL_isGatherSo_106 : decode cL_isGatherSo 106 = .ok (.invokevirtual 14, 3) := by decide +kernel
theorem dL_isGatherSo_109 : decode cL_isGatherSo 109 = .ok (.iload 7, 2) := by decide +kernel
theorem dL_isGatherSo_111 : decode cL_isGatherSo 111 = .ok (.isub, 1) := by decide +kernel
theorem dL_isGatherSo_112 : decode cL_isGatherSo 112 = .ok (.iload 6, 2) := by decide +kernel
theorem dL_isGatherSo_114 : decode cL_isGatherSo 114 = .ok (.aload_n 0, 1) := by decide +kernel
theorem dL_isGatherSo_115 : decode cL_isGatherSo 115 = .ok (.iconst 0, 1) := by decide +kernel
theorem dL_isGatherSo_116 : decode cL_isGatherSo 116 = .ok (.invokevirtual 14, 3) := by decide +kernel
theorem dL_isGatherSo_119 : decode cL_isGatherSo 119 = .ok (.isub, 1) := by decide +kernel
theorem dL_isGatherSo_120 : decode cL_isGatherSo 120 = .ok (.if_icmp .ne 17, 3) := by decide +kernel
theorem dL_isGatherSo_123 : decode cL_isGatherSo 123 = .ok (.aload_n 0, 1) := by decide +kernel
theorem dL_isGatherSo_124 : decode cL_isGatherSo 124 = .ok (.iconst 0, 1) := by decide +kernel
theorem dL_isGatherSo_125 : decode cL_isGatherSo 125 = .ok (.invokevirtual 14, 3) := by decide +kernel
theorem dL_isGatherSo_128 : decode cL_isGatherSo 128 = .ok (.iload 6, 2) := by decide +kernel
theorem dL_isGatherSo_130 : decode cL_isGatherSo 130 = .ok (.if_icmp .ge 7, 3) := by decide +kernel
theorem dL_isGatherSo_133 : decode cL_isGatherSo 133 = .ok (.iconst 1, 1) := by decide +kernel
theorem dL_isGatherSo_134 : decode cL_isGatherSo 134 = .ok (.goto 4, 3) := by decide +kernel
theorem dL_isGatherSo_137 : decode cL_isGatherSo 137 = .ok (.iconst 0, 1) := by decide +kernel
theorem dL_isGatherSo_138 : decode cL_isGatherSo 138 = .ok (.istore 9, 2) := by decide +kernel
theorem dL_isGatherSo_140 : decode cL_isGatherSo 140 = .ok (.aload_n 0, 1) := by decide +kernel
theorem dL_isGatherSo_141 : decode cL_isGatherSo 141 = .ok (.invokevirtual 68, 3) := by decide +kernel
theorem dL_isGatherSo_144 : decode cL_isGatherSo 144 = .ok (.istore 10, 2) := by decide +kernel
theorem dL_isGatherSo_146 : decode cL_isGatherSo 146 = .ok (.iload 9, 2) := by decide +kernel
theorem dL_isGatherSo_148 : decode cL_isGatherSo 148 = .ok (.ifCond .eq 34, 3) := by decide +kernel
theorem dL_isGatherSo_151 : decode cL_isGatherSo 151 = .ok (.iload 10, 2) := by decide +kernel
theorem dL_isGatherSo_153 : decode cL_isGatherSo 153 = .ok (.ifCond .lt 29, 3) := by decide +kernel
theorem dL_isGatherSo_156 : decode cL_isGatherSo 156 = .ok (.aload_n 0, 1) := by decide +kernel
theorem dL_isGatherSo_157 : decode cL_isGatherSo 157 = .ok (.iload_n 1, 1) := by decide +kernel
theorem dL_isGatherSo_158 : decode cL_isGatherSo 158 = .ok (.iload_n 2, 1) := by decide +kernel
theorem dL_isGatherSo_159 : decode cL_isGatherSo 159 = .ok (.iconst 0, 1) := by decide +kernel
theorem dL_isGatherSo_160 : decode cL_isGatherSo 160 = .ok (.invokevirtual 56, 3) := by decide +kernel
theorem dL_isGatherSo_163 : decode cL_isGatherSo 163 = .ok (.iload 4, 2) := by decide +kernel
theorem dL_isGatherSo_165 : decode cL_isGatherSo 165 = .ok (.if_icmp .ne 17, 3) := by decide +kernel
theorem dL_isGatherSo_168 : decode cL_isGatherSo 168 = .ok (.aload_n 0, 1) := by decide +kernel
theorem dL_isGatherSo_169 : decode cL_isGatherSo 169 = .ok (.iconst 0, 1) := by decide +kernel
theorem dL_isGatherSo_170 : decode cL_isGatherSo 170 = .ok (.invokevirtual 14, 3) := by decide +kernel
theorem dL_isGatherSo_173 : decode cL_isGatherSo 173 = .ok (.iload 6, 2) := by decide +kernel
theorem dL_isGatherSo_175 : decode cL_isGatherSo 175 = .ok (.if_icmp .ne 7, 3) := by decide +kernel
theorem dL_isGatherSo_178 : decode cL_isGatherSo 178 = .ok (.iconst 1, 1) := by decide +kernel
theorem dL_isGatherSo_179 : decode cL_isGatherSo 179 = .ok (.goto 4, 3) := by decide +kernel
theorem dL_isGatherSo_182 : decode cL_isGatherSo 182 = .ok (.iconst 0, 1) := by decide +kernel
theorem dL_isGatherSo_183 : decode cL_isGatherSo 183 = .ok (.ireturn, 1) := by decide +kernel
theorem dL_law_0 : decode cL_law 0 = .ok (.new 15, 3) := by decide +kernel
theorem dL_law_3 : decode cL_law 3 = .ok (.dup, 1) := by decide +kernel
theorem dL_law_4 : decode cL_law 4 = .ok (.invokespecial 72, 3) := by decide +kernel
theorem dL_law_7 : decode cL_law 7 = .ok (.astore_n 1, 1) := by decide +kernel
theorem dL_law_8 : decode cL_law 8 = .ok (.iconst 0, 1) := by decide +kernel
theorem dL_law_9 : decode cL_law 9 = .ok (.istore_n 2, 1) := by decide +kernel
theorem dL_law_10 : decode cL_law 10 = .ok (.iload_n 2, 1) := by decide +kernel
theorem dL_law_11 : decode cL_law 11 = .ok (.bipush 48, 2) := by decide +kernel
theorem dL_law_13 : decode cL_law 13 = .ok (.if_icmp .ge 207, 3) := by decide +kernel
theorem dL_law_16 : decode cL_law 16 = .ok (.aload_n 0, 1) := by decide +kernel
theorem dL_law_17 : decode cL_law 17 = .ok (.iload_n 2, 1) := by decide +kernel
theorem dL_law_18 : decode cL_law 18 = .ok (.invokestatic 73, 3) := by decide +kernel
theorem dL_law_21 : decode cL_law 21 = .ok (.istore_n 3, 1) := by decide +kernel
theorem dL_law_22 : decode cL_law 22 = .ok (.iload_n 3, 1) := by decide +kernel
theorem dL_law_23 : decode cL_law 23 = .ok (.bipush 10, 2) := by decide +kernel
theorem dL_law_25 : decode cL_law 25 = .ok (.ishr, 1) := by decide +kernel
theorem dL_law_26 : decode cL_law 26 = .ok (.iconst 2, 1) := by decide +kernel
theorem dL_law_27 : decode cL_law 27 = .ok (.invokestatic 8, 3) := by decide +kernel
theorem dL_law_30 : decode cL_law 30 = .ok (.istore 4, 2) := by decide +kernel
theorem dL_law_32 : decode cL_law 32 = .ok (.aload_n 1, 1) := by decide +kernel
theorem dL_law_33 : decode cL_law 33 = .ok (.iload 4, 2) := by decide +kernel
theorem dL_law_35 : decode cL_law 35 = .ok (.iconst 5, 1) := by decide +kernel
theorem dL_law_36 : decode cL_law 36 = .ok (.invokevirtual 50, 3) := by decide +kernel
theorem dL_law_39 : decode cL_law 39 = .ok (.istore 5, 2) := by decide +kernel
theorem dL_law_41 : decode cL_law 41 = .ok (.aload_n 1, 1) := by decide +kernel
theorem dL_law_42 : decode cL_law 42 = .ok (.iload 4, 2) := by decide +kernel
theorem dL_law_44 : decode cL_law 44 = .ok (.iconst 1, 1) := by decide +kernel
theorem dL_law_45 : decode cL_law 45 = .ok (.invokevirtual 50, 3) := by decide +kernel
theorem dL_law_48 : decode cL_law 48 = .ok (.istore 6, 2) := by decide +kernel
theorem dL_law_50 : decode cL_law 50 = .ok (.aload_n 1, 1) := by decide +kernel
theorem dL_law_51 : decode cL_law 51 = .ok (.iload_n 3, 1) := by decide +kernel
theorem dL_law_52 : decode cL_law 52 = .ok (.invokestatic 76, 3) := by decide +kernel
theorem dL_law_55 : decode cL_law 55 = .ok (.istore 7, 2) := by decide +kernel
theorem dL_law_57 : decode cL_law 57 = .ok (.iload_n 3, 1) := by decide +kernel
theorem dL_law_58 : decode cL_law 58 = .ok (.bipush 15, 2) := by decide +kernel
theorem dL_law_60 : decode cL_law 60 = .ok (.iand, 1) := by decide +kernel
theorem dL_law_61 : decode cL_law 61 = .ok (.bipush 12, 2) := by decide +kernel
theorem dL_law_63 : decode cL_law 63 = .ok (.if_icmp .eq 12, 3) := by decide +kernel
theorem dL_law_66 : decode cL_law 66 = .ok (.iload_n 3, 1) := by decide +kernel
theorem dL_law_67 : decode cL_law 67 = .ok (.bipush 15, 2) := by decide +kernel
theorem dL_law_69 : decode cL_law 69 = .ok (.iand, 1) := by decide +kernel
theorem dL_law_70 : decode cL_law 70 = .ok (.bipush 13, 2) := by decide +kernel
theorem dL_law_72 : decode cL_law 72 = .ok (.if_icmp .ne 19, 3) := by decide +kernel
theorem dL_law_75 : decode cL_law 75 = .ok (.iload 7, 2) := by decide +kernel
theorem dL_law_77 : decode cL_law 77 = .ok (.ifCond .lt 14, 3) := by decide +kernel
theorem dL_law_80 : decode cL_law 80 = .ok (.iload 7, 2) := by decide +kernel
theorem dL_law_82 : decode cL_law 82 = .ok (.bipush 9, 2) := by decide +kernel
theorem dL_law_84 : decode cL_law 84 = .ok (.if_icmp .ge 7, 3) := by decide +kernel
theorem dL_law_87 : decode cL_law 87 = .ok (.iconst 1, 1) := by decide +kernel
theorem dL_law_88 : decode cL_law 88 = .ok (.goto 4, 3) := by decide +kernel
theorem dL_law_91 : decode cL_law 91 = .ok (.iconst 0, 1) := by decide +kernel
theorem dL_law_92 : decode cL_law 92 = .ok (.istore 8, 2) := by decide +kernel
theorem dL_law_94 : decode cL_law 94 = .ok (.iload_n 3, 1) := by decide +kernel
theorem dL_law_95 : decode cL_law 95 = .ok (.bipush 15, 2) := by decide +kernel
theorem dL_law_97 : decode cL_law 97 = .ok (.iand, 1) := by decide +kernel
theorem dL_law_98 : decode cL_law 98 = .ok (.bipush 9, 2) := by decide +kernel
theorem dL_law_100 : decode cL_law 100 = .ok (.if_icmp .ne 12, 3) := by decide +kernel
theorem dL_law_103 : decode cL_law 103 = .ok (.iload 7, 2) := by decide +kernel
theorem dL_law_105 : decode cL_law 105 = .ok (.ifCond .lt 7, 3) := by decide +kernel
theorem dL_law_108 : decode cL_law 108 = .ok (.iconst 1, 1) := by decide +kernel
theorem dL_law_109 : decode cL_law 109 = .ok (.goto 4, 3) := by decide +kernel
theorem dL_law_112 : decode cL_law 112 = .ok (.iconst 0, 1) := by decide +kernel
theorem dL_law_113 : decode cL_law 113 = .ok (.istore 9, 2) := by decide +kernel
theorem dL_law_115 : decode cL_law 115 = .ok (.iload 7, 2) := by decide +kernel
theorem dL_law_117 : decode cL_law 117 = .ok (.bipush (-5), 2) := by decide +kernel
theorem dL_law_119 : decode cL_law 119 = .ok (.if_icmp .lt 52, 3) := by decide +kernel
theorem dL_law_122 : decode cL_law 122 = .ok (.iload 8, 2) := by decide +kernel
theorem dL_law_124 : decode cL_law 124 = .ok (.ifCond .eq 24, 3) := by decide +kernel
theorem dL_law_127 : decode cL_law 127 = .ok (.iload 7, 2) := by decide +kernel
theorem dL_law_129 : decode cL_law 129 = .ok (.iload 5, 2) := by decide +kernel
theorem dL_law_131 : decode cL_law 131 = .ok (.if_icmp .ne 40, 3) := by decide +kernel
theorem dL_law_134 : decode cL_law 134 = .ok (.aload_n 1, 1) := by decide +kernel
theorem dL_law_135 : decode cL_law 135 = .ok (.iload 7, 2) := by decide +kernel
theorem dL_law_137 : decode cL_law 137 = .ok (.iload 4, 2) := by decide +kernel
theorem dL_law_139 : decode cL_law 139 = .ok (.iconst 0, 1) := by decide +kernel
theorem dL_law_140 : decode cL_law 140 = .ok (.invokevirtual 56, 3) := by decide +kernel
theorem dL_law_143 : decode cL_law 143 = .ok (.bipush 64, 2) := by decide +kernel
theorem dL_law_145 : decode cL_law 145 = .ok (.if_icmp .ne 26, 3) := by decide +kernel
theorem dL_law_148 : decode cL_law 148 = .ok (.aload_n 1, 1) := by decide +kernel
theorem dL_law_149 : decode cL_law 149 = .ok (.iload 4, 2) := by decide +kernel
theorem dL_law_151 : decode cL_law 151 = .ok (.iconst 1, 1) := by decide +kernel
theorem dL_law_152 : decode cL_law 152 = .ok (.invokevirtual 50, 3) := by decide +kernel
theorem dL_law_155 : decode cL_law 155 = .ok (.iload 6, 2) := by decide +kernel
theorem dL_law_157 : decode cL_law 157 = .ok (.iload 9, 2) := by decide +kernel
theorem dL_law_159 : decode cL_law 159 = .ok (.ifCond .eq 7, 3) := by decide +kernel
theorem dL_law_162 : decode cL_law 162 = .ok (.iconst 1, 1) := by decide +kernel
theorem dL_law_163 : decode cL_law 163 = .ok (.goto 4, 3) := by decide +kernel
theorem dL_law_166 : decode cL_law 166 = .ok (.iconst 0, 1) := by decide +kernel
theorem dL_law_167 : decode cL_law 167 = .ok (.iadd, 1) := by decide +kernel
theorem dL_law_168 : decode cL_law 168 = .ok (.if_icmp .eq 5, 3) := by decide +kernel
theorem dL_law_171 : decode cL_law 171 = .ok (.iconst 0, 1) := by decide +kernel
theorem dL_law_172 : decode cL_law 172 = .ok (.ireturn, 1) := by decide +kernel
theorem dL_law_173 : decode cL_law 173 = .ok (.aload_n 1, 1) := by decide +kernel
theorem dL_law_174 : decode cL_law 174 = .ok (.iload 4, 2) := by decide +kernel
theorem dL_law_176 : decode cL_law 176 = .ok (.invokestatic 80, 3) := by decide +kernel
theorem dL_law_179 : decode cL_law 179 = .ok (.ifCond .eq 33, 3) := by decide +kernel
theorem dL_law_182 : decode cL_law 182 = .ok (.iload_n 2, 1) := by decide +kernel
theorem dL_law_183 : decode cL_law 183 = .ok (.iconst 3, 1) := by decide +kernel
theorem dL_law_184 : decode cL_law 184 = .ok (.irem, 1) := by decide +kernel
theorem dL_law_185 : decode cL_law 185 = .ok (.iconst 1, 1) := by decide +kernel
theorem dL_law_186 : decode cL_law 186 = .ok (.if_icmp .ne 28, 3) := by decide +kernel
theorem dL_law_189 : decode cL_law 189 = .ok (.aload_n 1, 1) := by decide +kernel
theorem dL_law_190 : decode cL_law 190 = .ok (.iload_n 3, 1) := by decide +kernel
theorem dL_law_191 : decode cL_law 191 = .ok (.iconst 5, 1) := by decide +kernel
theorem dL_law_192 : decode cL_law 192 = .ok (.ishr, 1) := by decide +kernel
theorem dL_law_193 : decode cL_law 193 = .ok (.bipush 6, 2) := by decide +kernel
theorem dL_law_195 : decode cL_law 195 = .ok (.invokestatic 8, 3) := by decide +kernel
theorem dL_law_198 : decode cL_law 198 = .ok (.iload_n 3, 1) := by decide +kernel
theorem dL_law_199 : decode cL_law 199 = .ok (.bipush 8, 2) := by decide +kernel
theorem dL_law_201 : decode cL_law 201 = .ok (.ishr, 1) := by decide +kernel
theorem dL_law_202 : decode cL_law 202 = .ok (.iconst 2, 1) := by decide +kernel
theorem dL_law_203 : decode cL_law 203 = .ok (.invokestatic 8, 3) := by decide +kernel
theorem dL_law_206 : decode cL_law 206 = .ok (.invokestatic 84, 3) := by decide +kernel
theorem dL_law_209 : decode cL_law 209 = .ok (.ifCond .ne 5, 3) := by decide +kernel
theorem dL_law_212 : decode cL_law 212 = .ok (.iconst 0, 1) := by decide +kernel
theorem dL_law_213 : decode cL_law 213 = .ok (.ireturn, 1) := by decide +kernel
theorem dL_law_214 : decode cL_law 214 = .ok (.iinc 2 1, 3) := by decide +kernel
theorem dL_law_217 : decode cL_law 217 = .ok (.goto (-207), 3) := by decide +kernel
theorem dL_law_220 : decode cL_law 220 = .ok (.iconst 1, 1) := by decide +kernel
theorem dL_law_221 : decode cL_law 221 = .ok (.ireturn, 1) := by decide +kernel
