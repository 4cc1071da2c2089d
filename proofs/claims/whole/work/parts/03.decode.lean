theorem dX0_init_0 : decode cX0_init 0 = .ok (.aload_n 0, 1) := by decide +kernel
theorem dX0_init_1 : decode cX0_init 1 = .ok (.invokespecial 3, 3) := by decide +kernel
theorem dX0_init_4 : decode cX0_init 4 = .ok (.aload_n 0, 1) := by decide +kernel
theorem dX0_init_5 : decode cX0_init 5 = .ok (.bipush 36, 2) := by decide +kernel
theorem dX0_init_7 : decode cX0_init 7 = .ok (.newarray .int, 2) := by decide +kernel
theorem dX0_init_9 : decode cX0_init 9 = .ok (.putfield 9, 3) := by decide +kernel
theorem dX0_init_12 : decode cX0_init 12 = .ok (.aload_n 0, 1) := by decide +kernel
theorem dX0_init_13 : decode cX0_init 13 = .ok (.bipush 6, 2) := by decide +kernel
theorem dX0_init_15 : decode cX0_init 15 = .ok (.newarray .int, 2) := by decide +kernel
theorem dX0_init_17 : decode cX0_init 17 = .ok (.putfield 15, 3) := by decide +kernel
theorem dX0_init_20 : decode cX0_init 20 = .ok (.return_, 1) := by decide +kernel
theorem dX0_copyFrom_0 : decode cX0_copyFrom 0 = .ok (.aload_n 1, 1) := by decide +kernel
theorem dX0_copyFrom_1 : decode cX0_copyFrom 1 = .ok (.getfield 9, 3) := by decide +kernel
theorem dX0_copyFrom_4 : decode cX0_copyFrom 4 = .ok (.iconst 0, 1) := by decide +kernel
theorem dX0_copyFrom_5 : decode cX0_copyFrom 5 = .ok (.aload_n 0, 1) := by decide +kernel
theorem dX0_copyFrom_6 : decode cX0_copyFrom 6 = .ok (.getfield 9, 3) := by decide +kernel
theorem dX0_copyFrom_9 : decode cX0_copyFrom 9 = .ok (.iconst 0, 1) := by decide +kernel
theorem dX0_copyFrom_10 : decode cX0_copyFrom 10 = .ok (.bipush 36, 2) := by decide +kernel
theorem dX0_copyFrom_12 : decode cX0_copyFrom 12 = .ok (.invokestatic 18, 3) := by decide +kernel
theorem dX0_copyFrom_15 : decode cX0_copyFrom 15 = .ok (.aload_n 1, 1) := by decide +kernel
theorem dX0_copyFrom_16 : decode cX0_copyFrom 16 = .ok (.getfield 15, 3) := by decide +kernel
theorem dX0_copyFrom_19 : decode cX0_copyFrom 19 = .ok (.iconst 0, 1) := by decide +kernel
theorem dX0_copyFrom_20 : decode cX0_copyFrom 20 = .ok (.aload_n 0, 1) := by decide +kernel
theorem dX0_copyFrom_21 : decode cX0_copyFrom 21 = .ok (.getfield 15, 3) := by decide +kernel
theorem dX0_copyFrom_24 : decode cX0_copyFrom 24 = .ok (.iconst 0, 1) := by decide +kernel
theorem dX0_copyFrom_25 : decode cX0_copyFrom 25 = .ok (.bipush 6, 2) := by decide +kernel
theorem dX0_copyFrom_27 : decode cX0_copyFrom 27 = .ok (.invokestatic 18, 3) := by decide +kernel
theorem dX0_copyFrom_30 : decode cX0_copyFrom 30 = .ok (.return_, 1) := by decide +kernel
theorem dX0_size_0 : decode cX0_size 0 = .ok (.aload_n 0, 1) := by decide +kernel
theorem dX0_size_1 : decode cX0_size 1 = .ok (.getfield 15, 3) := by decide +kernel
theorem dX0_size_4 : decode cX0_size 4 = .ok (.iload_n 1, 1) := by decide +kernel
theorem dX0_size_5 : decode cX0_size 5 = .ok (.iaload, 1) := by decide +kernel
theorem dX0_size_6 : decode cX0_size 6 = .ok (.ireturn, 1) := by decide +kernel
theorem dX0_sizeOfAll_0 : decode cX0_sizeOfAll 0 = .ok (.iconst 0, 1) := by decide +kernel
theorem dX0_sizeOfAll_1 : decode cX0_sizeOfAll 1 = .ok (.istore_n 1, 1) := by decide +kernel
theorem dX0_sizeOfAll_2 : decode cX0_sizeOfAll 2 = .ok (.iconst 0, 1) := by decide +kernel
theorem dX0_sizeOfAll_3 : decode cX0_sizeOfAll 3 = .ok (.istore_n 2, 1) := by decide +kernel
theorem dX0_sizeOfAll_4 : decode cX0_sizeOfAll 4 = .ok (.iload_n 2, 1) := by decide +kernel
theorem dX0_sizeOfAll_5 : decode cX0_sizeOfAll 5 = .ok (.bipush 6, 2) := by decide +kernel
theorem dX0_sizeOfAll_7 : decode cX0_sizeOfAll 7 = .ok (.if_icmp .ge 18, 3) := by decide +kernel
theorem dX0_sizeOfAll_10 : decode cX0_sizeOfAll 10 = .ok (.iload_n 1, 1) := by decide +kernel
theorem dX0_sizeOfAll_11 : decode cX0_sizeOfAll 11 = .ok (.aload_n 0, 1) := by decide +kernel
theorem dX0_sizeOfAll_12 : decode cX0_sizeOfAll 12 = .ok (.getfield 15, 3) := by decide +kernel
theorem dX0_sizeOfAll_15 : decode cX0_sizeOfAll 15 = .ok (.iload_n 2, 1) := by decide +kernel
theorem dX0_sizeOfAll_16 : decode cX0_sizeOfAll 16 = .ok (.iaload, 1) := by decide +kernel
theorem dX0_sizeOfAll_17 : decode cX0_sizeOfAll 17 = .ok (.iadd, 1) := by decide +kernel
theorem dX0_sizeOfAll_18 : decode cX0_sizeOfAll 18 = .ok (.istore_n 1, 1) := by decide +kernel
theorem dX0_sizeOfAll_19 : decode cX0_sizeOfAll 19 = .ok (.iinc 2 1, 3) := by decide +kernel
theorem dX0_sizeOfAll_22 : decode cX0_sizeOfAll 22 = .ok (.goto (-18), 3) := by decide +kernel
theorem dX0_sizeOfAll_25 : decode cX0_sizeOfAll 25 = .ok (.iload_n 1, 1) := by decide +kernel
theorem dX0_sizeOfAll_26 : decode cX0_sizeOfAll 26 = .ok (.ireturn, 1) := by decide +kernel
theorem dX0_first_0 : decode cX0_first 0 = .ok (.aload_n 0, 1) := by decide +kernel
theorem dX0_first_1 : decode cX0_first 1 = .ok (.getfield 15, 3) := by decide +kernel
theorem dX0_first_4 : decode cX0_first 4 = .ok (.iload_n 1, 1) := by decide +kernel
theorem dX0_first_5 : decode cX0_first 5 = .ok (.iaload, 1) := by decide +kernel
theorem dX0_first_6 : decode cX0_first 6 = .ok (.ifCond .ne 8, 3) := by decide +kernel
theorem dX0_first_9 : decode cX0_first 9 = .ok (.bipush (-5), 2) := by decide +kernel
theorem dX0_first_11 : decode cX0_first 11 = .ok (.goto 12, 3) := by decide +kernel
theorem dX0_first_14 : decode cX0_first 14 = .ok (.aload_n 0, 1) := by decide +kernel
theorem dX0_first_15 : decode cX0_first 15 = .ok (.getfield 9, 3) := by decide +kernel
theorem dX0_first_18 : decode cX0_first 18 = .ok (.iload_n 1, 1) := by decide +kernel
theorem dX0_first_19 : decode cX0_first 19 = .ok (.bipush 6, 2) := by decide +kernel
theorem dX0_first_21 : decode cX0_first 21 = .ok (.imul, 1) := by decide +kernel
theorem dX0_first_22 : decode cX0_first 22 = .ok (.iaload, 1) := by decide +kernel
theorem dX0_first_23 : decode cX0_first 23 = .ok (.ireturn, 1) := by decide +kernel
theorem dX0_placeOf_0 : decode cX0_placeOf 0 = .ok (.iconst 0, 1) := by decide +kernel
theorem dX0_placeOf_1 : decode cX0_placeOf 1 = .ok (.istore_n 3, 1) := by decide +kernel
theorem dX0_placeOf_2 : decode cX0_placeOf 2 = .ok (.iload_n 3, 1) := by decide +kernel
theorem dX0_placeOf_3 : decode cX0_placeOf 3 = .ok (.aload_n 0, 1) := by decide +kernel
theorem dX0_placeOf_4 : decode cX0_placeOf 4 = .ok (.getfield 15, 3) := by decide +kernel
theorem dX0_placeOf_7 : decode cX0_placeOf 7 = .ok (.iload_n 2, 1) := by decide +kernel
theorem dX0_placeOf_8 : decode cX0_placeOf 8 = .ok (.iaload, 1) := by decide +kernel
theorem dX0_placeOf_9 : decode cX0_placeOf 9 = .ok (.if_icmp .ge 26, 3) := by decide +kernel
theorem dX0_placeOf_12 : decode cX0_placeOf 12 = .ok (.aload_n 0, 1) := by decide +kernel
theorem dX0_placeOf_13 : decode cX0_placeOf 13 = .ok (.getfield 9, 3) := by decide +kernel
theorem dX0_placeOf_16 : decode cX0_placeOf 16 = .ok (.iload_n 2, 1) := by decide +kernel
theorem dX0_placeOf_17 : decode cX0_placeOf 17 = .ok (.bipush 6, 2) := by decide +kernel
theorem dX0_placeOf_19 : decode cX0_placeOf 19 = .ok (.imul, 1) := by decide +kernel
theorem dX0_placeOf_20 : decode cX0_placeOf 20 = .ok (.iload_n 3, 1) := by decide +kernel
theorem dX0_placeOf_21 : decode cX0_placeOf 21 = .ok (.iadd, 1) := by decide +kernel
theorem dX0_placeOf_22 : decode cX0_placeOf 22 = .ok (.iaload, 1) := by decide +kernel
theorem dX0_placeOf_23 : decode cX0_placeOf 23 = .ok (.iload_n 1, 1) := by decide +kernel
theorem dX0_placeOf_24 : decode cX0_placeOf 24 = .ok (.if_icmp .ne 5, 3) := by decide +kernel
theorem dX0_placeOf_27 : decode cX0_placeOf 27 = .ok (.iload_n 3, 1) := by decide +kernel
theorem dX0_placeOf_28 : decode cX0_placeOf 28 = .ok (.ireturn, 1) := by decide +kernel
theorem dX0_placeOf_29 : decode cX0_placeOf 29 = .ok (.iinc 3 1, 3) := by decide +kernel
theorem dX0_placeOf_32 : decode cX0_placeOf 32 = .ok (.goto (-30), 3) := by decide +kernel
theorem dX0_placeOf_35 : decode cX0_placeOf 35 = .ok (.bipush (-5), 2) := by decide +kernel
theorem dX0_placeOf_37 : decode cX0_placeOf 37 = .ok (.ireturn, 1) := by decide +kernel
theorem dX0_append_0 : decode cX0_append 0 = .ok (.aload_n 0, 1) := by decide +kernel
theorem dX0_append_1 : decode cX0_append 1 = .ok (.getfield 9, 3) := by decide +kernel
theorem dX0_append_4 : decode cX0_append 4 = .ok (.iload_n 2, 1) := by decide +kernel
theorem dX0_append_5 : decode cX0_append 5 = .ok (.bipush 6, 2) := by decide +kernel
theorem dX0_append_7 : decode cX0_append 7 = .ok (.imul, 1) := by decide +kernel
theorem dX0_append_8 : decode cX0_append 8 = .ok (.aload_n 0, 1) := by decide +kernel
theorem dX0_append_9 : decode cX0_append 9 = .ok (.getfield 15, 3) := by decide +kernel
theorem dX0_append_12 : decode cX0_append 12 = .ok (.iload_n 2, 1) := by decide +kernel
theorem dX0_append_13 : decode cX0_append 13 = .ok (.iaload, 1) := by decide +kernel
theorem dX0_append_14 : decode cX0_append 14 = .ok (.iadd, 1) := by decide +kernel
theorem dX0_append_15 : decode cX0_append 15 = .ok (.iload_n 1, 1) := by decide +kernel
theorem dX0_append_16 : decode cX0_append 16 = .ok (.iastore, 1) := by decide +kernel
theorem dX0_append_17 : decode cX0_append 17 = .ok (.aload_n 0, 1) := by decide +kernel
theorem dX0_append_18 : decode cX0_append 18 = .ok (.getfield 15, 3) := by decide +kernel
theorem dX0_append_21 : decode cX0_append 21 = .ok (.iload_n 2, 1) := by decide +kernel
theorem dX0_append_22 : decode cX0_append 22 = .ok (.dup2, 1) := by decide +kernel
theorem dX0_append_23 : decode cX0_append 23 = .ok (.iaload, 1) := by decide +kernel
theorem dX0_append_24 : decode cX0_append 24 = .ok (.iconst 1, 1) := by decide +kernel
theorem dX0_append_25 : decode cX0_append 25 = .ok (.iadd, 1) := by decide +kernel
theorem dX0_append_26 : decode cX0_append 26 = .ok (.iastore, 1) := by decide +kernel
theorem dX0_append_27 : decode cX0_append 27 = .ok (.return_, 1) := by decide +kernel
theorem dX0_remove_0 : decode cX0_remove 0 = .ok (.iload_n 1, 1) := by decide +kernel
theorem dX0_remove_1 : decode cX0_remove 1 = .ok (.bipush 6, 2) := by decide +kernel
theorem dX0_remove_3 : decode cX0_remove 3 = .ok (.imul, 1) := by decide +kernel
theorem dX0_remove_4 : decode cX0_remove 4 = .ok (.istore_n 3, 1) := by decide +kernel
theorem dX0_remove_5 : decode cX0_remove 5 = .ok (.aload_n 0, 1) := by decide +kernel
theorem dX0_remove_6 : decode cX0_remove 6 = .ok (.getfield 15, 3) := by decide +kernel
theorem dX0_remove_9 : decode cX0_remove 9 = .ok (.iload_n 1, 1) := by decide +kernel
theorem dX0_remove_10 : decode cX0_remove 10 = .ok (.dup2, 1) := by decide +kernel
theorem dX0_remove_11 : decode cX0_remove 11 = .ok (.iaload, 1) := by decide +kernel
theorem dX0_remove_12 : decode cX0_remove 12 = .ok (.iconst 1, 1) := by decide +kernel
theorem dX0_remove_13 : decode cX0_remove 13 = .ok (.isub, 1) := by decide +kernel
theorem dX0_remove_14 : decode cX0_remove 14 = .ok (.iastore, 1) := by decide +kernel
theorem dX0_remove_15 : decode cX0_remove 15 = .ok (.iload_n 2, 1) := by decide +kernel
theorem dX0_remove_16 : decode cX0_remove 16 = .ok (.istore 4, 2) := by decide +kernel
theorem dX0_remove_18 : decode cX0_remove 18 = .ok (.iload 4, 2) := by decide +kernel
theorem dX0_remove_20 : decode cX0_remove 20 = .ok (.aload_n 0, 1) := by decide +kernel
theorem dX0_remove_21 : decode cX0_remove 21 = .ok (.getfield 15, 3) := by decide +kernel
theorem dX0_remove_24 : decode cX0_remove 24 = .ok (.iload_n 1, 1) := by decide +kernel
theorem dX0_remove_25 : decode cX0_remove 25 = .ok (.iaload, 1) := by decide +kernel
theorem dX0_remove_26 : decode cX0_remove 26 = .ok (.if_icmp .ge 29, 3) := by decide +kernel
theorem dX0_remove_29 : decode cX0_remove 29 = .ok (.aload_n 0, 1) := by decide +kernel
theorem dX0_remove_30 : decode cX0_remove 30 = .ok (.getfield 9, 3) := by decide +kernel
theorem dX0_remove_33 : decode cX0_remove 33 = .ok (.iload_n 3, 1) := by decide +kernel
theorem dX0_remove_34 : decode cX0_remove 34 = .ok (.iload 4, 2) := by decide +kernel
theorem dX0_remove_36 : decode cX0_remove 36 = .ok (.iadd, 1) := by decide +kernel
theorem dX0_remove_37 : decode cX0_remove 37 = .ok (.aload_n 0, 1) := by decide +kernel
theorem dX0_remove_38 : decode cX0_remove 38 = .ok (.getfield 9, 3) := by decide +kernel
theorem dX0_remove_41 : decode cX0_remove 41 = .ok (.iload_n 3, 1) := by decide +kernel
theorem dX0_remove_42 : decode cX0_remove 42 = .ok (.iload 4, 2) := by decide +kernel
theorem dX0_remove_44 : decode cX0_remove 44 = .ok (.iadd, 1) := by decide +kernel
theorem dX0_remove_45 : decode cX0_remove 45 = .ok (.iconst 1, 1) := by decide +kernel
theorem dX0_remove_46 : decode cX0_remove 46 = .ok (.iadd, 1) := by decide +kernel
theorem dX0_remove_47 : decode cX0_remove 47 = .ok (.iaload, 1) := by decide +kernel
theorem dX0_remove_48 : decode cX0_remove 48 = .ok (.iastore, 1) := by decide +kernel
theorem dX0_remove_49 : decode cX0_remove 49 = .ok (.iinc 4 1, 3) := by decide +kernel
theorem dX0_remove_52 : decode cX0_remove 52 = .ok (.goto (-34), 3) := by decide +kernel
theorem dX0_remove_55 : decode cX0_remove 55 = .ok (.return_, 1) := by decide +kernel
theorem dX1_init_0 : decode cX1_init 0 = .ok (.aload_n 0, 1) := by decide +kernel
theorem dX1_init_1 : decode cX1_init 1 = .ok (.invokespecial 3, 3) := by decide +kernel
theorem dX1_init_4 : decode cX1_init 4 = .ok (.aload_n 0, 1) := by decide +kernel
theorem dX1_init_5 : decode cX1_init 5 = .ok (.sipush 384, 3) := by decide +kernel
theorem dX1_init_8 : decode cX1_init 8 = .ok (.newarray .int, 2) := by decide +kernel
theorem dX1_init_10 : decode cX1_init 10 = .ok (.putfield 9, 3) := by decide +kernel
theorem dX1_init_13 : decode cX1_init 13 = .ok (.return_, 1) := by decide +kernel
theorem dX1_run_0 : decode cX1_run 0 = .ok (.aload_n 0, 1) := by decide +kernel
theorem dX1_run_1 : decode cX1_run 1 = .ok (.getfield 9, 3) := by decide +kernel
theorem dX1_run_4 : decode cX1_run 4 = .ok (.iconst (-1), 1) := by decide +kernel
theorem dX1_run_5 : decode cX1_run 5 = .ok (.invokestatic 15, 3) := by decide +kernel
theorem dX1_run_8 : decode cX1_run 8 = .ok (.aload_n 1, 1) := by decide +kernel
theorem dX1_run_9 : decode cX1_run 9 = .ok (.getfield 21, 3) := by decide +kernel
theorem dX1_run_12 : decode cX1_run 12 = .ok (.getfield 27, 3) := by decide +kernel
theorem dX1_run_15 : decode cX1_run 15 = .ok (.istore 4, 2) := by decide +kernel
theorem dX1_run_17 : decode cX1_run 17 = .ok (.aload_n 1, 1) := by decide +kernel
theorem dX1_run_18 : decode cX1_run 18 = .ok (.aload_n 0, 1) := by decide +kernel
theorem dX1_run_19 : decode cX1_run 19 = .ok (.getfield 9, 3) := by decide +kernel
theorem dX1_run_22 : decode cX1_run 22 = .ok (.iload_n 2, 1) := by decide +kernel
theorem dX1_run_23 : decode cX1_run 23 = .ok (.iload_n 3, 1) := by decide +kernel
theorem dX1_run_24 : decode cX1_run 24 = .ok (.iconst 0, 1) := by decide +kernel
theorem dX1_run_25 : decode cX1_run 25 = .ok (.iconst 0, 1) := by decide +kernel
theorem dX1_run_26 : decode cX1_run 26 = .ok (.invokestatic 33, 3) := by decide +kernel
theorem dX1_run_29 : decode cX1_run 29 = .ok (.aload_n 1, 1) := by decide +kernel
theorem dX1_run_30 : decode cX1_run 30 = .ok (.getfield 21, 3) := by decide +kernel
theorem dX1_run_33 : decode cX1_run 33 = .ok (.getfield 27, 3) := by decide +kernel
theorem dX1_run_36 : decode cX1_run 36 = .ok (.iload 4, 2) := by decide +kernel
theorem dX1_run_38 : decode cX1_run 38 = .ok (.isub, 1) := by decide +kernel
theorem dX1_run_39 : decode cX1_run 39 = .ok (.ireturn, 1) := by decide +kernel
theorem dX1_gatherFor_0 : decode cX1_gatherFor 0 = .ok (.aload_n 0, 1) := by decide +kernel
theorem dX1_gatherFor_1 : decode cX1_gatherFor 1 = .ok (.getfield 21, 3) := by decide +kernel
theorem dX1_gatherFor_4 : decode cX1_gatherFor 4 = .ok (.astore 6, 2) := by decide +kernel
theorem dX1_gatherFor_6 : decode cX1_gatherFor 6 = .ok (.aload 6, 2) := by decide +kernel
theorem dX1_gatherFor_8 : decode cX1_gatherFor 8 = .ok (.getfield 27, 3) := by decide +kernel
theorem dX1_gatherFor_11 : decode cX1_gatherFor 11 = .ok (.istore 7, 2) := by decide +kernel
theorem dX1_gatherFor_13 : decode cX1_gatherFor 13 = .ok (.iload 4, 2) := by decide +kernel
theorem dX1_gatherFor_15 : decode cX1_gatherFor 15 = .ok (.bipush 6, 2) := by decide +kernel
theorem dX1_gatherFor_17 : decode cX1_gatherFor 17 = .ok (.imul, 1) := by decide +kernel
theorem dX1_gatherFor_18 : decode cX1_gatherFor 18 = .ok (.iload_n 2, 1) := by decide +kernel
theorem dX1_gatherFor_19 : decode cX1_gatherFor 19 = .ok (.iadd, 1) := by decide +kernel
theorem dX1_gatherFor_20 : decode cX1_gatherFor 20 = .ok (.istore 8, 2) := by decide +kernel
theorem dX1_gatherFor_22 : decode cX1_gatherFor 22 = .ok (.iload 4, 2) := by decide +kernel
theorem dX1_gatherFor_24 : decode cX1_gatherFor 24 = .ok (.iconst 1, 1) := by decide +kernel
theorem dX1_gatherFor_25 : decode cX1_gatherFor 25 = .ok (.iload_n 2, 1) := by decide +kernel
theorem dX1_gatherFor_26 : decode cX1_gatherFor 26 = .ok (.ishl, 1) := by decide +kernel
theorem dX1_gatherFor_27 : decode cX1_gatherFor 27 = .ok (.ior, 1) := by decide +kernel
theorem dX1_gatherFor_28 : decode cX1_gatherFor 28 = .ok (.istore 9, 2) := by decide +kernel
theorem dX1_gatherFor_30 : decode cX1_gatherFor 30 = .ok (.iload 5, 2) := by decide +kernel
theorem dX1_gatherFor_32 : decode cX1_gatherFor 32 = .ok (.bipush 6, 2) := by decide +kernel
theorem dX1_gatherFor_34 : decode cX1_gatherFor 34 = .ok (.if_icmp .ge 12, 3) := by decide +kernel
theorem dX1_gatherFor_37 : decode cX1_gatherFor 37 = .ok (.aload_n 1, 1) := by decide +kernel
theorem dX1_gatherFor_38 : decode cX1_gatherFor 38 = .ok (.iload 8, 2) := by decide +kernel
theorem dX1_gatherFor_40 : decode cX1_gatherFor 40 = .ok (.iaload, 1) := by decide +kernel
theorem dX1_gatherFor_41 : decode cX1_gatherFor 41 = .ok (.iload 7, 2) := by decide +kernel
theorem dX1_gatherFor_43 : decode cX1_gatherFor 43 = .ok (.if_icmp .ne 4, 3) := by decide +kernel
theorem dX1_gatherFor_46 : decode cX1_gatherFor 46 = .ok (.return_, 1) := by decide +kernel
theorem dX1_gatherFor_47 : decode cX1_gatherFor 47 = .ok (.aload 6, 2) := by decide +kernel
theorem dX1_gatherFor_49 : decode cX1_gatherFor 49 = .ok (.sipush 1000, 3) := by decide +kernel
theorem dX1_gatherFor_52 : decode cX1_gatherFor 52 = .ok (.iload_n 2, 1) := by decide +kernel
theorem dX1_gatherFor_53 : decode cX1_gatherFor 53 = .ok (.iload_n 3, 1) := by decide +kernel
theorem dX1_gatherFor_54 : decode cX1_gatherFor 54 = .ok (.invokevirtual 37, 3) := by decide +kernel
theorem dX1_gatherFor_57 : decode cX1_gatherFor 57 = .ok (.istore 10, 2) := by decide +kernel
theorem dX1_gatherFor_59 : decode cX1_gatherFor 59 = .ok (.iconst 0, 1) := by decide +kernel
theorem dX1_gatherFor_60 : decode cX1_gatherFor 60 = .ok (.istore 11, 2) := by decide +kernel
theorem dX1_gatherFor_62 : decode cX1_gatherFor 62 = .ok (.iload 11, 2) := by decide +kernel
theorem dX1_gatherFor_64 : decode cX1_gatherFor 64 = .ok (.bipush 40, 2) := by decide +kernel
theorem dX1_gatherFor_66 : decode cX1_gatherFor 66 = .ok (.if_icmp .ge 61, 3) := by decide +kernel
theorem dX1_gatherFor_69 : decode cX1_gatherFor 69 = .ok (.iload 10, 2) := by decide +kernel
theorem dX1_gatherFor_71 : decode cX1_gatherFor 71 = .ok (.ifCond .lt 56, 3) := by decide +kernel
theorem dX1_gatherFor_74 : decode cX1_gatherFor 74 = .ok (.aload_n 0, 1) := by decide +kernel
theorem dX1_gatherFor_75 : decode cX1_gatherFor 75 = .ok (.iload 10, 2) := by decide +kernel
theorem dX1_gatherFor_77 : decode cX1_gatherFor 77 = .ok (.iload 9, 2) := by decide +kernel
theorem dX1_gatherFor_79 : decode cX1_gatherFor 79 = .ok (.invokestatic 41, 3) := by decide +kernel
theorem dX1_gatherFor_82 : decode cX1_gatherFor 82 = .ok (.istore 12, 2) := by decide +kernel
theorem dX1_gatherFor_84 : decode cX1_gatherFor 84 = .ok (.iload 12, 2) := by decide +kernel
theorem dX1_gatherFor_86 : decode cX1_gatherFor 86 = .ok (.ifCond .lt 17, 3) := by decide +kernel
theorem dX1_gatherFor_89 : decode cX1_gatherFor 89 = .ok (.aload_n 0, 1) := by decide +kernel
theorem dX1_gatherFor_90 : decode cX1_gatherFor 90 = .ok (.aload_n 1, 1) := by decide +kernel
theorem dX1_gatherFor_91 : decode cX1_gatherFor 91 = .ok (.iload 12, 2) := by decide +kernel
theorem dX1_gatherFor_93 : decode cX1_gatherFor 93 = .ok (.iload_n 3, 1) := by decide +kernel
theorem dX1_gatherFor_94 : decode cX1_gatherFor 94 = .ok (.iload 9, 2) := by decide +kernel
theorem dX1_gatherFor_96 : decode cX1_gatherFor 96 = .ok (.iload 5, 2) := by decide +kernel
theorem dX1_gatherFor_98 : decode cX1_gatherFor 98 = .ok (.iconst 1, 1) := by decide +kernel
theorem dX1_gatherFor_99 : decode cX1_gatherFor 99 = .ok (.iadd, 1) := by decide +kernel
theorem dX1_gatherFor_100 : decode cX1_gatherFor 100 = .ok (.invokestatic 33, 3) := by decide +kernel
theorem dX1_gatherFor_103 : decode cX1_gatherFor 103 = .ok (.aload_n 0, 1) := by decide +kernel
theorem dX1_gatherFor_104 : decode cX1_gatherFor 104 = .ok (.iload 10, 2) := by decide +kernel
theorem dX1_gatherFor_106 : decode cX1_gatherFor 106 = .ok (.invokevirtual 45, 3) := by decide +kernel
theorem dX1_gatherFor_109 : decode cX1_gatherFor 109 = .ok (.pop, 1) := by decide +kernel
theorem dX1_gatherFor_110 : decode cX1_gatherFor 110 = .ok (.aload 6, 2) := by decide +kernel
theorem dX1_gatherFor_112 : decode cX1_gatherFor 112 = .ok (.iload 10, 2) := by decide +kernel
theorem dX1_gatherFor_114 : decode cX1_gatherFor 114 = .ok (.iload_n 2, 1) := by decide +kernel
theorem dX1_gatherFor_115 : decode cX1_gatherFor 115 = .ok (.iload_n 3, 1) := by decide +kernel
theorem dX1_gatherFor_116 : decode cX1_gatherFor 116 = .ok (.invokevirtual 37, 3) := by decide +kernel
theorem dX1_gatherFor_119 : decode cX1_gatherFor 119 = .ok (.istore 10, 2) := by decide +kernel
theorem dX1_gatherFor_121 : decode cX1_gatherFor 121 = .ok (.iinc 11 1, 3) := by decide +kernel
theorem dX1_gatherFor_124 : decode cX1_gatherFor 124 = .ok (.goto (-62), 3) := by decide +kernel
theorem dX1_gatherFor_127 : decode cX1_gatherFor 127 = .ok (.aload 6, 2) := by decide +kernel
theorem dX1_gatherFor_129 : decode cX1_gatherFor 129 = .ok (.getfield 27, 3) := by decide +kernel
theorem dX1_gatherFor_132 : decode cX1_gatherFor 132 = .ok (.iload 7, 2) := by decide +kernel
theorem dX1_gatherFor_134 : decode cX1_gatherFor 134 = .ok (.if_icmp .ne 9, 3) := by decide +kernel
theorem dX1_gatherFor_137 : decode cX1_gatherFor 137 = .ok (.aload_n 1, 1) := by decide +kernel
theorem dX1_gatherFor_138 : decode cX1_gatherFor 138 = .ok (.iload 8, 2) := by decide +kernel
theorem dX1_gatherFor_140 : decode cX1_gatherFor 140 = .ok (.iload 7, 2) := by decide +kernel
theorem dX1_gatherFor_142 : decode cX1_gatherFor 142 = .ok (.iastore, 1) := by decide +kernel
theorem dX1_gatherFor_143 : decode cX1_gatherFor 143 = .ok (.return_, 1) := by decide +kernel
theorem dX1_needyBorrower_0 : decode cX1_needyBorrower 0 = .ok (.aload_n 0, 1) := by decide +kernel
theorem dX1_needyBorrower_1 : decode cX1_needyBorrower 1 = .ok (.getfield 21, 3) := by decide +kernel
theorem dX1_needyBorrower_4 : decode cX1_needyBorrower 4 = .ok (.iload_n 1, 1) := by decide +kernel
theorem dX1_needyBorrower_5 : decode cX1_needyBorrower 5 = .ok (.invokevirtual 49, 3) := by decide +kernel
theorem dX1_needyBorrower_8 : decode cX1_needyBorrower 8 = .ok (.istore_n 3, 1) := by decide +kernel
theorem dX1_needyBorrower_9 : decode cX1_needyBorrower 9 = .ok (.iload_n 3, 1) := by decide +kernel
theorem dX1_needyBorrower_10 : decode cX1_needyBorrower 10 = .ok (.ifCond .ge 5, 3) := by decide +kernel
theorem dX1_needyBorrower_13 : decode cX1_needyBorrower 13 = .ok (.iconst (-1), 1) := by decide +kernel
theorem dX1_needyBorrower_14 : decode cX1_needyBorrower 14 = .ok (.ireturn, 1) := by decide +kernel
theorem dX1_needyBorrower_15 : decode cX1_needyBorrower 15 = .ok (.aload_n 0, 1) := by decide +kernel
theorem dX1_needyBorrower_16 : decode cX1_needyBorrower 16 = .ok (.getfield 21, 3) := by decide +kernel
theorem dX1_needyBorrower_19 : decode cX1_needyBorrower 19 = .ok (.getfield 52, 3) := by decide +kernel
theorem dX1_needyBorrower_22 : decode cX1_needyBorrower 22 = .ok (.iload_n 3, 1) := by decide +kernel
theorem dX1_needyBorrower_23 : decode cX1_needyBorrower 23 = .ok (.iaload, 1) := by decide +kernel
theorem dX1_needyBorrower_24 : decode cX1_needyBorrower 24 = .ok (.istore 4, 2) := by decide +kernel
theorem dX1_needyBorrower_26 : decode cX1_needyBorrower 26 = .ok (.iload_n 2, 1) := by decide +kernel
theorem dX1_needyBorrower_27 : decode cX1_needyBorrower 27 = .ok (.iload 4, 2) := by decide +kernel
theorem dX1_needyBorrower_29 : decode cX1_needyBorrower 29 = .ok (.ishr, 1) := by decide +kernel
theorem dX1_needyBorrower_30 : decode cX1_needyBorrower 30 = .ok (.iconst 1, 1) := by decide +kernel
theorem dX1_needyBorrower_31 : decode cX1_needyBorrower 31 = .ok (.iand, 1) := by decide +kernel
theorem dX1_needyBorrower_32 : decode cX1_needyBorrower 32 = .ok (.ifCond .eq 7, 3) := by decide +kernel
theorem dX1_needyBorrower_35 : decode cX1_needyBorrower 35 = .ok (.iconst 1, 1) := by decide +kernel
theorem dX1_needyBorrower_36 : decode cX1_needyBorrower 36 = .ok (.goto 4, 3) := by decide +kernel
theorem dX1_needyBorrower_39 : decode cX1_needyBorrower 39 = .ok (.iconst 0, 1) := by decide +kernel
theorem dX1_needyBorrower_40 : decode cX1_needyBorrower 40 = .ok (.istore 5, 2) := by decide +kernel
theorem dX1_needyBorrower_42 : decode cX1_needyBorrower 42 = .ok (.aload_n 0, 1) := by decide +kernel
theorem dX1_needyBorrower_43 : decode cX1_needyBorrower 43 = .ok (.iload 4, 2) := by decide +kernel
theorem dX1_needyBorrower_45 : decode cX1_needyBorrower 45 = .ok (.aload_n 0, 1) := by decide +kernel
theorem dX1_needyBorrower_46 : decode cX1_needyBorrower 46 = .ok (.getfield 21, 3) := by decide +kernel
theorem dX1_needyBorrower_49 : decode cX1_needyBorrower 49 = .ok (.getfield 55, 3) := by decide +kernel
theorem dX1_needyBorrower_52 : decode cX1_needyBorrower 52 = .ok (.iload_n 3, 1) := by decide +kernel
theorem dX1_needyBorrower_53 : decode cX1_needyBorrower 53 = .ok (.iaload, 1) := by decide +kernel
theorem dX1_needyBorrower_54 : decode cX1_needyBorrower 54 = .ok (.invokevirtual 58, 3) := by decide +kernel
theorem dX1_needyBorrower_57 : decode cX1_needyBorrower 57 = .ok (.aload_n 0, 1) := by decide +kernel
theorem dX1_needyBorrower_58 : decode cX1_needyBorrower 58 = .ok (.getfield 21, 3) := by decide +kernel
theorem dX1_needyBorrower_61 : decode cX1_needyBorrower 61 = .ok (.getfield 62, 3) := by decide +kernel
theorem dX1_needyBorrower_64 : decode cX1_needyBorrower 64 = .ok (.iload_n 3, 1) := by decide +kernel
theorem dX1_needyBorrower_65 : decode cX1_needyBorrower 65 = .ok (.iaload, 1) := by decide +kernel
theorem dX1_needyBorrower_66 : decode cX1_needyBorrower 66 = .ok (.if_icmp .lt 7, 3) := by decide +kernel
theorem dX1_needyBorrower_69 : decode cX1_needyBorrower 69 = .ok (.iconst 1, 1) := by decide +kernel
theorem dX1_needyBorrower_70 : decode cX1_needyBorrower 70 = .ok (.goto 4, 3) := by decide +kernel
theorem dX1_needyBorrower_73 : decode cX1_needyBorrower 73 = .ok (.iconst 0, 1) := by decide +kernel
theorem dX1_needyBorrower_74 : decode cX1_needyBorrower 74 = .ok (.istore 6, 2) := by decide +kernel
theorem dX1_needyBorrower_76 : decode cX1_needyBorrower 76 = .ok (.iload 5, 2) := by decide +kernel
theorem dX1_needyBorrower_78 : decode cX1_needyBorrower 78 = .ok (.ifCond .ne 8, 3) := by decide +kernel
theorem dX1_needyBorrower_81 : decode cX1_needyBorrower 81 = .ok (.iload 6, 2) := by decide +kernel
theorem dX1_needyBorrower_83 : decode cX1_needyBorrower 83 = .ok (.ifCond .eq 7, 3) := by decide +kernel
theorem dX1_needyBorrower_86 : decode cX1_needyBorrower 86 = .ok (.iconst (-1), 1) := by decide +kernel
theorem dX1_needyBorrower_87 : decode cX1_needyBorrower 87 = .ok (.goto 5, 3) := by decide +kernel
theorem dX1_needyBorrower_90 : decode cX1_needyBorrower 90 = .ok (.iload 4, 2) := by decide +kernel
theorem dX1_needyBorrower_92 : decode cX1_needyBorrower 92 = .ok (.ireturn, 1) := by decide +kernel
theorem dX2_init_0 : decode cX2_init 0 = .ok (.aload_n 0, 1) := by decide +kernel
theorem dX2_init_1 : decode cX2_init 1 = .ok (.invokespecial 3, 3) := by decide +kernel
theorem dX2_init_4 : decode cX2_init 4 = .ok (.aload_n 0, 1) := by decide +kernel
theorem dX2_init_5 : decode cX2_init 5 = .ok (.iconst 5, 1) := by decide +kernel
theorem dX2_init_6 : decode cX2_init 6 = .ok (.anewarray 11, 3) := by decide +kernel
theorem dX2_init_9 : decode cX2_init 9 = .ok (.putfield 13, 3) := by decide +kernel
theorem dX2_init_12 : decode cX2_init 12 = .ok (.iconst 0, 1) := by decide +kernel
theorem dX2_init_13 : decode cX2_init 13 = .ok (.istore_n 1, 1) := by decide +kernel
theorem dX2_init_14 : decode cX2_init 14 = .ok (.iload_n 1, 1) := by decide +kernel
theorem dX2_init_15 : decode cX2_init 15 = .ok (.iconst 5, 1) := by decide +kernel
theorem dX2_init_16 : decode cX2_init 16 = .ok (.if_icmp .ge 22, 3) := by decide +kernel
theorem dX2_init_19 : decode cX2_init 19 = .ok (.aload_n 0, 1) := by decide +kernel
theorem dX2_init_20 : decode cX2_init 20 = .ok (.getfield 13, 3) := by decide +kernel
theorem dX2_init_23 : decode cX2_init 23 = .ok (.iload_n 1, 1) := by decide +kernel
theorem dX2_init_24 : decode cX2_init 24 = .ok (.new 11, 3) := by decide +kernel
theorem dX2_init_27 : decode cX2_init 27 = .ok (.dup, 1) := by decide +kernel
theorem dX2_init_28 : decode cX2_init 28 = .ok (.invokespecial 17, 3) := by decide +kernel
theorem dX2_init_31 : decode cX2_init 31 = .ok (.aastore, 1) := by decide +kernel
theorem dX2_init_32 : decode cX2_init 32 = .ok (.iinc 1 1, 3) := by decide +kernel
theorem dX2_init_35 : decode cX2_init 35 = .ok (.goto (-21), 3) := by decide +kernel
theorem dX2_init_38 : decode cX2_init 38 = .ok (.return_, 1) := by decide +kernel
theorem dX2_size_0 : decode cX2_size 0 = .ok (.aload_n 0, 1) := by decide +kernel
theorem dX2_size_1 : decode cX2_size 1 = .ok (.getfield 18, 3) := by decide +kernel
theorem dX2_size_4 : decode cX2_size 4 = .ok (.ireturn, 1) := by decide +kernel
theorem dX2_open_0 : decode cX2_open 0 = .ok (.aload_n 0, 1) := by decide +kernel
theorem dX2_open_1 : decode cX2_open 1 = .ok (.getfield 13, 3) := by decide +kernel
theorem dX2_open_4 : decode cX2_open 4 = .ok (.aload_n 0, 1) := by decide +kernel
theorem dX2_open_5 : decode cX2_open 5 = .ok (.getfield 22, 3) := by decide +kernel
theorem dX2_open_8 : decode cX2_open 8 = .ok (.aaload, 1) := by decide +kernel
theorem dX2_open_9 : decode cX2_open 9 = .ok (.aload_n 1, 1) := by decide +kernel
theorem dX2_open_10 : decode cX2_open 10 = .ok (.invokevirtual 25, 3) := by decide +kernel
theorem dX2_open_13 : decode cX2_open 13 = .ok (.return_, 1) := by decide +kernel
theorem dX2_opened_0 : decode cX2_opened 0 = .ok (.aload_n 0, 1) := by decide +kernel
theorem dX2_opened_1 : decode cX2_opened 1 = .ok (.getfield 13, 3) := by decide +kernel
theorem dX2_opened_4 : decode cX2_opened 4 = .ok (.aload_n 0, 1) := by decide +kernel
theorem dX2_opened_5 : decode cX2_opened 5 = .ok (.getfield 22, 3) := by decide +kernel
theorem dX2_opened_8 : decode cX2_opened 8 = .ok (.aaload, 1) := by decide +kernel
theorem dX2_opened_9 : decode cX2_opened 9 = .ok (.areturn, 1) := by decide +kernel
theorem dX2_record_0 : decode cX2_record 0 = .ok (.aload_n 0, 1) := by decide +kernel
theorem dX2_record_1 : decode cX2_record 1 = .ok (.aload_n 0, 1) := by decide +kernel
theorem dX2_record_2 : decode cX2_record 2 = .ok (.getfield 22, 3) := by decide +kernel
theorem dX2_record_5 : decode cX2_record 5 = .ok (.iconst 1, 1) := by decide +kernel
theorem dX2_record_6 : decode cX2_record 6 = .ok (.iadd, 1) := by decide +kernel
theorem dX2_record_7 : decode cX2_record 7 = .ok (.iconst 5, 1) := by decide +kernel
theorem dX2_record_8 : decode cX2_record 8 = .ok (.irem, 1) := by decide +kernel
theorem dX2_record_9 : decode cX2_record 9 = .ok (.putfield 22, 3) := by decide +kernel
theorem dX2_record_12 : decode cX2_record 12 = .ok (.aload_n 0, 1) := by decide +kernel
theorem dX2_record_13 : decode cX2_record 13 = .ok (.aload_n 0, 1) := by decide +kernel
theorem dX2_record_14 : decode cX2_record 14 = .ok (.getfield 18, 3) := by decide +kernel
theorem dX2_record_17 : decode cX2_record 17 = .ok (.iconst 1, 1) := by decide +kernel
theorem dX2_record_18 : decode cX2_record 18 = .ok (.iadd, 1) := by decide +kernel
theorem dX2_record_19 : decode cX2_record 19 = .ok (.iconst 4, 1) := by decide +kernel
theorem dX2_record_20 : decode cX2_record 20 = .ok (.invokestatic 29, 3) := by decide +kernel
theorem dX2_record_23 : decode cX2_record 23 = .ok (.putfield 18, 3) := by decide +kernel
theorem dX2_record_26 : decode cX2_record 26 = .ok (.return_, 1) := by decide +kernel
theorem dX2_takeLatest_0 : decode cX2_takeLatest 0 = .ok (.aload_n 0, 1) := by decide +kernel
theorem dX2_takeLatest_1 : decode cX2_takeLatest 1 = .ok (.getfield 18, 3) := by decide +kernel
theorem dX2_takeLatest_4 : decode cX2_takeLatest 4 = .ok (.ifCond .ne 5, 3) := by decide +kernel
theorem dX2_takeLatest_7 : decode cX2_takeLatest 7 = .ok (.aconst_null, 1) := by decide +kernel
theorem dX2_takeLatest_8 : decode cX2_takeLatest 8 = .ok (.areturn, 1) := by decide +kernel
theorem dX2_takeLatest_9 : decode cX2_takeLatest 9 = .ok (.aload_n 0, 1) := by decide +kernel
theorem dX2_takeLatest_10 : decode cX2_takeLatest 10 = .ok (.dup, 1) := by decide +kernel
theorem dX2_takeLatest_11 : decode cX2_takeLatest 11 = .ok (.getfield 18, 3) := by decide +kernel
theorem dX2_takeLatest_14 : decode cX2_takeLatest 14 = .ok (.iconst 1, 1) := by decide +kernel
theorem dX2_takeLatest_15 : decode cX2_takeLatest 15 = .ok (.isub, 1) := by decide +kernel
theorem dX2_takeLatest_16 : decode cX2_takeLatest 16 = .ok (.putfield 18, 3) := by decide +kernel
theorem dX2_takeLatest_19 : decode cX2_takeLatest 19 = .ok (.aload_n 0, 1) := by decide +kernel
theorem dX2_takeLatest_20 : decode cX2_takeLatest 20 = .ok (.aload_n 0, 1) := by decide +kernel
theorem dX2_takeLatest_21 : decode cX2_takeLatest 21 = .ok (.getfield 22, 3) := by decide +kernel
theorem dX2_takeLatest_24 : decode cX2_takeLatest 24 = .ok (.iconst 5, 1) := by decide +kernel
theorem dX2_takeLatest_25 : decode cX2_takeLatest 25 = .ok (.iadd, 1) := by decide +kernel
theorem dX2_takeLatest_26 : decode cX2_takeLatest 26 = .ok (.iconst 1, 1) := by decide +kernel
theorem dX2_takeLatest_27 : decode cX2_takeLatest 27 = .ok (.isub, 1) := by decide +kernel
theorem dX2_takeLatest_28 : decode cX2_takeLatest 28 = .ok (.iconst 5, 1) := by decide +kernel
theorem dX2_takeLatest_29 : decode cX2_takeLatest 29 = .ok (.irem, 1) := by decide +kernel
theorem dX2_takeLatest_30 : decode cX2_takeLatest 30 = .ok (.putfield 22, 3) := by decide +kernel
theorem dX2_takeLatest_33 : decode cX2_takeLatest 33 = .ok (.aload_n 0, 1) := by decide +kernel
theorem dX2_takeLatest_34 : decode cX2_takeLatest 34 = .ok (.getfield 13, 3) := by decide +kernel
theorem dX2_takeLatest_37 : decode cX2_takeLatest 37 = .ok (.aload_n 0, 1) := by decide +kernel
theorem dX2_takeLatest_38 : decode cX2_takeLatest 38 = .ok (.getfield 22, 3) := by decide +kernel
theorem dX2_takeLatest_41 : decode cX2_takeLatest 41 = .ok (.aaload, 1) := by decide +kernel
theorem dX2_takeLatest_42 : decode cX2_takeLatest 42 = .ok (.areturn, 1) := by decide +kernel
theorem dX3_init_0 : decode cX3_init 0 = .ok (.aload_n 0, 1) := by decide +kernel
theorem dX3_init_1 : decode cX3_init 1 = .ok (.invokespecial 3, 3) := by decide +kernel
theorem dX3_init_4 : decode cX3_init 4 = .ok (.aload_n 0, 1) := by decide +kernel
theorem dX3_init_5 : decode cX3_init 5 = .ok (.bipush 40, 2) := by decide +kernel
theorem dX3_init_7 : decode cX3_init 7 = .ok (.newarray .int, 2) := by decide +kernel
theorem dX3_init_9 : decode cX3_init 9 = .ok (.putfield 9, 3) := by decide +kernel
theorem dX3_init_12 : decode cX3_init 12 = .ok (.aload_n 0, 1) := by decide +kernel
theorem dX3_init_13 : decode cX3_init 13 = .ok (.bipush 40, 2) := by decide +kernel
theorem dX3_init_15 : decode cX3_init 15 = .ok (.newarray .int, 2) := by decide +kernel
theorem dX3_init_17 : decode cX3_init 17 = .ok (.putfield 15, 3) := by decide +kernel
theorem dX3_init_20 : decode cX3_init 20 = .ok (.aload_n 0, 1) := by decide +kernel
theorem dX3_init_21 : decode cX3_init 21 = .ok (.bipush 40, 2) := by decide +kernel
theorem dX3_init_23 : decode cX3_init 23 = .ok (.newarray .int, 2) := by decide +kernel
theorem dX3_init_25 : decode cX3_init 25 = .ok (.putfield 18, 3) := by decide +kernel
theorem dX3_init_28 : decode cX3_init 28 = .ok (.aload_n 0, 1) := by decide +kernel
theorem dX3_init_29 : decode cX3_init 29 = .ok (.bipush 40, 2) := by decide +kernel
theorem dX3_init_31 : decode cX3_init 31 = .ok (.newarray .int, 2) := by decide +kernel
theorem dX3_init_33 : decode cX3_init 33 = .ok (.putfield 21, 3) := by decide +kernel
theorem dX3_init_36 : decode cX3_init 36 = .ok (.aload_n 0, 1) := by decide +kernel
theorem dX3_init_37 : decode cX3_init 37 = .ok (.bipush 40, 2) := by decide +kernel
theorem dX3_init_39 : decode cX3_init 39 = .ok (.newarray .int, 2) := by decide +kernel
theorem dX3_init_41 : decode cX3_init 41 = .ok (.putfield 24, 3) := by decide +kernel
theorem dX3_init_44 : decode cX3_init 44 = .ok (.return_, 1) := by decide +kernel
theorem dX3_copyFrom_0 : decode cX3_copyFrom 0 = .ok (.aload_n 0, 1) := by decide +kernel
theorem dX3_copyFrom_1 : decode cX3_copyFrom 1 = .ok (.aload_n 1, 1) := by decide +kernel
theorem dX3_copyFrom_2 : decode cX3_copyFrom 2 = .ok (.getfield 27, 3) := by decide +kernel
theorem dX3_copyFrom_5 : decode cX3_copyFrom 5 = .ok (.putfield 27, 3) := by decide +kernel
theorem dX3_copyFrom_8 : decode cX3_copyFrom 8 = .ok (.aload_n 0, 1) := by decide +kernel
theorem dX3_copyFrom_9 : decode cX3_copyFrom 9 = .ok (.aload_n 1, 1) := by decide +kernel
theorem dX3_copyFrom_10 : decode cX3_copyFrom 10 = .ok (.getfield 31, 3) := by decide +kernel
theorem dX3_copyFrom_13 : decode cX3_copyFrom 13 = .ok (.putfield 31, 3) := by decide +kernel
theorem dX3_copyFrom_16 : decode cX3_copyFrom 16 = .ok (.aload_n 0, 1) := by decide +kernel
theorem dX3_copyFrom_17 : decode cX3_copyFrom 17 = .ok (.aload_n 1, 1) := by decide +kernel
theorem dX3_copyFrom_18 : decode cX3_copyFrom 18 = .ok (.getfield 34, 3) := by decide +kernel
theorem dX3_copyFrom_21 : decode cX3_copyFrom 21 = .ok (.putfield 34, 3) := by decide +kernel
theorem dX3_copyFrom_24 : decode cX3_copyFrom 24 = .ok (.aload_n 1, 1) := by decide +kernel
theorem dX3_copyFrom_25 : decode cX3_copyFrom 25 = .ok (.getfield 9, 3) := by decide +kernel
theorem dX3_copyFrom_28 : decode cX3_copyFrom 28 = .ok (.iconst 0, 1) := by decide +kernel
theorem dX3_copyFrom_29 : decode cX3_copyFrom 29 = .ok (.aload_n 0, 1) := by decide +kernel
theorem dX3_copyFrom_30 : decode cX3_copyFrom 30 = .ok (.getfield 9, 3) := by decide +kernel
theorem dX3_copyFrom_33 : decode cX3_copyFrom 33 = .ok (.iconst 0, 1) := by decide +kernel
theorem dX3_copyFrom_34 : decode cX3_copyFrom 34 = .ok (.aload_n 0, 1) := by decide +kernel
theorem dX3_copyFrom_35 : decode cX3_copyFrom 35 = .ok (.getfield 27, 3) := by decide +kernel
theorem dX3_copyFrom_38 : decode cX3_copyFrom 38 = .ok (.invokestatic 37, 3) := by decide +kernel
theorem dX3_copyFrom_41 : decode cX3_copyFrom 41 = .ok (.aload_n 1, 1) := by decide +kernel
theorem dX3_copyFrom_42 : decode cX3_copyFrom 42 = .ok (.getfield 15, 3) := by decide +kernel
theorem dX3_copyFrom_45 : decode cX3_copyFrom 45 = .ok (.iconst 0, 1) := by decide +kernel
theorem dX3_copyFrom_46 : decode cX3_copyFrom 46 = .ok (.aload_n 0, 1) := by decide +kernel
theorem dX3_copyFrom_47 : decode cX3_copyFrom 47 = .ok (.getfield 15, 3) := by decide +kernel
theorem dX3_copyFrom_50 : decode cX3_copyFrom 50 = .ok (.iconst 0, 1) := by decide +kernel
theorem dX3_copyFrom_51 : decode cX3_copyFrom 51 = .ok (.aload_n 0, 1) := by decide +kernel
theorem dX3_copyFrom_52 : decode cX3_copyFrom 52 = .ok (.getfield 27, 3) := by decide +kernel
theorem dX3_copyFrom_55 : decode cX3_copyFrom 55 = .ok (.invokestatic 37, 3) := by decide +kernel
theorem dX3_copyFrom_58 : decode cX3_copyFrom 58 = .ok (.aload_n 1, 1) := by decide +kernel
theorem dX3_copyFrom_59 : decode cX3_copyFrom 59 = .ok (.getfield 18, 3) := by decide +kernel
theorem dX3_copyFrom_62 : decode cX3_copyFrom 62 = .ok (.iconst 0, 1) := by decide +kernel
theorem dX3_copyFrom_63 : decode cX3_copyFrom 63 = .ok (.aload_n 0, 1) := by decide +kernel
theorem dX3_copyFrom_64 : decode cX3_copyFrom 64 = .ok (.getfield 18, 3) := by decide +kernel
theorem dX3_copyFrom_67 : decode cX3_copyFrom 67 = .ok (.iconst 0, 1) := by decide +kernel
theorem dX3_copyFrom_68 : decode cX3_copyFrom 68 = .ok (.aload_n 0, 1) := by decide +kernel
theorem dX3_copyFrom_69 : decode cX3_copyFrom 69 = .ok (.getfield 27, 3) := by decide +kernel
theorem dX3_copyFrom_72 : decode cX3_copyFrom 72 = .ok (.invokestatic 37, 3) := by decide +kernel
theorem dX3_copyFrom_75 : decode cX3_copyFrom 75 = .ok (.aload_n 1, 1) := by decide +kernel
theorem dX3_copyFrom_76 : decode cX3_copyFrom 76 = .ok (.getfield 21, 3) := by decide +kernel
theorem dX3_copyFrom_79 : decode cX3_copyFrom 79 = .ok (.iconst 0, 1) := by decide +kernel
theorem dX3_copyFrom_80 : decode cX3_copyFrom 80 = .ok (.aload_n 0, 1) := by decide +kernel
theorem dX3_copyFrom_81 : decode cX3_copyFrom 81 = .ok (.getfield 21, 3) := by decide +kernel
theorem dX3_copyFrom_84 : decode cX3_copyFrom 84 = .ok (.iconst 0, 1) := by decide +kernel
theorem dX3_copyFrom_85 : decode cX3_copyFrom 85 = .ok (.aload_n 0, 1) := by decide +kernel
theorem dX3_copyFrom_86 : decode cX3_copyFrom 86 = .ok (.getfield 27, 3) := by decide +kernel
theorem dX3_copyFrom_89 : decode cX3_copyFrom 89 = .ok (.invokestatic 37, 3) := by decide +kernel
theorem dX3_copyFrom_92 : decode cX3_copyFrom 92 = .ok (.aload_n 1, 1) := by decide +kernel
theorem dX3_copyFrom_93 : decode cX3_copyFrom 93 = .ok (.getfield 24, 3) := by decide +kernel
theorem dX3_copyFrom_96 : decode cX3_copyFrom 96 = .ok (.iconst 0, 1) := by decide +kernel
theorem dX3_copyFrom_97 : decode cX3_copyFrom 97 = .ok (.aload_n 0, 1) := by decide +kernel
theorem dX3_copyFrom_98 : decode cX3_copyFrom 98 = .ok (.getfield 24, 3) := by decide +kernel
theorem dX3_copyFrom_101 : decode cX3_copyFrom 101 = .ok (.iconst 0, 1) := by decide +kernel
theorem dX3_copyFrom_102 : decode cX3_copyFrom 102 = .ok (.aload_n 0, 1) := by decide +kernel
theorem dX3_copyFrom_103 : decode cX3_copyFrom 103 = .ok (.getfield 27, 3) := by decide +kernel
theorem dX3_copyFrom_106 : decode cX3_copyFrom 106 = .ok (.invokestatic 37, 3) := by decide +kernel
theorem dX3_copyFrom_109 : decode cX3_copyFrom 109 = .ok (.return_, 1) := by decide +kernel
theorem dX3_hasRoom_0 : decode cX3_hasRoom 0 = .ok (.aload_n 0, 1) := by decide +kernel
theorem dX3_hasRoom_1 : decode cX3_hasRoom 1 = .ok (.getfield 27, 3) := by decide +kernel
theorem dX3_hasRoom_4 : decode cX3_hasRoom 4 = .ok (.bipush 40, 2) := by decide +kernel
theorem dX3_hasRoom_6 : decode cX3_hasRoom 6 = .ok (.if_icmp .ge 17, 3) := by decide +kernel
theorem dX3_hasRoom_9 : decode cX3_hasRoom 9 = .ok (.aload_n 0, 1) := by decide +kernel
theorem dX3_hasRoom_10 : decode cX3_hasRoom 10 = .ok (.getfield 31, 3) := by decide +kernel
theorem dX3_hasRoom_13 : decode cX3_hasRoom 13 = .ok (.sipush 1000, 3) := by decide +kernel
theorem dX3_hasRoom_16 : decode cX3_hasRoom 16 = .ok (.if_icmp .ge 7, 3) := by decide +kernel
theorem dX3_hasRoom_19 : decode cX3_hasRoom 19 = .ok (.iconst 1, 1) := by decide +kernel
theorem dX3_hasRoom_20 : decode cX3_hasRoom 20 = .ok (.goto 4, 3) := by decide +kernel
theorem dX3_hasRoom_23 : decode cX3_hasRoom 23 = .ok (.iconst 0, 1) := by decide +kernel
theorem dX3_hasRoom_24 : decode cX3_hasRoom 24 = .ok (.ireturn, 1) := by decide +kernel
theorem dX3_append_0 : decode cX3_append 0 = .ok (.aload_n 0, 1) := by decide +kernel
theorem dX3_append_1 : decode cX3_append 1 = .ok (.getfield 9, 3) := by decide +kernel
theorem dX3_append_4 : decode cX3_append 4 = .ok (.aload_n 0, 1) := by decide +kernel
theorem dX3_append_5 : decode cX3_append 5 = .ok (.getfield 27, 3) := by decide +kernel
theorem dX3_append_8 : decode cX3_append 8 = .ok (.aload_n 0, 1) := by decide +kernel
theorem dX3_append_9 : decode cX3_append 9 = .ok (.getfield 31, 3) := by decide +kernel
theorem dX3_append_12 : decode cX3_append 12 = .ok (.iastore, 1) := by decide +kernel
theorem dX3_append_13 : decode cX3_append 13 = .ok (.aload_n 0, 1) := by decide +kernel
theorem dX3_append_14 : decode cX3_append 14 = .ok (.getfield 15, 3) := by decide +kernel
theorem dX3_append_17 : decode cX3_append 17 = .ok (.aload_n 0, 1) := by decide +kernel
theorem dX3_append_18 : decode cX3_append 18 = .ok (.getfield 27, 3) := by decide +kernel
theorem dX3_append_21 : decode cX3_append 21 = .ok (.iload_n 1, 1) := by decide +kernel
theorem dX3_append_22 : decode cX3_append 22 = .ok (.iastore, 1) := by decide +kernel
theorem dX3_append_23 : decode cX3_append 23 = .ok (.aload_n 0, 1) := by decide +kernel
theorem dX3_append_24 : decode cX3_append 24 = .ok (.getfield 18, 3) := by decide +kernel
theorem dX3_append_27 : decode cX3_append 27 = .ok (.aload_n 0, 1) := by decide +kernel
theorem dX3_append_28 : decode cX3_append 28 = .ok (.getfield 27, 3) := by decide +kernel
theorem dX3_append_31 : decode cX3_append 31 = .ok (.iload_n 2, 1) := by decide +kernel
theorem dX3_append_32 : decode cX3_append 32 = .ok (.iastore, 1) := by decide +kernel
theorem dX3_append_33 : decode cX3_append 33 = .ok (.aload_n 0, 1) := by decide +kernel
theorem dX3_append_34 : decode cX3_append 34 = .ok (.getfield 21, 3) := by decide +kernel
theorem dX3_append_37 : decode cX3_append 37 = .ok (.aload_n 0, 1) := by decide +kernel
theorem dX3_append_38 : decode cX3_append 38 = .ok (.getfield 27, 3) := by decide +kernel
theorem dX3_append_41 : decode cX3_append 41 = .ok (.iload_n 3, 1) := by decide +kernel
theorem dX3_append_42 : decode cX3_append 42 = .ok (.iastore, 1) := by decide +kernel
theorem dX3_append_43 : decode cX3_append 43 = .ok (.aload_n 0, 1) := by decide +kernel
theorem dX3_append_44 : decode cX3_append 44 = .ok (.getfield 24, 3) := by decide +kernel
theorem dX3_append_47 : decode cX3_append 47 = .ok (.aload_n 0, 1) := by decide +kernel
theorem dX3_append_48 : decode cX3_append 48 = .ok (.getfield 27, 3) := by decide +kernel
theorem dX3_append_51 : decode cX3_append 51 = .ok (.iload 4, 2) := by decide +kernel
theorem dX3_append_53 : decode cX3_append 53 = .ok (.iastore, 1) := by decide +kernel
theorem dX3_append_54 : decode cX3_append 54 = .ok (.aload_n 0, 1) := by decide +kernel
theorem dX3_append_55 : decode cX3_append 55 = .ok (.dup, 1) := by decide +kernel
theorem dX3_append_56 : decode cX3_append 56 = .ok (.getfield 27, 3) := by decide +kernel
theorem dX3_append_59 : decode cX3_append 59 = .ok (.iconst 1, 1) := by decide +kernel
theorem dX3_append_60 : decode cX3_append 60 = .ok (.iadd, 1) := by decide +kernel
theorem dX3_append_61 : decode cX3_append 61 = .ok (.putfield 27, 3) := by decide +kernel
theorem dX3_append_64 : decode cX3_append 64 = .ok (.aload_n 0, 1) := by decide +kernel
theorem dX3_append_65 : decode cX3_append 65 = .ok (.dup, 1) := by decide +kernel
theorem dX3_append_66 : decode cX3_append 66 = .ok (.getfield 31, 3) := by decide +kernel
theorem dX3_append_69 : decode cX3_append 69 = .ok (.iconst 1, 1) := by decide +kernel
theorem dX3_append_70 : decode cX3_append 70 = .ok (.iadd, 1) := by decide +kernel
theorem dX3_append_71 : decode cX3_append 71 = .ok (.putfield 31, 3) := by decide +kernel
theorem dX3_append_74 : decode cX3_append 74 = .ok (.aload_n 0, 1) := by decide +kernel
theorem dX3_append_75 : decode cX3_append 75 = .ok (.getfield 31, 3) := by decide +kernel
theorem dX3_append_78 : decode cX3_append 78 = .ok (.iconst 1, 1) := by decide +kernel
theorem dX3_append_79 : decode cX3_append 79 = .ok (.isub, 1) := by decide +kernel
theorem dX3_append_80 : decode cX3_append 80 = .ok (.ireturn, 1) := by decide +kernel
theorem dX3_remove_0 : decode cX3_remove 0 = .ok (.aload_n 0, 1) := by decide +kernel
theorem dX3_remove_1 : decode cX3_remove 1 = .ok (.getfield 27, 3) := by decide +kernel
theorem dX3_remove_4 : decode cX3_remove 4 = .ok (.iload_n 1, 1) := by decide +kernel
theorem dX3_remove_5 : decode cX3_remove 5 = .ok (.isub, 1) := by decide +kernel
theorem dX3_remove_6 : decode cX3_remove 6 = .ok (.iconst 1, 1) := by decide +kernel
theorem dX3_remove_7 : decode cX3_remove 7 = .ok (.isub, 1) := by decide +kernel
theorem dX3_remove_8 : decode cX3_remove 8 = .ok (.istore_n 2, 1) := by decide +kernel
theorem dX3_remove_9 : decode cX3_remove 9 = .ok (.aload_n 0, 1) := by decide +kernel
theorem dX3_remove_10 : decode cX3_remove 10 = .ok (.getfield 9, 3) := by decide +kernel
theorem dX3_remove_13 : decode cX3_remove 13 = .ok (.iload_n 1, 1) := by decide +kernel
theorem dX3_remove_14 : decode cX3_remove 14 = .ok (.iconst 1, 1) := by decide +kernel
theorem dX3_remove_15 : decode cX3_remove 15 = .ok (.iadd, 1) := by decide +kernel
theorem dX3_remove_16 : decode cX3_remove 16 = .ok (.aload_n 0, 1) := by decide +kernel
theorem dX3_remove_17 : decode cX3_remove 17 = .ok (.getfield 9, 3) := by decide +kernel
theorem dX3_remove_20 : decode cX3_remove 20 = .ok (.iload_n 1, 1) := by decide +kernel
theorem dX3_remove_21 : decode cX3_remove 21 = .ok (.iload_n 2, 1) := by decide +kernel
theorem dX3_remove_22 : decode cX3_remove 22 = .ok (.invokestatic 37, 3) := by decide +kernel
theorem dX3_remove_25 : decode cX3_remove 25 = .ok (.aload_n 0, 1) := by decide +kernel
theorem dX3_remove_26 : decode cX3_remove 26 = .ok (.getfield 15, 3) := by decide +kernel
theorem dX3_remove_29 : decode cX3_remove 29 = .ok (.iload_n 1, 1) := by decide +kernel
theorem dX3_remove_30 : decode cX3_remove 30 = .ok (.iconst 1, 1) := by decide +kernel
theorem dX3_remove_31 : decode cX3_remove 31 = .ok (.iadd, 1) := by decide +kernel
theorem dX3_remove_32 : decode cX3_remove 32 = .ok (.aload_n 0, 1) := by decide +kernel
theorem dX3_remove_33 : decode cX3_remove 33 = .ok (.getfield 15, 3) := by decide +kernel
theorem dX3_remove_36 : decode cX3_remove 36 = .ok (.iload_n 1, 1) := by decide +kernel
theorem dX3_remove_37 : decode cX3_remove 37 = .ok (.iload_n 2, 1) := by decide +kernel
theorem dX3_remove_38 : decode cX3_remove 38 = .ok (.invokestatic 37, 3) := by decide +kernel
theorem dX3_remove_41 : decode cX3_remove 41 = .ok (.aload_n 0, 1) := by decide +kernel
theorem dX3_remove_42 : decode cX3_remove 42 = .ok (.getfield 18, 3) := by decide +kernel
theorem dX3_remove_45 : decode cX3_remove 45 = .ok (.iload_n 1, 1) := by decide +kernel
theorem dX3_remove_46 : decode cX3_remove 46 = .ok (.iconst 1, 1) := by decide +kernel
theorem dX3_remove_47 : decode cX3_remove 47 = .ok (.iadd, 1) := by decide +kernel
theorem dX3_remove_48 : decode cX3_remove 48 = .ok (.aload_n 0, 1) := by decide +kernel
theorem dX3_remove_49 : decode cX3_remove 49 = .ok (.getfield 18, 3) := by decide +kernel
theorem dX3_remove_52 : decode cX3_remove 52 = .ok (.iload_n 1, 1) := by decide +kernel
theorem dX3_remove_53 : decode cX3_remove 53 = .ok (.iload_n 2, 1) := by decide +kernel
theorem dX3_remove_54 : decode cX3_remove 54 = .ok (.invokestatic 37, 3) := by decide +kernel
theorem dX3_remove_57 : decode cX3_remove 57 = .ok (.aload_n 0, 1) := by decide +kernel
theorem dX3_remove_58 : decode cX3_remove 58 = .ok (.getfield 21, 3) := by decide +kernel
theorem dX3_remove_61 : decode cX3_remove 61 = .ok (.iload_n 1, 1) := by decide +kernel
theorem dX3_remove_62 : decode cX3_remove 62 = .ok (.iconst 1, 1) := by decide +kernel
theorem dX3_remove_63 : decode cX3_remove 63 = .ok (.iadd, 1) := by decide +kernel
theorem dX3_remove_64 : decode cX3_remove 64 = .ok (.aload_n 0, 1) := by decide +kernel
theorem dX3_remove_65 : decode cX3_remove 65 = .ok (.getfield 21, 3) := by decide +kernel
theorem dX3_remove_68 : decode cX3_remove 68 = .ok (.iload_n 1, 1) := by decide +kernel
theorem dX3_remove_69 : decode cX3_remove 69 = .ok (.iload_n 2, 1) := by decide +kernel
theorem dX3_remove_70 : decode cX3_remove 70 = .ok (.invokestatic 37, 3) := by decide +kernel
theorem dX3_remove_73 : decode cX3_remove 73 = .ok (.aload_n 0, 1) := by decide +kernel
theorem dX3_remove_74 : decode cX3_remove 74 = .ok (.getfield 24, 3) := by decide +kernel
theorem dX3_remove_77 : decode cX3_remove 77 = .ok (.iload_n 1, 1) := by decide +kernel
theorem dX3_remove_78 : decode cX3_remove 78 = .ok (.iconst 1, 1) := by decide +kernel
theorem dX3_remove_79 : decode cX3_remove 79 = .ok (.iadd, 1) := by decide +kernel
theorem dX3_remove_80 : decode cX3_remove 80 = .ok (.aload_n 0, 1) := by decide +kernel
theorem dX3_remove_81 : decode cX3_remove 81 = .ok (.getfield 24, 3) := by decide +kernel
theorem dX3_remove_84 : decode cX3_remove 84 = .ok (.iload_n 1, 1) := by decide +kernel
theorem dX3_remove_85 : decode cX3_remove 85 = .ok (.iload_n 2, 1) := by decide +kernel
theorem dX3_remove_86 : decode cX3_remove 86 = .ok (.invokestatic 37, 3) := by decide +kernel
theorem dX3_remove_89 : decode cX3_remove 89 = .ok (.aload_n 0, 1) := by decide +kernel
theorem dX3_remove_90 : decode cX3_remove 90 = .ok (.dup, 1) := by decide +kernel
theorem dX3_remove_91 : decode cX3_remove 91 = .ok (.getfield 27, 3) := by decide +kernel
theorem dX3_remove_94 : decode cX3_remove 94 = .ok (.iconst 1, 1) := by decide +kernel
theorem dX3_remove_95 : decode cX3_remove 95 = .ok (.isub, 1) := by decide +kernel
theorem dX3_remove_96 : decode cX3_remove 96 = .ok (.putfield 27, 3) := by decide +kernel
theorem dX3_remove_99 : decode cX3_remove 99 = .ok (.aload_n 0, 1) := by decide +kernel
theorem dX3_remove_100 : decode cX3_remove 100 = .ok (.dup, 1) := by decide +kernel
theorem dX3_remove_101 : decode cX3_remove 101 = .ok (.getfield 34, 3) := by decide +kernel
theorem dX3_remove_104 : decode cX3_remove 104 = .ok (.iconst 1, 1) := by decide +kernel
theorem dX3_remove_105 : decode cX3_remove 105 = .ok (.iadd, 1) := by decide +kernel
theorem dX3_remove_106 : decode cX3_remove 106 = .ok (.putfield 34, 3) := by decide +kernel
theorem dX3_remove_109 : decode cX3_remove 109 = .ok (.return_, 1) := by decide +kernel
theorem dX3_rowOf_0 : decode cX3_rowOf 0 = .ok (.iconst 0, 1) := by decide +kernel
theorem dX3_rowOf_1 : decode cX3_rowOf 1 = .ok (.istore_n 2, 1) := by decide +kernel
theorem dX3_rowOf_2 : decode cX3_rowOf 2 = .ok (.iload_n 2, 1) := by decide +kernel
theorem dX3_rowOf_3 : decode cX3_rowOf 3 = .ok (.aload_n 0, 1) := by decide +kernel
theorem dX3_rowOf_4 : decode cX3_rowOf 4 = .ok (.getfield 27, 3) := by decide +kernel
theorem dX3_rowOf_7 : decode cX3_rowOf 7 = .ok (.if_icmp .ge 21, 3) := by decide +kernel
theorem dX3_rowOf_10 : decode cX3_rowOf 10 = .ok (.aload_n 0, 1) := by decide +kernel
theorem dX3_rowOf_11 : decode cX3_rowOf 11 = .ok (.getfield 9, 3) := by decide +kernel
theorem dX3_rowOf_14 : decode cX3_rowOf 14 = .ok (.iload_n 2, 1) := by decide +kernel
theorem dX3_rowOf_15 : decode cX3_rowOf 15 = .ok (.iaload, 1) := by decide +kernel
theorem dX3_rowOf_16 : decode cX3_rowOf 16 = .ok (.iload_n 1, 1) := by decide +kernel
theorem dX3_rowOf_17 : decode cX3_rowOf 17 = .ok (.if_icmp .ne 5, 3) := by decide +kernel
theorem dX3_rowOf_20 : decode cX3_rowOf 20 = .ok (.iload_n 2, 1) := by decide +kernel
theorem dX3_rowOf_21 : decode cX3_rowOf 21 = .ok (.ireturn, 1) := by decide +kernel
theorem dX3_rowOf_22 : decode cX3_rowOf 22 = .ok (.iinc 2 1, 3) := by decide +kernel
theorem dX3_rowOf_25 : decode cX3_rowOf 25 = .ok (.goto (-23), 3) := by decide +kernel
theorem dX3_rowOf_28 : decode cX3_rowOf 28 = .ok (.iconst (-1), 1) := by decide +kernel
theorem dX3_rowOf_29 : decode cX3_rowOf 29 = .ok (.ireturn, 1) := by decide +kernel
theorem dX3_latestAhead_0 : decode cX3_latestAhead 0 = .ok (.aload_n 0, 1) := by decide +kernel
theorem dX3_latestAhead_1 : decode cX3_latestAhead 1 = .ok (.getfield 27, 3) := by decide +kernel
theorem dX3_latestAhead_4 : decode cX3_latestAhead 4 = .ok (.iconst 1, 1) := by decide +kernel
theorem dX3_latestAhead_5 : decode cX3_latestAhead 5 = .ok (.isub, 1) := by decide +kernel
theorem dX3_latestAhead_6 : decode cX3_latestAhead 6 = .ok (.istore 4, 2) := by decide +kernel
theorem dX3_latestAhead_8 : decode cX3_latestAhead 8 = .ok (.iload 4, 2) := by decide +kernel
theorem dX3_latestAhead_10 : decode cX3_latestAhead 10 = .ok (.ifCond .lt 50, 3) := by decide +kernel
theorem dX3_latestAhead_13 : decode cX3_latestAhead 13 = .ok (.aload_n 0, 1) := by decide +kernel
theorem dX3_latestAhead_14 : decode cX3_latestAhead 14 = .ok (.getfield 9, 3) := by decide +kernel
theorem dX3_latestAhead_17 : decode cX3_latestAhead 17 = .ok (.iload 4, 2) := by decide +kernel
theorem dX3_latestAhead_19 : decode cX3_latestAhead 19 = .ok (.iaload, 1) := by decide +kernel
theorem dX3_latestAhead_20 : decode cX3_latestAhead 20 = .ok (.iload_n 1, 1) := by decide +kernel
theorem dX3_latestAhead_21 : decode cX3_latestAhead 21 = .ok (.if_icmp .ge 33, 3) := by decide +kernel
theorem dX3_latestAhead_24 : decode cX3_latestAhead 24 = .ok (.aload_n 0, 1) := by decide +kernel
theorem dX3_latestAhead_25 : decode cX3_latestAhead 25 = .ok (.getfield 15, 3) := by decide +kernel
theorem dX3_latestAhead_28 : decode cX3_latestAhead 28 = .ok (.iload 4, 2) := by decide +kernel
theorem dX3_latestAhead_30 : decode cX3_latestAhead 30 = .ok (.iaload, 1) := by decide +kernel
theorem dX3_latestAhead_31 : decode cX3_latestAhead 31 = .ok (.iload_n 2, 1) := by decide +kernel
theorem dX3_latestAhead_32 : decode cX3_latestAhead 32 = .ok (.if_icmp .ne 22, 3) := by decide +kernel
theorem dX3_latestAhead_35 : decode cX3_latestAhead 35 = .ok (.aload_n 0, 1) := by decide +kernel
theorem dX3_latestAhead_36 : decode cX3_latestAhead 36 = .ok (.getfield 21, 3) := by decide +kernel
theorem dX3_latestAhead_39 : decode cX3_latestAhead 39 = .ok (.iload 4, 2) := by decide +kernel
theorem dX3_latestAhead_41 : decode cX3_latestAhead 41 = .ok (.iaload, 1) := by decide +kernel
theorem dX3_latestAhead_42 : decode cX3_latestAhead 42 = .ok (.iload_n 3, 1) := by decide +kernel
theorem dX3_latestAhead_43 : decode cX3_latestAhead 43 = .ok (.if_icmp .ne 11, 3) := by decide +kernel
theorem dX3_latestAhead_46 : decode cX3_latestAhead 46 = .ok (.aload_n 0, 1) := by decide +kernel
theorem dX3_latestAhead_47 : decode cX3_latestAhead 47 = .ok (.getfield 9, 3) := by decide +kernel
theorem dX3_latestAhead_50 : decode cX3_latestAhead 50 = .ok (.iload 4, 2) := by decide +kernel
theorem dX3_latestAhead_52 : decode cX3_latestAhead 52 = .ok (.iaload, 1) := by decide +kernel
theorem dX3_latestAhead_53 : decode cX3_latestAhead 53 = .ok (.ireturn, 1) := by decide +kernel
theorem dX3_latestAhead_54 : decode cX3_latestAhead 54 = .ok (.iinc 4 (-1), 3) := by decide +kernel
theorem dX3_latestAhead_57 : decode cX3_latestAhead 57 = .ok (.goto (-49), 3) := by decide +kernel
theorem dX3_latestAhead_60 : decode cX3_latestAhead 60 = .ok (.iconst (-1), 1) := by decide +kernel
theorem dX3_latestAhead_61 : decode cX3_latestAhead 61 = .ok (.ireturn, 1) := by decide +kernel
theorem dX3_countOf_0 : decode cX3_countOf 0 = .ok (.iconst 0, 1) := by decide +kernel
theorem dX3_countOf_1 : decode cX3_countOf 1 = .ok (.istore_n 2, 1) := by decide +kernel
theorem dX3_countOf_2 : decode cX3_countOf 2 = .ok (.iconst 0, 1) := by decide +kernel
theorem dX3_countOf_3 : decode cX3_countOf 3 = .ok (.istore_n 3, 1) := by decide +kernel
theorem dX3_countOf_4 : decode cX3_countOf 4 = .ok (.iload_n 3, 1) := by decide +kernel
theorem dX3_countOf_5 : decode cX3_countOf 5 = .ok (.aload_n 0, 1) := by decide +kernel
theorem dX3_countOf_6 : decode cX3_countOf 6 = .ok (.getfield 27, 3) := by decide +kernel
theorem dX3_countOf_9 : decode cX3_countOf 9 = .ok (.if_icmp .ge 22, 3) := by decide +kernel
theorem dX3_countOf_12 : decode cX3_countOf 12 = .ok (.aload_n 0, 1) := by decide +kernel
theorem dX3_countOf_13 : decode cX3_countOf 13 = .ok (.getfield 21, 3) := by decide +kernel
theorem dX3_countOf_16 : decode cX3_countOf 16 = .ok (.iload_n 3, 1) := by decide +kernel
theorem dX3_countOf_17 : decode cX3_countOf 17 = .ok (.iaload, 1) := by decide +kernel
theorem dX3_countOf_18 : decode cX3_countOf 18 = .ok (.iload_n 1, 1) := by decide +kernel
theorem dX3_countOf_19 : decode cX3_countOf 19 = .ok (.if_icmp .ne 6, 3) := by decide +kernel
theorem dX3_countOf_22 : decode cX3_countOf 22 = .ok (.iinc 2 1, 3) := by decide +kernel
theorem dX3_countOf_25 : decode cX3_countOf 25 = .ok (.iinc 3 1, 3) := by decide +kernel
theorem dX3_countOf_28 : decode cX3_countOf 28 = .ok (.goto (-24), 3) := by decide +kernel
theorem dX3_countOf_31 : decode cX3_countOf 31 = .ok (.iload_n 2, 1) := by decide +kernel
theorem dX3_countOf_32 : decode cX3_countOf 32 = .ok (.ireturn, 1) := by decide +kernel
theorem dX3_partsLent_0 : decode cX3_partsLent 0 = .ok (.aload_n 0, 1) := by decide +kernel
theorem dX3_partsLent_1 : decode cX3_partsLent 1 = .ok (.aload_n 0, 1) := by decide +kernel
theorem dX3_partsLent_2 : decode cX3_partsLent 2 = .ok (.getfield 15, 3) := by decide +kernel
theorem dX3_partsLent_5 : decode cX3_partsLent 5 = .ok (.iload_n 1, 1) := by decide +kernel
theorem dX3_partsLent_6 : decode cX3_partsLent 6 = .ok (.iload_n 2, 1) := by decide +kernel
theorem dX3_partsLent_7 : decode cX3_partsLent 7 = .ok (.invokevirtual 43, 3) := by decide +kernel
theorem dX3_partsLent_10 : decode cX3_partsLent 10 = .ok (.ireturn, 1) := by decide +kernel
theorem dX3_partsBorrowed_0 : decode cX3_partsBorrowed 0 = .ok (.aload_n 0, 1) := by decide +kernel
theorem dX3_partsBorrowed_1 : decode cX3_partsBorrowed 1 = .ok (.aload_n 0, 1) := by decide +kernel
theorem dX3_partsBorrowed_2 : decode cX3_partsBorrowed 2 = .ok (.getfield 18, 3) := by decide +kernel
theorem dX3_partsBorrowed_5 : decode cX3_partsBorrowed 5 = .ok (.iload_n 1, 1) := by decide +kernel
theorem dX3_partsBorrowed_6 : decode cX3_partsBorrowed 6 = .ok (.iload_n 2, 1) := by decide +kernel
theorem dX3_partsBorrowed_7 : decode cX3_partsBorrowed 7 = .ok (.invokevirtual 43, 3) := by decide +kernel
theorem dX3_partsBorrowed_10 : decode cX3_partsBorrowed 10 = .ok (.ireturn, 1) := by decide +kernel
theorem dX3_sumParts_0 : decode cX3_sumParts 0 = .ok (.iconst 0, 1) := by decide +kernel
theorem dX3_sumParts_1 : decode cX3_sumParts 1 = .ok (.istore 4, 2) := by decide +kernel
theorem dX3_sumParts_3 : decode cX3_sumParts 3 = .ok (.iconst 0, 1) := by decide +kernel
theorem dX3_sumParts_4 : decode cX3_sumParts 4 = .ok (.istore 5, 2) := by decide +kernel
theorem dX3_sumParts_6 : decode cX3_sumParts 6 = .ok (.iload 5, 2) := by decide +kernel
theorem dX3_sumParts_8 : decode cX3_sumParts 8 = .ok (.aload_n 0, 1) := by decide +kernel
theorem dX3_sumParts_9 : decode cX3_sumParts 9 = .ok (.getfield 27, 3) := by decide +kernel
theorem dX3_sumParts_12 : decode cX3_sumParts 12 = .ok (.if_icmp .ge 40, 3) := by decide +kernel
theorem dX3_sumParts_15 : decode cX3_sumParts 15 = .ok (.aload_n 1, 1) := by decide +kernel
theorem dX3_sumParts_16 : decode cX3_sumParts 16 = .ok (.iload 5, 2) := by decide +kernel
theorem dX3_sumParts_18 : decode cX3_sumParts 18 = .ok (.iaload, 1) := by decide +kernel
theorem dX3_sumParts_19 : decode cX3_sumParts 19 = .ok (.iload_n 2, 1) := by decide +kernel
theorem dX3_sumParts_20 : decode cX3_sumParts 20 = .ok (.if_icmp .ne 26, 3) := by decide +kernel
theorem dX3_sumParts_23 : decode cX3_sumParts 23 = .ok (.aload_n 0, 1) := by decide +kernel
theorem dX3_sumParts_24 : decode cX3_sumParts 24 = .ok (.getfield 21, 3) := by decide +kernel
theorem dX3_sumParts_27 : decode cX3_sumParts 27 = .ok (.iload 5, 2) := by decide +kernel
theorem dX3_sumParts_29 : decode cX3_sumParts 29 = .ok (.iaload, 1) := by decide +kernel
theorem dX3_sumParts_30 : decode cX3_sumParts 30 = .ok (.iload_n 3, 1) := by decide +kernel
theorem dX3_sumParts_31 : decode cX3_sumParts 31 = .ok (.if_icmp .ne 15, 3) := by decide +kernel
theorem dX3_sumParts_34 : decode cX3_sumParts 34 = .ok (.iload 4, 2) := by decide +kernel
theorem dX3_sumParts_36 : decode cX3_sumParts 36 = .ok (.aload_n 0, 1) := by decide +kernel
theorem dX3_sumParts_37 : decode cX3_sumParts 37 = .ok (.getfield 24, 3) := by decide +kernel
theorem dX3_sumParts_40 : decode cX3_sumParts 40 = .ok (.iload 5, 2) := by decide +kernel
theorem dX3_sumParts_42 : decode cX3_sumParts 42 = .ok (.iaload, 1) := by decide +kernel
theorem dX3_sumParts_43 : decode cX3_sumParts 43 = .ok (.iadd, 1) := by decide +kernel
theorem dX3_sumParts_44 : decode cX3_sumParts 44 = .ok (.istore 4, 2) := by decide +kernel
theorem dX3_sumParts_46 : decode cX3_sumParts 46 = .ok (.iinc 5 1, 3) := by decide +kernel
theorem dX3_sumParts_49 : decode cX3_sumParts 49 = .ok (.goto (-43), 3) := by decide +kernel
theorem dX3_sumParts_52 : decode cX3_sumParts 52 = .ok (.iload 4, 2) := by decide +kernel
theorem dX3_sumParts_54 : decode cX3_sumParts 54 = .ok (.ireturn, 1) := by decide +kernel
theorem dX3_longestChain_0 : decode cX3_longestChain 0 = .ok (.aload_n 0, 1) := by decide +kernel
theorem dX3_longestChain_1 : decode cX3_longestChain 1 = .ok (.iload_n 1, 1) := by decide +kernel
theorem dX3_longestChain_2 : decode cX3_longestChain 2 = .ok (.invokevirtual 47, 3) := by decide +kernel
theorem dX3_longestChain_5 : decode cX3_longestChain 5 = .ok (.lstore_n 2, 1) := by decide +kernel
theorem dX3_longestChain_6 : decode cX3_longestChain 6 = .ok (.iconst 0, 1) := by decide +kernel
theorem dX3_longestChain_7 : decode cX3_longestChain 7 = .ok (.istore 4, 2) := by decide +kernel
theorem dX3_longestChain_9 : decode cX3_longestChain 9 = .ok (.iconst 0, 1) := by decide +kernel
theorem dX3_longestChain_10 : decode cX3_longestChain 10 = .ok (.istore 5, 2) := by decide +kernel
theorem dX3_longestChain_12 : decode cX3_longestChain 12 = .ok (.iload 5, 2) := by decide +kernel
theorem dX3_longestChain_14 : decode cX3_longestChain 14 = .ok (.bipush 6, 2) := by decide +kernel
theorem dX3_longestChain_16 : decode cX3_longestChain 16 = .ok (.if_icmp .ge 27, 3) := by decide +kernel
theorem dX3_longestChain_19 : decode cX3_longestChain 19 = .ok (.iload 4, 2) := by decide +kernel
theorem dX3_longestChain_21 : decode cX3_longestChain 21 = .ok (.lload_n 2, 1) := by decide +kernel
theorem dX3_longestChain_22 : decode cX3_longestChain 22 = .ok (.iload 5, 2) := by decide +kernel
theorem dX3_longestChain_24 : decode cX3_longestChain 24 = .ok (.iconst 1, 1) := by decide +kernel
theorem dX3_longestChain_25 : decode cX3_longestChain 25 = .ok (.iload 5, 2) := by decide +kernel
theorem dX3_longestChain_27 : decode cX3_longestChain 27 = .ok (.ishl, 1) := by decide +kernel
theorem dX3_longestChain_28 : decode cX3_longestChain 28 = .ok (.iconst 1, 1) := by decide +kernel
theorem dX3_longestChain_29 : decode cX3_longestChain 29 = .ok (.invokestatic 51, 3) := by decide +kernel
theorem dX3_longestChain_32 : decode cX3_longestChain 32 = .ok (.invokestatic 55, 3) := by decide +kernel
theorem dX3_longestChain_35 : decode cX3_longestChain 35 = .ok (.istore 4, 2) := by decide +kernel
theorem dX3_longestChain_37 : decode cX3_longestChain 37 = .ok (.iinc 5 1, 3) := by decide +kernel
theorem dX3_longestChain_40 : decode cX3_longestChain 40 = .ok (.goto (-28), 3) := by decide +kernel
theorem dX3_longestChain_43 : decode cX3_longestChain 43 = .ok (.iload 4, 2) := by decide +kernel
theorem dX3_longestChain_45 : decode cX3_longestChain 45 = .ok (.ireturn, 1) := by decide +kernel
theorem dX3_linksOf_0 : decode cX3_linksOf 0 = .ok (.lconst 0, 1) := by decide +kernel
theorem dX3_linksOf_1 : decode cX3_linksOf 1 = .ok (.lstore_n 2, 1) := by decide +kernel
theorem dX3_linksOf_2 : decode cX3_linksOf 2 = .ok (.iconst 0, 1) := by decide +kernel
theorem dX3_linksOf_3 : decode cX3_linksOf 3 = .ok (.istore 4, 2) := by decide +kernel
theorem dX3_linksOf_5 : decode cX3_linksOf 5 = .ok (.iload 4, 2) := by decide +kernel
theorem dX3_linksOf_7 : decode cX3_linksOf 7 = .ok (.aload_n 0, 1) := by decide +kernel
theorem dX3_linksOf_8 : decode cX3_linksOf 8 = .ok (.getfield 27, 3) := by decide +kernel
theorem dX3_linksOf_11 : decode cX3_linksOf 11 = .ok (.if_icmp .ge 43, 3) := by decide +kernel
theorem dX3_linksOf_14 : decode cX3_linksOf 14 = .ok (.aload_n 0, 1) := by decide +kernel
theorem dX3_linksOf_15 : decode cX3_linksOf 15 = .ok (.getfield 21, 3) := by decide +kernel
theorem dX3_linksOf_18 : decode cX3_linksOf 18 = .ok (.iload 4, 2) := by decide +kernel
theorem dX3_linksOf_20 : decode cX3_linksOf 20 = .ok (.iaload, 1) := by decide +kernel
theorem dX3_linksOf_21 : decode cX3_linksOf 21 = .ok (.iload_n 1, 1) := by decide +kernel
theorem dX3_linksOf_22 : decode cX3_linksOf 22 = .ok (.if_icmp .ne 26, 3) := by decide +kernel
theorem dX3_linksOf_25 : decode cX3_linksOf 25 = .ok (.lload_n 2, 1) := by decide +kernel
theorem dX3_linksOf_26 : decode cX3_linksOf 26 = .ok (.lconst 1, 1) := by decide +kernel
theorem dX3_linksOf_27 : decode cX3_linksOf 27 = .ok (.aload_n 0, 1) := by decide +kernel
theorem dX3_linksOf_28 : decode cX3_linksOf 28 = .ok (.getfield 15, 3) := by decide +kernel
theorem dX3_linksOf_31 : decode cX3_linksOf 31 = .ok (.iload 4, 2) := by decide +kernel
theorem dX3_linksOf_33 : decode cX3_linksOf 33 = .ok (.iaload, 1) := by decide +kernel
theorem dX3_linksOf_34 : decode cX3_linksOf 34 = .ok (.bipush 6, 2) := by decide +kernel
theorem dX3_linksOf_36 : decode cX3_linksOf 36 = .ok (.imul, 1) := by decide +kernel
theorem dX3_linksOf_37 : decode cX3_linksOf 37 = .ok (.aload_n 0, 1) := by decide +kernel
theorem dX3_linksOf_38 : decode cX3_linksOf 38 = .ok (.getfield 18, 3) := by decide +kernel
theorem dX3_linksOf_41 : decode cX3_linksOf 41 = .ok (.iload 4, 2) := by decide +kernel
theorem dX3_linksOf_43 : decode cX3_linksOf 43 = .ok (.iaload, 1) := by decide +kernel
theorem dX3_linksOf_44 : decode cX3_linksOf 44 = .ok (.iadd, 1) := by decide +kernel
theorem dX3_linksOf_45 : decode cX3_linksOf 45 = .ok (.lshl, 1) := by decide +kernel
theorem dX3_linksOf_46 : decode cX3_linksOf 46 = .ok (.lor, 1) := by decide +kernel
theorem dX3_linksOf_47 : decode cX3_linksOf 47 = .ok (.lstore_n 2, 1) := by decide +kernel
theorem dX3_linksOf_48 : decode cX3_linksOf 48 = .ok (.iinc 4 1, 3) := by decide +kernel
theorem dX3_linksOf_51 : decode cX3_linksOf 51 = .ok (.goto (-46), 3) := by decide +kernel
theorem dX3_linksOf_54 : decode cX3_linksOf 54 = .ok (.lload_n 2, 1) := by decide +kernel
theorem dX3_linksOf_55 : decode cX3_linksOf 55 = .ok (.lreturn, 1) := by decide +kernel
theorem dX3_longestFrom_0 : decode cX3_longestFrom 0 = .ok (.iload 4, 2) := by decide +kernel
theorem dX3_longestFrom_2 : decode cX3_longestFrom 2 = .ok (.bipush 6, 2) := by decide +kernel
theorem dX3_longestFrom_4 : decode cX3_longestFrom 4 = .ok (.if_icmp .lt 5, 3) := by decide +kernel
theorem dX3_longestFrom_7 : decode cX3_longestFrom 7 = .ok (.iconst 0, 1) := by decide +kernel
theorem dX3_longestFrom_8 : decode cX3_longestFrom 8 = .ok (.ireturn, 1) := by decide +kernel
theorem dX3_longestFrom_9 : decode cX3_longestFrom 9 = .ok (.iconst 0, 1) := by decide +kernel
theorem dX3_longestFrom_10 : decode cX3_longestFrom 10 = .ok (.istore 5, 2) := by decide +kernel
theorem dX3_longestFrom_12 : decode cX3_longestFrom 12 = .ok (.iconst 0, 1) := by decide +kernel
theorem dX3_longestFrom_13 : decode cX3_longestFrom 13 = .ok (.istore 6, 2) := by decide +kernel
theorem dX3_longestFrom_15 : decode cX3_longestFrom 15 = .ok (.iload 6, 2) := by decide +kernel
theorem dX3_longestFrom_17 : decode cX3_longestFrom 17 = .ok (.bipush 6, 2) := by decide +kernel
theorem dX3_longestFrom_19 : decode cX3_longestFrom 19 = .ok (.if_icmp .ge 83, 3) := by decide +kernel
theorem dX3_longestFrom_22 : decode cX3_longestFrom 22 = .ok (.lload_n 0, 1) := by decide +kernel
theorem dX3_longestFrom_23 : decode cX3_longestFrom 23 = .ok (.iload_n 2, 1) := by decide +kernel
theorem dX3_longestFrom_24 : decode cX3_longestFrom 24 = .ok (.bipush 6, 2) := by decide +kernel
theorem dX3_longestFrom_26 : decode cX3_longestFrom 26 = .ok (.imul, 1) := by decide +kernel
theorem dX3_longestFrom_27 : decode cX3_longestFrom 27 = .ok (.iload 6, 2) := by decide +kernel
theorem dX3_longestFrom_29 : decode cX3_longestFrom 29 = .ok (.iadd, 1) := by decide +kernel
theorem dX3_longestFrom_30 : decode cX3_longestFrom 30 = .ok (.lshr, 1) := by decide +kernel
theorem dX3_longestFrom_31 : decode cX3_longestFrom 31 = .ok (.lconst 1, 1) := by decide +kernel
theorem dX3_longestFrom_32 : decode cX3_longestFrom 32 = .ok (.land, 1) := by decide +kernel
theorem dX3_longestFrom_33 : decode cX3_longestFrom 33 = .ok (.lconst 0, 1) := by decide +kernel
theorem dX3_longestFrom_34 : decode cX3_longestFrom 34 = .ok (.lcmp, 1) := by decide +kernel
theorem dX3_longestFrom_35 : decode cX3_longestFrom 35 = .ok (.ifCond .eq 7, 3) := by decide +kernel
theorem dX3_longestFrom_38 : decode cX3_longestFrom 38 = .ok (.iconst 1, 1) := by decide +kernel
theorem dX3_longestFrom_39 : decode cX3_longestFrom 39 = .ok (.goto 4, 3) := by decide +kernel
theorem dX3_longestFrom_42 : decode cX3_longestFrom 42 = .ok (.iconst 0, 1) := by decide +kernel
theorem dX3_longestFrom_43 : decode cX3_longestFrom 43 = .ok (.istore 7, 2) := by decide +kernel
theorem dX3_longestFrom_45 : decode cX3_longestFrom 45 = .ok (.iload_n 3, 1) := by decide +kernel
theorem dX3_longestFrom_46 : decode cX3_longestFrom 46 = .ok (.iload 6, 2) := by decide +kernel
theorem dX3_longestFrom_48 : decode cX3_longestFrom 48 = .ok (.ishr, 1) := by decide +kernel
theorem dX3_longestFrom_49 : decode cX3_longestFrom 49 = .ok (.iconst 1, 1) := by decide +kernel
theorem dX3_longestFrom_50 : decode cX3_longestFrom 50 = .ok (.iand, 1) := by decide +kernel
theorem dX3_longestFrom_51 : decode cX3_longestFrom 51 = .ok (.ifCond .eq 7, 3) := by decide +kernel
theorem dX3_longestFrom_54 : decode cX3_longestFrom 54 = .ok (.iconst 1, 1) := by decide +kernel
theorem dX3_longestFrom_55 : decode cX3_longestFrom 55 = .ok (.goto 4, 3) := by decide +kernel
theorem dX3_longestFrom_58 : decode cX3_longestFrom 58 = .ok (.iconst 0, 1) := by decide +kernel
theorem dX3_longestFrom_59 : decode cX3_longestFrom 59 = .ok (.istore 8, 2) := by decide +kernel
theorem dX3_longestFrom_61 : decode cX3_longestFrom 61 = .ok (.iload 7, 2) := by decide +kernel
theorem dX3_longestFrom_63 : decode cX3_longestFrom 63 = .ok (.ifCond .eq 33, 3) := by decide +kernel
theorem dX3_longestFrom_66 : decode cX3_longestFrom 66 = .ok (.iload 8, 2) := by decide +kernel
theorem dX3_longestFrom_68 : decode cX3_longestFrom 68 = .ok (.ifCond .ne 28, 3) := by decide +kernel
theorem dX3_longestFrom_71 : decode cX3_longestFrom 71 = .ok (.iload 5, 2) := by decide +kernel
theorem dX3_longestFrom_73 : decode cX3_longestFrom 73 = .ok (.iconst 1, 1) := by decide +kernel
theorem dX3_longestFrom_74 : decode cX3_longestFrom 74 = .ok (.lload_n 0, 1) := by decide +kernel
theorem dX3_longestFrom_75 : decode cX3_longestFrom 75 = .ok (.iload 6, 2) := by decide +kernel
theorem dX3_longestFrom_77 : decode cX3_longestFrom 77 = .ok (.iload_n 3, 1) := by decide +kernel
theorem dX3_longestFrom_78 : decode cX3_longestFrom 78 = .ok (.iconst 1, 1) := by decide +kernel
theorem dX3_longestFrom_79 : decode cX3_longestFrom 79 = .ok (.iload 6, 2) := by decide +kernel
theorem dX3_longestFrom_81 : decode cX3_longestFrom 81 = .ok (.ishl, 1) := by decide +kernel
theorem dX3_longestFrom_82 : decode cX3_longestFrom 82 = .ok (.ior, 1) := by decide +kernel
theorem dX3_longestFrom_83 : decode cX3_longestFrom 83 = .ok (.iload 4, 2) := by decide +kernel
theorem dX3_longestFrom_85 : decode cX3_longestFrom 85 = .ok (.iconst 1, 1) := by decide +kernel
theorem dX3_longestFrom_86 : decode cX3_longestFrom 86 = .ok (.iadd, 1) := by decide +kernel
theorem dX3_longestFrom_87 : decode cX3_longestFrom 87 = .ok (.invokestatic 51, 3) := by decide +kernel
theorem dX3_longestFrom_90 : decode cX3_longestFrom 90 = .ok (.iadd, 1) := by decide +kernel
theorem dX3_longestFrom_91 : decode cX3_longestFrom 91 = .ok (.invokestatic 55, 3) := by decide +kernel
theorem dX3_longestFrom_94 : decode cX3_longestFrom 94 = .ok (.istore 5, 2) := by decide +kernel
theorem dX3_longestFrom_96 : decode cX3_longestFrom 96 = .ok (.iinc 6 1, 3) := by decide +kernel
theorem dX3_longestFrom_99 : decode cX3_longestFrom 99 = .ok (.goto (-84), 3) := by decide +kernel
theorem dX3_longestFrom_102 : decode cX3_longestFrom 102 = .ok (.iload 5, 2) := by decide +kernel
theorem dX3_longestFrom_104 : decode cX3_longestFrom 104 = .ok (.ireturn, 1) := by decide +kernel
theorem dX4_init_0 : decode cX4_init 0 = .ok (.aload_n 0, 1) := by decide +kernel
theorem dX4_init_1 : decode cX4_init 1 = .ok (.invokespecial 3, 3) := by decide +kernel
theorem dX4_init_4 : decode cX4_init 4 = .ok (.aload_n 0, 1) := by decide +kernel
theorem dX4_init_5 : decode cX4_init 5 = .ok (.bipush 6, 2) := by decide +kernel
theorem dX4_init_7 : decode cX4_init 7 = .ok (.newarray .int, 2) := by decide +kernel
theorem dX4_init_9 : decode cX4_init 9 = .ok (.putfield 9, 3) := by decide +kernel
theorem dX4_init_12 : decode cX4_init 12 = .ok (.aload_n 0, 1) := by decide +kernel
theorem dX4_init_13 : decode cX4_init 13 = .ok (.bipush 6, 2) := by decide +kernel
theorem dX4_init_15 : decode cX4_init 15 = .ok (.newarray .int, 2) := by decide +kernel
theorem dX4_init_17 : decode cX4_init 17 = .ok (.putfield 15, 3) := by decide +kernel
theorem dX4_init_20 : decode cX4_init 20 = .ok (.aload_n 0, 1) := by decide +kernel
theorem dX4_init_21 : decode cX4_init 21 = .ok (.bipush 6, 2) := by decide +kernel
theorem dX4_init_23 : decode cX4_init 23 = .ok (.newarray .int, 2) := by decide +kernel
theorem dX4_init_25 : decode cX4_init 25 = .ok (.putfield 18, 3) := by decide +kernel
theorem dX4_init_28 : decode cX4_init 28 = .ok (.aload_n 0, 1) := by decide +kernel
theorem dX4_init_29 : decode cX4_init 29 = .ok (.bipush 36, 2) := by decide +kernel
theorem dX4_init_31 : decode cX4_init 31 = .ok (.newarray .int, 2) := by decide +kernel
theorem dX4_init_33 : decode cX4_init 33 = .ok (.putfield 21, 3) := by decide +kernel
theorem dX4_init_36 : decode cX4_init 36 = .ok (.aload_n 0, 1) := by decide +kernel
theorem dX4_init_37 : decode cX4_init 37 = .ok (.bipush 6, 2) := by decide +kernel
theorem dX4_init_39 : decode cX4_init 39 = .ok (.newarray .int, 2) := by decide +kernel
theorem dX4_init_41 : decode cX4_init 41 = .ok (.putfield 24, 3) := by decide +kernel
theorem dX4_init_44 : decode cX4_init 44 = .ok (.aload_n 0, 1) := by decide +kernel
theorem dX4_init_45 : decode cX4_init 45 = .ok (.new 27, 3) := by decide +kernel
theorem dX4_init_48 : decode cX4_init 48 = .ok (.dup, 1) := by decide +kernel
theorem dX4_init_49 : decode cX4_init 49 = .ok (.invokespecial 29, 3) := by decide +kernel
theorem dX4_init_52 : decode cX4_init 52 = .ok (.putfield 30, 3) := by decide +kernel
theorem dX4_init_55 : decode cX4_init 55 = .ok (.aload_n 0, 1) := by decide +kernel
theorem dX4_init_56 : decode cX4_init 56 = .ok (.new 34, 3) := by decide +kernel
theorem dX4_init_59 : decode cX4_init 59 = .ok (.dup, 1) := by decide +kernel
theorem dX4_init_60 : decode cX4_init 60 = .ok (.invokespecial 36, 3) := by decide +kernel
theorem dX4_init_63 : decode cX4_init 63 = .ok (.putfield 37, 3) := by decide +kernel
theorem dX4_init_66 : decode cX4_init 66 = .ok (.iconst 0, 1) := by decide +kernel
theorem dX4_init_67 : decode cX4_init 67 = .ok (.istore_n 1, 1) := by decide +kernel
theorem dX4_init_68 : decode cX4_init 68 = .ok (.iload_n 1, 1) := by decide +kernel
theorem dX4_init_69 : decode cX4_init 69 = .ok (.bipush 6, 2) := by decide +kernel
theorem dX4_init_71 : decode cX4_init 71 = .ok (.if_icmp .ge 29, 3) := by decide +kernel
theorem dX4_init_74 : decode cX4_init 74 = .ok (.aload_n 0, 1) := by decide +kernel
theorem dX4_init_75 : decode cX4_init 75 = .ok (.getfield 18, 3) := by decide +kernel
theorem dX4_init_78 : decode cX4_init 78 = .ok (.iload_n 1, 1) := by decide +kernel
theorem dX4_init_79 : decode cX4_init 79 = .ok (.iload_n 1, 1) := by decide +kernel
theorem dX4_init_80 : decode cX4_init 80 = .ok (.iastore, 1) := by decide +kernel
theorem dX4_init_81 : decode cX4_init 81 = .ok (.aload_n 0, 1) := by decide +kernel
theorem dX4_init_82 : decode cX4_init 82 = .ok (.getfield 21, 3) := by decide +kernel
theorem dX4_init_85 : decode cX4_init 85 = .ok (.iload_n 1, 1) := by decide +kernel
theorem dX4_init_86 : decode cX4_init 86 = .ok (.bipush 6, 2) := by decide +kernel
theorem dX4_init_88 : decode cX4_init 88 = .ok (.imul, 1) := by decide +kernel
theorem dX4_init_89 : decode cX4_init 89 = .ok (.iload_n 1, 1) := by decide +kernel
theorem dX4_init_90 : decode cX4_init 90 = .ok (.iadd, 1) := by decide +kernel
theorem dX4_init_91 : decode cX4_init 91 = .ok (.bipush 64, 2) := by decide +kernel
theorem dX4_init_93 : decode cX4_init 93 = .ok (.iastore, 1) := by decide +kernel
theorem dX4_init_94 : decode cX4_init 94 = .ok (.iinc 1 1, 3) := by decide +kernel
theorem dX4_init_97 : decode cX4_init 97 = .ok (.goto (-29), 3) := by decide +kernel
theorem dX4_init_100 : decode cX4_init 100 = .ok (.return_, 1) := by decide +kernel
theorem dX4_copyFrom_0 : decode cX4_copyFrom 0 = .ok (.aload_n 1, 1) := by decide +kernel
theorem dX4_copyFrom_1 : decode cX4_copyFrom 1 = .ok (.getfield 9, 3) := by decide +kernel
theorem dX4_copyFrom_4 : decode cX4_copyFrom 4 = .ok (.iconst 0, 1) := by decide +kernel
theorem dX4_copyFrom_5 : decode cX4_copyFrom 5 = .ok (.aload_n 0, 1) := by decide +kernel
theorem dX4_copyFrom_6 : decode cX4_copyFrom 6 = .ok (.getfield 9, 3) := by decide +kernel
theorem dX4_copyFrom_9 : decode cX4_copyFrom 9 = .ok (.iconst 0, 1) := by decide +kernel
theorem dX4_copyFrom_10 : decode cX4_copyFrom 10 = .ok (.bipush 6, 2) := by decide +kernel
theorem dX4_copyFrom_12 : decode cX4_copyFrom 12 = .ok (.invokestatic 41, 3) := by decide +kernel
theorem dX4_copyFrom_15 : decode cX4_copyFrom 15 = .ok (.aload_n 1, 1) := by decide +kernel
theorem dX4_copyFrom_16 : decode cX4_copyFrom 16 = .ok (.getfield 15, 3) := by decide +kernel
theorem dX4_copyFrom_19 : decode cX4_copyFrom 19 = .ok (.iconst 0, 1) := by decide +kernel
theorem dX4_copyFrom_20 : decode cX4_copyFrom 20 = .ok (.aload_n 0, 1) := by decide +kernel
theorem dX4_copyFrom_21 : decode cX4_copyFrom 21 = .ok (.getfield 15, 3) := by decide +kernel
theorem dX4_copyFrom_24 : decode cX4_copyFrom 24 = .ok (.iconst 0, 1) := by decide +kernel
theorem dX4_copyFrom_25 : decode cX4_copyFrom 25 = .ok (.bipush 6, 2) := by decide +kernel
theorem dX4_copyFrom_27 : decode cX4_copyFrom 27 = .ok (.invokestatic 41, 3) := by decide +kernel
theorem dX4_copyFrom_30 : decode cX4_copyFrom 30 = .ok (.aload_n 1, 1) := by decide +kernel
theorem dX4_copyFrom_31 : decode cX4_copyFrom 31 = .ok (.getfield 18, 3) := by decide +kernel
theorem dX4_copyFrom_34 : decode cX4_copyFrom 34 = .ok (.iconst 0, 1) := by decide +kernel
theorem dX4_copyFrom_35 : decode cX4_copyFrom 35 = .ok (.aload_n 0, 1) := by decide +kernel
theorem dX4_copyFrom_36 : decode cX4_copyFrom 36 = .ok (.getfield 18, 3) := by decide +kernel
theorem dX4_copyFrom_39 : decode cX4_copyFrom 39 = .ok (.iconst 0, 1) := by decide +kernel
theorem dX4_copyFrom_40 : decode cX4_copyFrom 40 = .ok (.bipush 6, 2) := by decide +kernel
theorem dX4_copyFrom_42 : decode cX4_copyFrom 42 = .ok (.invokestatic 41, 3) := by decide +kernel
theorem dX4_copyFrom_45 : decode cX4_copyFrom 45 = .ok (.aload_n 1, 1) := by decide +kernel
theorem dX4_copyFrom_46 : decode cX4_copyFrom 46 = .ok (.getfield 21, 3) := by decide +kernel
theorem dX4_copyFrom_49 : decode cX4_copyFrom 49 = .ok (.iconst 0, 1) := by decide +kernel
theorem dX4_copyFrom_50 : decode cX4_copyFrom 50 = .ok (.aload_n 0, 1) := by decide +kernel
theorem dX4_copyFrom_51 : decode cX4_copyFrom 51 = .ok (.getfield 21, 3) := by decide +kernel
theorem dX4_copyFrom_54 : decode cX4_copyFrom 54 = .ok (.iconst 0, 1) := by decide +kernel
theorem dX4_copyFrom_55 : decode cX4_copyFrom 55 = .ok (.bipush 36, 2) := by decide +kernel
theorem dX4_copyFrom_57 : decode cX4_copyFrom 57 = .ok (.invokestatic 41, 3) := by decide +kernel
theorem dX4_copyFrom_60 : decode cX4_copyFrom 60 = .ok (.aload_n 1, 1) := by decide +kernel
theorem dX4_copyFrom_61 : decode cX4_copyFrom 61 = .ok (.getfield 24, 3) := by decide +kernel
theorem dX4_copyFrom_64 : decode cX4_copyFrom 64 = .ok (.iconst 0, 1) := by decide +kernel
theorem dX4_copyFrom_65 : decode cX4_copyFrom 65 = .ok (.aload_n 0, 1) := by decide +kernel
theorem dX4_copyFrom_66 : decode cX4_copyFrom 66 = .ok (.getfield 24, 3) := by decide +kernel
theorem dX4_copyFrom_69 : decode cX4_copyFrom 69 = .ok (.iconst 0, 1) := by decide +kernel
theorem dX4_copyFrom_70 : decode cX4_copyFrom 70 = .ok (.bipush 6, 2) := by decide +kernel
theorem dX4_copyFrom_72 : decode cX4_copyFrom 72 = .ok (.invokestatic 41, 3) := by decide +kernel
theorem dX4_copyFrom_75 : decode cX4_copyFrom 75 = .ok (.aload_n 0, 1) := by decide +kernel
theorem dX4_copyFrom_76 : decode cX4_copyFrom 76 = .ok (.getfield 30, 3) := by decide +kernel
theorem dX4_copyFrom_79 : decode cX4_copyFrom 79 = .ok (.aload_n 1, 1) := by decide +kernel
theorem dX4_copyFrom_80 : decode cX4_copyFrom 80 = .ok (.getfield 30, 3) := by decide +kernel
theorem dX4_copyFrom_83 : decode cX4_copyFrom 83 = .ok (.invokevirtual 47, 3) := by decide +kernel
theorem dX4_copyFrom_86 : decode cX4_copyFrom 86 = .ok (.aload_n 0, 1) := by decide +kernel
theorem dX4_copyFrom_87 : decode cX4_copyFrom 87 = .ok (.getfield 37, 3) := by decide +kernel
theorem dX4_copyFrom_90 : decode cX4_copyFrom 90 = .ok (.aload_n 1, 1) := by decide +kernel
theorem dX4_copyFrom_91 : decode cX4_copyFrom 91 = .ok (.getfield 37, 3) := by decide +kernel
theorem dX4_copyFrom_94 : decode cX4_copyFrom 94 = .ok (.invokevirtual 51, 3) := by decide +kernel
theorem dX4_copyFrom_97 : decode cX4_copyFrom 97 = .ok (.aload_n 0, 1) := by decide +kernel
theorem dX4_copyFrom_98 : decode cX4_copyFrom 98 = .ok (.aload_n 1, 1) := by decide +kernel
theorem dX4_copyFrom_99 : decode cX4_copyFrom 99 = .ok (.getfield 54, 3) := by decide +kernel
theorem dX4_copyFrom_102 : decode cX4_copyFrom 102 = .ok (.putfield 54, 3) := by decide +kernel
theorem dX4_copyFrom_105 : decode cX4_copyFrom 105 = .ok (.return_, 1) := by decide +kernel
theorem dX4_heldBy_0 : decode cX4_heldBy 0 = .ok (.aload_n 0, 1) := by decide +kernel
theorem dX4_heldBy_1 : decode cX4_heldBy 1 = .ok (.getfield 21, 3) := by decide +kernel
theorem dX4_heldBy_4 : decode cX4_heldBy 4 = .ok (.iload_n 2, 1) := by decide +kernel
theorem dX4_heldBy_5 : decode cX4_heldBy 5 = .ok (.bipush 6, 2) := by decide +kernel
theorem dX4_heldBy_7 : decode cX4_heldBy 7 = .ok (.imul, 1) := by decide +kernel
theorem dX4_heldBy_8 : decode cX4_heldBy 8 = .ok (.iload_n 1, 1) := by decide +kernel
theorem dX4_heldBy_9 : decode cX4_heldBy 9 = .ok (.iadd, 1) := by decide +kernel
theorem dX4_heldBy_10 : decode cX4_heldBy 10 = .ok (.iaload, 1) := by decide +kernel
theorem dX4_heldBy_11 : decode cX4_heldBy 11 = .ok (.ireturn, 1) := by decide +kernel
theorem dX4_isHolding_0 : decode cX4_isHolding 0 = .ok (.aload_n 0, 1) := by decide +kernel
theorem dX4_isHolding_1 : decode cX4_isHolding 1 = .ok (.getfield 24, 3) := by decide +kernel
theorem dX4_isHolding_4 : decode cX4_isHolding 4 = .ok (.iload_n 2, 1) := by decide +kernel
theorem dX4_isHolding_5 : decode cX4_isHolding 5 = .ok (.iaload, 1) := by decide +kernel
theorem dX4_isHolding_6 : decode cX4_isHolding 6 = .ok (.iconst 1, 1) := by decide +kernel
theorem dX4_isHolding_7 : decode cX4_isHolding 7 = .ok (.iload_n 1, 1) := by decide +kernel
theorem dX4_isHolding_8 : decode cX4_isHolding 8 = .ok (.ishl, 1) := by decide +kernel
theorem dX4_isHolding_9 : decode cX4_isHolding 9 = .ok (.iand, 1) := by decide +kernel
theorem dX4_isHolding_10 : decode cX4_isHolding 10 = .ok (.ifCond .eq 7, 3) := by decide +kernel
theorem dX4_isHolding_13 : decode cX4_isHolding 13 = .ok (.iconst 1, 1) := by decide +kernel
theorem dX4_isHolding_14 : decode cX4_isHolding 14 = .ok (.goto 4, 3) := by decide +kernel
theorem dX4_isHolding_17 : decode cX4_isHolding 17 = .ok (.iconst 0, 1) := by decide +kernel
theorem dX4_isHolding_18 : decode cX4_isHolding 18 = .ok (.ireturn, 1) := by decide +kernel
theorem dX4_makeLoan_0 : decode cX4_makeLoan 0 = .ok (.iload_n 1, 1) := by decide +kernel
theorem dX4_makeLoan_1 : decode cX4_makeLoan 1 = .ok (.invokestatic 58, 3) := by decide +kernel
theorem dX4_makeLoan_4 : decode cX4_makeLoan 4 = .ok (.ifCond .eq 17, 3) := by decide +kernel
theorem dX4_makeLoan_7 : decode cX4_makeLoan 7 = .ok (.iload_n 2, 1) := by decide +kernel
theorem dX4_makeLoan_8 : decode cX4_makeLoan 8 = .ok (.invokestatic 58, 3) := by decide +kernel
theorem dX4_makeLoan_11 : decode cX4_makeLoan 11 = .ok (.ifCond .eq 10, 3) := by decide +kernel
theorem dX4_makeLoan_14 : decode cX4_makeLoan 14 = .ok (.iload_n 3, 1) := by decide +kernel
theorem dX4_makeLoan_15 : decode cX4_makeLoan 15 = .ok (.invokestatic 62, 3) := by decide +kernel
theorem dX4_makeLoan_18 : decode cX4_makeLoan 18 = .ok (.ifCond .ne 5, 3) := by decide +kernel
theorem dX4_makeLoan_21 : decode cX4_makeLoan 21 = .ok (.iconst (-1), 1) := by decide +kernel
theorem dX4_makeLoan_22 : decode cX4_makeLoan 22 = .ok (.ireturn, 1) := by decide +kernel
theorem dX4_makeLoan_23 : decode cX4_makeLoan 23 = .ok (.iload 4, 2) := by decide +kernel
theorem dX4_makeLoan_25 : decode cX4_makeLoan 25 = .ok (.iconst 1, 1) := by decide +kernel
theorem dX4_makeLoan_26 : decode cX4_makeLoan 26 = .ok (.if_icmp .lt 15, 3) := by decide +kernel
theorem dX4_makeLoan_29 : decode cX4_makeLoan 29 = .ok (.iload 4, 2) := by decide +kernel
theorem dX4_makeLoan_31 : decode cX4_makeLoan 31 = .ok (.bipush 64, 2) := by decide +kernel
theorem dX4_makeLoan_33 : decode cX4_makeLoan 33 = .ok (.if_icmp .gt 8, 3) := by decide +kernel
theorem dX4_makeLoan_36 : decode cX4_makeLoan 36 = .ok (.iload_n 1, 1) := by decide +kernel
theorem dX4_makeLoan_37 : decode cX4_makeLoan 37 = .ok (.iload_n 2, 1) := by decide +kernel
theorem dX4_makeLoan_38 : decode cX4_makeLoan 38 = .ok (.if_icmp .ne 6, 3) := by decide +kernel
theorem dX4_makeLoan_41 : decode cX4_makeLoan 41 = .ok (.bipush (-2), 2) := by decide +kernel
theorem dX4_makeLoan_43 : decode cX4_makeLoan 43 = .ok (.ireturn, 1) := by decide +kernel
theorem dX4_makeLoan_44 : decode cX4_makeLoan 44 = .ok (.aload_n 0, 1) := by decide +kernel
theorem dX4_makeLoan_45 : decode cX4_makeLoan 45 = .ok (.iload_n 1, 1) := by decide +kernel
theorem dX4_makeLoan_46 : decode cX4_makeLoan 46 = .ok (.iload_n 3, 1) := by decide +kernel
theorem dX4_makeLoan_47 : decode cX4_makeLoan 47 = .ok (.invokevirtual 65, 3) := by decide +kernel
theorem dX4_makeLoan_50 : decode cX4_makeLoan 50 = .ok (.iload 4, 2) := by decide +kernel
theorem dX4_makeLoan_52 : decode cX4_makeLoan 52 = .ok (.if_icmp .lt 12, 3) := by decide +kernel
theorem dX4_makeLoan_55 : decode cX4_makeLoan 55 = .ok (.aload_n 0, 1) := by decide +kernel
theorem dX4_makeLoan_56 : decode cX4_makeLoan 56 = .ok (.iload_n 1, 1) := by decide +kernel
theorem dX4_makeLoan_57 : decode cX4_makeLoan 57 = .ok (.iload_n 3, 1) := by decide +kernel
theorem dX4_makeLoan_58 : decode cX4_makeLoan 58 = .ok (.invokevirtual 69, 3) := by decide +kernel
theorem dX4_makeLoan_61 : decode cX4_makeLoan 61 = .ok (.ifCond .eq 6, 3) := by decide +kernel
theorem dX4_makeLoan_64 : decode cX4_makeLoan 64 = .ok (.bipush (-4), 2) := by decide +kernel
theorem dX4_makeLoan_66 : decode cX4_makeLoan 66 = .ok (.ireturn, 1) := by decide +kernel
theorem dX4_makeLoan_67 : decode cX4_makeLoan 67 = .ok (.aload_n 0, 1) := by decide +kernel
theorem dX4_makeLoan_68 : decode cX4_makeLoan 68 = .ok (.getfield 37, 3) := by decide +kernel
theorem dX4_makeLoan_71 : decode cX4_makeLoan 71 = .ok (.invokevirtual 73, 3) := by decide +kernel
theorem dX4_makeLoan_74 : decode cX4_makeLoan 74 = .ok (.ifCond .ne 6, 3) := by decide +kernel
theorem dX4_makeLoan_77 : decode cX4_makeLoan 77 = .ok (.bipush (-3), 2) := by decide +kernel
theorem dX4_makeLoan_79 : decode cX4_makeLoan 79 = .ok (.ireturn, 1) := by decide +kernel
theorem dX4_makeLoan_80 : decode cX4_makeLoan 80 = .ok (.aload_n 0, 1) := by decide +kernel
theorem dX4_makeLoan_81 : decode cX4_makeLoan 81 = .ok (.iload_n 1, 1) := by decide +kernel
theorem dX4_makeLoan_82 : decode cX4_makeLoan 82 = .ok (.iload_n 2, 1) := by decide +kernel
theorem dX4_makeLoan_83 : decode cX4_makeLoan 83 = .ok (.iload_n 3, 1) := by decide +kernel
theorem dX4_makeLoan_84 : decode cX4_makeLoan 84 = .ok (.iload 4, 2) := by decide +kernel
theorem dX4_makeLoan_86 : decode cX4_makeLoan 86 = .ok (.invokevirtual 77, 3) := by decide +kernel
theorem dX4_makeLoan_89 : decode cX4_makeLoan 89 = .ok (.aload_n 0, 1) := by decide +kernel
theorem dX4_makeLoan_90 : decode cX4_makeLoan 90 = .ok (.getfield 37, 3) := by decide +kernel
theorem dX4_makeLoan_93 : decode cX4_makeLoan 93 = .ok (.iload_n 1, 1) := by decide +kernel
theorem dX4_makeLoan_94 : decode cX4_makeLoan 94 = .ok (.iload_n 2, 1) := by decide +kernel
theorem dX4_makeLoan_95 : decode cX4_makeLoan 95 = .ok (.iload_n 3, 1) := by decide +kernel
theorem dX4_makeLoan_96 : decode cX4_makeLoan 96 = .ok (.iload 4, 2) := by decide +kernel
theorem dX4_makeLoan_98 : decode cX4_makeLoan 98 = .ok (.invokevirtual 81, 3) := by decide +kernel
theorem dX4_makeLoan_101 : decode cX4_makeLoan 101 = .ok (.ireturn, 1) := by decide +kernel
theorem dX4_makeHalfLoan_0 : decode cX4_makeHalfLoan 0 = .ok (.iload_n 1, 1) := by decide +kernel
theorem dX4_makeHalfLoan_1 : decode cX4_makeHalfLoan 1 = .ok (.invokestatic 58, 3) := by decide +kernel
theorem dX4_makeHalfLoan_4 : decode cX4_makeHalfLoan 4 = .ok (.ifCond .eq 17, 3) := by decide +kernel
theorem dX4_makeHalfLoan_7 : decode cX4_makeHalfLoan 7 = .ok (.iload_n 2, 1) := by decide +kernel
theorem dX4_makeHalfLoan_8 : decode cX4_makeHalfLoan 8 = .ok (.invokestatic 58, 3) := by decide +kernel
theorem dX4_makeHalfLoan_11 : decode cX4_makeHalfLoan 11 = .ok (.ifCond .eq 10, 3) := by decide +kernel
theorem dX4_makeHalfLoan_14 : decode cX4_makeHalfLoan 14 = .ok (.iload_n 3, 1) := by decide +kernel
theorem dX4_makeHalfLoan_15 : decode cX4_makeHalfLoan 15 = .ok (.invokestatic 62, 3) := by decide +kernel
theorem dX4_makeHalfLoan_18 : decode cX4_makeHalfLoan 18 = .ok (.ifCond .ne 5, 3) := by decide +kernel
theorem dX4_makeHalfLoan_21 : decode cX4_makeHalfLoan 21 = .ok (.iconst (-1), 1) := by decide +kernel
theorem dX4_makeHalfLoan_22 : decode cX4_makeHalfLoan 22 = .ok (.ireturn, 1) := by decide +kernel
theorem dX4_makeHalfLoan_23 : decode cX4_makeHalfLoan 23 = .ok (.iload_n 1, 1) := by decide +kernel
theorem dX4_makeHalfLoan_24 : decode cX4_makeHalfLoan 24 = .ok (.iload_n 2, 1) := by decide +kernel
theorem dX4_makeHalfLoan_25 : decode cX4_makeHalfLoan 25 = .ok (.if_icmp .ne 6, 3) := by decide +kernel
theorem dX4_makeHalfLoan_28 : decode cX4_makeHalfLoan 28 = .ok (.bipush (-2), 2) := by decide +kernel
theorem dX4_makeHalfLoan_30 : decode cX4_makeHalfLoan 30 = .ok (.ireturn, 1) := by decide +kernel
theorem dX4_makeHalfLoan_31 : decode cX4_makeHalfLoan 31 = .ok (.aload_n 0, 1) := by decide +kernel
theorem dX4_makeHalfLoan_32 : decode cX4_makeHalfLoan 32 = .ok (.iload_n 1, 1) := by decide +kernel
theorem dX4_makeHalfLoan_33 : decode cX4_makeHalfLoan 33 = .ok (.iload_n 3, 1) := by decide +kernel
theorem dX4_makeHalfLoan_34 : decode cX4_makeHalfLoan 34 = .ok (.invokevirtual 65, 3) := by decide +kernel
theorem dX4_makeHalfLoan_37 : decode cX4_makeHalfLoan 37 = .ok (.iconst 2, 1) := by decide +kernel
theorem dX4_makeHalfLoan_38 : decode cX4_makeHalfLoan 38 = .ok (.idiv, 1) := by decide +kernel
theorem dX4_makeHalfLoan_39 : decode cX4_makeHalfLoan 39 = .ok (.istore 4, 2) := by decide +kernel
theorem dX4_makeHalfLoan_41 : decode cX4_makeHalfLoan 41 = .ok (.iload 4, 2) := by decide +kernel
theorem dX4_makeHalfLoan_43 : decode cX4_makeHalfLoan 43 = .ok (.ifCond .ne 6, 3) := by decide +kernel
theorem dX4_makeHalfLoan_46 : decode cX4_makeHalfLoan 46 = .ok (.bipush (-4), 2) := by decide +kernel
theorem dX4_makeHalfLoan_48 : decode cX4_makeHalfLoan 48 = .ok (.ireturn, 1) := by decide +kernel
theorem dX4_makeHalfLoan_49 : decode cX4_makeHalfLoan 49 = .ok (.aload_n 0, 1) := by decide +kernel
theorem dX4_makeHalfLoan_50 : decode cX4_makeHalfLoan 50 = .ok (.iload_n 1, 1) := by decide +kernel
theorem dX4_makeHalfLoan_51 : decode cX4_makeHalfLoan 51 = .ok (.iload_n 2, 1) := by decide +kernel
theorem dX4_makeHalfLoan_52 : decode cX4_makeHalfLoan 52 = .ok (.iload_n 3, 1) := by decide +kernel
theorem dX4_makeHalfLoan_53 : decode cX4_makeHalfLoan 53 = .ok (.iload 4, 2) := by decide +kernel
theorem dX4_makeHalfLoan_55 : decode cX4_makeHalfLoan 55 = .ok (.invokevirtual 85, 3) := by decide +kernel
theorem dX4_makeHalfLoan_58 : decode cX4_makeHalfLoan 58 = .ok (.istore 5, 2) := by decide +kernel
theorem dX4_makeHalfLoan_60 : decode cX4_makeHalfLoan 60 = .ok (.iload 5, 2) := by decide +kernel
theorem dX4_makeHalfLoan_62 : decode cX4_makeHalfLoan 62 = .ok (.ifCond .ge 8, 3) := by decide +kernel
theorem dX4_makeHalfLoan_65 : decode cX4_makeHalfLoan 65 = .ok (.iload 5, 2) := by decide +kernel
theorem dX4_makeHalfLoan_67 : decode cX4_makeHalfLoan 67 = .ok (.goto 5, 3) := by decide +kernel
theorem dX4_makeHalfLoan_70 : decode cX4_makeHalfLoan 70 = .ok (.iload 4, 2) := by decide +kernel
theorem dX4_makeHalfLoan_72 : decode cX4_makeHalfLoan 72 = .ok (.ireturn, 1) := by decide +kernel
theorem dX4_endLoan_0 : decode cX4_endLoan 0 = .ok (.aload_n 0, 1) := by decide +kernel
theorem dX4_endLoan_1 : decode cX4_endLoan 1 = .ok (.getfield 37, 3) := by decide +kernel
theorem dX4_endLoan_4 : decode cX4_endLoan 4 = .ok (.iload_n 1, 1) := by decide +kernel
theorem dX4_endLoan_5 : decode cX4_endLoan 5 = .ok (.invokevirtual 88, 3) := by decide +kernel
theorem dX4_endLoan_8 : decode cX4_endLoan 8 = .ok (.istore_n 2, 1) := by decide +kernel
theorem dX4_endLoan_9 : decode cX4_endLoan 9 = .ok (.iload_n 2, 1) := by decide +kernel
theorem dX4_endLoan_10 : decode cX4_endLoan 10 = .ok (.ifCond .ge 5, 3) := by decide +kernel
theorem dX4_endLoan_13 : decode cX4_endLoan 13 = .ok (.iconst (-1), 1) := by decide +kernel
theorem dX4_endLoan_14 : decode cX4_endLoan 14 = .ok (.ireturn, 1) := by decide +kernel
theorem dX4_endLoan_15 : decode cX4_endLoan 15 = .ok (.aload_n 0, 1) := by decide +kernel
theorem dX4_endLoan_16 : decode cX4_endLoan 16 = .ok (.iload_n 2, 1) := by decide +kernel
theorem dX4_endLoan_17 : decode cX4_endLoan 17 = .ok (.invokevirtual 92, 3) := by decide +kernel
theorem dX4_endLoan_20 : decode cX4_endLoan 20 = .ok (.ifCond .ne 6, 3) := by decide +kernel
theorem dX4_endLoan_23 : decode cX4_endLoan 23 = .ok (.bipush (-4), 2) := by decide +kernel
theorem dX4_endLoan_25 : decode cX4_endLoan 25 = .ok (.ireturn, 1) := by decide +kernel
theorem dX4_endLoan_26 : decode cX4_endLoan 26 = .ok (.aload_n 0, 1) := by decide +kernel
theorem dX4_endLoan_27 : decode cX4_endLoan 27 = .ok (.getfield 37, 3) := by decide +kernel
theorem dX4_endLoan_30 : decode cX4_endLoan 30 = .ok (.getfield 95, 3) := by decide +kernel
theorem dX4_endLoan_33 : decode cX4_endLoan 33 = .ok (.iload_n 2, 1) := by decide +kernel
theorem dX4_endLoan_34 : decode cX4_endLoan 34 = .ok (.iaload, 1) := by decide +kernel
theorem dX4_endLoan_35 : decode cX4_endLoan 35 = .ok (.istore_n 3, 1) := by decide +kernel
theorem dX4_endLoan_36 : decode cX4_endLoan 36 = .ok (.aload_n 0, 1) := by decide +kernel
theorem dX4_endLoan_37 : decode cX4_endLoan 37 = .ok (.getfield 37, 3) := by decide +kernel
theorem dX4_endLoan_40 : decode cX4_endLoan 40 = .ok (.getfield 98, 3) := by decide +kernel
theorem dX4_endLoan_43 : decode cX4_endLoan 43 = .ok (.iload_n 2, 1) := by decide +kernel
theorem dX4_endLoan_44 : decode cX4_endLoan 44 = .ok (.iaload, 1) := by decide +kernel
theorem dX4_endLoan_45 : decode cX4_endLoan 45 = .ok (.istore 4, 2) := by decide +kernel
theorem dX4_endLoan_47 : decode cX4_endLoan 47 = .ok (.aload_n 0, 1) := by decide +kernel
theorem dX4_endLoan_48 : decode cX4_endLoan 48 = .ok (.aload_n 0, 1) := by decide +kernel
theorem dX4_endLoan_49 : decode cX4_endLoan 49 = .ok (.getfield 37, 3) := by decide +kernel
theorem dX4_endLoan_52 : decode cX4_endLoan 52 = .ok (.getfield 101, 3) := by decide +kernel
theorem dX4_endLoan_55 : decode cX4_endLoan 55 = .ok (.iload_n 2, 1) := by decide +kernel
theorem dX4_endLoan_56 : decode cX4_endLoan 56 = .ok (.iaload, 1) := by decide +kernel
theorem dX4_endLoan_57 : decode cX4_endLoan 57 = .ok (.iload_n 3, 1) := by decide +kernel
theorem dX4_endLoan_58 : decode cX4_endLoan 58 = .ok (.iload 4, 2) := by decide +kernel
theorem dX4_endLoan_60 : decode cX4_endLoan 60 = .ok (.aload_n 0, 1) := by decide +kernel
theorem dX4_endLoan_61 : decode cX4_endLoan 61 = .ok (.getfield 37, 3) := by decide +kernel
theorem dX4_endLoan_64 : decode cX4_endLoan 64 = .ok (.getfield 104, 3) := by decide +kernel
theorem dX4_endLoan_67 : decode cX4_endLoan 67 = .ok (.iload_n 2, 1) := by decide +kernel
theorem dX4_endLoan_68 : decode cX4_endLoan 68 = .ok (.iaload, 1) := by decide +kernel
theorem dX4_endLoan_69 : decode cX4_endLoan 69 = .ok (.invokevirtual 77, 3) := by decide +kernel
theorem dX4_endLoan_72 : decode cX4_endLoan 72 = .ok (.aload_n 0, 1) := by decide +kernel
theorem dX4_endLoan_73 : decode cX4_endLoan 73 = .ok (.getfield 37, 3) := by decide +kernel
theorem dX4_endLoan_76 : decode cX4_endLoan 76 = .ok (.iload_n 2, 1) := by decide +kernel
theorem dX4_endLoan_77 : decode cX4_endLoan 77 = .ok (.invokevirtual 107, 3) := by decide +kernel
theorem dX4_endLoan_80 : decode cX4_endLoan 80 = .ok (.aload_n 0, 1) := by decide +kernel
theorem dX4_endLoan_81 : decode cX4_endLoan 81 = .ok (.iload_n 3, 1) := by decide +kernel
theorem dX4_endLoan_82 : decode cX4_endLoan 82 = .ok (.iload 4, 2) := by decide +kernel
theorem dX4_endLoan_84 : decode cX4_endLoan 84 = .ok (.invokevirtual 65, 3) := by decide +kernel
theorem dX4_endLoan_87 : decode cX4_endLoan 87 = .ok (.ireturn, 1) := by decide +kernel
theorem dX4_canEndLoan_0 : decode cX4_canEndLoan 0 = .ok (.aload_n 0, 1) := by decide +kernel
theorem dX4_canEndLoan_1 : decode cX4_canEndLoan 1 = .ok (.getfield 37, 3) := by decide +kernel
theorem dX4_canEndLoan_4 : decode cX4_canEndLoan 4 = .ok (.getfield 101, 3) := by decide +kernel
theorem dX4_canEndLoan_7 : decode cX4_canEndLoan 7 = .ok (.iload_n 1, 1) := by decide +kernel
theorem dX4_canEndLoan_8 : decode cX4_canEndLoan 8 = .ok (.iaload, 1) := by decide +kernel
theorem dX4_canEndLoan_9 : decode cX4_canEndLoan 9 = .ok (.istore_n 2, 1) := by decide +kernel
theorem dX4_canEndLoan_10 : decode cX4_canEndLoan 10 = .ok (.aload_n 0, 1) := by decide +kernel
theorem dX4_canEndLoan_11 : decode cX4_canEndLoan 11 = .ok (.getfield 37, 3) := by decide +kernel
theorem dX4_canEndLoan_14 : decode cX4_canEndLoan 14 = .ok (.getfield 98, 3) := by decide +kernel
theorem dX4_canEndLoan_17 : decode cX4_canEndLoan 17 = .ok (.iload_n 1, 1) := by decide +kernel
theorem dX4_canEndLoan_18 : decode cX4_canEndLoan 18 = .ok (.iaload, 1) := by decide +kernel
theorem dX4_canEndLoan_19 : decode cX4_canEndLoan 19 = .ok (.istore_n 3, 1) := by decide +kernel
theorem dX4_canEndLoan_20 : decode cX4_canEndLoan 20 = .ok (.aload_n 0, 1) := by decide +kernel
theorem dX4_canEndLoan_21 : decode cX4_canEndLoan 21 = .ok (.iload_n 2, 1) := by decide +kernel
theorem dX4_canEndLoan_22 : decode cX4_canEndLoan 22 = .ok (.iload_n 3, 1) := by decide +kernel
theorem dX4_canEndLoan_23 : decode cX4_canEndLoan 23 = .ok (.invokevirtual 65, 3) := by decide +kernel
theorem dX4_canEndLoan_26 : decode cX4_canEndLoan 26 = .ok (.aload_n 0, 1) := by decide +kernel
theorem dX4_canEndLoan_27 : decode cX4_canEndLoan 27 = .ok (.getfield 37, 3) := by decide +kernel
theorem dX4_canEndLoan_30 : decode cX4_canEndLoan 30 = .ok (.getfield 104, 3) := by decide +kernel
theorem dX4_canEndLoan_33 : decode cX4_canEndLoan 33 = .ok (.iload_n 1, 1) := by decide +kernel
theorem dX4_canEndLoan_34 : decode cX4_canEndLoan 34 = .ok (.iaload, 1) := by decide +kernel
theorem dX4_canEndLoan_35 : decode cX4_canEndLoan 35 = .ok (.if_icmp .lt 16, 3) := by decide +kernel
theorem dX4_canEndLoan_38 : decode cX4_canEndLoan 38 = .ok (.aload_n 0, 1) := by decide +kernel
theorem dX4_canEndLoan_39 : decode cX4_canEndLoan 39 = .ok (.iload_n 2, 1) := by decide +kernel
theorem dX4_canEndLoan_40 : decode cX4_canEndLoan 40 = .ok (.iload_n 3, 1) := by decide +kernel
theorem dX4_canEndLoan_41 : decode cX4_canEndLoan 41 = .ok (.invokevirtual 69, 3) := by decide +kernel
theorem dX4_canEndLoan_44 : decode cX4_canEndLoan 44 = .ok (.ifCond .ne 7, 3) := by decide +kernel
theorem dX4_canEndLoan_47 : decode cX4_canEndLoan 47 = .ok (.iconst 1, 1) := by decide +kernel
theorem dX4_canEndLoan_48 : decode cX4_canEndLoan 48 = .ok (.goto 4, 3) := by decide +kernel
theorem dX4_canEndLoan_51 : decode cX4_canEndLoan 51 = .ok (.iconst 0, 1) := by decide +kernel
theorem dX4_canEndLoan_52 : decode cX4_canEndLoan 52 = .ok (.ireturn, 1) := by decide +kernel
theorem dX4_moveParts_0 : decode cX4_moveParts 0 = .ok (.aload_n 0, 1) := by decide +kernel
theorem dX4_moveParts_1 : decode cX4_moveParts 1 = .ok (.getfield 21, 3) := by decide +kernel
theorem dX4_moveParts_4 : decode cX4_moveParts 4 = .ok (.iload_n 3, 1) := by decide +kernel
theorem dX4_moveParts_5 : decode cX4_moveParts 5 = .ok (.bipush 6, 2) := by decide +kernel
theorem dX4_moveParts_7 : decode cX4_moveParts 7 = .ok (.imul, 1) := by decide +kernel
theorem dX4_moveParts_8 : decode cX4_moveParts 8 = .ok (.iload_n 1, 1) := by decide +kernel
theorem dX4_moveParts_9 : decode cX4_moveParts 9 = .ok (.iadd, 1) := by decide +kernel
theorem dX4_moveParts_10 : decode cX4_moveParts 10 = .ok (.dup2, 1) := by decide +kernel
theorem dX4_moveParts_11 : decode cX4_moveParts 11 = .ok (.iaload, 1) := by decide +kernel
theorem dX4_moveParts_12 : decode cX4_moveParts 12 = .ok (.iload 4, 2) := by decide +kernel
theorem dX4_moveParts_14 : decode cX4_moveParts 14 = .ok (.isub, 1) := by decide +kernel
theorem dX4_moveParts_15 : decode cX4_moveParts 15 = .ok (.iastore, 1) := by decide +kernel
theorem dX4_moveParts_16 : decode cX4_moveParts 16 = .ok (.aload_n 0, 1) := by decide +kernel
theorem dX4_moveParts_17 : decode cX4_moveParts 17 = .ok (.getfield 21, 3) := by decide +kernel
theorem dX4_moveParts_20 : decode cX4_moveParts 20 = .ok (.iload_n 3, 1) := by decide +kernel
theorem dX4_moveParts_21 : decode cX4_moveParts 21 = .ok (.bipush 6, 2) := by decide +kernel
theorem dX4_moveParts_23 : decode cX4_moveParts 23 = .ok (.imul, 1) := by decide +kernel
theorem dX4_moveParts_24 : decode cX4_moveParts 24 = .ok (.iload_n 2, 1) := by decide +kernel
theorem dX4_moveParts_25 : decode cX4_moveParts 25 = .ok (.iadd, 1) := by decide +kernel
theorem dX4_moveParts_26 : decode cX4_moveParts 26 = .ok (.dup2, 1) := by decide +kernel
theorem dX4_moveParts_27 : decode cX4_moveParts 27 = .ok (.iaload, 1) := by decide +kernel
theorem dX4_moveParts_28 : decode cX4_moveParts 28 = .ok (.iload 4, 2) := by decide +kernel
theorem dX4_moveParts_30 : decode cX4_moveParts 30 = .ok (.iadd, 1) := by decide +kernel
theorem dX4_moveParts_31 : decode cX4_moveParts 31 = .ok (.iastore, 1) := by decide +kernel
theorem dX4_moveParts_32 : decode cX4_moveParts 32 = .ok (.return_, 1) := by decide +kernel
theorem dX4_setHolding_0 : decode cX4_setHolding 0 = .ok (.iload_n 1, 1) := by decide +kernel
theorem dX4_setHolding_1 : decode cX4_setHolding 1 = .ok (.invokestatic 58, 3) := by decide +kernel
theorem dX4_setHolding_4 : decode cX4_setHolding 4 = .ok (.ifCond .eq 10, 3) := by decide +kernel
theorem dX4_setHolding_7 : decode cX4_setHolding 7 = .ok (.iload_n 2, 1) := by decide +kernel
theorem dX4_setHolding_8 : decode cX4_setHolding 8 = .ok (.invokestatic 62, 3) := by decide +kernel
theorem dX4_setHolding_11 : decode cX4_setHolding 11 = .ok (.ifCond .ne 5, 3) := by decide +kernel
theorem dX4_setHolding_14 : decode cX4_setHolding 14 = .ok (.iconst (-1), 1) := by decide +kernel
theorem dX4_setHolding_15 : decode cX4_setHolding 15 = .ok (.ireturn, 1) := by decide +kernel
theorem dX4_setHolding_16 : decode cX4_setHolding 16 = .ok (.iload_n 3, 1) := by decide +kernel
theorem dX4_setHolding_17 : decode cX4_setHolding 17 = .ok (.ifCond .eq 15, 3) := by decide +kernel
theorem dX4_setHolding_20 : decode cX4_setHolding 20 = .ok (.aload_n 0, 1) := by decide +kernel
theorem dX4_setHolding_21 : decode cX4_setHolding 21 = .ok (.iload_n 1, 1) := by decide +kernel
theorem dX4_setHolding_22 : decode cX4_setHolding 22 = .ok (.iload_n 2, 1) := by decide +kernel
theorem dX4_setHolding_23 : decode cX4_setHolding 23 = .ok (.invokevirtual 65, 3) := by decide +kernel
theorem dX4_setHolding_26 : decode cX4_setHolding 26 = .ok (.ifCond .ne 6, 3) := by decide +kernel
theorem dX4_setHolding_29 : decode cX4_setHolding 29 = .ok (.bipush (-4), 2) := by decide +kernel
theorem dX4_setHolding_31 : decode cX4_setHolding 31 = .ok (.ireturn, 1) := by decide +kernel
theorem dX4_setHolding_32 : decode cX4_setHolding 32 = .ok (.iload_n 3, 1) := by decide +kernel
theorem dX4_setHolding_33 : decode cX4_setHolding 33 = .ok (.aload_n 0, 1) := by decide +kernel
theorem dX4_setHolding_34 : decode cX4_setHolding 34 = .ok (.iload_n 1, 1) := by decide +kernel
theorem dX4_setHolding_35 : decode cX4_setHolding 35 = .ok (.iload_n 2, 1) := by decide +kernel
theorem dX4_setHolding_36 : decode cX4_setHolding 36 = .ok (.invokevirtual 69, 3) := by decide +kernel
theorem dX4_setHolding_39 : decode cX4_setHolding 39 = .ok (.if_icmp .ne 6, 3) := by decide +kernel
theorem dX4_setHolding_42 : decode cX4_setHolding 42 = .ok (.bipush (-5), 2) := by decide +kernel
theorem dX4_setHolding_44 : decode cX4_setHolding 44 = .ok (.ireturn, 1) := by decide +kernel
theorem dX4_setHolding_45 : decode cX4_setHolding 45 = .ok (.aload_n 0, 1) := by decide +kernel
theorem dX4_setHolding_46 : decode cX4_setHolding 46 = .ok (.getfield 24, 3) := by decide +kernel
theorem dX4_setHolding_49 : decode cX4_setHolding 49 = .ok (.iload_n 2, 1) := by decide +kernel
theorem dX4_setHolding_50 : decode cX4_setHolding 50 = .ok (.dup2, 1) := by decide +kernel
theorem dX4_setHolding_51 : decode cX4_setHolding 51 = .ok (.iaload, 1) := by decide +kernel
theorem dX4_setHolding_52 : decode cX4_setHolding 52 = .ok (.iconst 1, 1) := by decide +kernel
theorem dX4_setHolding_53 : decode cX4_setHolding 53 = .ok (.iload_n 1, 1) := by decide +kernel
theorem dX4_setHolding_54 : decode cX4_setHolding 54 = .ok (.ishl, 1) := by decide +kernel
theorem dX4_setHolding_55 : decode cX4_setHolding 55 = .ok (.ixor, 1) := by decide +kernel
theorem dX4_setHolding_56 : decode cX4_setHolding 56 = .ok (.iastore, 1) := by decide +kernel
theorem dX4_setHolding_57 : decode cX4_setHolding 57 = .ok (.aload_n 0, 1) := by decide +kernel
theorem dX4_setHolding_58 : decode cX4_setHolding 58 = .ok (.getfield 9, 3) := by decide +kernel
theorem dX4_setHolding_61 : decode cX4_setHolding 61 = .ok (.iload_n 2, 1) := by decide +kernel
theorem dX4_setHolding_62 : decode cX4_setHolding 62 = .ok (.iaload, 1) := by decide +kernel
theorem dX4_setHolding_63 : decode cX4_setHolding 63 = .ok (.ireturn, 1) := by decide +kernel
theorem dX4_writeValue_0 : decode cX4_writeValue 0 = .ok (.iload_n 1, 1) := by decide +kernel
theorem dX4_writeValue_1 : decode cX4_writeValue 1 = .ok (.invokestatic 58, 3) := by decide +kernel
theorem dX4_writeValue_4 : decode cX4_writeValue 4 = .ok (.ifCond .eq 10, 3) := by decide +kernel
theorem dX4_writeValue_7 : decode cX4_writeValue 7 = .ok (.iload_n 2, 1) := by decide +kernel
theorem dX4_writeValue_8 : decode cX4_writeValue 8 = .ok (.invokestatic 62, 3) := by decide +kernel
theorem dX4_writeValue_11 : decode cX4_writeValue 11 = .ok (.ifCond .ne 5, 3) := by decide +kernel
theorem dX4_writeValue_14 : decode cX4_writeValue 14 = .ok (.iconst (-1), 1) := by decide +kernel
theorem dX4_writeValue_15 : decode cX4_writeValue 15 = .ok (.ireturn, 1) := by decide +kernel
theorem dX4_writeValue_16 : decode cX4_writeValue 16 = .ok (.iload_n 3, 1) := by decide +kernel
theorem dX4_writeValue_17 : decode cX4_writeValue 17 = .ok (.ifCond .lt 10, 3) := by decide +kernel
theorem dX4_writeValue_20 : decode cX4_writeValue 20 = .ok (.iload_n 3, 1) := by decide +kernel
theorem dX4_writeValue_21 : decode cX4_writeValue 21 = .ok (.sipush 999, 3) := by decide +kernel
theorem dX4_writeValue_24 : decode cX4_writeValue 24 = .ok (.if_icmp .le 6, 3) := by decide +kernel
theorem dX4_writeValue_27 : decode cX4_writeValue 27 = .ok (.bipush (-2), 2) := by decide +kernel
theorem dX4_writeValue_29 : decode cX4_writeValue 29 = .ok (.ireturn, 1) := by decide +kernel
theorem dX4_writeValue_30 : decode cX4_writeValue 30 = .ok (.aload_n 0, 1) := by decide +kernel
theorem dX4_writeValue_31 : decode cX4_writeValue 31 = .ok (.iload_n 1, 1) := by decide +kernel
theorem dX4_writeValue_32 : decode cX4_writeValue 32 = .ok (.iload_n 2, 1) := by decide +kernel
theorem dX4_writeValue_33 : decode cX4_writeValue 33 = .ok (.invokevirtual 65, 3) := by decide +kernel
theorem dX4_writeValue_36 : decode cX4_writeValue 36 = .ok (.bipush 64, 2) := by decide +kernel
theorem dX4_writeValue_38 : decode cX4_writeValue 38 = .ok (.if_icmp .eq 6, 3) := by decide +kernel
theorem dX4_writeValue_41 : decode cX4_writeValue 41 = .ok (.bipush (-4), 2) := by decide +kernel
theorem dX4_writeValue_43 : decode cX4_writeValue 43 = .ok (.ireturn, 1) := by decide +kernel
theorem dX4_writeValue_44 : decode cX4_writeValue 44 = .ok (.aload_n 0, 1) := by decide +kernel
theorem dX4_writeValue_45 : decode cX4_writeValue 45 = .ok (.getfield 9, 3) := by decide +kernel
theorem dX4_writeValue_48 : decode cX4_writeValue 48 = .ok (.iload_n 2, 1) := by decide +kernel
theorem dX4_writeValue_49 : decode cX4_writeValue 49 = .ok (.iload_n 3, 1) := by decide +kernel
theorem dX4_writeValue_50 : decode cX4_writeValue 50 = .ok (.iastore, 1) := by decide +kernel
theorem dX4_writeValue_51 : decode cX4_writeValue 51 = .ok (.aload_n 0, 1) := by decide +kernel
theorem dX4_writeValue_52 : decode cX4_writeValue 52 = .ok (.getfield 15, 3) := by decide +kernel
theorem dX4_writeValue_55 : decode cX4_writeValue 55 = .ok (.iload_n 2, 1) := by decide +kernel
theorem dX4_writeValue_56 : decode cX4_writeValue 56 = .ok (.dup2, 1) := by decide +kernel
theorem dX4_writeValue_57 : decode cX4_writeValue 57 = .ok (.iaload, 1) := by decide +kernel
theorem dX4_writeValue_58 : decode cX4_writeValue 58 = .ok (.iconst 1, 1) := by decide +kernel
theorem dX4_writeValue_59 : decode cX4_writeValue 59 = .ok (.iadd, 1) := by decide +kernel
theorem dX4_writeValue_60 : decode cX4_writeValue 60 = .ok (.iastore, 1) := by decide +kernel
theorem dX4_writeValue_61 : decode cX4_writeValue 61 = .ok (.aload_n 0, 1) := by decide +kernel
theorem dX4_writeValue_62 : decode cX4_writeValue 62 = .ok (.dup, 1) := by decide +kernel
theorem dX4_writeValue_63 : decode cX4_writeValue 63 = .ok (.getfield 54, 3) := by decide +kernel
theorem dX4_writeValue_66 : decode cX4_writeValue 66 = .ok (.iconst 1, 1) := by decide +kernel
theorem dX4_writeValue_67 : decode cX4_writeValue 67 = .ok (.iadd, 1) := by decide +kernel
theorem dX4_writeValue_68 : decode cX4_writeValue 68 = .ok (.putfield 54, 3) := by decide +kernel
theorem dX4_writeValue_71 : decode cX4_writeValue 71 = .ok (.aload_n 0, 1) := by decide +kernel
theorem dX4_writeValue_72 : decode cX4_writeValue 72 = .ok (.getfield 15, 3) := by decide +kernel
theorem dX4_writeValue_75 : decode cX4_writeValue 75 = .ok (.iload_n 2, 1) := by decide +kernel
theorem dX4_writeValue_76 : decode cX4_writeValue 76 = .ok (.iaload, 1) := by decide +kernel
theorem dX4_writeValue_77 : decode cX4_writeValue 77 = .ok (.ireturn, 1) := by decide +kernel
theorem dX4_setClaim_0 : decode cX4_setClaim 0 = .ok (.iload_n 1, 1) := by decide +kernel
theorem dX4_setClaim_1 : decode cX4_setClaim 1 = .ok (.invokestatic 58, 3) := by decide +kernel
theorem dX4_setClaim_4 : decode cX4_setClaim 4 = .ok (.ifCond .eq 10, 3) := by decide +kernel
theorem dX4_setClaim_7 : decode cX4_setClaim 7 = .ok (.iload_n 2, 1) := by decide +kernel
theorem dX4_setClaim_8 : decode cX4_setClaim 8 = .ok (.invokestatic 62, 3) := by decide +kernel
theorem dX4_setClaim_11 : decode cX4_setClaim 11 = .ok (.ifCond .ne 5, 3) := by decide +kernel
theorem dX4_setClaim_14 : decode cX4_setClaim 14 = .ok (.iconst (-1), 1) := by decide +kernel
theorem dX4_setClaim_15 : decode cX4_setClaim 15 = .ok (.ireturn, 1) := by decide +kernel
theorem dX4_setClaim_16 : decode cX4_setClaim 16 = .ok (.aload_n 0, 1) := by decide +kernel
theorem dX4_setClaim_17 : decode cX4_setClaim 17 = .ok (.getfield 30, 3) := by decide +kernel
theorem dX4_setClaim_20 : decode cX4_setClaim 20 = .ok (.iload_n 1, 1) := by decide +kernel
theorem dX4_setClaim_21 : decode cX4_setClaim 21 = .ok (.iload_n 2, 1) := by decide +kernel
theorem dX4_setClaim_22 : decode cX4_setClaim 22 = .ok (.invokevirtual 111, 3) := by decide +kernel
theorem dX4_setClaim_25 : decode cX4_setClaim 25 = .ok (.istore 4, 2) := by decide +kernel
theorem dX4_setClaim_27 : decode cX4_setClaim 27 = .ok (.iload_n 3, 1) := by decide +kernel
theorem dX4_setClaim_28 : decode cX4_setClaim 28 = .ok (.iload 4, 2) := by decide +kernel
theorem dX4_setClaim_30 : decode cX4_setClaim 30 = .ok (.ifCond .lt 7, 3) := by decide +kernel
theorem dX4_setClaim_33 : decode cX4_setClaim 33 = .ok (.iconst 1, 1) := by decide +kernel
theorem dX4_setClaim_34 : decode cX4_setClaim 34 = .ok (.goto 4, 3) := by decide +kernel
theorem dX4_setClaim_37 : decode cX4_setClaim 37 = .ok (.iconst 0, 1) := by decide +kernel
theorem dX4_setClaim_38 : decode cX4_setClaim 38 = .ok (.if_icmp .ne 6, 3) := by decide +kernel
theorem dX4_setClaim_41 : decode cX4_setClaim 41 = .ok (.bipush (-5), 2) := by decide +kernel
theorem dX4_setClaim_43 : decode cX4_setClaim 43 = .ok (.ireturn, 1) := by decide +kernel
theorem dX4_setClaim_44 : decode cX4_setClaim 44 = .ok (.iload_n 3, 1) := by decide +kernel
theorem dX4_setClaim_45 : decode cX4_setClaim 45 = .ok (.ifCond .eq 15, 3) := by decide +kernel
theorem dX4_setClaim_48 : decode cX4_setClaim 48 = .ok (.aload_n 0, 1) := by decide +kernel
theorem dX4_setClaim_49 : decode cX4_setClaim 49 = .ok (.getfield 30, 3) := by decide +kernel
theorem dX4_setClaim_52 : decode cX4_setClaim 52 = .ok (.iload_n 1, 1) := by decide +kernel
theorem dX4_setClaim_53 : decode cX4_setClaim 53 = .ok (.iload_n 2, 1) := by decide +kernel
theorem dX4_setClaim_54 : decode cX4_setClaim 54 = .ok (.invokevirtual 114, 3) := by decide +kernel
theorem dX4_setClaim_57 : decode cX4_setClaim 57 = .ok (.goto 13, 3) := by decide +kernel
theorem dX4_setClaim_60 : decode cX4_setClaim 60 = .ok (.aload_n 0, 1) := by decide +kernel
theorem dX4_setClaim_61 : decode cX4_setClaim 61 = .ok (.getfield 30, 3) := by decide +kernel
theorem dX4_setClaim_64 : decode cX4_setClaim 64 = .ok (.iload_n 2, 1) := by decide +kernel
theorem dX4_setClaim_65 : decode cX4_setClaim 65 = .ok (.iload 4, 2) := by decide +kernel
theorem dX4_setClaim_67 : decode cX4_setClaim 67 = .ok (.invokevirtual 117, 3) := by decide +kernel
theorem dX4_setClaim_70 : decode cX4_setClaim 70 = .ok (.aload_n 0, 1) := by decide +kernel
theorem dX4_setClaim_71 : decode cX4_setClaim 71 = .ok (.getfield 30, 3) := by decide +kernel
theorem dX4_setClaim_74 : decode cX4_setClaim 74 = .ok (.iload_n 2, 1) := by decide +kernel
theorem dX4_setClaim_75 : decode cX4_setClaim 75 = .ok (.invokevirtual 119, 3) := by decide +kernel
theorem dX4_setClaim_78 : decode cX4_setClaim 78 = .ok (.ireturn, 1) := by decide +kernel
theorem dX4_grantFirstClaim_0 : decode cX4_grantFirstClaim 0 = .ok (.aload_n 0, 1) := by decide +kernel
theorem dX4_grantFirstClaim_1 : decode cX4_grantFirstClaim 1 = .ok (.getfield 30, 3) := by decide +kernel
theorem dX4_grantFirstClaim_4 : decode cX4_grantFirstClaim 4 = .ok (.iload_n 1, 1) := by decide +kernel
theorem dX4_grantFirstClaim_5 : decode cX4_grantFirstClaim 5 = .ok (.invokevirtual 122, 3) := by decide +kernel
theorem dX4_grantFirstClaim_8 : decode cX4_grantFirstClaim 8 = .ok (.istore_n 2, 1) := by decide +kernel
theorem dX4_grantFirstClaim_9 : decode cX4_grantFirstClaim 9 = .ok (.iload_n 2, 1) := by decide +kernel
theorem dX4_grantFirstClaim_10 : decode cX4_grantFirstClaim 10 = .ok (.aload_n 0, 1) := by decide +kernel
theorem dX4_grantFirstClaim_11 : decode cX4_grantFirstClaim 11 = .ok (.getfield 18, 3) := by decide +kernel
theorem dX4_grantFirstClaim_14 : decode cX4_grantFirstClaim 14 = .ok (.iload_n 1, 1) := by decide +kernel
theorem dX4_grantFirstClaim_15 : decode cX4_grantFirstClaim 15 = .ok (.iaload, 1) := by decide +kernel
theorem dX4_grantFirstClaim_16 : decode cX4_grantFirstClaim 16 = .ok (.if_icmp .eq 24, 3) := by decide +kernel
theorem dX4_grantFirstClaim_19 : decode cX4_grantFirstClaim 19 = .ok (.aload_n 0, 1) := by decide +kernel
theorem dX4_grantFirstClaim_20 : decode cX4_grantFirstClaim 20 = .ok (.aload_n 0, 1) := by decide +kernel
theorem dX4_grantFirstClaim_21 : decode cX4_grantFirstClaim 21 = .ok (.getfield 18, 3) := by decide +kernel
theorem dX4_grantFirstClaim_24 : decode cX4_grantFirstClaim 24 = .ok (.iload_n 1, 1) := by decide +kernel
theorem dX4_grantFirstClaim_25 : decode cX4_grantFirstClaim 25 = .ok (.iaload, 1) := by decide +kernel
theorem dX4_grantFirstClaim_26 : decode cX4_grantFirstClaim 26 = .ok (.iload_n 2, 1) := by decide +kernel
theorem dX4_grantFirstClaim_27 : decode cX4_grantFirstClaim 27 = .ok (.iload_n 1, 1) := by decide +kernel
theorem dX4_grantFirstClaim_28 : decode cX4_grantFirstClaim 28 = .ok (.bipush 64, 2) := by decide +kernel
theorem dX4_grantFirstClaim_30 : decode cX4_grantFirstClaim 30 = .ok (.invokevirtual 85, 3) := by decide +kernel
theorem dX4_grantFirstClaim_33 : decode cX4_grantFirstClaim 33 = .ok (.istore_n 3, 1) := by decide +kernel
theorem dX4_grantFirstClaim_34 : decode cX4_grantFirstClaim 34 = .ok (.iload_n 3, 1) := by decide +kernel
theorem dX4_grantFirstClaim_35 : decode cX4_grantFirstClaim 35 = .ok (.ifCond .ge 5, 3) := by decide +kernel
theorem dX4_grantFirstClaim_38 : decode cX4_grantFirstClaim 38 = .ok (.iload_n 3, 1) := by decide +kernel
theorem dX4_grantFirstClaim_39 : decode cX4_grantFirstClaim 39 = .ok (.ireturn, 1) := by decide +kernel
theorem dX4_grantFirstClaim_40 : decode cX4_grantFirstClaim 40 = .ok (.aload_n 0, 1) := by decide +kernel
theorem dX4_grantFirstClaim_41 : decode cX4_grantFirstClaim 41 = .ok (.getfield 30, 3) := by decide +kernel
theorem dX4_grantFirstClaim_44 : decode cX4_grantFirstClaim 44 = .ok (.iload_n 1, 1) := by decide +kernel
theorem dX4_grantFirstClaim_45 : decode cX4_grantFirstClaim 45 = .ok (.iconst 0, 1) := by decide +kernel
theorem dX4_grantFirstClaim_46 : decode cX4_grantFirstClaim 46 = .ok (.invokevirtual 117, 3) := by decide +kernel
theorem dX4_grantFirstClaim_49 : decode cX4_grantFirstClaim 49 = .ok (.iload_n 2, 1) := by decide +kernel
theorem dX4_grantFirstClaim_50 : decode cX4_grantFirstClaim 50 = .ok (.ireturn, 1) := by decide +kernel
theorem dX4_changeOwner_0 : decode cX4_changeOwner 0 = .ok (.iload_n 1, 1) := by decide +kernel
theorem dX4_changeOwner_1 : decode cX4_changeOwner 1 = .ok (.invokestatic 62, 3) := by decide +kernel
theorem dX4_changeOwner_4 : decode cX4_changeOwner 4 = .ok (.ifCond .eq 10, 3) := by decide +kernel
theorem dX4_changeOwner_7 : decode cX4_changeOwner 7 = .ok (.iload_n 2, 1) := by decide +kernel
theorem dX4_changeOwner_8 : decode cX4_changeOwner 8 = .ok (.invokestatic 58, 3) := by decide +kernel
theorem dX4_changeOwner_11 : decode cX4_changeOwner 11 = .ok (.ifCond .ne 5, 3) := by decide +kernel
theorem dX4_changeOwner_14 : decode cX4_changeOwner 14 = .ok (.iconst (-1), 1) := by decide +kernel
theorem dX4_changeOwner_15 : decode cX4_changeOwner 15 = .ok (.ireturn, 1) := by decide +kernel
theorem dX4_changeOwner_16 : decode cX4_changeOwner 16 = .ok (.aload_n 0, 1) := by decide +kernel
theorem dX4_changeOwner_17 : decode cX4_changeOwner 17 = .ok (.getfield 18, 3) := by decide +kernel
theorem dX4_changeOwner_20 : decode cX4_changeOwner 20 = .ok (.iload_n 1, 1) := by decide +kernel
theorem dX4_changeOwner_21 : decode cX4_changeOwner 21 = .ok (.iaload, 1) := by decide +kernel
theorem dX4_changeOwner_22 : decode cX4_changeOwner 22 = .ok (.istore_n 3, 1) := by decide +kernel
theorem dX4_changeOwner_23 : decode cX4_changeOwner 23 = .ok (.aload_n 0, 1) := by decide +kernel
theorem dX4_changeOwner_24 : decode cX4_changeOwner 24 = .ok (.getfield 37, 3) := by decide +kernel
theorem dX4_changeOwner_27 : decode cX4_changeOwner 27 = .ok (.iload_n 1, 1) := by decide +kernel
theorem dX4_changeOwner_28 : decode cX4_changeOwner 28 = .ok (.invokevirtual 125, 3) := by decide +kernel
theorem dX4_changeOwner_31 : decode cX4_changeOwner 31 = .ok (.ifCond .gt 12, 3) := by decide +kernel
theorem dX4_changeOwner_34 : decode cX4_changeOwner 34 = .ok (.aload_n 0, 1) := by decide +kernel
theorem dX4_changeOwner_35 : decode cX4_changeOwner 35 = .ok (.iload_n 3, 1) := by decide +kernel
theorem dX4_changeOwner_36 : decode cX4_changeOwner 36 = .ok (.iload_n 1, 1) := by decide +kernel
theorem dX4_changeOwner_37 : decode cX4_changeOwner 37 = .ok (.invokevirtual 69, 3) := by decide +kernel
theorem dX4_changeOwner_40 : decode cX4_changeOwner 40 = .ok (.ifCond .eq 6, 3) := by decide +kernel
theorem dX4_changeOwner_43 : decode cX4_changeOwner 43 = .ok (.bipush (-4), 2) := by decide +kernel
theorem dX4_changeOwner_45 : decode cX4_changeOwner 45 = .ok (.ireturn, 1) := by decide +kernel
theorem dX4_changeOwner_46 : decode cX4_changeOwner 46 = .ok (.iload_n 2, 1) := by decide +kernel
theorem dX4_changeOwner_47 : decode cX4_changeOwner 47 = .ok (.iload_n 3, 1) := by decide +kernel
theorem dX4_changeOwner_48 : decode cX4_changeOwner 48 = .ok (.if_icmp .ne 6, 3) := by decide +kernel
theorem dX4_changeOwner_51 : decode cX4_changeOwner 51 = .ok (.bipush (-5), 2) := by decide +kernel
theorem dX4_changeOwner_53 : decode cX4_changeOwner 53 = .ok (.ireturn, 1) := by decide +kernel
theorem dX4_changeOwner_54 : decode cX4_changeOwner 54 = .ok (.aload_n 0, 1) := by decide +kernel
theorem dX4_changeOwner_55 : decode cX4_changeOwner 55 = .ok (.iload_n 3, 1) := by decide +kernel
theorem dX4_changeOwner_56 : decode cX4_changeOwner 56 = .ok (.iload_n 2, 1) := by decide +kernel
theorem dX4_changeOwner_57 : decode cX4_changeOwner 57 = .ok (.iload_n 1, 1) := by decide +kernel
theorem dX4_changeOwner_58 : decode cX4_changeOwner 58 = .ok (.bipush 64, 2) := by decide +kernel
theorem dX4_changeOwner_60 : decode cX4_changeOwner 60 = .ok (.invokevirtual 77, 3) := by decide +kernel
theorem dX4_changeOwner_63 : decode cX4_changeOwner 63 = .ok (.aload_n 0, 1) := by decide +kernel
theorem dX4_changeOwner_64 : decode cX4_changeOwner 64 = .ok (.getfield 18, 3) := by decide +kernel
theorem dX4_changeOwner_67 : decode cX4_changeOwner 67 = .ok (.iload_n 1, 1) := by decide +kernel
theorem dX4_changeOwner_68 : decode cX4_changeOwner 68 = .ok (.iload_n 2, 1) := by decide +kernel
theorem dX4_changeOwner_69 : decode cX4_changeOwner 69 = .ok (.iastore, 1) := by decide +kernel
theorem dX4_changeOwner_70 : decode cX4_changeOwner 70 = .ok (.iload_n 3, 1) := by decide +kernel
theorem dX4_changeOwner_71 : decode cX4_changeOwner 71 = .ok (.ireturn, 1) := by decide +kernel
theorem dX4_countReaders_0 : decode cX4_countReaders 0 = .ok (.iconst 0, 1) := by decide +kernel
theorem dX4_countReaders_1 : decode cX4_countReaders 1 = .ok (.istore_n 2, 1) := by decide +kernel
theorem dX4_countReaders_2 : decode cX4_countReaders 2 = .ok (.iconst 0, 1) := by decide +kernel
theorem dX4_countReaders_3 : decode cX4_countReaders 3 = .ok (.istore_n 3, 1) := by decide +kernel
theorem dX4_countReaders_4 : decode cX4_countReaders 4 = .ok (.iload_n 3, 1) := by decide +kernel
theorem dX4_countReaders_5 : decode cX4_countReaders 5 = .ok (.bipush 6, 2) := by decide +kernel
theorem dX4_countReaders_7 : decode cX4_countReaders 7 = .ok (.if_icmp .ge 21, 3) := by decide +kernel
theorem dX4_countReaders_10 : decode cX4_countReaders 10 = .ok (.aload_n 0, 1) := by decide +kernel
theorem dX4_countReaders_11 : decode cX4_countReaders 11 = .ok (.iload_n 3, 1) := by decide +kernel
theorem dX4_countReaders_12 : decode cX4_countReaders 12 = .ok (.iload_n 1, 1) := by decide +kernel
theorem dX4_countReaders_13 : decode cX4_countReaders 13 = .ok (.invokevirtual 65, 3) := by decide +kernel
theorem dX4_countReaders_16 : decode cX4_countReaders 16 = .ok (.ifCond .le 6, 3) := by decide +kernel
theorem dX4_countReaders_19 : decode cX4_countReaders 19 = .ok (.iinc 2 1, 3) := by decide +kernel
theorem dX4_countReaders_22 : decode cX4_countReaders 22 = .ok (.iinc 3 1, 3) := by decide +kernel
theorem dX4_countReaders_25 : decode cX4_countReaders 25 = .ok (.goto (-21), 3) := by decide +kernel
theorem dX4_countReaders_28 : decode cX4_countReaders 28 = .ok (.iload_n 2, 1) := by decide +kernel
theorem dX4_countReaders_29 : decode cX4_countReaders 29 = .ok (.ireturn, 1) := by decide +kernel
theorem dX4_holderOfWhole_0 : decode cX4_holderOfWhole 0 = .ok (.iconst 0, 1) := by decide +kernel
theorem dX4_holderOfWhole_1 : decode cX4_holderOfWhole 1 = .ok (.istore_n 2, 1) := by decide +kernel
theorem dX4_holderOfWhole_2 : decode cX4_holderOfWhole 2 = .ok (.iload_n 2, 1) := by decide +kernel
theorem dX4_holderOfWhole_3 : decode cX4_holderOfWhole 3 = .ok (.bipush 6, 2) := by decide +kernel
theorem dX4_holderOfWhole_5 : decode cX4_holderOfWhole 5 = .ok (.if_icmp .ge 22, 3) := by decide +kernel
theorem dX4_holderOfWhole_8 : decode cX4_holderOfWhole 8 = .ok (.aload_n 0, 1) := by decide +kernel
theorem dX4_holderOfWhole_9 : decode cX4_holderOfWhole 9 = .ok (.iload_n 2, 1) := by decide +kernel
theorem dX4_holderOfWhole_10 : decode cX4_holderOfWhole 10 = .ok (.iload_n 1, 1) := by decide +kernel
theorem dX4_holderOfWhole_11 : decode cX4_holderOfWhole 11 = .ok (.invokevirtual 65, 3) := by decide +kernel
theorem dX4_holderOfWhole_14 : decode cX4_holderOfWhole 14 = .ok (.bipush 64, 2) := by decide +kernel
theorem dX4_holderOfWhole_16 : decode cX4_holderOfWhole 16 = .ok (.if_icmp .ne 5, 3) := by decide +kernel
theorem dX4_holderOfWhole_19 : decode cX4_holderOfWhole 19 = .ok (.iload_n 2, 1) := by decide +kernel
theorem dX4_holderOfWhole_20 : decode cX4_holderOfWhole 20 = .ok (.ireturn, 1) := by decide +kernel
theorem dX4_holderOfWhole_21 : decode cX4_holderOfWhole 21 = .ok (.iinc 2 1, 3) := by decide +kernel
theorem dX4_holderOfWhole_24 : decode cX4_holderOfWhole 24 = .ok (.goto (-22), 3) := by decide +kernel
theorem dX4_holderOfWhole_27 : decode cX4_holderOfWhole 27 = .ok (.bipush (-5), 2) := by decide +kernel
theorem dX4_holderOfWhole_29 : decode cX4_holderOfWhole 29 = .ok (.ireturn, 1) := by decide +kernel
theorem dX4_countWholeCells_0 : decode cX4_countWholeCells 0 = .ok (.iconst 0, 1) := by decide +kernel
theorem dX4_countWholeCells_1 : decode cX4_countWholeCells 1 = .ok (.istore_n 1, 1) := by decide +kernel
theorem dX4_countWholeCells_2 : decode cX4_countWholeCells 2 = .ok (.iconst 0, 1) := by decide +kernel
theorem dX4_countWholeCells_3 : decode cX4_countWholeCells 3 = .ok (.istore_n 2, 1) := by decide +kernel
theorem dX4_countWholeCells_4 : decode cX4_countWholeCells 4 = .ok (.iload_n 2, 1) := by decide +kernel
theorem dX4_countWholeCells_5 : decode cX4_countWholeCells 5 = .ok (.bipush 6, 2) := by decide +kernel
theorem dX4_countWholeCells_7 : decode cX4_countWholeCells 7 = .ok (.if_icmp .ge 22, 3) := by decide +kernel
theorem dX4_countWholeCells_10 : decode cX4_countWholeCells 10 = .ok (.aload_n 0, 1) := by decide +kernel
theorem dX4_countWholeCells_11 : decode cX4_countWholeCells 11 = .ok (.iload_n 2, 1) := by decide +kernel
theorem dX4_countWholeCells_12 : decode cX4_countWholeCells 12 = .ok (.invokevirtual 128, 3) := by decide +kernel
theorem dX4_countWholeCells_15 : decode cX4_countWholeCells 15 = .ok (.bipush (-5), 2) := by decide +kernel
theorem dX4_countWholeCells_17 : decode cX4_countWholeCells 17 = .ok (.if_icmp .eq 6, 3) := by decide +kernel
theorem dX4_countWholeCells_20 : decode cX4_countWholeCells 20 = .ok (.iinc 1 1, 3) := by decide +kernel
theorem dX4_countWholeCells_23 : decode cX4_countWholeCells 23 = .ok (.iinc 2 1, 3) := by decide +kernel
theorem dX4_countWholeCells_26 : decode cX4_countWholeCells 26 = .ok (.goto (-22), 3) := by decide +kernel
theorem dX4_countWholeCells_29 : decode cX4_countWholeCells 29 = .ok (.iload_n 1, 1) := by decide +kernel
theorem dX4_countWholeCells_30 : decode cX4_countWholeCells 30 = .ok (.ireturn, 1) := by decide +kernel
theorem dX4_countHolding_0 : decode cX4_countHolding 0 = .ok (.aload_n 0, 1) := by decide +kernel
theorem dX4_countHolding_1 : decode cX4_countHolding 1 = .ok (.getfield 24, 3) := by decide +kernel
theorem dX4_countHolding_4 : decode cX4_countHolding 4 = .ok (.iload_n 1, 1) := by decide +kernel
theorem dX4_countHolding_5 : decode cX4_countHolding 5 = .ok (.iaload, 1) := by decide +kernel
theorem dX4_countHolding_6 : decode cX4_countHolding 6 = .ok (.invokestatic 131, 3) := by decide +kernel
theorem dX4_countHolding_9 : decode cX4_countHolding 9 = .ok (.ireturn, 1) := by decide +kernel
theorem dX4_countAllHolding_0 : decode cX4_countAllHolding 0 = .ok (.iconst 0, 1) := by decide +kernel
theorem dX4_countAllHolding_1 : decode cX4_countAllHolding 1 = .ok (.istore_n 1, 1) := by decide +kernel
theorem dX4_countAllHolding_2 : decode cX4_countAllHolding 2 = .ok (.iconst 0, 1) := by decide +kernel
theorem dX4_countAllHolding_3 : decode cX4_countAllHolding 3 = .ok (.istore_n 2, 1) := by decide +kernel
theorem dX4_countAllHolding_4 : decode cX4_countAllHolding 4 = .ok (.iload_n 2, 1) := by decide +kernel
theorem dX4_countAllHolding_5 : decode cX4_countAllHolding 5 = .ok (.bipush 6, 2) := by decide +kernel
theorem dX4_countAllHolding_7 : decode cX4_countAllHolding 7 = .ok (.if_icmp .ge 17, 3) := by decide +kernel
theorem dX4_countAllHolding_10 : decode cX4_countAllHolding 10 = .ok (.iload_n 1, 1) := by decide +kernel
theorem dX4_countAllHolding_11 : decode cX4_countAllHolding 11 = .ok (.aload_n 0, 1) := by decide +kernel
theorem dX4_countAllHolding_12 : decode cX4_countAllHolding 12 = .ok (.iload_n 2, 1) := by decide +kernel
theorem dX4_countAllHolding_13 : decode cX4_countAllHolding 13 = .ok (.invokevirtual 136, 3) := by decide +kernel
theorem dX4_countAllHolding_16 : decode cX4_countAllHolding 16 = .ok (.iadd, 1) := by decide +kernel
theorem dX4_countAllHolding_17 : decode cX4_countAllHolding 17 = .ok (.istore_n 1, 1) := by decide +kernel
theorem dX4_countAllHolding_18 : decode cX4_countAllHolding 18 = .ok (.iinc 2 1, 3) := by decide +kernel
theorem dX4_countAllHolding_21 : decode cX4_countAllHolding 21 = .ok (.goto (-17), 3) := by decide +kernel
theorem dX4_countAllHolding_24 : decode cX4_countAllHolding 24 = .ok (.iload_n 1, 1) := by decide +kernel
theorem dX4_countAllHolding_25 : decode cX4_countAllHolding 25 = .ok (.ireturn, 1) := by decide +kernel
theorem dX5_init_0 : decode cX5_init 0 = .ok (.aload_n 0, 1) := by decide +kernel
theorem dX5_init_1 : decode cX5_init 1 = .ok (.invokespecial 3, 3) := by decide +kernel
theorem dX5_init_4 : decode cX5_init 4 = .ok (.aload_n 0, 1) := by decide +kernel
theorem dX5_init_5 : decode cX5_init 5 = .ok (.bipush 60, 2) := by decide +kernel
theorem dX5_init_7 : decode cX5_init 7 = .ok (.newarray .int, 2) := by decide +kernel
theorem dX5_init_9 : decode cX5_init 9 = .ok (.putfield 9, 3) := by decide +kernel
theorem dX5_init_12 : decode cX5_init 12 = .ok (.aload_n 0, 1) := by decide +kernel
theorem dX5_init_13 : decode cX5_init 13 = .ok (.sipush 150, 3) := by decide +kernel
theorem dX5_init_16 : decode cX5_init 16 = .ok (.newarray .int, 2) := by decide +kernel
theorem dX5_init_18 : decode cX5_init 18 = .ok (.putfield 15, 3) := by decide +kernel
theorem dX5_init_21 : decode cX5_init 21 = .ok (.return_, 1) := by decide +kernel
theorem dX5_size_0 : decode cX5_size 0 = .ok (.aload_n 0, 1) := by decide +kernel
theorem dX5_size_1 : decode cX5_size 1 = .ok (.getfield 18, 3) := by decide +kernel
theorem dX5_size_4 : decode cX5_size 4 = .ok (.ireturn, 1) := by decide +kernel
theorem dX5_append_0 : decode cX5_append 0 = .ok (.aload_n 0, 1) := by decide +kernel
theorem dX5_append_1 : decode cX5_append 1 = .ok (.getfield 18, 3) := by decide +kernel
theorem dX5_append_4 : decode cX5_append 4 = .ok (.bipush 60, 2) := by decide +kernel
theorem dX5_append_6 : decode cX5_append 6 = .ok (.if_icmp .lt 6, 3) := by decide +kernel
theorem dX5_append_9 : decode cX5_append 9 = .ok (.bipush (-3), 2) := by decide +kernel
theorem dX5_append_11 : decode cX5_append 11 = .ok (.ireturn, 1) := by decide +kernel
theorem dX5_append_12 : decode cX5_append 12 = .ok (.aload_n 0, 1) := by decide +kernel
theorem dX5_append_13 : decode cX5_append 13 = .ok (.getfield 9, 3) := by decide +kernel
theorem dX5_append_16 : decode cX5_append 16 = .ok (.aload_n 0, 1) := by decide +kernel
theorem dX5_append_17 : decode cX5_append 17 = .ok (.getfield 18, 3) := by decide +kernel
theorem dX5_append_20 : decode cX5_append 20 = .ok (.iload_n 1, 1) := by decide +kernel
theorem dX5_append_21 : decode cX5_append 21 = .ok (.iastore, 1) := by decide +kernel
theorem dX5_append_22 : decode cX5_append 22 = .ok (.aload_n 0, 1) := by decide +kernel
theorem dX5_append_23 : decode cX5_append 23 = .ok (.dup, 1) := by decide +kernel
theorem dX5_append_24 : decode cX5_append 24 = .ok (.getfield 18, 3) := by decide +kernel
theorem dX5_append_27 : decode cX5_append 27 = .ok (.iconst 1, 1) := by decide +kernel
theorem dX5_append_28 : decode cX5_append 28 = .ok (.iadd, 1) := by decide +kernel
theorem dX5_append_29 : decode cX5_append 29 = .ok (.putfield 18, 3) := by decide +kernel
theorem dX5_append_32 : decode cX5_append 32 = .ok (.aload_n 0, 1) := by decide +kernel
theorem dX5_append_33 : decode cX5_append 33 = .ok (.getfield 18, 3) := by decide +kernel
theorem dX5_append_36 : decode cX5_append 36 = .ok (.ireturn, 1) := by decide +kernel
theorem dX5_empty_0 : decode cX5_empty 0 = .ok (.aload_n 0, 1) := by decide +kernel
theorem dX5_empty_1 : decode cX5_empty 1 = .ok (.getfield 18, 3) := by decide +kernel
theorem dX5_empty_4 : decode cX5_empty 4 = .ok (.istore_n 1, 1) := by decide +kernel
theorem dX5_empty_5 : decode cX5_empty 5 = .ok (.aload_n 0, 1) := by decide +kernel
theorem dX5_empty_6 : decode cX5_empty 6 = .ok (.iconst 0, 1) := by decide +kernel
theorem dX5_empty_7 : decode cX5_empty 7 = .ok (.putfield 18, 3) := by decide +kernel
theorem dX5_empty_10 : decode cX5_empty 10 = .ok (.iload_n 1, 1) := by decide +kernel
theorem dX5_empty_11 : decode cX5_empty 11 = .ok (.ireturn, 1) := by decide +kernel
theorem dX5_findFault_0 : decode cX5_findFault 0 = .ok (.aload_n 0, 1) := by decide +kernel
theorem dX5_findFault_1 : decode cX5_findFault 1 = .ok (.iconst 0, 1) := by decide +kernel
theorem dX5_findFault_2 : decode cX5_findFault 2 = .ok (.putfield 22, 3) := by decide +kernel
theorem dX5_findFault_5 : decode cX5_findFault 5 = .ok (.aload_n 0, 1) := by decide +kernel
theorem dX5_findFault_6 : decode cX5_findFault 6 = .ok (.iconst 0, 1) := by decide +kernel
theorem dX5_findFault_7 : decode cX5_findFault 7 = .ok (.putfield 25, 3) := by decide +kernel
theorem dX5_findFault_10 : decode cX5_findFault 10 = .ok (.aload_n 0, 1) := by decide +kernel
theorem dX5_findFault_11 : decode cX5_findFault 11 = .ok (.invokevirtual 28, 3) := by decide +kernel
theorem dX5_findFault_14 : decode cX5_findFault 14 = .ok (.istore_n 1, 1) := by decide +kernel
theorem dX5_findFault_15 : decode cX5_findFault 15 = .ok (.iconst 1, 1) := by decide +kernel
theorem dX5_findFault_16 : decode cX5_findFault 16 = .ok (.istore_n 2, 1) := by decide +kernel
theorem dX5_findFault_17 : decode cX5_findFault 17 = .ok (.iload_n 2, 1) := by decide +kernel
theorem dX5_findFault_18 : decode cX5_findFault 18 = .ok (.bipush 30, 2) := by decide +kernel
theorem dX5_findFault_20 : decode cX5_findFault 20 = .ok (.if_icmp .ge 46, 3) := by decide +kernel
theorem dX5_findFault_23 : decode cX5_findFault 23 = .ok (.iload_n 1, 1) := by decide +kernel
theorem dX5_findFault_24 : decode cX5_findFault 24 = .ok (.ifCond .eq 42, 3) := by decide +kernel
theorem dX5_findFault_27 : decode cX5_findFault 27 = .ok (.aload_n 0, 1) := by decide +kernel
theorem dX5_findFault_28 : decode cX5_findFault 28 = .ok (.getfield 22, 3) := by decide +kernel
theorem dX5_findFault_31 : decode cX5_findFault 31 = .ok (.aload_n 0, 1) := by decide +kernel
theorem dX5_findFault_32 : decode cX5_findFault 32 = .ok (.getfield 18, 3) := by decide +kernel
theorem dX5_findFault_35 : decode cX5_findFault 35 = .ok (.if_icmp .ge 31, 3) := by decide +kernel
theorem dX5_findFault_38 : decode cX5_findFault 38 = .ok (.aload_n 0, 1) := by decide +kernel
theorem dX5_findFault_39 : decode cX5_findFault 39 = .ok (.bipush 44, 2) := by decide +kernel
theorem dX5_findFault_41 : decode cX5_findFault 41 = .ok (.invokevirtual 32, 3) := by decide +kernel
theorem dX5_findFault_44 : decode cX5_findFault 44 = .ok (.ifCond .eq 14, 3) := by decide +kernel
theorem dX5_findFault_47 : decode cX5_findFault 47 = .ok (.aload_n 0, 1) := by decide +kernel
theorem dX5_findFault_48 : decode cX5_findFault 48 = .ok (.invokevirtual 28, 3) := by decide +kernel
theorem dX5_findFault_51 : decode cX5_findFault 51 = .ok (.ifCond .eq 7, 3) := by decide +kernel
theorem dX5_findFault_54 : decode cX5_findFault 54 = .ok (.iconst 1, 1) := by decide +kernel
theorem dX5_findFault_55 : decode cX5_findFault 55 = .ok (.goto 4, 3) := by decide +kernel
theorem dX5_findFault_58 : decode cX5_findFault 58 = .ok (.iconst 0, 1) := by decide +kernel
theorem dX5_findFault_59 : decode cX5_findFault 59 = .ok (.istore_n 1, 1) := by decide +kernel
theorem dX5_findFault_60 : decode cX5_findFault 60 = .ok (.iinc 2 1, 3) := by decide +kernel
theorem dX5_findFault_63 : decode cX5_findFault 63 = .ok (.goto (-46), 3) := by decide +kernel
theorem dX5_findFault_66 : decode cX5_findFault 66 = .ok (.iload_n 1, 1) := by decide +kernel
theorem dX5_findFault_67 : decode cX5_findFault 67 = .ok (.ifCond .eq 7, 3) := by decide +kernel
theorem dX5_findFault_70 : decode cX5_findFault 70 = .ok (.iconst (-1), 1) := by decide +kernel
theorem dX5_findFault_71 : decode cX5_findFault 71 = .ok (.goto 7, 3) := by decide +kernel
theorem dX5_findFault_74 : decode cX5_findFault 74 = .ok (.aload_n 0, 1) := by decide +kernel
theorem dX5_findFault_75 : decode cX5_findFault 75 = .ok (.getfield 22, 3) := by decide +kernel
theorem dX5_findFault_78 : decode cX5_findFault 78 = .ok (.ireturn, 1) := by decide +kernel
theorem dX5_readAct_0 : decode cX5_readAct 0 = .ok (.aload_n 0, 1) := by decide +kernel
theorem dX5_readAct_1 : decode cX5_readAct 1 = .ok (.getfield 25, 3) := by decide +kernel
theorem dX5_readAct_4 : decode cX5_readAct 4 = .ok (.iconst 5, 1) := by decide +kernel
theorem dX5_readAct_5 : decode cX5_readAct 5 = .ok (.imul, 1) := by decide +kernel
theorem dX5_readAct_6 : decode cX5_readAct 6 = .ok (.istore_n 1, 1) := by decide +kernel
theorem dX5_readAct_7 : decode cX5_readAct 7 = .ok (.iload_n 1, 1) := by decide +kernel
theorem dX5_readAct_8 : decode cX5_readAct 8 = .ok (.iconst 5, 1) := by decide +kernel
theorem dX5_readAct_9 : decode cX5_readAct 9 = .ok (.iadd, 1) := by decide +kernel
theorem dX5_readAct_10 : decode cX5_readAct 10 = .ok (.aload_n 0, 1) := by decide +kernel
theorem dX5_readAct_11 : decode cX5_readAct 11 = .ok (.getfield 15, 3) := by decide +kernel
theorem dX5_readAct_14 : decode cX5_readAct 14 = .ok (.arraylength, 1) := by decide +kernel
theorem dX5_readAct_15 : decode cX5_readAct 15 = .ok (.if_icmp .le 5, 3) := by decide +kernel
theorem dX5_readAct_18 : decode cX5_readAct 18 = .ok (.iconst 0, 1) := by decide +kernel
theorem dX5_readAct_19 : decode cX5_readAct 19 = .ok (.ireturn, 1) := by decide +kernel
theorem dX5_readAct_20 : decode cX5_readAct 20 = .ok (.aload_n 0, 1) := by decide +kernel
theorem dX5_readAct_21 : decode cX5_readAct 21 = .ok (.dup, 1) := by decide +kernel
theorem dX5_readAct_22 : decode cX5_readAct 22 = .ok (.getfield 25, 3) := by decide +kernel
theorem dX5_readAct_25 : decode cX5_readAct 25 = .ok (.iconst 1, 1) := by decide +kernel
theorem dX5_readAct_26 : decode cX5_readAct 26 = .ok (.iadd, 1) := by decide +kernel
theorem dX5_readAct_27 : decode cX5_readAct 27 = .ok (.putfield 25, 3) := by decide +kernel
theorem dX5_readAct_30 : decode cX5_readAct 30 = .ok (.aload_n 0, 1) := by decide +kernel
theorem dX5_readAct_31 : decode cX5_readAct 31 = .ok (.getfield 15, 3) := by decide +kernel
theorem dX5_readAct_34 : decode cX5_readAct 34 = .ok (.iload_n 1, 1) := by decide +kernel
theorem dX5_readAct_35 : decode cX5_readAct 35 = .ok (.aload_n 0, 1) := by decide +kernel
theorem dX5_readAct_36 : decode cX5_readAct 36 = .ok (.invokevirtual 36, 3) := by decide +kernel
theorem dX5_readAct_39 : decode cX5_readAct 39 = .ok (.iastore, 1) := by decide +kernel
theorem dX5_readAct_40 : decode cX5_readAct 40 = .ok (.aload_n 0, 1) := by decide +kernel
theorem dX5_readAct_41 : decode cX5_readAct 41 = .ok (.getfield 15, 3) := by decide +kernel
theorem dX5_readAct_44 : decode cX5_readAct 44 = .ok (.iload_n 1, 1) := by decide +kernel
theorem dX5_readAct_45 : decode cX5_readAct 45 = .ok (.iaload, 1) := by decide +kernel
theorem dX5_readAct_46 : decode cX5_readAct 46 = .ok (.lookupswitch 66 #[(98, 48), (103, 60), (108, 42), (119, 54)], 42) := by decide +kernel
theorem dX5_readAct_88 : decode cX5_readAct 88 = .ok (.aload_n 0, 1) := by decide +kernel
theorem dX5_readAct_89 : decode cX5_readAct 89 = .ok (.iload_n 1, 1) := by decide +kernel
theorem dX5_readAct_90 : decode cX5_readAct 90 = .ok (.invokevirtual 40, 3) := by decide +kernel
theorem dX5_readAct_93 : decode cX5_readAct 93 = .ok (.ireturn, 1) := by decide +kernel
theorem dX5_readAct_94 : decode cX5_readAct 94 = .ok (.aload_n 0, 1) := by decide +kernel
theorem dX5_readAct_95 : decode cX5_readAct 95 = .ok (.iload_n 1, 1) := by decide +kernel
theorem dX5_readAct_96 : decode cX5_readAct 96 = .ok (.invokevirtual 43, 3) := by decide +kernel
theorem dX5_readAct_99 : decode cX5_readAct 99 = .ok (.ireturn, 1) := by decide +kernel
theorem dX5_readAct_100 : decode cX5_readAct 100 = .ok (.aload_n 0, 1) := by decide +kernel
theorem dX5_readAct_101 : decode cX5_readAct 101 = .ok (.iload_n 1, 1) := by decide +kernel
theorem dX5_readAct_102 : decode cX5_readAct 102 = .ok (.invokevirtual 46, 3) := by decide +kernel
theorem dX5_readAct_105 : decode cX5_readAct 105 = .ok (.ireturn, 1) := by decide +kernel
theorem dX5_readAct_106 : decode cX5_readAct 106 = .ok (.aload_n 0, 1) := by decide +kernel
theorem dX5_readAct_107 : decode cX5_readAct 107 = .ok (.iload_n 1, 1) := by decide +kernel
theorem dX5_readAct_108 : decode cX5_readAct 108 = .ok (.invokevirtual 49, 3) := by decide +kernel
theorem dX5_readAct_111 : decode cX5_readAct 111 = .ok (.ireturn, 1) := by decide +kernel
theorem dX5_readAct_112 : decode cX5_readAct 112 = .ok (.iconst 0, 1) := by decide +kernel
theorem dX5_readAct_113 : decode cX5_readAct 113 = .ok (.ireturn, 1) := by decide +kernel
theorem dX5_readLoan_0 : decode cX5_readLoan 0 = .ok (.aload_n 0, 1) := by decide +kernel
theorem dX5_readLoan_1 : decode cX5_readLoan 1 = .ok (.bipush 108, 2) := by decide +kernel
theorem dX5_readLoan_3 : decode cX5_readLoan 3 = .ok (.invokevirtual 32, 3) := by decide +kernel
theorem dX5_readLoan_6 : decode cX5_readLoan 6 = .ok (.ifCond .eq 60, 3) := by decide +kernel
theorem dX5_readLoan_9 : decode cX5_readLoan 9 = .ok (.aload_n 0, 1) := by decide +kernel
theorem dX5_readLoan_10 : decode cX5_readLoan 10 = .ok (.iload_n 1, 1) := by decide +kernel
theorem dX5_readLoan_11 : decode cX5_readLoan 11 = .ok (.iconst 1, 1) := by decide +kernel
theorem dX5_readLoan_12 : decode cX5_readLoan 12 = .ok (.iadd, 1) := by decide +kernel
theorem dX5_readLoan_13 : decode cX5_readLoan 13 = .ok (.bipush 6, 2) := by decide +kernel
theorem dX5_readLoan_15 : decode cX5_readLoan 15 = .ok (.invokevirtual 52, 3) := by decide +kernel
theorem dX5_readLoan_18 : decode cX5_readLoan 18 = .ok (.ifCond .eq 48, 3) := by decide +kernel
theorem dX5_readLoan_21 : decode cX5_readLoan 21 = .ok (.aload_n 0, 1) := by decide +kernel
theorem dX5_readLoan_22 : decode cX5_readLoan 22 = .ok (.bipush 62, 2) := by decide +kernel
theorem dX5_readLoan_24 : decode cX5_readLoan 24 = .ok (.invokevirtual 32, 3) := by decide +kernel
theorem dX5_readLoan_27 : decode cX5_readLoan 27 = .ok (.ifCond .eq 39, 3) := by decide +kernel
theorem dX5_readLoan_30 : decode cX5_readLoan 30 = .ok (.aload_n 0, 1) := by decide +kernel
theorem dX5_readLoan_31 : decode cX5_readLoan 31 = .ok (.iload_n 1, 1) := by decide +kernel
theorem dX5_readLoan_32 : decode cX5_readLoan 32 = .ok (.iconst 2, 1) := by decide +kernel
theorem dX5_readLoan_33 : decode cX5_readLoan 33 = .ok (.iadd, 1) := by decide +kernel
theorem dX5_readLoan_34 : decode cX5_readLoan 34 = .ok (.invokevirtual 56, 3) := by decide +kernel
theorem dX5_readLoan_37 : decode cX5_readLoan 37 = .ok (.ifCond .eq 29, 3) := by decide +kernel
theorem dX5_readLoan_40 : decode cX5_readLoan 40 = .ok (.aload_n 0, 1) := by decide +kernel
theorem dX5_readLoan_41 : decode cX5_readLoan 41 = .ok (.bipush 47, 2) := by decide +kernel
theorem dX5_readLoan_43 : decode cX5_readLoan 43 = .ok (.invokevirtual 32, 3) := by decide +kernel
theorem dX5_readLoan_46 : decode cX5_readLoan 46 = .ok (.ifCond .eq 20, 3) := by decide +kernel
theorem dX5_readLoan_49 : decode cX5_readLoan 49 = .ok (.aload_n 0, 1) := by decide +kernel
theorem dX5_readLoan_50 : decode cX5_readLoan 50 = .ok (.iload_n 1, 1) := by decide +kernel
theorem dX5_readLoan_51 : decode cX5_readLoan 51 = .ok (.iconst 4, 1) := by decide +kernel
theorem dX5_readLoan_52 : decode cX5_readLoan 52 = .ok (.iadd, 1) := by decide +kernel
theorem dX5_readLoan_53 : decode cX5_readLoan 53 = .ok (.iconst 1, 1) := by decide +kernel
theorem dX5_readLoan_54 : decode cX5_readLoan 54 = .ok (.bipush 64, 2) := by decide +kernel
theorem dX5_readLoan_56 : decode cX5_readLoan 56 = .ok (.invokevirtual 59, 3) := by decide +kernel
theorem dX5_readLoan_59 : decode cX5_readLoan 59 = .ok (.ifCond .eq 7, 3) := by decide +kernel
theorem dX5_readLoan_62 : decode cX5_readLoan 62 = .ok (.iconst 1, 1) := by decide +kernel
theorem dX5_readLoan_63 : decode cX5_readLoan 63 = .ok (.goto 4, 3) := by decide +kernel
theorem dX5_readLoan_66 : decode cX5_readLoan 66 = .ok (.iconst 0, 1) := by decide +kernel
theorem dX5_readLoan_67 : decode cX5_readLoan 67 = .ok (.ireturn, 1) := by decide +kernel
theorem dX5_readReturn_0 : decode cX5_readReturn 0 = .ok (.aload_n 0, 1) := by decide +kernel
theorem dX5_readReturn_1 : decode cX5_readReturn 1 = .ok (.bipush 98, 2) := by decide +kernel
theorem dX5_readReturn_3 : decode cX5_readReturn 3 = .ok (.invokevirtual 32, 3) := by decide +kernel
theorem dX5_readReturn_6 : decode cX5_readReturn 6 = .ok (.ifCond .eq 21, 3) := by decide +kernel
theorem dX5_readReturn_9 : decode cX5_readReturn 9 = .ok (.aload_n 0, 1) := by decide +kernel
theorem dX5_readReturn_10 : decode cX5_readReturn 10 = .ok (.iload_n 1, 1) := by decide +kernel
theorem dX5_readReturn_11 : decode cX5_readReturn 11 = .ok (.iconst 1, 1) := by decide +kernel
theorem dX5_readReturn_12 : decode cX5_readReturn 12 = .ok (.iadd, 1) := by decide +kernel
theorem dX5_readReturn_13 : decode cX5_readReturn 13 = .ok (.iconst 0, 1) := by decide +kernel
theorem dX5_readReturn_14 : decode cX5_readReturn 14 = .ok (.sipush 999, 3) := by decide +kernel
theorem dX5_readReturn_17 : decode cX5_readReturn 17 = .ok (.invokevirtual 59, 3) := by decide +kernel
theorem dX5_readReturn_20 : decode cX5_readReturn 20 = .ok (.ifCond .eq 7, 3) := by decide +kernel
theorem dX5_readReturn_23 : decode cX5_readReturn 23 = .ok (.iconst 1, 1) := by decide +kernel
theorem dX5_readReturn_24 : decode cX5_readReturn 24 = .ok (.goto 4, 3) := by decide +kernel
theorem dX5_readReturn_27 : decode cX5_readReturn 27 = .ok (.iconst 0, 1) := by decide +kernel
theorem dX5_readReturn_28 : decode cX5_readReturn 28 = .ok (.ireturn, 1) := by decide +kernel
theorem dX5_readWrite_0 : decode cX5_readWrite 0 = .ok (.aload_n 0, 1) := by decide +kernel
theorem dX5_readWrite_1 : decode cX5_readWrite 1 = .ok (.bipush 119, 2) := by decide +kernel
theorem dX5_readWrite_3 : decode cX5_readWrite 3 = .ok (.invokevirtual 32, 3) := by decide +kernel
theorem dX5_readWrite_6 : decode cX5_readWrite 6 = .ok (.ifCond .eq 40, 3) := by decide +kernel
theorem dX5_readWrite_9 : decode cX5_readWrite 9 = .ok (.aload_n 0, 1) := by decide +kernel
theorem dX5_readWrite_10 : decode cX5_readWrite 10 = .ok (.iload_n 1, 1) := by decide +kernel
theorem dX5_readWrite_11 : decode cX5_readWrite 11 = .ok (.iconst 1, 1) := by decide +kernel
theorem dX5_readWrite_12 : decode cX5_readWrite 12 = .ok (.iadd, 1) := by decide +kernel
theorem dX5_readWrite_13 : decode cX5_readWrite 13 = .ok (.invokevirtual 56, 3) := by decide +kernel
theorem dX5_readWrite_16 : decode cX5_readWrite 16 = .ok (.ifCond .eq 30, 3) := by decide +kernel
theorem dX5_readWrite_19 : decode cX5_readWrite 19 = .ok (.aload_n 0, 1) := by decide +kernel
theorem dX5_readWrite_20 : decode cX5_readWrite 20 = .ok (.bipush 61, 2) := by decide +kernel
theorem dX5_readWrite_22 : decode cX5_readWrite 22 = .ok (.invokevirtual 32, 3) := by decide +kernel
theorem dX5_readWrite_25 : decode cX5_readWrite 25 = .ok (.ifCond .eq 21, 3) := by decide +kernel
theorem dX5_readWrite_28 : decode cX5_readWrite 28 = .ok (.aload_n 0, 1) := by decide +kernel
theorem dX5_readWrite_29 : decode cX5_readWrite 29 = .ok (.iload_n 1, 1) := by decide +kernel
theorem dX5_readWrite_30 : decode cX5_readWrite 30 = .ok (.iconst 3, 1) := by decide +kernel
theorem dX5_readWrite_31 : decode cX5_readWrite 31 = .ok (.iadd, 1) := by decide +kernel
theorem dX5_readWrite_32 : decode cX5_readWrite 32 = .ok (.iconst 0, 1) := by decide +kernel
theorem dX5_readWrite_33 : decode cX5_readWrite 33 = .ok (.sipush 999, 3) := by decide +kernel
theorem dX5_readWrite_36 : decode cX5_readWrite 36 = .ok (.invokevirtual 59, 3) := by decide +kernel
theorem dX5_readWrite_39 : decode cX5_readWrite 39 = .ok (.ifCond .eq 7, 3) := by decide +kernel
theorem dX5_readWrite_42 : decode cX5_readWrite 42 = .ok (.iconst 1, 1) := by decide +kernel
theorem dX5_readWrite_43 : decode cX5_readWrite 43 = .ok (.goto 4, 3) := by decide +kernel
theorem dX5_readWrite_46 : decode cX5_readWrite 46 = .ok (.iconst 0, 1) := by decide +kernel
theorem dX5_readWrite_47 : decode cX5_readWrite 47 = .ok (.ireturn, 1) := by decide +kernel
theorem dX5_readGathering_0 : decode cX5_readGathering 0 = .ok (.aload_n 0, 1) := by decide +kernel
theorem dX5_readGathering_1 : decode cX5_readGathering 1 = .ok (.bipush 103, 2) := by decide +kernel
theorem dX5_readGathering_3 : decode cX5_readGathering 3 = .ok (.invokevirtual 32, 3) := by decide +kernel
theorem dX5_readGathering_6 : decode cX5_readGathering 6 = .ok (.ifCond .eq 17, 3) := by decide +kernel
theorem dX5_readGathering_9 : decode cX5_readGathering 9 = .ok (.aload_n 0, 1) := by decide +kernel
theorem dX5_readGathering_10 : decode cX5_readGathering 10 = .ok (.iload_n 1, 1) := by decide +kernel
theorem dX5_readGathering_11 : decode cX5_readGathering 11 = .ok (.iconst 1, 1) := by decide +kernel
theorem dX5_readGathering_12 : decode cX5_readGathering 12 = .ok (.iadd, 1) := by decide +kernel
theorem dX5_readGathering_13 : decode cX5_readGathering 13 = .ok (.invokevirtual 56, 3) := by decide +kernel
theorem dX5_readGathering_16 : decode cX5_readGathering 16 = .ok (.ifCond .eq 7, 3) := by decide +kernel
theorem dX5_readGathering_19 : decode cX5_readGathering 19 = .ok (.iconst 1, 1) := by decide +kernel
theorem dX5_readGathering_20 : decode cX5_readGathering 20 = .ok (.goto 4, 3) := by decide +kernel
theorem dX5_readGathering_23 : decode cX5_readGathering 23 = .ok (.iconst 0, 1) := by decide +kernel
theorem dX5_readGathering_24 : decode cX5_readGathering 24 = .ok (.ireturn, 1) := by decide +kernel
theorem dX5_readPair_0 : decode cX5_readPair 0 = .ok (.aload_n 0, 1) := by decide +kernel
theorem dX5_readPair_1 : decode cX5_readPair 1 = .ok (.iload_n 1, 1) := by decide +kernel
theorem dX5_readPair_2 : decode cX5_readPair 2 = .ok (.bipush 6, 2) := by decide +kernel
theorem dX5_readPair_4 : decode cX5_readPair 4 = .ok (.invokevirtual 52, 3) := by decide +kernel
theorem dX5_readPair_7 : decode cX5_readPair 7 = .ok (.ifCond .eq 28, 3) := by decide +kernel
theorem dX5_readPair_10 : decode cX5_readPair 10 = .ok (.aload_n 0, 1) := by decide +kernel
theorem dX5_readPair_11 : decode cX5_readPair 11 = .ok (.bipush 58, 2) := by decide +kernel
theorem dX5_readPair_13 : decode cX5_readPair 13 = .ok (.invokevirtual 32, 3) := by decide +kernel
theorem dX5_readPair_16 : decode cX5_readPair 16 = .ok (.ifCond .eq 19, 3) := by decide +kernel
theorem dX5_readPair_19 : decode cX5_readPair 19 = .ok (.aload_n 0, 1) := by decide +kernel
theorem dX5_readPair_20 : decode cX5_readPair 20 = .ok (.iload_n 1, 1) := by decide +kernel
theorem dX5_readPair_21 : decode cX5_readPair 21 = .ok (.iconst 1, 1) := by decide +kernel
theorem dX5_readPair_22 : decode cX5_readPair 22 = .ok (.iadd, 1) := by decide +kernel
theorem dX5_readPair_23 : decode cX5_readPair 23 = .ok (.bipush 6, 2) := by decide +kernel
theorem dX5_readPair_25 : decode cX5_readPair 25 = .ok (.invokevirtual 52, 3) := by decide +kernel
theorem dX5_readPair_28 : decode cX5_readPair 28 = .ok (.ifCond .eq 7, 3) := by decide +kernel
theorem dX5_readPair_31 : decode cX5_readPair 31 = .ok (.iconst 1, 1) := by decide +kernel
theorem dX5_readPair_32 : decode cX5_readPair 32 = .ok (.goto 4, 3) := by decide +kernel
theorem dX5_readPair_35 : decode cX5_readPair 35 = .ok (.iconst 0, 1) := by decide +kernel
theorem dX5_readPair_36 : decode cX5_readPair 36 = .ok (.ireturn, 1) := by decide +kernel
theorem dX5_signHere_0 : decode cX5_signHere 0 = .ok (.aload_n 0, 1) := by decide +kernel
theorem dX5_signHere_1 : decode cX5_signHere 1 = .ok (.getfield 22, 3) := by decide +kernel
theorem dX5_signHere_4 : decode cX5_signHere 4 = .ok (.aload_n 0, 1) := by decide +kernel
theorem dX5_signHere_5 : decode cX5_signHere 5 = .ok (.getfield 18, 3) := by decide +kernel
theorem dX5_signHere_8 : decode cX5_signHere 8 = .ok (.if_icmp .ge 15, 3) := by decide +kernel
theorem dX5_signHere_11 : decode cX5_signHere 11 = .ok (.aload_n 0, 1) := by decide +kernel
theorem dX5_signHere_12 : decode cX5_signHere 12 = .ok (.getfield 9, 3) := by decide +kernel
theorem dX5_signHere_15 : decode cX5_signHere 15 = .ok (.aload_n 0, 1) := by decide +kernel
theorem dX5_signHere_16 : decode cX5_signHere 16 = .ok (.getfield 22, 3) := by decide +kernel
theorem dX5_signHere_19 : decode cX5_signHere 19 = .ok (.iaload, 1) := by decide +kernel
theorem dX5_signHere_20 : decode cX5_signHere 20 = .ok (.goto 4, 3) := by decide +kernel
theorem dX5_signHere_23 : decode cX5_signHere 23 = .ok (.iconst (-1), 1) := by decide +kernel
theorem dX5_signHere_24 : decode cX5_signHere 24 = .ok (.ireturn, 1) := by decide +kernel
theorem dX5_digitHere_0 : decode cX5_digitHere 0 = .ok (.aload_n 0, 1) := by decide +kernel
theorem dX5_digitHere_1 : decode cX5_digitHere 1 = .ok (.invokevirtual 36, 3) := by decide +kernel
theorem dX5_digitHere_4 : decode cX5_digitHere 4 = .ok (.istore_n 1, 1) := by decide +kernel
theorem dX5_digitHere_5 : decode cX5_digitHere 5 = .ok (.iload_n 1, 1) := by decide +kernel
theorem dX5_digitHere_6 : decode cX5_digitHere 6 = .ok (.bipush 48, 2) := by decide +kernel
theorem dX5_digitHere_8 : decode cX5_digitHere 8 = .ok (.if_icmp .lt 16, 3) := by decide +kernel
theorem dX5_digitHere_11 : decode cX5_digitHere 11 = .ok (.iload_n 1, 1) := by decide +kernel
theorem dX5_digitHere_12 : decode cX5_digitHere 12 = .ok (.bipush 57, 2) := by decide +kernel
theorem dX5_digitHere_14 : decode cX5_digitHere 14 = .ok (.if_icmp .gt 10, 3) := by decide +kernel
theorem dX5_digitHere_17 : decode cX5_digitHere 17 = .ok (.iload_n 1, 1) := by decide +kernel
theorem dX5_digitHere_18 : decode cX5_digitHere 18 = .ok (.bipush 48, 2) := by decide +kernel
theorem dX5_digitHere_20 : decode cX5_digitHere 20 = .ok (.isub, 1) := by decide +kernel
theorem dX5_digitHere_21 : decode cX5_digitHere 21 = .ok (.goto 4, 3) := by decide +kernel
theorem dX5_digitHere_24 : decode cX5_digitHere 24 = .ok (.iconst (-1), 1) := by decide +kernel
theorem dX5_digitHere_25 : decode cX5_digitHere 25 = .ok (.ireturn, 1) := by decide +kernel
theorem dX5_readSign_0 : decode cX5_readSign 0 = .ok (.aload_n 0, 1) := by decide +kernel
theorem dX5_readSign_1 : decode cX5_readSign 1 = .ok (.invokevirtual 36, 3) := by decide +kernel
theorem dX5_readSign_4 : decode cX5_readSign 4 = .ok (.iload_n 1, 1) := by decide +kernel
theorem dX5_readSign_5 : decode cX5_readSign 5 = .ok (.if_icmp .eq 5, 3) := by decide +kernel
theorem dX5_readSign_8 : decode cX5_readSign 8 = .ok (.iconst 0, 1) := by decide +kernel
theorem dX5_readSign_9 : decode cX5_readSign 9 = .ok (.ireturn, 1) := by decide +kernel
theorem dX5_readSign_10 : decode cX5_readSign 10 = .ok (.aload_n 0, 1) := by decide +kernel
theorem dX5_readSign_11 : decode cX5_readSign 11 = .ok (.dup, 1) := by decide +kernel
theorem dX5_readSign_12 : decode cX5_readSign 12 = .ok (.getfield 22, 3) := by decide +kernel
theorem dX5_readSign_15 : decode cX5_readSign 15 = .ok (.iconst 1, 1) := by decide +kernel
theorem dX5_readSign_16 : decode cX5_readSign 16 = .ok (.iadd, 1) := by decide +kernel
theorem dX5_readSign_17 : decode cX5_readSign 17 = .ok (.putfield 22, 3) := by decide +kernel
theorem dX5_readSign_20 : decode cX5_readSign 20 = .ok (.iconst 1, 1) := by decide +kernel
theorem dX5_readSign_21 : decode cX5_readSign 21 = .ok (.ireturn, 1) := by decide +kernel
theorem dX5_readDigit_0 : decode cX5_readDigit 0 = .ok (.aload_n 0, 1) := by decide +kernel
theorem dX5_readDigit_1 : decode cX5_readDigit 1 = .ok (.invokevirtual 63, 3) := by decide +kernel
theorem dX5_readDigit_4 : decode cX5_readDigit 4 = .ok (.istore_n 3, 1) := by decide +kernel
theorem dX5_readDigit_5 : decode cX5_readDigit 5 = .ok (.iload_n 3, 1) := by decide +kernel
theorem dX5_readDigit_6 : decode cX5_readDigit 6 = .ok (.ifCond .lt 8, 3) := by decide +kernel
theorem dX5_readDigit_9 : decode cX5_readDigit 9 = .ok (.iload_n 3, 1) := by decide +kernel
theorem dX5_readDigit_10 : decode cX5_readDigit 10 = .ok (.iload_n 2, 1) := by decide +kernel
theorem dX5_readDigit_11 : decode cX5_readDigit 11 = .ok (.if_icmp .lt 5, 3) := by decide +kernel
theorem dX5_readDigit_14 : decode cX5_readDigit 14 = .ok (.iconst 0, 1) := by decide +kernel
theorem dX5_readDigit_15 : decode cX5_readDigit 15 = .ok (.ireturn, 1) := by decide +kernel
theorem dX5_readDigit_16 : decode cX5_readDigit 16 = .ok (.aload_n 0, 1) := by decide +kernel
theorem dX5_readDigit_17 : decode cX5_readDigit 17 = .ok (.getfield 15, 3) := by decide +kernel
theorem dX5_readDigit_20 : decode cX5_readDigit 20 = .ok (.iload_n 1, 1) := by decide +kernel
theorem dX5_readDigit_21 : decode cX5_readDigit 21 = .ok (.iload_n 3, 1) := by decide +kernel
theorem dX5_readDigit_22 : decode cX5_readDigit 22 = .ok (.iastore, 1) := by decide +kernel
theorem dX5_readDigit_23 : decode cX5_readDigit 23 = .ok (.aload_n 0, 1) := by decide +kernel
theorem dX5_readDigit_24 : decode cX5_readDigit 24 = .ok (.dup, 1) := by decide +kernel
theorem dX5_readDigit_25 : decode cX5_readDigit 25 = .ok (.getfield 22, 3) := by decide +kernel
theorem dX5_readDigit_28 : decode cX5_readDigit 28 = .ok (.iconst 1, 1) := by decide +kernel
theorem dX5_readDigit_29 : decode cX5_readDigit 29 = .ok (.iadd, 1) := by decide +kernel
theorem dX5_readDigit_30 : decode cX5_readDigit 30 = .ok (.putfield 22, 3) := by decide +kernel
theorem dX5_readDigit_33 : decode cX5_readDigit 33 = .ok (.iconst 1, 1) := by decide +kernel
theorem dX5_readDigit_34 : decode cX5_readDigit 34 = .ok (.ireturn, 1) := by decide +kernel
theorem dX5_readNumber_0 : decode cX5_readNumber 0 = .ok (.aload_n 0, 1) := by decide +kernel
theorem dX5_readNumber_1 : decode cX5_readNumber 1 = .ok (.invokevirtual 63, 3) := by decide +kernel
theorem dX5_readNumber_4 : decode cX5_readNumber 4 = .ok (.istore 4, 2) := by decide +kernel
theorem dX5_readNumber_6 : decode cX5_readNumber 6 = .ok (.iload 4, 2) := by decide +kernel
theorem dX5_readNumber_8 : decode cX5_readNumber 8 = .ok (.iload_n 2, 1) := by decide +kernel
theorem dX5_readNumber_9 : decode cX5_readNumber 9 = .ok (.if_icmp .ge 5, 3) := by decide +kernel
theorem dX5_readNumber_12 : decode cX5_readNumber 12 = .ok (.iconst 0, 1) := by decide +kernel
theorem dX5_readNumber_13 : decode cX5_readNumber 13 = .ok (.ireturn, 1) := by decide +kernel
theorem dX5_readNumber_14 : decode cX5_readNumber 14 = .ok (.aload_n 0, 1) := by decide +kernel
theorem dX5_readNumber_15 : decode cX5_readNumber 15 = .ok (.dup, 1) := by decide +kernel
theorem dX5_readNumber_16 : decode cX5_readNumber 16 = .ok (.getfield 22, 3) := by decide +kernel
theorem dX5_readNumber_19 : decode cX5_readNumber 19 = .ok (.iconst 1, 1) := by decide +kernel
theorem dX5_readNumber_20 : decode cX5_readNumber 20 = .ok (.iadd, 1) := by decide +kernel
theorem dX5_readNumber_21 : decode cX5_readNumber 21 = .ok (.putfield 22, 3) := by decide +kernel
theorem dX5_readNumber_24 : decode cX5_readNumber 24 = .ok (.iconst 1, 1) := by decide +kernel
theorem dX5_readNumber_25 : decode cX5_readNumber 25 = .ok (.istore 5, 2) := by decide +kernel
theorem dX5_readNumber_27 : decode cX5_readNumber 27 = .ok (.iload 5, 2) := by decide +kernel
theorem dX5_readNumber_29 : decode cX5_readNumber 29 = .ok (.bipush 60, 2) := by decide +kernel
theorem dX5_readNumber_31 : decode cX5_readNumber 31 = .ok (.if_icmp .ge 55, 3) := by decide +kernel
theorem dX5_readNumber_34 : decode cX5_readNumber 34 = .ok (.aload_n 0, 1) := by decide +kernel
theorem dX5_readNumber_35 : decode cX5_readNumber 35 = .ok (.invokevirtual 63, 3) := by decide +kernel
theorem dX5_readNumber_38 : decode cX5_readNumber 38 = .ok (.ifCond .lt 48, 3) := by decide +kernel
theorem dX5_readNumber_41 : decode cX5_readNumber 41 = .ok (.iload 4, 2) := by decide +kernel
theorem dX5_readNumber_43 : decode cX5_readNumber 43 = .ok (.bipush 10, 2) := by decide +kernel
theorem dX5_readNumber_45 : decode cX5_readNumber 45 = .ok (.imul, 1) := by decide +kernel
theorem dX5_readNumber_46 : decode cX5_readNumber 46 = .ok (.aload_n 0, 1) := by decide +kernel
theorem dX5_readNumber_47 : decode cX5_readNumber 47 = .ok (.invokevirtual 63, 3) := by decide +kernel
theorem dX5_readNumber_50 : decode cX5_readNumber 50 = .ok (.iadd, 1) := by decide +kernel
theorem dX5_readNumber_51 : decode cX5_readNumber 51 = .ok (.istore 6, 2) := by decide +kernel
theorem dX5_readNumber_53 : decode cX5_readNumber 53 = .ok (.iload 4, 2) := by decide +kernel
theorem dX5_readNumber_55 : decode cX5_readNumber 55 = .ok (.ifCond .eq 9, 3) := by decide +kernel
theorem dX5_readNumber_58 : decode cX5_readNumber 58 = .ok (.iload 6, 2) := by decide +kernel
theorem dX5_readNumber_60 : decode cX5_readNumber 60 = .ok (.iload_n 3, 1) := by decide +kernel
theorem dX5_readNumber_61 : decode cX5_readNumber 61 = .ok (.if_icmp .le 5, 3) := by decide +kernel
theorem dX5_readNumber_64 : decode cX5_readNumber 64 = .ok (.iconst 0, 1) := by decide +kernel
theorem dX5_readNumber_65 : decode cX5_readNumber 65 = .ok (.ireturn, 1) := by decide +kernel
theorem dX5_readNumber_66 : decode cX5_readNumber 66 = .ok (.iload 6, 2) := by decide +kernel
theorem dX5_readNumber_68 : decode cX5_readNumber 68 = .ok (.istore 4, 2) := by decide +kernel
theorem dX5_readNumber_70 : decode cX5_readNumber 70 = .ok (.aload_n 0, 1) := by decide +kernel
theorem dX5_readNumber_71 : decode cX5_readNumber 71 = .ok (.dup, 1) := by decide +kernel
theorem dX5_readNumber_72 : decode cX5_readNumber 72 = .ok (.getfield 22, 3) := by decide +kernel
theorem dX5_readNumber_75 : decode cX5_readNumber 75 = .ok (.iconst 1, 1) := by decide +kernel
theorem dX5_readNumber_76 : decode cX5_readNumber 76 = .ok (.iadd, 1) := by decide +kernel
theorem dX5_readNumber_77 : decode cX5_readNumber 77 = .ok (.putfield 22, 3) := by decide +kernel
theorem dX5_readNumber_80 : decode cX5_readNumber 80 = .ok (.iinc 5 1, 3) := by decide +kernel
theorem dX5_readNumber_83 : decode cX5_readNumber 83 = .ok (.goto (-56), 3) := by decide +kernel
theorem dX5_readNumber_86 : decode cX5_readNumber 86 = .ok (.aload_n 0, 1) := by decide +kernel
theorem dX5_readNumber_87 : decode cX5_readNumber 87 = .ok (.getfield 15, 3) := by decide +kernel
theorem dX5_readNumber_90 : decode cX5_readNumber 90 = .ok (.iload_n 1, 1) := by decide +kernel
theorem dX5_readNumber_91 : decode cX5_readNumber 91 = .ok (.iload 4, 2) := by decide +kernel
theorem dX5_readNumber_93 : decode cX5_readNumber 93 = .ok (.iastore, 1) := by decide +kernel
theorem dX5_readNumber_94 : decode cX5_readNumber 94 = .ok (.iconst 1, 1) := by decide +kernel
theorem dX5_readNumber_95 : decode cX5_readNumber 95 = .ok (.ireturn, 1) := by decide +kernel
theorem dX6_init_0 : decode cX6_init 0 = .ok (.aload_n 0, 1) := by decide +kernel
theorem dX6_init_1 : decode cX6_init 1 = .ok (.invokespecial 1, 3) := by decide +kernel
theorem dX6_init_4 : decode cX6_init 4 = .ok (.aload_n 0, 1) := by decide +kernel
theorem dX6_init_5 : decode cX6_init 5 = .ok (.new 7, 3) := by decide +kernel
theorem dX6_init_8 : decode cX6_init 8 = .ok (.dup, 1) := by decide +kernel
theorem dX6_init_9 : decode cX6_init 9 = .ok (.invokespecial 9, 3) := by decide +kernel
theorem dX6_init_12 : decode cX6_init 12 = .ok (.putfield 10, 3) := by decide +kernel
theorem dX6_init_15 : decode cX6_init 15 = .ok (.aload_n 0, 1) := by decide +kernel
theorem dX6_init_16 : decode cX6_init 16 = .ok (.new 7, 3) := by decide +kernel
theorem dX6_init_19 : decode cX6_init 19 = .ok (.dup, 1) := by decide +kernel
theorem dX6_init_20 : decode cX6_init 20 = .ok (.invokespecial 9, 3) := by decide +kernel
theorem dX6_init_23 : decode cX6_init 23 = .ok (.putfield 16, 3) := by decide +kernel
theorem dX6_init_26 : decode cX6_init 26 = .ok (.aload_n 0, 1) := by decide +kernel
theorem dX6_init_27 : decode cX6_init 27 = .ok (.new 7, 3) := by decide +kernel
theorem dX6_init_30 : decode cX6_init 30 = .ok (.dup, 1) := by decide +kernel
theorem dX6_init_31 : decode cX6_init 31 = .ok (.invokespecial 9, 3) := by decide +kernel
theorem dX6_init_34 : decode cX6_init 34 = .ok (.putfield 19, 3) := by decide +kernel
theorem dX6_init_37 : decode cX6_init 37 = .ok (.aload_n 0, 1) := by decide +kernel
theorem dX6_init_38 : decode cX6_init 38 = .ok (.new 22, 3) := by decide +kernel
theorem dX6_init_41 : decode cX6_init 41 = .ok (.dup, 1) := by decide +kernel
theorem dX6_init_42 : decode cX6_init 42 = .ok (.invokespecial 24, 3) := by decide +kernel
theorem dX6_init_45 : decode cX6_init 45 = .ok (.putfield 25, 3) := by decide +kernel
theorem dX6_init_48 : decode cX6_init 48 = .ok (.aload_n 0, 1) := by decide +kernel
theorem dX6_init_49 : decode cX6_init 49 = .ok (.new 29, 3) := by decide +kernel
theorem dX6_init_52 : decode cX6_init 52 = .ok (.dup, 1) := by decide +kernel
theorem dX6_init_53 : decode cX6_init 53 = .ok (.invokespecial 31, 3) := by decide +kernel
theorem dX6_init_56 : decode cX6_init 56 = .ok (.putfield 32, 3) := by decide +kernel
theorem dX6_init_59 : decode cX6_init 59 = .ok (.aload_n 0, 1) := by decide +kernel
theorem dX6_init_60 : decode cX6_init 60 = .ok (.new 36, 3) := by decide +kernel
theorem dX6_init_63 : decode cX6_init 63 = .ok (.dup, 1) := by decide +kernel
theorem dX6_init_64 : decode cX6_init 64 = .ok (.invokespecial 38, 3) := by decide +kernel
theorem dX6_init_67 : decode cX6_init 67 = .ok (.putfield 39, 3) := by decide +kernel
theorem dX6_init_70 : decode cX6_init 70 = .ok (.return_, 1) := by decide +kernel
theorem dX6_lend_0 : decode cX6_lend 0 = .ok (.aload_n 0, 1) := by decide +kernel
theorem dX6_lend_1 : decode cX6_lend 1 = .ok (.getfield 25, 3) := by decide +kernel
theorem dX6_lend_4 : decode cX6_lend 4 = .ok (.aload_n 0, 1) := by decide +kernel
theorem dX6_lend_5 : decode cX6_lend 5 = .ok (.getfield 10, 3) := by decide +kernel
theorem dX6_lend_8 : decode cX6_lend 8 = .ok (.invokevirtual 43, 3) := by decide +kernel
theorem dX6_lend_11 : decode cX6_lend 11 = .ok (.aload_n 0, 1) := by decide +kernel
theorem dX6_lend_12 : decode cX6_lend 12 = .ok (.aload_n 0, 1) := by decide +kernel
theorem dX6_lend_13 : decode cX6_lend 13 = .ok (.getfield 10, 3) := by decide +kernel
theorem dX6_lend_16 : decode cX6_lend 16 = .ok (.iload_n 1, 1) := by decide +kernel
theorem dX6_lend_17 : decode cX6_lend 17 = .ok (.iload_n 2, 1) := by decide +kernel
theorem dX6_lend_18 : decode cX6_lend 18 = .ok (.iload_n 3, 1) := by decide +kernel
theorem dX6_lend_19 : decode cX6_lend 19 = .ok (.iload 4, 2) := by decide +kernel
theorem dX6_lend_21 : decode cX6_lend 21 = .ok (.invokevirtual 47, 3) := by decide +kernel
theorem dX6_lend_24 : decode cX6_lend 24 = .ok (.invokevirtual 51, 3) := by decide +kernel
theorem dX6_lend_27 : decode cX6_lend 27 = .ok (.ireturn, 1) := by decide +kernel
theorem dX6_half_0 : decode cX6_half 0 = .ok (.aload_n 0, 1) := by decide +kernel
theorem dX6_half_1 : decode cX6_half 1 = .ok (.getfield 25, 3) := by decide +kernel
theorem dX6_half_4 : decode cX6_half 4 = .ok (.aload_n 0, 1) := by decide +kernel
theorem dX6_half_5 : decode cX6_half 5 = .ok (.getfield 10, 3) := by decide +kernel
theorem dX6_half_8 : decode cX6_half 8 = .ok (.invokevirtual 43, 3) := by decide +kernel
theorem dX6_half_11 : decode cX6_half 11 = .ok (.aload_n 0, 1) := by decide +kernel
theorem dX6_half_12 : decode cX6_half 12 = .ok (.aload_n 0, 1) := by decide +kernel
theorem dX6_half_13 : decode cX6_half 13 = .ok (.getfield 10, 3) := by decide +kernel
theorem dX6_half_16 : decode cX6_half 16 = .ok (.iload_n 1, 1) := by decide +kernel
theorem dX6_half_17 : decode cX6_half 17 = .ok (.iload_n 2, 1) := by decide +kernel
theorem dX6_half_18 : decode cX6_half 18 = .ok (.iload_n 3, 1) := by decide +kernel
theorem dX6_half_19 : decode cX6_half 19 = .ok (.invokevirtual 55, 3) := by decide +kernel
theorem dX6_half_22 : decode cX6_half 22 = .ok (.invokevirtual 51, 3) := by decide +kernel
theorem dX6_half_25 : decode cX6_half 25 = .ok (.ireturn, 1) := by decide +kernel
theorem dX6_giveBack_0 : decode cX6_giveBack 0 = .ok (.aload_n 0, 1) := by decide +kernel
theorem dX6_giveBack_1 : decode cX6_giveBack 1 = .ok (.getfield 25, 3) := by decide +kernel
theorem dX6_giveBack_4 : decode cX6_giveBack 4 = .ok (.aload_n 0, 1) := by decide +kernel
theorem dX6_giveBack_5 : decode cX6_giveBack 5 = .ok (.getfield 10, 3) := by decide +kernel
theorem dX6_giveBack_8 : decode cX6_giveBack 8 = .ok (.invokevirtual 43, 3) := by decide +kernel
theorem dX6_giveBack_11 : decode cX6_giveBack 11 = .ok (.aload_n 0, 1) := by decide +kernel
theorem dX6_giveBack_12 : decode cX6_giveBack 12 = .ok (.aload_n 0, 1) := by decide +kernel
theorem dX6_giveBack_13 : decode cX6_giveBack 13 = .ok (.getfield 10, 3) := by decide +kernel
theorem dX6_giveBack_16 : decode cX6_giveBack 16 = .ok (.iload_n 1, 1) := by decide +kernel
theorem dX6_giveBack_17 : decode cX6_giveBack 17 = .ok (.invokevirtual 59, 3) := by decide +kernel
theorem dX6_giveBack_20 : decode cX6_giveBack 20 = .ok (.invokevirtual 51, 3) := by decide +kernel
theorem dX6_giveBack_23 : decode cX6_giveBack 23 = .ok (.ireturn, 1) := by decide +kernel
theorem dX6_gather_0 : decode cX6_gather 0 = .ok (.aload_n 0, 1) := by decide +kernel
theorem dX6_gather_1 : decode cX6_gather 1 = .ok (.getfield 25, 3) := by decide +kernel
theorem dX6_gather_4 : decode cX6_gather 4 = .ok (.aload_n 0, 1) := by decide +kernel
theorem dX6_gather_5 : decode cX6_gather 5 = .ok (.getfield 10, 3) := by decide +kernel
theorem dX6_gather_8 : decode cX6_gather 8 = .ok (.invokevirtual 43, 3) := by decide +kernel
theorem dX6_gather_11 : decode cX6_gather 11 = .ok (.aload_n 0, 1) := by decide +kernel
theorem dX6_gather_12 : decode cX6_gather 12 = .ok (.aload_n 0, 1) := by decide +kernel
theorem dX6_gather_13 : decode cX6_gather 13 = .ok (.iload_n 1, 1) := by decide +kernel
theorem dX6_gather_14 : decode cX6_gather 14 = .ok (.iload_n 2, 1) := by decide +kernel
theorem dX6_gather_15 : decode cX6_gather 15 = .ok (.invokevirtual 62, 3) := by decide +kernel
theorem dX6_gather_18 : decode cX6_gather 18 = .ok (.invokevirtual 51, 3) := by decide +kernel
theorem dX6_gather_21 : decode cX6_gather 21 = .ok (.ireturn, 1) := by decide +kernel
theorem dX6_hold_0 : decode cX6_hold 0 = .ok (.aload_n 0, 1) := by decide +kernel
theorem dX6_hold_1 : decode cX6_hold 1 = .ok (.getfield 25, 3) := by decide +kernel
theorem dX6_hold_4 : decode cX6_hold 4 = .ok (.aload_n 0, 1) := by decide +kernel
theorem dX6_hold_5 : decode cX6_hold 5 = .ok (.getfield 10, 3) := by decide +kernel
theorem dX6_hold_8 : decode cX6_hold 8 = .ok (.invokevirtual 43, 3) := by decide +kernel
theorem dX6_hold_11 : decode cX6_hold 11 = .ok (.aload_n 0, 1) := by decide +kernel
theorem dX6_hold_12 : decode cX6_hold 12 = .ok (.aload_n 0, 1) := by decide +kernel
theorem dX6_hold_13 : decode cX6_hold 13 = .ok (.getfield 10, 3) := by decide +kernel
theorem dX6_hold_16 : decode cX6_hold 16 = .ok (.iload_n 1, 1) := by decide +kernel
theorem dX6_hold_17 : decode cX6_hold 17 = .ok (.iload_n 2, 1) := by decide +kernel
theorem dX6_hold_18 : decode cX6_hold 18 = .ok (.iload_n 3, 1) := by decide +kernel
theorem dX6_hold_19 : decode cX6_hold 19 = .ok (.invokevirtual 66, 3) := by decide +kernel
theorem dX6_hold_22 : decode cX6_hold 22 = .ok (.invokevirtual 51, 3) := by decide +kernel
theorem dX6_hold_25 : decode cX6_hold 25 = .ok (.ireturn, 1) := by decide +kernel
theorem dX6_write_0 : decode cX6_write 0 = .ok (.aload_n 0, 1) := by decide +kernel
theorem dX6_write_1 : decode cX6_write 1 = .ok (.getfield 25, 3) := by decide +kernel
theorem dX6_write_4 : decode cX6_write 4 = .ok (.aload_n 0, 1) := by decide +kernel
theorem dX6_write_5 : decode cX6_write 5 = .ok (.getfield 10, 3) := by decide +kernel
theorem dX6_write_8 : decode cX6_write 8 = .ok (.invokevirtual 43, 3) := by decide +kernel
theorem dX6_write_11 : decode cX6_write 11 = .ok (.aload_n 0, 1) := by decide +kernel
theorem dX6_write_12 : decode cX6_write 12 = .ok (.aload_n 0, 1) := by decide +kernel
theorem dX6_write_13 : decode cX6_write 13 = .ok (.getfield 10, 3) := by decide +kernel
theorem dX6_write_16 : decode cX6_write 16 = .ok (.iload_n 1, 1) := by decide +kernel
theorem dX6_write_17 : decode cX6_write 17 = .ok (.iload_n 2, 1) := by decide +kernel
theorem dX6_write_18 : decode cX6_write 18 = .ok (.iload_n 3, 1) := by decide +kernel
theorem dX6_write_19 : decode cX6_write 19 = .ok (.invokevirtual 70, 3) := by decide +kernel
theorem dX6_write_22 : decode cX6_write 22 = .ok (.invokevirtual 51, 3) := by decide +kernel
theorem dX6_write_25 : decode cX6_write 25 = .ok (.ireturn, 1) := by decide +kernel
theorem dX6_read_0 : decode cX6_read 0 = .ok (.iload_n 1, 1) := by decide +kernel
theorem dX6_read_1 : decode cX6_read 1 = .ok (.invokestatic 73, 3) := by decide +kernel
theorem dX6_read_4 : decode cX6_read 4 = .ok (.ifCond .eq 10, 3) := by decide +kernel
theorem dX6_read_7 : decode cX6_read 7 = .ok (.iload_n 2, 1) := by decide +kernel
theorem dX6_read_8 : decode cX6_read 8 = .ok (.invokestatic 77, 3) := by decide +kernel
theorem dX6_read_11 : decode cX6_read 11 = .ok (.ifCond .ne 5, 3) := by decide +kernel
theorem dX6_read_14 : decode cX6_read 14 = .ok (.iconst (-1), 1) := by decide +kernel
theorem dX6_read_15 : decode cX6_read 15 = .ok (.ireturn, 1) := by decide +kernel
theorem dX6_read_16 : decode cX6_read 16 = .ok (.aload_n 0, 1) := by decide +kernel
theorem dX6_read_17 : decode cX6_read 17 = .ok (.getfield 10, 3) := by decide +kernel
theorem dX6_read_20 : decode cX6_read 20 = .ok (.iload_n 1, 1) := by decide +kernel
theorem dX6_read_21 : decode cX6_read 21 = .ok (.iload_n 2, 1) := by decide +kernel
theorem dX6_read_22 : decode cX6_read 22 = .ok (.invokevirtual 80, 3) := by decide +kernel
theorem dX6_read_25 : decode cX6_read 25 = .ok (.ifCond .ne 8, 3) := by decide +kernel
theorem dX6_read_28 : decode cX6_read 28 = .ok (.bipush (-4), 2) := by decide +kernel
theorem dX6_read_30 : decode cX6_read 30 = .ok (.goto 12, 3) := by decide +kernel
theorem dX6_read_33 : decode cX6_read 33 = .ok (.aload_n 0, 1) := by decide +kernel
theorem dX6_read_34 : decode cX6_read 34 = .ok (.getfield 10, 3) := by decide +kernel
theorem dX6_read_37 : decode cX6_read 37 = .ok (.getfield 83, 3) := by decide +kernel
theorem dX6_read_40 : decode cX6_read 40 = .ok (.iload_n 2, 1) := by decide +kernel
theorem dX6_read_41 : decode cX6_read 41 = .ok (.iaload, 1) := by decide +kernel
theorem dX6_read_42 : decode cX6_read 42 = .ok (.ireturn, 1) := by decide +kernel
theorem dX6_claim_0 : decode cX6_claim 0 = .ok (.aload_n 0, 1) := by decide +kernel
theorem dX6_claim_1 : decode cX6_claim 1 = .ok (.getfield 25, 3) := by decide +kernel
theorem dX6_claim_4 : decode cX6_claim 4 = .ok (.aload_n 0, 1) := by decide +kernel
theorem dX6_claim_5 : decode cX6_claim 5 = .ok (.getfield 10, 3) := by decide +kernel
theorem dX6_claim_8 : decode cX6_claim 8 = .ok (.invokevirtual 43, 3) := by decide +kernel
theorem dX6_claim_11 : decode cX6_claim 11 = .ok (.aload_n 0, 1) := by decide +kernel
theorem dX6_claim_12 : decode cX6_claim 12 = .ok (.aload_n 0, 1) := by decide +kernel
theorem dX6_claim_13 : decode cX6_claim 13 = .ok (.getfield 10, 3) := by decide +kernel
theorem dX6_claim_16 : decode cX6_claim 16 = .ok (.iload_n 1, 1) := by decide +kernel
theorem dX6_claim_17 : decode cX6_claim 17 = .ok (.iload_n 2, 1) := by decide +kernel
theorem dX6_claim_18 : decode cX6_claim 18 = .ok (.iload_n 3, 1) := by decide +kernel
theorem dX6_claim_19 : decode cX6_claim 19 = .ok (.invokevirtual 87, 3) := by decide +kernel
theorem dX6_claim_22 : decode cX6_claim 22 = .ok (.invokevirtual 51, 3) := by decide +kernel
theorem dX6_claim_25 : decode cX6_claim 25 = .ok (.ireturn, 1) := by decide +kernel
theorem dX6_serve_0 : decode cX6_serve 0 = .ok (.aload_n 0, 1) := by decide +kernel
theorem dX6_serve_1 : decode cX6_serve 1 = .ok (.getfield 25, 3) := by decide +kernel
theorem dX6_serve_4 : decode cX6_serve 4 = .ok (.aload_n 0, 1) := by decide +kernel
theorem dX6_serve_5 : decode cX6_serve 5 = .ok (.getfield 10, 3) := by decide +kernel
theorem dX6_serve_8 : decode cX6_serve 8 = .ok (.invokevirtual 43, 3) := by decide +kernel
theorem dX6_serve_11 : decode cX6_serve 11 = .ok (.aload_n 0, 1) := by decide +kernel
theorem dX6_serve_12 : decode cX6_serve 12 = .ok (.aload_n 0, 1) := by decide +kernel
theorem dX6_serve_13 : decode cX6_serve 13 = .ok (.iload_n 1, 1) := by decide +kernel
theorem dX6_serve_14 : decode cX6_serve 14 = .ok (.invokevirtual 90, 3) := by decide +kernel
theorem dX6_serve_17 : decode cX6_serve 17 = .ok (.invokevirtual 51, 3) := by decide +kernel
theorem dX6_serve_20 : decode cX6_serve 20 = .ok (.ireturn, 1) := by decide +kernel
theorem dX6_handOver_0 : decode cX6_handOver 0 = .ok (.aload_n 0, 1) := by decide +kernel
theorem dX6_handOver_1 : decode cX6_handOver 1 = .ok (.getfield 25, 3) := by decide +kernel
theorem dX6_handOver_4 : decode cX6_handOver 4 = .ok (.aload_n 0, 1) := by decide +kernel
theorem dX6_handOver_5 : decode cX6_handOver 5 = .ok (.getfield 10, 3) := by decide +kernel
theorem dX6_handOver_8 : decode cX6_handOver 8 = .ok (.invokevirtual 43, 3) := by decide +kernel
theorem dX6_handOver_11 : decode cX6_handOver 11 = .ok (.aload_n 0, 1) := by decide +kernel
theorem dX6_handOver_12 : decode cX6_handOver 12 = .ok (.aload_n 0, 1) := by decide +kernel
theorem dX6_handOver_13 : decode cX6_handOver 13 = .ok (.getfield 10, 3) := by decide +kernel
theorem dX6_handOver_16 : decode cX6_handOver 16 = .ok (.iload_n 1, 1) := by decide +kernel
theorem dX6_handOver_17 : decode cX6_handOver 17 = .ok (.iload_n 2, 1) := by decide +kernel
theorem dX6_handOver_18 : decode cX6_handOver 18 = .ok (.invokevirtual 93, 3) := by decide +kernel
theorem dX6_handOver_21 : decode cX6_handOver 21 = .ok (.invokevirtual 51, 3) := by decide +kernel
theorem dX6_handOver_24 : decode cX6_handOver 24 = .ok (.ireturn, 1) := by decide +kernel
theorem dX6_type_0 : decode cX6_type 0 = .ok (.aload_n 0, 1) := by decide +kernel
theorem dX6_type_1 : decode cX6_type 1 = .ok (.getfield 39, 3) := by decide +kernel
theorem dX6_type_4 : decode cX6_type 4 = .ok (.iload_n 1, 1) := by decide +kernel
theorem dX6_type_5 : decode cX6_type 5 = .ok (.invokevirtual 96, 3) := by decide +kernel
theorem dX6_type_8 : decode cX6_type 8 = .ok (.ireturn, 1) := by decide +kernel
theorem dX6_clearText_0 : decode cX6_clearText 0 = .ok (.aload_n 0, 1) := by decide +kernel
theorem dX6_clearText_1 : decode cX6_clearText 1 = .ok (.getfield 39, 3) := by decide +kernel
theorem dX6_clearText_4 : decode cX6_clearText 4 = .ok (.invokevirtual 100, 3) := by decide +kernel
theorem dX6_clearText_7 : decode cX6_clearText 7 = .ok (.ireturn, 1) := by decide +kernel
theorem dX6_perform_0 : decode cX6_perform 0 = .ok (.aload_n 0, 1) := by decide +kernel
theorem dX6_perform_1 : decode cX6_perform 1 = .ok (.getfield 39, 3) := by decide +kernel
theorem dX6_perform_4 : decode cX6_perform 4 = .ok (.invokevirtual 104, 3) := by decide +kernel
theorem dX6_perform_7 : decode cX6_perform 7 = .ok (.istore_n 1, 1) := by decide +kernel
theorem dX6_perform_8 : decode cX6_perform 8 = .ok (.iload_n 1, 1) := by decide +kernel
theorem dX6_perform_9 : decode cX6_perform 9 = .ok (.ifCond .lt 8, 3) := by decide +kernel
theorem dX6_perform_12 : decode cX6_perform 12 = .ok (.bipush (-100), 2) := by decide +kernel
theorem dX6_perform_14 : decode cX6_perform 14 = .ok (.iload_n 1, 1) := by decide +kernel
theorem dX6_perform_15 : decode cX6_perform 15 = .ok (.isub, 1) := by decide +kernel
theorem dX6_perform_16 : decode cX6_perform 16 = .ok (.ireturn, 1) := by decide +kernel
theorem dX6_perform_17 : decode cX6_perform 17 = .ok (.aload_n 0, 1) := by decide +kernel
theorem dX6_perform_18 : decode cX6_perform 18 = .ok (.getfield 25, 3) := by decide +kernel
theorem dX6_perform_21 : decode cX6_perform 21 = .ok (.aload_n 0, 1) := by decide +kernel
theorem dX6_perform_22 : decode cX6_perform 22 = .ok (.getfield 10, 3) := by decide +kernel
theorem dX6_perform_25 : decode cX6_perform 25 = .ok (.invokevirtual 43, 3) := by decide +kernel
theorem dX6_perform_28 : decode cX6_perform 28 = .ok (.iconst 0, 1) := by decide +kernel
theorem dX6_perform_29 : decode cX6_perform 29 = .ok (.istore_n 2, 1) := by decide +kernel
theorem dX6_perform_30 : decode cX6_perform 30 = .ok (.iload_n 2, 1) := by decide +kernel
theorem dX6_perform_31 : decode cX6_perform 31 = .ok (.aload_n 0, 1) := by decide +kernel
theorem dX6_perform_32 : decode cX6_perform 32 = .ok (.getfield 39, 3) := by decide +kernel
theorem dX6_perform_35 : decode cX6_perform 35 = .ok (.getfield 107, 3) := by decide +kernel
theorem dX6_perform_38 : decode cX6_perform 38 = .ok (.if_icmp .ge 40, 3) := by decide +kernel
theorem dX6_perform_41 : decode cX6_perform 41 = .ok (.aload_n 0, 1) := by decide +kernel
theorem dX6_perform_42 : decode cX6_perform 42 = .ok (.iload_n 2, 1) := by decide +kernel
theorem dX6_perform_43 : decode cX6_perform 43 = .ok (.iconst 5, 1) := by decide +kernel
theorem dX6_perform_44 : decode cX6_perform 44 = .ok (.imul, 1) := by decide +kernel
theorem dX6_perform_45 : decode cX6_perform 45 = .ok (.invokevirtual 111, 3) := by decide +kernel
theorem dX6_perform_48 : decode cX6_perform 48 = .ok (.istore_n 3, 1) := by decide +kernel
theorem dX6_perform_49 : decode cX6_perform 49 = .ok (.iload_n 3, 1) := by decide +kernel
theorem dX6_perform_50 : decode cX6_perform 50 = .ok (.ifCond .ge 22, 3) := by decide +kernel
theorem dX6_perform_53 : decode cX6_perform 53 = .ok (.iload_n 3, 1) := by decide +kernel
theorem dX6_perform_54 : decode cX6_perform 54 = .ok (.bipush (-5), 2) := by decide +kernel
theorem dX6_perform_56 : decode cX6_perform 56 = .ok (.if_icmp .eq 16, 3) := by decide +kernel
theorem dX6_perform_59 : decode cX6_perform 59 = .ok (.aload_n 0, 1) := by decide +kernel
theorem dX6_perform_60 : decode cX6_perform 60 = .ok (.iload_n 2, 1) := by decide +kernel
theorem dX6_perform_61 : decode cX6_perform 61 = .ok (.iload_n 3, 1) := by decide +kernel
theorem dX6_perform_62 : decode cX6_perform 62 = .ok (.invokevirtual 114, 3) := by decide +kernel
theorem dX6_perform_65 : decode cX6_perform 65 = .ok (.aload_n 0, 1) := by decide +kernel
theorem dX6_perform_66 : decode cX6_perform 66 = .ok (.bipush (-4), 2) := by decide +kernel
theorem dX6_perform_68 : decode cX6_perform 68 = .ok (.invokevirtual 51, 3) := by decide +kernel
theorem dX6_perform_71 : decode cX6_perform 71 = .ok (.ireturn, 1) := by decide +kernel
theorem dX6_perform_72 : decode cX6_perform 72 = .ok (.iinc 2 1, 3) := by decide +kernel
theorem dX6_perform_75 : decode cX6_perform 75 = .ok (.goto (-45), 3) := by decide +kernel
theorem dX6_perform_78 : decode cX6_perform 78 = .ok (.aload_n 0, 1) := by decide +kernel
theorem dX6_perform_79 : decode cX6_perform 79 = .ok (.aload_n 0, 1) := by decide +kernel
theorem dX6_perform_80 : decode cX6_perform 80 = .ok (.getfield 39, 3) := by decide +kernel
theorem dX6_perform_83 : decode cX6_perform 83 = .ok (.getfield 107, 3) := by decide +kernel
theorem dX6_perform_86 : decode cX6_perform 86 = .ok (.invokevirtual 51, 3) := by decide +kernel
theorem dX6_perform_89 : decode cX6_perform 89 = .ok (.ireturn, 1) := by decide +kernel
theorem dX6_stop_0 : decode cX6_stop 0 = .ok (.iload_n 1, 1) := by decide +kernel
theorem dX6_stop_1 : decode cX6_stop 1 = .ok (.ifCond .lt 8, 3) := by decide +kernel
theorem dX6_stop_4 : decode cX6_stop 4 = .ok (.iload_n 1, 1) := by decide +kernel
theorem dX6_stop_5 : decode cX6_stop 5 = .ok (.iconst 1, 1) := by decide +kernel
theorem dX6_stop_6 : decode cX6_stop 6 = .ok (.if_icmp .le 6, 3) := by decide +kernel
theorem dX6_stop_9 : decode cX6_stop 9 = .ok (.bipush (-2), 2) := by decide +kernel
theorem dX6_stop_11 : decode cX6_stop 11 = .ok (.ireturn, 1) := by decide +kernel
theorem dX6_stop_12 : decode cX6_stop 12 = .ok (.aload_n 0, 1) := by decide +kernel
theorem dX6_stop_13 : decode cX6_stop 13 = .ok (.getfield 118, 3) := by decide +kernel
theorem dX6_stop_16 : decode cX6_stop 16 = .ok (.ifCond .ne 6, 3) := by decide +kernel
theorem dX6_stop_19 : decode cX6_stop 19 = .ok (.bipush (-5), 2) := by decide +kernel
theorem dX6_stop_21 : decode cX6_stop 21 = .ok (.ireturn, 1) := by decide +kernel
theorem dX6_stop_22 : decode cX6_stop 22 = .ok (.iload_n 1, 1) := by decide +kernel
theorem dX6_stop_23 : decode cX6_stop 23 = .ok (.ifCond .ne 10, 3) := by decide +kernel
theorem dX6_stop_26 : decode cX6_stop 26 = .ok (.aload_n 0, 1) := by decide +kernel
theorem dX6_stop_27 : decode cX6_stop 27 = .ok (.getfield 122, 3) := by decide +kernel
theorem dX6_stop_30 : decode cX6_stop 30 = .ok (.goto 7, 3) := by decide +kernel
theorem dX6_stop_33 : decode cX6_stop 33 = .ok (.aload_n 0, 1) := by decide +kernel
theorem dX6_stop_34 : decode cX6_stop 34 = .ok (.getfield 125, 3) := by decide +kernel
theorem dX6_stop_37 : decode cX6_stop 37 = .ok (.ireturn, 1) := by decide +kernel
theorem dX6_undo_0 : decode cX6_undo 0 = .ok (.aload_n 0, 1) := by decide +kernel
theorem dX6_undo_1 : decode cX6_undo 1 = .ok (.getfield 25, 3) := by decide +kernel
theorem dX6_undo_4 : decode cX6_undo 4 = .ok (.invokevirtual 128, 3) := by decide +kernel
theorem dX6_undo_7 : decode cX6_undo 7 = .ok (.astore_n 1, 1) := by decide +kernel
theorem dX6_undo_8 : decode cX6_undo 8 = .ok (.aload_n 1, 1) := by decide +kernel
theorem dX6_undo_9 : decode cX6_undo 9 = .ok (.ifnonnull 6, 3) := by decide +kernel
theorem dX6_undo_12 : decode cX6_undo 12 = .ok (.bipush (-5), 2) := by decide +kernel
theorem dX6_undo_14 : decode cX6_undo 14 = .ok (.ireturn, 1) := by decide +kernel
theorem dX6_undo_15 : decode cX6_undo 15 = .ok (.aload_n 0, 1) := by decide +kernel
theorem dX6_undo_16 : decode cX6_undo 16 = .ok (.getfield 10, 3) := by decide +kernel
theorem dX6_undo_19 : decode cX6_undo 19 = .ok (.aload_n 1, 1) := by decide +kernel
theorem dX6_undo_20 : decode cX6_undo 20 = .ok (.invokevirtual 132, 3) := by decide +kernel
theorem dX6_undo_23 : decode cX6_undo 23 = .ok (.aload_n 0, 1) := by decide +kernel
theorem dX6_undo_24 : decode cX6_undo 24 = .ok (.getfield 25, 3) := by decide +kernel
theorem dX6_undo_27 : decode cX6_undo 27 = .ok (.invokevirtual 135, 3) := by decide +kernel
theorem dX6_undo_30 : decode cX6_undo 30 = .ok (.ireturn, 1) := by decide +kernel
theorem dX6_keep_0 : decode cX6_keep 0 = .ok (.aload_n 0, 1) := by decide +kernel
theorem dX6_keep_1 : decode cX6_keep 1 = .ok (.getfield 19, 3) := by decide +kernel
theorem dX6_keep_4 : decode cX6_keep 4 = .ok (.aload_n 0, 1) := by decide +kernel
theorem dX6_keep_5 : decode cX6_keep 5 = .ok (.getfield 10, 3) := by decide +kernel
theorem dX6_keep_8 : decode cX6_keep 8 = .ok (.invokevirtual 132, 3) := by decide +kernel
theorem dX6_keep_11 : decode cX6_keep 11 = .ok (.aload_n 0, 1) := by decide +kernel
theorem dX6_keep_12 : decode cX6_keep 12 = .ok (.iconst 1, 1) := by decide +kernel
theorem dX6_keep_13 : decode cX6_keep 13 = .ok (.putfield 138, 3) := by decide +kernel
theorem dX6_keep_16 : decode cX6_keep 16 = .ok (.aload_n 0, 1) := by decide +kernel
theorem dX6_keep_17 : decode cX6_keep 17 = .ok (.getfield 10, 3) := by decide +kernel
theorem dX6_keep_20 : decode cX6_keep 20 = .ok (.getfield 141, 3) := by decide +kernel
theorem dX6_keep_23 : decode cX6_keep 23 = .ok (.getfield 145, 3) := by decide +kernel
theorem dX6_keep_26 : decode cX6_keep 26 = .ok (.ireturn, 1) := by decide +kernel
theorem dX6_restore_0 : decode cX6_restore 0 = .ok (.aload_n 0, 1) := by decide +kernel
theorem dX6_restore_1 : decode cX6_restore 1 = .ok (.getfield 138, 3) := by decide +kernel
theorem dX6_restore_4 : decode cX6_restore 4 = .ok (.ifCond .ne 6, 3) := by decide +kernel
theorem dX6_restore_7 : decode cX6_restore 7 = .ok (.bipush (-5), 2) := by decide +kernel
theorem dX6_restore_9 : decode cX6_restore 9 = .ok (.ireturn, 1) := by decide +kernel
theorem dX6_restore_10 : decode cX6_restore 10 = .ok (.aload_n 0, 1) := by decide +kernel
theorem dX6_restore_11 : decode cX6_restore 11 = .ok (.getfield 25, 3) := by decide +kernel
theorem dX6_restore_14 : decode cX6_restore 14 = .ok (.aload_n 0, 1) := by decide +kernel
theorem dX6_restore_15 : decode cX6_restore 15 = .ok (.getfield 10, 3) := by decide +kernel
theorem dX6_restore_18 : decode cX6_restore 18 = .ok (.invokevirtual 43, 3) := by decide +kernel
theorem dX6_restore_21 : decode cX6_restore 21 = .ok (.aload_n 0, 1) := by decide +kernel
theorem dX6_restore_22 : decode cX6_restore 22 = .ok (.getfield 10, 3) := by decide +kernel
theorem dX6_restore_25 : decode cX6_restore 25 = .ok (.aload_n 0, 1) := by decide +kernel
theorem dX6_restore_26 : decode cX6_restore 26 = .ok (.getfield 19, 3) := by decide +kernel
theorem dX6_restore_29 : decode cX6_restore 29 = .ok (.invokevirtual 132, 3) := by decide +kernel
theorem dX6_restore_32 : decode cX6_restore 32 = .ok (.aload_n 0, 1) := by decide +kernel
theorem dX6_restore_33 : decode cX6_restore 33 = .ok (.aload_n 0, 1) := by decide +kernel
theorem dX6_restore_34 : decode cX6_restore 34 = .ok (.getfield 10, 3) := by decide +kernel
theorem dX6_restore_37 : decode cX6_restore 37 = .ok (.getfield 141, 3) := by decide +kernel
theorem dX6_restore_40 : decode cX6_restore 40 = .ok (.getfield 145, 3) := by decide +kernel
theorem dX6_restore_43 : decode cX6_restore 43 = .ok (.invokevirtual 51, 3) := by decide +kernel
theorem dX6_restore_46 : decode cX6_restore 46 = .ok (.ireturn, 1) := by decide +kernel
theorem dX6_cell_0 : decode cX6_cell 0 = .ok (.iload_n 1, 1) := by decide +kernel
theorem dX6_cell_1 : decode cX6_cell 1 = .ok (.invokestatic 77, 3) := by decide +kernel
theorem dX6_cell_4 : decode cX6_cell 4 = .ok (.ifCond .ne 5, 3) := by decide +kernel
theorem dX6_cell_7 : decode cX6_cell 7 = .ok (.iconst (-1), 1) := by decide +kernel
theorem dX6_cell_8 : decode cX6_cell 8 = .ok (.ireturn, 1) := by decide +kernel
theorem dX6_cell_9 : decode cX6_cell 9 = .ok (.iload_n 2, 1) := by decide +kernel
theorem dX6_cell_10 : decode cX6_cell 10 = .ok (.tableswitch 143 0 8 #[50, 60, 70, 80, 89, 101, 113, 125, 134], 50) := by decide +kernel
theorem dX6_cell_60 : decode cX6_cell 60 = .ok (.aload_n 0, 1) := by decide +kernel
theorem dX6_cell_61 : decode cX6_cell 61 = .ok (.getfield 10, 3) := by decide +kernel
theorem dX6_cell_64 : decode cX6_cell 64 = .ok (.getfield 83, 3) := by decide +kernel
theorem dX6_cell_67 : decode cX6_cell 67 = .ok (.iload_n 1, 1) := by decide +kernel
theorem dX6_cell_68 : decode cX6_cell 68 = .ok (.iaload, 1) := by decide +kernel
theorem dX6_cell_69 : decode cX6_cell 69 = .ok (.ireturn, 1) := by decide +kernel
theorem dX6_cell_70 : decode cX6_cell 70 = .ok (.aload_n 0, 1) := by decide +kernel
theorem dX6_cell_71 : decode cX6_cell 71 = .ok (.getfield 10, 3) := by decide +kernel
theorem dX6_cell_74 : decode cX6_cell 74 = .ok (.getfield 150, 3) := by decide +kernel
theorem dX6_cell_77 : decode cX6_cell 77 = .ok (.iload_n 1, 1) := by decide +kernel
theorem dX6_cell_78 : decode cX6_cell 78 = .ok (.iaload, 1) := by decide +kernel
theorem dX6_cell_79 : decode cX6_cell 79 = .ok (.ireturn, 1) := by decide +kernel
theorem dX6_cell_80 : decode cX6_cell 80 = .ok (.aload_n 0, 1) := by decide +kernel
theorem dX6_cell_81 : decode cX6_cell 81 = .ok (.getfield 10, 3) := by decide +kernel
theorem dX6_cell_84 : decode cX6_cell 84 = .ok (.getfield 153, 3) := by decide +kernel
theorem dX6_cell_87 : decode cX6_cell 87 = .ok (.iload_n 1, 1) := by decide +kernel
theorem dX6_cell_88 : decode cX6_cell 88 = .ok (.iaload, 1) := by decide +kernel
theorem dX6_cell_89 : decode cX6_cell 89 = .ok (.ireturn, 1) := by decide +kernel
theorem dX6_cell_90 : decode cX6_cell 90 = .ok (.aload_n 0, 1) := by decide +kernel
theorem dX6_cell_91 : decode cX6_cell 91 = .ok (.getfield 10, 3) := by decide +kernel
theorem dX6_cell_94 : decode cX6_cell 94 = .ok (.iload_n 1, 1) := by decide +kernel
theorem dX6_cell_95 : decode cX6_cell 95 = .ok (.invokevirtual 156, 3) := by decide +kernel
theorem dX6_cell_98 : decode cX6_cell 98 = .ok (.ireturn, 1) := by decide +kernel
theorem dX6_cell_99 : decode cX6_cell 99 = .ok (.aload_n 0, 1) := by decide +kernel
theorem dX6_cell_100 : decode cX6_cell 100 = .ok (.getfield 10, 3) := by decide +kernel
theorem dX6_cell_103 : decode cX6_cell 103 = .ok (.getfield 159, 3) := by decide +kernel
theorem dX6_cell_106 : decode cX6_cell 106 = .ok (.iload_n 1, 1) := by decide +kernel
theorem dX6_cell_107 : decode cX6_cell 107 = .ok (.invokevirtual 163, 3) := by decide +kernel
theorem dX6_cell_110 : decode cX6_cell 110 = .ok (.ireturn, 1) := by decide +kernel
theorem dX6_cell_111 : decode cX6_cell 111 = .ok (.aload_n 0, 1) := by decide +kernel
theorem dX6_cell_112 : decode cX6_cell 112 = .ok (.getfield 10, 3) := by decide +kernel
theorem dX6_cell_115 : decode cX6_cell 115 = .ok (.getfield 159, 3) := by decide +kernel
theorem dX6_cell_118 : decode cX6_cell 118 = .ok (.iload_n 1, 1) := by decide +kernel
theorem dX6_cell_119 : decode cX6_cell 119 = .ok (.invokevirtual 167, 3) := by decide +kernel
theorem dX6_cell_122 : decode cX6_cell 122 = .ok (.ireturn, 1) := by decide +kernel
theorem dX6_cell_123 : decode cX6_cell 123 = .ok (.aload_n 0, 1) := by decide +kernel
theorem dX6_cell_124 : decode cX6_cell 124 = .ok (.getfield 10, 3) := by decide +kernel
theorem dX6_cell_127 : decode cX6_cell 127 = .ok (.getfield 141, 3) := by decide +kernel
theorem dX6_cell_130 : decode cX6_cell 130 = .ok (.iload_n 1, 1) := by decide +kernel
theorem dX6_cell_131 : decode cX6_cell 131 = .ok (.invokevirtual 170, 3) := by decide +kernel
theorem dX6_cell_134 : decode cX6_cell 134 = .ok (.ireturn, 1) := by decide +kernel
theorem dX6_cell_135 : decode cX6_cell 135 = .ok (.aload_n 0, 1) := by decide +kernel
theorem dX6_cell_136 : decode cX6_cell 136 = .ok (.getfield 10, 3) := by decide +kernel
theorem dX6_cell_139 : decode cX6_cell 139 = .ok (.iload_n 1, 1) := by decide +kernel
theorem dX6_cell_140 : decode cX6_cell 140 = .ok (.invokevirtual 173, 3) := by decide +kernel
theorem dX6_cell_143 : decode cX6_cell 143 = .ok (.ireturn, 1) := by decide +kernel
theorem dX6_cell_144 : decode cX6_cell 144 = .ok (.aload_n 0, 1) := by decide +kernel
theorem dX6_cell_145 : decode cX6_cell 145 = .ok (.getfield 10, 3) := by decide +kernel
theorem dX6_cell_148 : decode cX6_cell 148 = .ok (.iload_n 1, 1) := by decide +kernel
theorem dX6_cell_149 : decode cX6_cell 149 = .ok (.invokevirtual 176, 3) := by decide +kernel
theorem dX6_cell_152 : decode cX6_cell 152 = .ok (.ireturn, 1) := by decide +kernel
theorem dX6_cell_153 : decode cX6_cell 153 = .ok (.bipush (-2), 2) := by decide +kernel
theorem dX6_cell_155 : decode cX6_cell 155 = .ok (.ireturn, 1) := by decide +kernel
theorem dX6_part_0 : decode cX6_part 0 = .ok (.iload_n 1, 1) := by decide +kernel
theorem dX6_part_1 : decode cX6_part 1 = .ok (.invokestatic 73, 3) := by decide +kernel
theorem dX6_part_4 : decode cX6_part 4 = .ok (.ifCond .eq 10, 3) := by decide +kernel
theorem dX6_part_7 : decode cX6_part 7 = .ok (.iload_n 2, 1) := by decide +kernel
theorem dX6_part_8 : decode cX6_part 8 = .ok (.invokestatic 77, 3) := by decide +kernel
theorem dX6_part_11 : decode cX6_part 11 = .ok (.ifCond .ne 5, 3) := by decide +kernel
theorem dX6_part_14 : decode cX6_part 14 = .ok (.iconst (-1), 1) := by decide +kernel
theorem dX6_part_15 : decode cX6_part 15 = .ok (.ireturn, 1) := by decide +kernel
theorem dX6_part_16 : decode cX6_part 16 = .ok (.iload_n 3, 1) := by decide +kernel
theorem dX6_part_17 : decode cX6_part 17 = .ok (.tableswitch 113 0 5 #[39, 49, 62, 75, 93, 106], 39) := by decide +kernel
theorem dX6_part_56 : decode cX6_part 56 = .ok (.aload_n 0, 1) := by decide +kernel
theorem dX6_part_57 : decode cX6_part 57 = .ok (.getfield 10, 3) := by decide +kernel
theorem dX6_part_60 : decode cX6_part 60 = .ok (.iload_n 1, 1) := by decide +kernel
theorem dX6_part_61 : decode cX6_part 61 = .ok (.iload_n 2, 1) := by decide +kernel
theorem dX6_part_62 : decode cX6_part 62 = .ok (.invokevirtual 80, 3) := by decide +kernel
theorem dX6_part_65 : decode cX6_part 65 = .ok (.ireturn, 1) := by decide +kernel
theorem dX6_part_66 : decode cX6_part 66 = .ok (.aload_n 0, 1) := by decide +kernel
theorem dX6_part_67 : decode cX6_part 67 = .ok (.getfield 10, 3) := by decide +kernel
theorem dX6_part_70 : decode cX6_part 70 = .ok (.getfield 141, 3) := by decide +kernel
theorem dX6_part_73 : decode cX6_part 73 = .ok (.iload_n 1, 1) := by decide +kernel
theorem dX6_part_74 : decode cX6_part 74 = .ok (.iload_n 2, 1) := by decide +kernel
theorem dX6_part_75 : decode cX6_part 75 = .ok (.invokevirtual 179, 3) := by decide +kernel
theorem dX6_part_78 : decode cX6_part 78 = .ok (.ireturn, 1) := by decide +kernel
theorem dX6_part_79 : decode cX6_part 79 = .ok (.aload_n 0, 1) := by decide +kernel
theorem dX6_part_80 : decode cX6_part 80 = .ok (.getfield 10, 3) := by decide +kernel
theorem dX6_part_83 : decode cX6_part 83 = .ok (.getfield 141, 3) := by decide +kernel
theorem dX6_part_86 : decode cX6_part 86 = .ok (.iload_n 1, 1) := by decide +kernel
theorem dX6_part_87 : decode cX6_part 87 = .ok (.iload_n 2, 1) := by decide +kernel
theorem dX6_part_88 : decode cX6_part 88 = .ok (.invokevirtual 182, 3) := by decide +kernel
theorem dX6_part_91 : decode cX6_part 91 = .ok (.ireturn, 1) := by decide +kernel
theorem dX6_part_92 : decode cX6_part 92 = .ok (.aload_n 0, 1) := by decide +kernel
theorem dX6_part_93 : decode cX6_part 93 = .ok (.getfield 10, 3) := by decide +kernel
theorem dX6_part_96 : decode cX6_part 96 = .ok (.iload_n 1, 1) := by decide +kernel
theorem dX6_part_97 : decode cX6_part 97 = .ok (.iload_n 2, 1) := by decide +kernel
theorem dX6_part_98 : decode cX6_part 98 = .ok (.invokevirtual 185, 3) := by decide +kernel
theorem dX6_part_101 : decode cX6_part 101 = .ok (.ifCond .eq 7, 3) := by decide +kernel
theorem dX6_part_104 : decode cX6_part 104 = .ok (.iconst 1, 1) := by decide +kernel
theorem dX6_part_105 : decode cX6_part 105 = .ok (.goto 4, 3) := by decide +kernel
theorem dX6_part_108 : decode cX6_part 108 = .ok (.iconst 0, 1) := by decide +kernel
theorem dX6_part_109 : decode cX6_part 109 = .ok (.ireturn, 1) := by decide +kernel
theorem dX6_part_110 : decode cX6_part 110 = .ok (.aload_n 0, 1) := by decide +kernel
theorem dX6_part_111 : decode cX6_part 111 = .ok (.getfield 10, 3) := by decide +kernel
theorem dX6_part_114 : decode cX6_part 114 = .ok (.getfield 159, 3) := by decide +kernel
theorem dX6_part_117 : decode cX6_part 117 = .ok (.iload_n 1, 1) := by decide +kernel
theorem dX6_part_118 : decode cX6_part 118 = .ok (.iload_n 2, 1) := by decide +kernel
theorem dX6_part_119 : decode cX6_part 119 = .ok (.invokevirtual 189, 3) := by decide +kernel
theorem dX6_part_122 : decode cX6_part 122 = .ok (.ireturn, 1) := by decide +kernel
theorem dX6_part_123 : decode cX6_part 123 = .ok (.aload_n 0, 1) := by decide +kernel
theorem dX6_part_124 : decode cX6_part 124 = .ok (.iload_n 1, 1) := by decide +kernel
theorem dX6_part_125 : decode cX6_part 125 = .ok (.iload_n 2, 1) := by decide +kernel
theorem dX6_part_126 : decode cX6_part 126 = .ok (.invokevirtual 192, 3) := by decide +kernel
theorem dX6_part_129 : decode cX6_part 129 = .ok (.ireturn, 1) := by decide +kernel
theorem dX6_part_130 : decode cX6_part 130 = .ok (.bipush (-2), 2) := by decide +kernel
theorem dX6_part_132 : decode cX6_part 132 = .ok (.ireturn, 1) := by decide +kernel
theorem dX6_loan_0 : decode cX6_loan 0 = .ok (.aload_n 0, 1) := by decide +kernel
theorem dX6_loan_1 : decode cX6_loan 1 = .ok (.getfield 10, 3) := by decide +kernel
theorem dX6_loan_4 : decode cX6_loan 4 = .ok (.getfield 141, 3) := by decide +kernel
theorem dX6_loan_7 : decode cX6_loan 7 = .ok (.iload_n 1, 1) := by decide +kernel
theorem dX6_loan_8 : decode cX6_loan 8 = .ok (.invokevirtual 195, 3) := by decide +kernel
theorem dX6_loan_11 : decode cX6_loan 11 = .ok (.istore_n 3, 1) := by decide +kernel
theorem dX6_loan_12 : decode cX6_loan 12 = .ok (.iload_n 3, 1) := by decide +kernel
theorem dX6_loan_13 : decode cX6_loan 13 = .ok (.ifCond .ge 5, 3) := by decide +kernel
theorem dX6_loan_16 : decode cX6_loan 16 = .ok (.iconst (-1), 1) := by decide +kernel
theorem dX6_loan_17 : decode cX6_loan 17 = .ok (.ireturn, 1) := by decide +kernel
theorem dX6_loan_18 : decode cX6_loan 18 = .ok (.iload_n 2, 1) := by decide +kernel
theorem dX6_loan_19 : decode cX6_loan 19 = .ok (.tableswitch 102 0 4 #[33, 46, 59, 72, 85], 33) := by decide +kernel
theorem dX6_loan_52 : decode cX6_loan 52 = .ok (.aload_n 0, 1) := by decide +kernel
theorem dX6_loan_53 : decode cX6_loan 53 = .ok (.getfield 10, 3) := by decide +kernel
theorem dX6_loan_56 : decode cX6_loan 56 = .ok (.getfield 141, 3) := by decide +kernel
theorem dX6_loan_59 : decode cX6_loan 59 = .ok (.getfield 198, 3) := by decide +kernel
theorem dX6_loan_62 : decode cX6_loan 62 = .ok (.iload_n 3, 1) := by decide +kernel
theorem dX6_loan_63 : decode cX6_loan 63 = .ok (.iaload, 1) := by decide +kernel
theorem dX6_loan_64 : decode cX6_loan 64 = .ok (.ireturn, 1) := by decide +kernel
theorem dX6_loan_65 : decode cX6_loan 65 = .ok (.aload_n 0, 1) := by decide +kernel
theorem dX6_loan_66 : decode cX6_loan 66 = .ok (.getfield 10, 3) := by decide +kernel
theorem dX6_loan_69 : decode cX6_loan 69 = .ok (.getfield 141, 3) := by decide +kernel
theorem dX6_loan_72 : decode cX6_loan 72 = .ok (.getfield 201, 3) := by decide +kernel
theorem dX6_loan_75 : decode cX6_loan 75 = .ok (.iload_n 3, 1) := by decide +kernel
theorem dX6_loan_76 : decode cX6_loan 76 = .ok (.iaload, 1) := by decide +kernel
theorem dX6_loan_77 : decode cX6_loan 77 = .ok (.ireturn, 1) := by decide +kernel
theorem dX6_loan_78 : decode cX6_loan 78 = .ok (.aload_n 0, 1) := by decide +kernel
theorem dX6_loan_79 : decode cX6_loan 79 = .ok (.getfield 10, 3) := by decide +kernel
theorem dX6_loan_82 : decode cX6_loan 82 = .ok (.getfield 141, 3) := by decide +kernel
theorem dX6_loan_85 : decode cX6_loan 85 = .ok (.getfield 204, 3) := by decide +kernel
theorem dX6_loan_88 : decode cX6_loan 88 = .ok (.iload_n 3, 1) := by decide +kernel
theorem dX6_loan_89 : decode cX6_loan 89 = .ok (.iaload, 1) := by decide +kernel
theorem dX6_loan_90 : decode cX6_loan 90 = .ok (.ireturn, 1) := by decide +kernel
theorem dX6_loan_91 : decode cX6_loan 91 = .ok (.aload_n 0, 1) := by decide +kernel
theorem dX6_loan_92 : decode cX6_loan 92 = .ok (.getfield 10, 3) := by decide +kernel
theorem dX6_loan_95 : decode cX6_loan 95 = .ok (.getfield 141, 3) := by decide +kernel
theorem dX6_loan_98 : decode cX6_loan 98 = .ok (.getfield 207, 3) := by decide +kernel
theorem dX6_loan_101 : decode cX6_loan 101 = .ok (.iload_n 3, 1) := by decide +kernel
theorem dX6_loan_102 : decode cX6_loan 102 = .ok (.iaload, 1) := by decide +kernel
theorem dX6_loan_103 : decode cX6_loan 103 = .ok (.ireturn, 1) := by decide +kernel
theorem dX6_loan_104 : decode cX6_loan 104 = .ok (.aload_n 0, 1) := by decide +kernel
theorem dX6_loan_105 : decode cX6_loan 105 = .ok (.getfield 10, 3) := by decide +kernel
theorem dX6_loan_108 : decode cX6_loan 108 = .ok (.iload_n 3, 1) := by decide +kernel
theorem dX6_loan_109 : decode cX6_loan 109 = .ok (.invokevirtual 210, 3) := by decide +kernel
theorem dX6_loan_112 : decode cX6_loan 112 = .ok (.ifCond .eq 7, 3) := by decide +kernel
theorem dX6_loan_115 : decode cX6_loan 115 = .ok (.iconst 1, 1) := by decide +kernel
theorem dX6_loan_116 : decode cX6_loan 116 = .ok (.goto 4, 3) := by decide +kernel
theorem dX6_loan_119 : decode cX6_loan 119 = .ok (.iconst 0, 1) := by decide +kernel
theorem dX6_loan_120 : decode cX6_loan 120 = .ok (.ireturn, 1) := by decide +kernel
theorem dX6_loan_121 : decode cX6_loan 121 = .ok (.bipush (-2), 2) := by decide +kernel
theorem dX6_loan_123 : decode cX6_loan 123 = .ok (.ireturn, 1) := by decide +kernel
theorem dX6_reason_0 : decode cX6_reason 0 = .ok (.iload_n 1, 1) := by decide +kernel
theorem dX6_reason_1 : decode cX6_reason 1 = .ok (.invokestatic 73, 3) := by decide +kernel
theorem dX6_reason_4 : decode cX6_reason 4 = .ok (.ifCond .eq 10, 3) := by decide +kernel
theorem dX6_reason_7 : decode cX6_reason 7 = .ok (.iload_n 2, 1) := by decide +kernel
theorem dX6_reason_8 : decode cX6_reason 8 = .ok (.invokestatic 77, 3) := by decide +kernel
theorem dX6_reason_11 : decode cX6_reason 11 = .ok (.ifCond .ne 5, 3) := by decide +kernel
theorem dX6_reason_14 : decode cX6_reason 14 = .ok (.iconst (-1), 1) := by decide +kernel
theorem dX6_reason_15 : decode cX6_reason 15 = .ok (.ireturn, 1) := by decide +kernel
theorem dX6_reason_16 : decode cX6_reason 16 = .ok (.aload_n 0, 1) := by decide +kernel
theorem dX6_reason_17 : decode cX6_reason 17 = .ok (.iload_n 1, 1) := by decide +kernel
theorem dX6_reason_18 : decode cX6_reason 18 = .ok (.iload_n 2, 1) := by decide +kernel
theorem dX6_reason_19 : decode cX6_reason 19 = .ok (.invokevirtual 192, 3) := by decide +kernel
theorem dX6_reason_22 : decode cX6_reason 22 = .ok (.bipush 64, 2) := by decide +kernel
theorem dX6_reason_24 : decode cX6_reason 24 = .ok (.if_icmp .ne 5, 3) := by decide +kernel
theorem dX6_reason_27 : decode cX6_reason 27 = .ok (.iconst 0, 1) := by decide +kernel
theorem dX6_reason_28 : decode cX6_reason 28 = .ok (.ireturn, 1) := by decide +kernel
theorem dX6_reason_29 : decode cX6_reason 29 = .ok (.aload_n 0, 1) := by decide +kernel
theorem dX6_reason_30 : decode cX6_reason 30 = .ok (.getfield 10, 3) := by decide +kernel
theorem dX6_reason_33 : decode cX6_reason 33 = .ok (.iload_n 2, 1) := by decide +kernel
theorem dX6_reason_34 : decode cX6_reason 34 = .ok (.invokevirtual 176, 3) := by decide +kernel
theorem dX6_reason_37 : decode cX6_reason 37 = .ok (.ifCond .le 7, 3) := by decide +kernel
theorem dX6_reason_40 : decode cX6_reason 40 = .ok (.iconst 1, 1) := by decide +kernel
theorem dX6_reason_41 : decode cX6_reason 41 = .ok (.goto 4, 3) := by decide +kernel
theorem dX6_reason_44 : decode cX6_reason 44 = .ok (.iconst 2, 1) := by decide +kernel
theorem dX6_reason_45 : decode cX6_reason 45 = .ok (.ireturn, 1) := by decide +kernel
theorem dX6_chain_0 : decode cX6_chain 0 = .ok (.iload_n 1, 1) := by decide +kernel
theorem dX6_chain_1 : decode cX6_chain 1 = .ok (.invokestatic 77, 3) := by decide +kernel
theorem dX6_chain_4 : decode cX6_chain 4 = .ok (.ifCond .eq 17, 3) := by decide +kernel
theorem dX6_chain_7 : decode cX6_chain 7 = .ok (.aload_n 0, 1) := by decide +kernel
theorem dX6_chain_8 : decode cX6_chain 8 = .ok (.getfield 10, 3) := by decide +kernel
theorem dX6_chain_11 : decode cX6_chain 11 = .ok (.getfield 141, 3) := by decide +kernel
theorem dX6_chain_14 : decode cX6_chain 14 = .ok (.iload_n 1, 1) := by decide +kernel
theorem dX6_chain_15 : decode cX6_chain 15 = .ok (.invokevirtual 213, 3) := by decide +kernel
theorem dX6_chain_18 : decode cX6_chain 18 = .ok (.goto 4, 3) := by decide +kernel
theorem dX6_chain_21 : decode cX6_chain 21 = .ok (.iconst (-1), 1) := by decide +kernel
theorem dX6_chain_22 : decode cX6_chain 22 = .ok (.ireturn, 1) := by decide +kernel
theorem dX6_count_0 : decode cX6_count 0 = .ok (.iload_n 1, 1) := by decide +kernel
theorem dX6_count_1 : decode cX6_count 1 = .ok (.tableswitch 135 0 8 #[51, 62, 73, 81, 92, 100, 111, 119, 127], 51) := by decide +kernel
theorem dX6_count_52 : decode cX6_count 52 = .ok (.aload_n 0, 1) := by decide +kernel
theorem dX6_count_53 : decode cX6_count 53 = .ok (.getfield 10, 3) := by decide +kernel
theorem dX6_count_56 : decode cX6_count 56 = .ok (.getfield 141, 3) := by decide +kernel
theorem dX6_count_59 : decode cX6_count 59 = .ok (.getfield 145, 3) := by decide +kernel
theorem dX6_count_62 : decode cX6_count 62 = .ok (.ireturn, 1) := by decide +kernel
theorem dX6_count_63 : decode cX6_count 63 = .ok (.aload_n 0, 1) := by decide +kernel
theorem dX6_count_64 : decode cX6_count 64 = .ok (.getfield 10, 3) := by decide +kernel
theorem dX6_count_67 : decode cX6_count 67 = .ok (.getfield 141, 3) := by decide +kernel
theorem dX6_count_70 : decode cX6_count 70 = .ok (.getfield 216, 3) := by decide +kernel
theorem dX6_count_73 : decode cX6_count 73 = .ok (.ireturn, 1) := by decide +kernel
theorem dX6_count_74 : decode cX6_count 74 = .ok (.aload_n 0, 1) := by decide +kernel
theorem dX6_count_75 : decode cX6_count 75 = .ok (.getfield 10, 3) := by decide +kernel
theorem dX6_count_78 : decode cX6_count 78 = .ok (.invokevirtual 219, 3) := by decide +kernel
theorem dX6_count_81 : decode cX6_count 81 = .ok (.ireturn, 1) := by decide +kernel
theorem dX6_count_82 : decode cX6_count 82 = .ok (.aload_n 0, 1) := by decide +kernel
theorem dX6_count_83 : decode cX6_count 83 = .ok (.getfield 10, 3) := by decide +kernel
theorem dX6_count_86 : decode cX6_count 86 = .ok (.getfield 159, 3) := by decide +kernel
theorem dX6_count_89 : decode cX6_count 89 = .ok (.invokevirtual 222, 3) := by decide +kernel
theorem dX6_count_92 : decode cX6_count 92 = .ok (.ireturn, 1) := by decide +kernel
theorem dX6_count_93 : decode cX6_count 93 = .ok (.aload_n 0, 1) := by decide +kernel
theorem dX6_count_94 : decode cX6_count 94 = .ok (.getfield 10, 3) := by decide +kernel
theorem dX6_count_97 : decode cX6_count 97 = .ok (.getfield 225, 3) := by decide +kernel
theorem dX6_count_100 : decode cX6_count 100 = .ok (.ireturn, 1) := by decide +kernel
theorem dX6_count_101 : decode cX6_count 101 = .ok (.aload_n 0, 1) := by decide +kernel
theorem dX6_count_102 : decode cX6_count 102 = .ok (.getfield 10, 3) := by decide +kernel
theorem dX6_count_105 : decode cX6_count 105 = .ok (.getfield 141, 3) := by decide +kernel
theorem dX6_count_108 : decode cX6_count 108 = .ok (.getfield 228, 3) := by decide +kernel
theorem dX6_count_111 : decode cX6_count 111 = .ok (.ireturn, 1) := by decide +kernel
theorem dX6_count_112 : decode cX6_count 112 = .ok (.aload_n 0, 1) := by decide +kernel
theorem dX6_count_113 : decode cX6_count 113 = .ok (.getfield 10, 3) := by decide +kernel
theorem dX6_count_116 : decode cX6_count 116 = .ok (.invokevirtual 231, 3) := by decide +kernel
theorem dX6_count_119 : decode cX6_count 119 = .ok (.ireturn, 1) := by decide +kernel
theorem dX6_count_120 : decode cX6_count 120 = .ok (.aload_n 0, 1) := by decide +kernel
theorem dX6_count_121 : decode cX6_count 121 = .ok (.getfield 25, 3) := by decide +kernel
theorem dX6_count_124 : decode cX6_count 124 = .ok (.invokevirtual 135, 3) := by decide +kernel
theorem dX6_count_127 : decode cX6_count 127 = .ok (.ireturn, 1) := by decide +kernel
theorem dX6_count_128 : decode cX6_count 128 = .ok (.aload_n 0, 1) := by decide +kernel
theorem dX6_count_129 : decode cX6_count 129 = .ok (.getfield 39, 3) := by decide +kernel
theorem dX6_count_132 : decode cX6_count 132 = .ok (.invokevirtual 234, 3) := by decide +kernel
theorem dX6_count_135 : decode cX6_count 135 = .ok (.ireturn, 1) := by decide +kernel
theorem dX6_count_136 : decode cX6_count 136 = .ok (.bipush (-2), 2) := by decide +kernel
theorem dX6_count_138 : decode cX6_count 138 = .ok (.ireturn, 1) := by decide +kernel
theorem dX6_close_0 : decode cX6_close 0 = .ok (.iload_n 1, 1) := by decide +kernel
theorem dX6_close_1 : decode cX6_close 1 = .ok (.ifCond .ge 20, 3) := by decide +kernel
theorem dX6_close_4 : decode cX6_close 4 = .ok (.aload_n 0, 1) := by decide +kernel
theorem dX6_close_5 : decode cX6_close 5 = .ok (.getfield 10, 3) := by decide +kernel
theorem dX6_close_8 : decode cX6_close 8 = .ok (.aload_n 0, 1) := by decide +kernel
theorem dX6_close_9 : decode cX6_close 9 = .ok (.getfield 25, 3) := by decide +kernel
theorem dX6_close_12 : decode cX6_close 12 = .ok (.invokevirtual 235, 3) := by decide +kernel
theorem dX6_close_15 : decode cX6_close 15 = .ok (.invokevirtual 132, 3) := by decide +kernel
theorem dX6_close_18 : decode cX6_close 18 = .ok (.goto 10, 3) := by decide +kernel
theorem dX6_close_21 : decode cX6_close 21 = .ok (.aload_n 0, 1) := by decide +kernel
theorem dX6_close_22 : decode cX6_close 22 = .ok (.getfield 25, 3) := by decide +kernel
theorem dX6_close_25 : decode cX6_close 25 = .ok (.invokevirtual 238, 3) := by decide +kernel
theorem dX6_close_28 : decode cX6_close 28 = .ok (.iload_n 1, 1) := by decide +kernel
theorem dX6_close_29 : decode cX6_close 29 = .ok (.ireturn, 1) := by decide +kernel
theorem dX6_gatherCell_0 : decode cX6_gatherCell 0 = .ok (.iload_n 1, 1) := by decide +kernel
theorem dX6_gatherCell_1 : decode cX6_gatherCell 1 = .ok (.invokestatic 73, 3) := by decide +kernel
theorem dX6_gatherCell_4 : decode cX6_gatherCell 4 = .ok (.ifCond .eq 10, 3) := by decide +kernel
theorem dX6_gatherCell_7 : decode cX6_gatherCell 7 = .ok (.iload_n 2, 1) := by decide +kernel
theorem dX6_gatherCell_8 : decode cX6_gatherCell 8 = .ok (.invokestatic 77, 3) := by decide +kernel
theorem dX6_gatherCell_11 : decode cX6_gatherCell 11 = .ok (.ifCond .ne 5, 3) := by decide +kernel
theorem dX6_gatherCell_14 : decode cX6_gatherCell 14 = .ok (.iconst (-1), 1) := by decide +kernel
theorem dX6_gatherCell_15 : decode cX6_gatherCell 15 = .ok (.ireturn, 1) := by decide +kernel
theorem dX6_gatherCell_16 : decode cX6_gatherCell 16 = .ok (.aload_n 0, 1) := by decide +kernel
theorem dX6_gatherCell_17 : decode cX6_gatherCell 17 = .ok (.getfield 32, 3) := by decide +kernel
theorem dX6_gatherCell_20 : decode cX6_gatherCell 20 = .ok (.aload_n 0, 1) := by decide +kernel
theorem dX6_gatherCell_21 : decode cX6_gatherCell 21 = .ok (.getfield 10, 3) := by decide +kernel
theorem dX6_gatherCell_24 : decode cX6_gatherCell 24 = .ok (.iload_n 1, 1) := by decide +kernel
theorem dX6_gatherCell_25 : decode cX6_gatherCell 25 = .ok (.iload_n 2, 1) := by decide +kernel
theorem dX6_gatherCell_26 : decode cX6_gatherCell 26 = .ok (.invokevirtual 241, 3) := by decide +kernel
theorem dX6_gatherCell_29 : decode cX6_gatherCell 29 = .ok (.istore_n 3, 1) := by decide +kernel
theorem dX6_gatherCell_30 : decode cX6_gatherCell 30 = .ok (.iload_n 3, 1) := by decide +kernel
theorem dX6_gatherCell_31 : decode cX6_gatherCell 31 = .ok (.ifCond .ne 8, 3) := by decide +kernel
theorem dX6_gatherCell_34 : decode cX6_gatherCell 34 = .ok (.bipush (-5), 2) := by decide +kernel
theorem dX6_gatherCell_36 : decode cX6_gatherCell 36 = .ok (.goto 12, 3) := by decide +kernel
theorem dX6_gatherCell_39 : decode cX6_gatherCell 39 = .ok (.aload_n 0, 1) := by decide +kernel
theorem dX6_gatherCell_40 : decode cX6_gatherCell 40 = .ok (.getfield 10, 3) := by decide +kernel
theorem dX6_gatherCell_43 : decode cX6_gatherCell 43 = .ok (.iload_n 1, 1) := by decide +kernel
theorem dX6_gatherCell_44 : decode cX6_gatherCell 44 = .ok (.iload_n 2, 1) := by decide +kernel
theorem dX6_gatherCell_45 : decode cX6_gatherCell 45 = .ok (.invokevirtual 80, 3) := by decide +kernel
theorem dX6_gatherCell_48 : decode cX6_gatherCell 48 = .ok (.ireturn, 1) := by decide +kernel
theorem dX6_heldAfterGathering_0 : decode cX6_heldAfterGathering 0 = .ok (.aload_n 0, 1) := by decide +kernel
theorem dX6_heldAfterGathering_1 : decode cX6_heldAfterGathering 1 = .ok (.getfield 16, 3) := by decide +kernel
theorem dX6_heldAfterGathering_4 : decode cX6_heldAfterGathering 4 = .ok (.aload_n 0, 1) := by decide +kernel
theorem dX6_heldAfterGathering_5 : decode cX6_heldAfterGathering 5 = .ok (.getfield 10, 3) := by decide +kernel
theorem dX6_heldAfterGathering_8 : decode cX6_heldAfterGathering 8 = .ok (.invokevirtual 132, 3) := by decide +kernel
theorem dX6_heldAfterGathering_11 : decode cX6_heldAfterGathering 11 = .ok (.aload_n 0, 1) := by decide +kernel
theorem dX6_heldAfterGathering_12 : decode cX6_heldAfterGathering 12 = .ok (.getfield 32, 3) := by decide +kernel
theorem dX6_heldAfterGathering_15 : decode cX6_heldAfterGathering 15 = .ok (.aload_n 0, 1) := by decide +kernel
theorem dX6_heldAfterGathering_16 : decode cX6_heldAfterGathering 16 = .ok (.getfield 16, 3) := by decide +kernel
theorem dX6_heldAfterGathering_19 : decode cX6_heldAfterGathering 19 = .ok (.iload_n 1, 1) := by decide +kernel
theorem dX6_heldAfterGathering_20 : decode cX6_heldAfterGathering 20 = .ok (.iload_n 2, 1) := by decide +kernel
theorem dX6_heldAfterGathering_21 : decode cX6_heldAfterGathering 21 = .ok (.invokevirtual 241, 3) := by decide +kernel
theorem dX6_heldAfterGathering_24 : decode cX6_heldAfterGathering 24 = .ok (.pop, 1) := by decide +kernel
theorem dX6_heldAfterGathering_25 : decode cX6_heldAfterGathering 25 = .ok (.aload_n 0, 1) := by decide +kernel
theorem dX6_heldAfterGathering_26 : decode cX6_heldAfterGathering 26 = .ok (.getfield 16, 3) := by decide +kernel
theorem dX6_heldAfterGathering_29 : decode cX6_heldAfterGathering 29 = .ok (.iload_n 1, 1) := by decide +kernel
theorem dX6_heldAfterGathering_30 : decode cX6_heldAfterGathering 30 = .ok (.iload_n 2, 1) := by decide +kernel
theorem dX6_heldAfterGathering_31 : decode cX6_heldAfterGathering 31 = .ok (.invokevirtual 80, 3) := by decide +kernel
theorem dX6_heldAfterGathering_34 : decode cX6_heldAfterGathering 34 = .ok (.ireturn, 1) := by decide +kernel
theorem dX6_serveClaims_0 : decode cX6_serveClaims 0 = .ok (.iload_n 1, 1) := by decide +kernel
theorem dX6_serveClaims_1 : decode cX6_serveClaims 1 = .ok (.invokestatic 77, 3) := by decide +kernel
theorem dX6_serveClaims_4 : decode cX6_serveClaims 4 = .ok (.ifCond .ne 5, 3) := by decide +kernel
theorem dX6_serveClaims_7 : decode cX6_serveClaims 7 = .ok (.iconst (-1), 1) := by decide +kernel
theorem dX6_serveClaims_8 : decode cX6_serveClaims 8 = .ok (.ireturn, 1) := by decide +kernel
theorem dX6_serveClaims_9 : decode cX6_serveClaims 9 = .ok (.aload_n 0, 1) := by decide +kernel
theorem dX6_serveClaims_10 : decode cX6_serveClaims 10 = .ok (.getfield 10, 3) := by decide +kernel
theorem dX6_serveClaims_13 : decode cX6_serveClaims 13 = .ok (.getfield 159, 3) := by decide +kernel
theorem dX6_serveClaims_16 : decode cX6_serveClaims 16 = .ok (.iload_n 1, 1) := by decide +kernel
theorem dX6_serveClaims_17 : decode cX6_serveClaims 17 = .ok (.invokevirtual 163, 3) := by decide +kernel
theorem dX6_serveClaims_20 : decode cX6_serveClaims 20 = .ok (.ifCond .ne 6, 3) := by decide +kernel
theorem dX6_serveClaims_23 : decode cX6_serveClaims 23 = .ok (.bipush (-4), 2) := by decide +kernel
theorem dX6_serveClaims_25 : decode cX6_serveClaims 25 = .ok (.ireturn, 1) := by decide +kernel
theorem dX6_serveClaims_26 : decode cX6_serveClaims 26 = .ok (.aload_n 0, 1) := by decide +kernel
theorem dX6_serveClaims_27 : decode cX6_serveClaims 27 = .ok (.getfield 10, 3) := by decide +kernel
theorem dX6_serveClaims_30 : decode cX6_serveClaims 30 = .ok (.getfield 153, 3) := by decide +kernel
theorem dX6_serveClaims_33 : decode cX6_serveClaims 33 = .ok (.iload_n 1, 1) := by decide +kernel
theorem dX6_serveClaims_34 : decode cX6_serveClaims 34 = .ok (.iaload, 1) := by decide +kernel
theorem dX6_serveClaims_35 : decode cX6_serveClaims 35 = .ok (.istore_n 2, 1) := by decide +kernel
theorem dX6_serveClaims_36 : decode cX6_serveClaims 36 = .ok (.aload_n 0, 1) := by decide +kernel
theorem dX6_serveClaims_37 : decode cX6_serveClaims 37 = .ok (.getfield 32, 3) := by decide +kernel
theorem dX6_serveClaims_40 : decode cX6_serveClaims 40 = .ok (.aload_n 0, 1) := by decide +kernel
theorem dX6_serveClaims_41 : decode cX6_serveClaims 41 = .ok (.getfield 10, 3) := by decide +kernel
theorem dX6_serveClaims_44 : decode cX6_serveClaims 44 = .ok (.iload_n 2, 1) := by decide +kernel
theorem dX6_serveClaims_45 : decode cX6_serveClaims 45 = .ok (.iload_n 1, 1) := by decide +kernel
theorem dX6_serveClaims_46 : decode cX6_serveClaims 46 = .ok (.invokevirtual 241, 3) := by decide +kernel
theorem dX6_serveClaims_49 : decode cX6_serveClaims 49 = .ok (.istore_n 3, 1) := by decide +kernel
theorem dX6_serveClaims_50 : decode cX6_serveClaims 50 = .ok (.aload_n 0, 1) := by decide +kernel
theorem dX6_serveClaims_51 : decode cX6_serveClaims 51 = .ok (.getfield 10, 3) := by decide +kernel
theorem dX6_serveClaims_54 : decode cX6_serveClaims 54 = .ok (.iload_n 2, 1) := by decide +kernel
theorem dX6_serveClaims_55 : decode cX6_serveClaims 55 = .ok (.iload_n 1, 1) := by decide +kernel
theorem dX6_serveClaims_56 : decode cX6_serveClaims 56 = .ok (.invokevirtual 80, 3) := by decide +kernel
theorem dX6_serveClaims_59 : decode cX6_serveClaims 59 = .ok (.bipush 64, 2) := by decide +kernel
theorem dX6_serveClaims_61 : decode cX6_serveClaims 61 = .ok (.if_icmp .ne 24, 3) := by decide +kernel
theorem dX6_serveClaims_64 : decode cX6_serveClaims 64 = .ok (.aload_n 0, 1) := by decide +kernel
theorem dX6_serveClaims_65 : decode cX6_serveClaims 65 = .ok (.getfield 10, 3) := by decide +kernel
theorem dX6_serveClaims_68 : decode cX6_serveClaims 68 = .ok (.iload_n 2, 1) := by decide +kernel
theorem dX6_serveClaims_69 : decode cX6_serveClaims 69 = .ok (.iload_n 1, 1) := by decide +kernel
theorem dX6_serveClaims_70 : decode cX6_serveClaims 70 = .ok (.invokevirtual 185, 3) := by decide +kernel
theorem dX6_serveClaims_73 : decode cX6_serveClaims 73 = .ok (.ifCond .ne 12, 3) := by decide +kernel
theorem dX6_serveClaims_76 : decode cX6_serveClaims 76 = .ok (.aload_n 0, 1) := by decide +kernel
theorem dX6_serveClaims_77 : decode cX6_serveClaims 77 = .ok (.getfield 10, 3) := by decide +kernel
theorem dX6_serveClaims_80 : decode cX6_serveClaims 80 = .ok (.iload_n 1, 1) := by decide +kernel
theorem dX6_serveClaims_81 : decode cX6_serveClaims 81 = .ok (.invokevirtual 245, 3) := by decide +kernel
theorem dX6_serveClaims_84 : decode cX6_serveClaims 84 = .ok (.ireturn, 1) := by decide +kernel
theorem dX6_serveClaims_85 : decode cX6_serveClaims 85 = .ok (.iload_n 3, 1) := by decide +kernel
theorem dX6_serveClaims_86 : decode cX6_serveClaims 86 = .ok (.ifCond .ne 8, 3) := by decide +kernel
theorem dX6_serveClaims_89 : decode cX6_serveClaims 89 = .ok (.bipush (-5), 2) := by decide +kernel
theorem dX6_serveClaims_91 : decode cX6_serveClaims 91 = .ok (.goto 5, 3) := by decide +kernel
theorem dX6_serveClaims_94 : decode cX6_serveClaims 94 = .ok (.bipush 9, 2) := by decide +kernel
theorem dX6_serveClaims_96 : decode cX6_serveClaims 96 = .ok (.ireturn, 1) := by decide +kernel
theorem dX6_noteStop_0 : decode cX6_noteStop 0 = .ok (.aload_n 0, 1) := by decide +kernel
theorem dX6_noteStop_1 : decode cX6_noteStop 1 = .ok (.iconst 1, 1) := by decide +kernel
theorem dX6_noteStop_2 : decode cX6_noteStop 2 = .ok (.putfield 118, 3) := by decide +kernel
theorem dX6_noteStop_5 : decode cX6_noteStop 5 = .ok (.aload_n 0, 1) := by decide +kernel
theorem dX6_noteStop_6 : decode cX6_noteStop 6 = .ok (.iload_n 1, 1) := by decide +kernel
theorem dX6_noteStop_7 : decode cX6_noteStop 7 = .ok (.putfield 122, 3) := by decide +kernel
theorem dX6_noteStop_10 : decode cX6_noteStop 10 = .ok (.aload_n 0, 1) := by decide +kernel
theorem dX6_noteStop_11 : decode cX6_noteStop 11 = .ok (.iload_n 2, 1) := by decide +kernel
theorem dX6_noteStop_12 : decode cX6_noteStop 12 = .ok (.putfield 125, 3) := by decide +kernel
theorem dX6_noteStop_15 : decode cX6_noteStop 15 = .ok (.return_, 1) := by decide +kernel
theorem dX6_performAct_0 : decode cX6_performAct 0 = .ok (.aload_n 0, 1) := by decide +kernel
theorem dX6_performAct_1 : decode cX6_performAct 1 = .ok (.getfield 39, 3) := by decide +kernel
theorem dX6_performAct_4 : decode cX6_performAct 4 = .ok (.getfield 248, 3) := by decide +kernel
theorem dX6_performAct_7 : decode cX6_performAct 7 = .ok (.astore_n 2, 1) := by decide +kernel
theorem dX6_performAct_8 : decode cX6_performAct 8 = .ok (.aload_n 2, 1) := by decide +kernel
theorem dX6_performAct_9 : decode cX6_performAct 9 = .ok (.iload_n 1, 1) := by decide +kernel
theorem dX6_performAct_10 : decode cX6_performAct 10 = .ok (.iaload, 1) := by decide +kernel
theorem dX6_performAct_11 : decode cX6_performAct 11 = .ok (.lookupswitch 120 #[(98, 69), (103, 105), (108, 41), (119, 82)], 41) := by decide +kernel
theorem dX6_performAct_52 : decode cX6_performAct 52 = .ok (.aload_n 0, 1) := by decide +kernel
theorem dX6_performAct_53 : decode cX6_performAct 53 = .ok (.getfield 10, 3) := by decide +kernel
theorem dX6_performAct_56 : decode cX6_performAct 56 = .ok (.aload_n 2, 1) := by decide +kernel
theorem dX6_performAct_57 : decode cX6_performAct 57 = .ok (.iload_n 1, 1) := by decide +kernel
theorem dX6_performAct_58 : decode cX6_performAct 58 = .ok (.iconst 1, 1) := by decide +kernel
theorem dX6_performAct_59 : decode cX6_performAct 59 = .ok (.iadd, 1) := by decide +kernel
theorem dX6_performAct_60 : decode cX6_performAct 60 = .ok (.iaload, 1) := by decide +kernel
theorem dX6_performAct_61 : decode cX6_performAct 61 = .ok (.aload_n 2, 1) := by decide +kernel
theorem dX6_performAct_62 : decode cX6_performAct 62 = .ok (.iload_n 1, 1) := by decide +kernel
theorem dX6_performAct_63 : decode cX6_performAct 63 = .ok (.iconst 2, 1) := by decide +kernel
theorem dX6_performAct_64 : decode cX6_performAct 64 = .ok (.iadd, 1) := by decide +kernel
theorem dX6_performAct_65 : decode cX6_performAct 65 = .ok (.iaload, 1) := by decide +kernel
theorem dX6_performAct_66 : decode cX6_performAct 66 = .ok (.aload_n 2, 1) := by decide +kernel
theorem dX6_performAct_67 : decode cX6_performAct 67 = .ok (.iload_n 1, 1) := by decide +kernel
theorem dX6_performAct_68 : decode cX6_performAct 68 = .ok (.iconst 3, 1) := by decide +kernel
theorem dX6_performAct_69 : decode cX6_performAct 69 = .ok (.iadd, 1) := by decide +kernel
theorem dX6_performAct_70 : decode cX6_performAct 70 = .ok (.iaload, 1) := by decide +kernel
theorem dX6_performAct_71 : decode cX6_performAct 71 = .ok (.aload_n 2, 1) := by decide +kernel
theorem dX6_performAct_72 : decode cX6_performAct 72 = .ok (.iload_n 1, 1) := by decide +kernel
theorem dX6_performAct_73 : decode cX6_performAct 73 = .ok (.iconst 4, 1) := by decide +kernel
theorem dX6_performAct_74 : decode cX6_performAct 74 = .ok (.iadd, 1) := by decide +kernel
theorem dX6_performAct_75 : decode cX6_performAct 75 = .ok (.iaload, 1) := by decide +kernel
theorem dX6_performAct_76 : decode cX6_performAct 76 = .ok (.invokevirtual 47, 3) := by decide +kernel
theorem dX6_performAct_79 : decode cX6_performAct 79 = .ok (.ireturn, 1) := by decide +kernel
theorem dX6_performAct_80 : decode cX6_performAct 80 = .ok (.aload_n 0, 1) := by decide +kernel
theorem dX6_performAct_81 : decode cX6_performAct 81 = .ok (.getfield 10, 3) := by decide +kernel
theorem dX6_performAct_84 : decode cX6_performAct 84 = .ok (.aload_n 2, 1) := by decide +kernel
theorem dX6_performAct_85 : decode cX6_performAct 85 = .ok (.iload_n 1, 1) := by decide +kernel
theorem dX6_performAct_86 : decode cX6_performAct 86 = .ok (.iconst 1, 1) := by decide +kernel
theorem dX6_performAct_87 : decode cX6_performAct 87 = .ok (.iadd, 1) := by decide +kernel
theorem dX6_performAct_88 : decode cX6_performAct 88 = .ok (.iaload, 1) := by decide +kernel
theorem dX6_performAct_89 : decode cX6_performAct 89 = .ok (.invokevirtual 59, 3) := by decide +kernel
theorem dX6_performAct_92 : decode cX6_performAct 92 = .ok (.ireturn, 1) := by decide +kernel
theorem dX6_performAct_93 : decode cX6_performAct 93 = .ok (.aload_n 0, 1) := by decide +kernel
theorem dX6_performAct_94 : decode cX6_performAct 94 = .ok (.getfield 10, 3) := by decide +kernel
theorem dX6_performAct_97 : decode cX6_performAct 97 = .ok (.aload_n 2, 1) := by decide +kernel
theorem dX6_performAct_98 : decode cX6_performAct 98 = .ok (.iload_n 1, 1) := by decide +kernel
theorem dX6_performAct_99 : decode cX6_performAct 99 = .ok (.iconst 1, 1) := by decide +kernel
theorem dX6_performAct_100 : decode cX6_performAct 100 = .ok (.iadd, 1) := by decide +kernel
theorem dX6_performAct_101 : decode cX6_performAct 101 = .ok (.iaload, 1) := by decide +kernel
theorem dX6_performAct_102 : decode cX6_performAct 102 = .ok (.aload_n 2, 1) := by decide +kernel
theorem dX6_performAct_103 : decode cX6_performAct 103 = .ok (.iload_n 1, 1) := by decide +kernel
theorem dX6_performAct_104 : decode cX6_performAct 104 = .ok (.iconst 2, 1) := by decide +kernel
theorem dX6_performAct_105 : decode cX6_performAct 105 = .ok (.iadd, 1) := by decide +kernel
theorem dX6_performAct_106 : decode cX6_performAct 106 = .ok (.iaload, 1) := by decide +kernel
theorem dX6_performAct_107 : decode cX6_performAct 107 = .ok (.aload_n 2, 1) := by decide +kernel
theorem dX6_performAct_108 : decode cX6_performAct 108 = .ok (.iload_n 1, 1) := by decide +kernel
theorem dX6_performAct_109 : decode cX6_performAct 109 = .ok (.iconst 3, 1) := by decide +kernel
theorem dX6_performAct_110 : decode cX6_performAct 110 = .ok (.iadd, 1) := by decide +kernel
theorem dX6_performAct_111 : decode cX6_performAct 111 = .ok (.iaload, 1) := by decide +kernel
theorem dX6_performAct_112 : decode cX6_performAct 112 = .ok (.invokevirtual 70, 3) := by decide +kernel
theorem dX6_performAct_115 : decode cX6_performAct 115 = .ok (.ireturn, 1) := by decide +kernel
theorem dX6_performAct_116 : decode cX6_performAct 116 = .ok (.aload_n 0, 1) := by decide +kernel
theorem dX6_performAct_117 : decode cX6_performAct 117 = .ok (.aload_n 2, 1) := by decide +kernel
theorem dX6_performAct_118 : decode cX6_performAct 118 = .ok (.iload_n 1, 1) := by decide +kernel
theorem dX6_performAct_119 : decode cX6_performAct 119 = .ok (.iconst 1, 1) := by decide +kernel
theorem dX6_performAct_120 : decode cX6_performAct 120 = .ok (.iadd, 1) := by decide +kernel
theorem dX6_performAct_121 : decode cX6_performAct 121 = .ok (.iaload, 1) := by decide +kernel
theorem dX6_performAct_122 : decode cX6_performAct 122 = .ok (.aload_n 2, 1) := by decide +kernel
theorem dX6_performAct_123 : decode cX6_performAct 123 = .ok (.iload_n 1, 1) := by decide +kernel
theorem dX6_performAct_124 : decode cX6_performAct 124 = .ok (.iconst 2, 1) := by decide +kernel
theorem dX6_performAct_125 : decode cX6_performAct 125 = .ok (.iadd, 1) := by decide +kernel
theorem dX6_performAct_126 : decode cX6_performAct 126 = .ok (.iaload, 1) := by decide +kernel
theorem dX6_performAct_127 : decode cX6_performAct 127 = .ok (.invokevirtual 62, 3) := by decide +kernel
theorem dX6_performAct_130 : decode cX6_performAct 130 = .ok (.ireturn, 1) := by decide +kernel
theorem dX6_performAct_131 : decode cX6_performAct 131 = .ok (.bipush (-5), 2) := by decide +kernel
theorem dX6_performAct_133 : decode cX6_performAct 133 = .ok (.ireturn, 1) := by decide +kernel
theorem dX6_isAgent_0 : decode cX6_isAgent 0 = .ok (.iload_n 0, 1) := by decide +kernel
theorem dX6_isAgent_1 : decode cX6_isAgent 1 = .ok (.ifCond .lt 13, 3) := by decide +kernel
theorem dX6_isAgent_4 : decode cX6_isAgent 4 = .ok (.iload_n 0, 1) := by decide +kernel
theorem dX6_isAgent_5 : decode cX6_isAgent 5 = .ok (.bipush 6, 2) := by decide +kernel
theorem dX6_isAgent_7 : decode cX6_isAgent 7 = .ok (.if_icmp .ge 7, 3) := by decide +kernel
theorem dX6_isAgent_10 : decode cX6_isAgent 10 = .ok (.iconst 1, 1) := by decide +kernel
theorem dX6_isAgent_11 : decode cX6_isAgent 11 = .ok (.goto 4, 3) := by decide +kernel
theorem dX6_isAgent_14 : decode cX6_isAgent 14 = .ok (.iconst 0, 1) := by decide +kernel
theorem dX6_isAgent_15 : decode cX6_isAgent 15 = .ok (.ireturn, 1) := by decide +kernel
theorem dX6_isCell_0 : decode cX6_isCell 0 = .ok (.iload_n 0, 1) := by decide +kernel
theorem dX6_isCell_1 : decode cX6_isCell 1 = .ok (.ifCond .lt 13, 3) := by decide +kernel
theorem dX6_isCell_4 : decode cX6_isCell 4 = .ok (.iload_n 0, 1) := by decide +kernel
theorem dX6_isCell_5 : decode cX6_isCell 5 = .ok (.bipush 6, 2) := by decide +kernel
theorem dX6_isCell_7 : decode cX6_isCell 7 = .ok (.if_icmp .ge 7, 3) := by decide +kernel
theorem dX6_isCell_10 : decode cX6_isCell 10 = .ok (.iconst 1, 1) := by decide +kernel
theorem dX6_isCell_11 : decode cX6_isCell 11 = .ok (.goto 4, 3) := by decide +kernel
theorem dX6_isCell_14 : decode cX6_isCell 14 = .ok (.iconst 0, 1) := by decide +kernel
theorem dX6_isCell_15 : decode cX6_isCell 15 = .ok (.ireturn, 1) := by decide +kernel
theorem dX7_init_0 : decode cX7_init 0 = .ok (.aload_n 0, 1) := by decide +kernel
theorem dX7_init_1 : decode cX7_init 1 = .ok (.invokespecial 1, 3) := by decide +kernel
theorem dX7_init_4 : decode cX7_init 4 = .ok (.aload_n 0, 1) := by decide +kernel
theorem dX7_init_5 : decode cX7_init 5 = .ok (.sipush 336, 3) := by decide +kernel
theorem dX7_init_8 : decode cX7_init 8 = .ok (.newarray .int, 2) := by decide +kernel
theorem dX7_init_10 : decode cX7_init 10 = .ok (.putfield 7, 3) := by decide +kernel
theorem dX7_init_13 : decode cX7_init 13 = .ok (.aload_n 0, 1) := by decide +kernel
theorem dX7_init_14 : decode cX7_init 14 = .ok (.sipush 336, 3) := by decide +kernel
theorem dX7_init_17 : decode cX7_init 17 = .ok (.newarray .int, 2) := by decide +kernel
theorem dX7_init_19 : decode cX7_init 19 = .ok (.putfield 13, 3) := by decide +kernel
theorem dX7_init_22 : decode cX7_init 22 = .ok (.aload_n 0, 1) := by decide +kernel
theorem dX7_init_23 : decode cX7_init 23 = .ok (.sipush 336, 3) := by decide +kernel
theorem dX7_init_26 : decode cX7_init 26 = .ok (.newarray .int, 2) := by decide +kernel
theorem dX7_init_28 : decode cX7_init 28 = .ok (.putfield 16, 3) := by decide +kernel
theorem dX7_init_31 : decode cX7_init 31 = .ok (.aload_n 0, 1) := by decide +kernel
theorem dX7_init_32 : decode cX7_init 32 = .ok (.sipush 1344, 3) := by decide +kernel
theorem dX7_init_35 : decode cX7_init 35 = .ok (.newarray .int, 2) := by decide +kernel
theorem dX7_init_37 : decode cX7_init 37 = .ok (.putfield 19, 3) := by decide +kernel
theorem dX7_init_40 : decode cX7_init 40 = .ok (.aload_n 0, 1) := by decide +kernel
theorem dX7_init_41 : decode cX7_init 41 = .ok (.sipush 336, 3) := by decide +kernel
theorem dX7_init_44 : decode cX7_init 44 = .ok (.newarray .int, 2) := by decide +kernel
theorem dX7_init_46 : decode cX7_init 46 = .ok (.putfield 22, 3) := by decide +kernel
theorem dX7_init_49 : decode cX7_init 49 = .ok (.aload_n 0, 1) := by decide +kernel
theorem dX7_init_50 : decode cX7_init 50 = .ok (.bipush 60, 2) := by decide +kernel
theorem dX7_init_52 : decode cX7_init 52 = .ok (.newarray .int, 2) := by decide +kernel
theorem dX7_init_54 : decode cX7_init 54 = .ok (.putfield 25, 3) := by decide +kernel
theorem dX7_init_57 : decode cX7_init 57 = .ok (.aload_n 0, 1) := by decide +kernel
theorem dX7_init_58 : decode cX7_init 58 = .ok (.bipush (-5), 2) := by decide +kernel
theorem dX7_init_60 : decode cX7_init 60 = .ok (.putfield 28, 3) := by decide +kernel
theorem dX7_init_63 : decode cX7_init 63 = .ok (.aload_n 0, 1) := by decide +kernel
theorem dX7_init_64 : decode cX7_init 64 = .ok (.bipush (-5), 2) := by decide +kernel
theorem dX7_init_66 : decode cX7_init 66 = .ok (.putfield 32, 3) := by decide +kernel
theorem dX7_init_69 : decode cX7_init 69 = .ok (.aload_n 0, 1) := by decide +kernel
theorem dX7_init_70 : decode cX7_init 70 = .ok (.bipush 7, 2) := by decide +kernel
theorem dX7_init_72 : decode cX7_init 72 = .ok (.newarray .int, 2) := by decide +kernel
theorem dX7_init_74 : decode cX7_init 74 = .ok (.putfield 35, 3) := by decide +kernel
theorem dX7_init_77 : decode cX7_init 77 = .ok (.aload_n 0, 1) := by decide +kernel
theorem dX7_init_78 : decode cX7_init 78 = .ok (.bipush 7, 2) := by decide +kernel
theorem dX7_init_80 : decode cX7_init 80 = .ok (.newarray .int, 2) := by decide +kernel
theorem dX7_init_82 : decode cX7_init 82 = .ok (.putfield 38, 3) := by decide +kernel
theorem dX7_init_85 : decode cX7_init 85 = .ok (.aload_n 0, 1) := by decide +kernel
theorem dX7_init_86 : decode cX7_init 86 = .ok (.bipush 7, 2) := by decide +kernel
theorem dX7_init_88 : decode cX7_init 88 = .ok (.newarray .boolean, 2) := by decide +kernel
theorem dX7_init_90 : decode cX7_init 90 = .ok (.putfield 41, 3) := by decide +kernel
theorem dX7_init_93 : decode cX7_init 93 = .ok (.aload_n 0, 1) := by decide +kernel
theorem dX7_init_94 : decode cX7_init 94 = .ok (.iconst 5, 1) := by decide +kernel
theorem dX7_init_95 : decode cX7_init 95 = .ok (.newarray .int, 2) := by decide +kernel
theorem dX7_init_97 : decode cX7_init 97 = .ok (.putfield 45, 3) := by decide +kernel
theorem dX7_init_100 : decode cX7_init 100 = .ok (.aload_n 0, 1) := by decide +kernel
theorem dX7_init_101 : decode cX7_init 101 = .ok (.sipush 384, 3) := by decide +kernel
theorem dX7_init_104 : decode cX7_init 104 = .ok (.newarray .boolean, 2) := by decide +kernel
theorem dX7_init_106 : decode cX7_init 106 = .ok (.putfield 48, 3) := by decide +kernel
theorem dX7_init_109 : decode cX7_init 109 = .ok (.iconst 0, 1) := by decide +kernel
theorem dX7_init_110 : decode cX7_init 110 = .ok (.istore_n 1, 1) := by decide +kernel
theorem dX7_init_111 : decode cX7_init 111 = .ok (.iload_n 1, 1) := by decide +kernel
theorem dX7_init_112 : decode cX7_init 112 = .ok (.bipush 6, 2) := by decide +kernel
theorem dX7_init_114 : decode cX7_init 114 = .ok (.if_icmp .ge 31, 3) := by decide +kernel
theorem dX7_init_117 : decode cX7_init 117 = .ok (.aload_n 0, 1) := by decide +kernel
theorem dX7_init_118 : decode cX7_init 118 = .ok (.getfield 7, 3) := by decide +kernel
theorem dX7_init_121 : decode cX7_init 121 = .ok (.bipush 126, 2) := by decide +kernel
theorem dX7_init_123 : decode cX7_init 123 = .ok (.iload_n 1, 1) := by decide +kernel
theorem dX7_init_124 : decode cX7_init 124 = .ok (.iadd, 1) := by decide +kernel
theorem dX7_init_125 : decode cX7_init 125 = .ok (.iload_n 1, 1) := by decide +kernel
theorem dX7_init_126 : decode cX7_init 126 = .ok (.iastore, 1) := by decide +kernel
theorem dX7_init_127 : decode cX7_init 127 = .ok (.aload_n 0, 1) := by decide +kernel
theorem dX7_init_128 : decode cX7_init 128 = .ok (.getfield 7, 3) := by decide +kernel
theorem dX7_init_131 : decode cX7_init 131 = .ok (.iload_n 1, 1) := by decide +kernel
theorem dX7_init_132 : decode cX7_init 132 = .ok (.iload_n 1, 1) := by decide +kernel
theorem dX7_init_133 : decode cX7_init 133 = .ok (.invokestatic 51, 3) := by decide +kernel
theorem dX7_init_136 : decode cX7_init 136 = .ok (.bipush 64, 2) := by decide +kernel
theorem dX7_init_138 : decode cX7_init 138 = .ok (.iastore, 1) := by decide +kernel
theorem dX7_init_139 : decode cX7_init 139 = .ok (.iinc 1 1, 3) := by decide +kernel
theorem dX7_init_142 : decode cX7_init 142 = .ok (.goto (-31), 3) := by decide +kernel
theorem dX7_init_145 : decode cX7_init 145 = .ok (.return_, 1) := by decide +kernel
theorem dX7_in_0 : decode cX7_in 0 = .ok (.iload_n 0, 1) := by decide +kernel
theorem dX7_in_1 : decode cX7_in 1 = .ok (.iload_n 1, 1) := by decide +kernel
theorem dX7_in_2 : decode cX7_in 2 = .ok (.if_icmp .lt 12, 3) := by decide +kernel
theorem dX7_in_5 : decode cX7_in 5 = .ok (.iload_n 0, 1) := by decide +kernel
theorem dX7_in_6 : decode cX7_in 6 = .ok (.iload_n 2, 1) := by decide +kernel
theorem dX7_in_7 : decode cX7_in 7 = .ok (.if_icmp .gt 7, 3) := by decide +kernel
theorem dX7_in_10 : decode cX7_in 10 = .ok (.iconst 1, 1) := by decide +kernel
theorem dX7_in_11 : decode cX7_in 11 = .ok (.goto 4, 3) := by decide +kernel
theorem dX7_in_14 : decode cX7_in 14 = .ok (.iconst 0, 1) := by decide +kernel
theorem dX7_in_15 : decode cX7_in 15 = .ok (.ireturn, 1) := by decide +kernel
theorem dX7_held_0 : decode cX7_held 0 = .ok (.iconst 0, 1) := by decide +kernel
theorem dX7_held_1 : decode cX7_held 1 = .ok (.bipush 6, 2) := by decide +kernel
theorem dX7_held_3 : decode cX7_held 3 = .ok (.iload_n 1, 1) := by decide +kernel
theorem dX7_held_4 : decode cX7_held 4 = .ok (.imul, 1) := by decide +kernel
theorem dX7_held_5 : decode cX7_held 5 = .ok (.iadd, 1) := by decide +kernel
theorem dX7_held_6 : decode cX7_held 6 = .ok (.iload_n 0, 1) := by decide +kernel
theorem dX7_held_7 : decode cX7_held 7 = .ok (.iadd, 1) := by decide +kernel
theorem dX7_held_8 : decode cX7_held 8 = .ok (.ireturn, 1) := by decide +kernel
theorem dX7_holds_0 : decode cX7_holds 0 = .ok (.bipush 36, 2) := by decide +kernel
theorem dX7_holds_2 : decode cX7_holds 2 = .ok (.bipush 6, 2) := by decide +kernel
theorem dX7_holds_4 : decode cX7_holds 4 = .ok (.iload_n 1, 1) := by decide +kernel
theorem dX7_holds_5 : decode cX7_holds 5 = .ok (.imul, 1) := by decide +kernel
theorem dX7_holds_6 : decode cX7_holds 6 = .ok (.iadd, 1) := by decide +kernel
theorem dX7_holds_7 : decode cX7_holds 7 = .ok (.iload_n 0, 1) := by decide +kernel
theorem dX7_holds_8 : decode cX7_holds 8 = .ok (.iadd, 1) := by decide +kernel
theorem dX7_holds_9 : decode cX7_holds 9 = .ok (.ireturn, 1) := by decide +kernel
theorem dX7_of_0 : decode cX7_of 0 = .ok (.sipush 136, 3) := by decide +kernel
theorem dX7_of_3 : decode cX7_of 3 = .ok (.iconst 5, 1) := by decide +kernel
theorem dX7_of_4 : decode cX7_of 4 = .ok (.iload_n 0, 1) := by decide +kernel
theorem dX7_of_5 : decode cX7_of 5 = .ok (.imul, 1) := by decide +kernel
theorem dX7_of_6 : decode cX7_of 6 = .ok (.iadd, 1) := by decide +kernel
theorem dX7_of_7 : decode cX7_of 7 = .ok (.iload_n 1, 1) := by decide +kernel
theorem dX7_of_8 : decode cX7_of 8 = .ok (.iadd, 1) := by decide +kernel
theorem dX7_of_9 : decode cX7_of 9 = .ok (.ireturn, 1) := by decide +kernel
theorem dX7_isAgent_0 : decode cX7_isAgent 0 = .ok (.iload_n 0, 1) := by decide +kernel
theorem dX7_isAgent_1 : decode cX7_isAgent 1 = .ok (.iconst 0, 1) := by decide +kernel
theorem dX7_isAgent_2 : decode cX7_isAgent 2 = .ok (.iconst 5, 1) := by decide +kernel
theorem dX7_isAgent_3 : decode cX7_isAgent 3 = .ok (.invokestatic 55, 3) := by decide +kernel
theorem dX7_isAgent_6 : decode cX7_isAgent 6 = .ok (.ireturn, 1) := by decide +kernel
theorem dX7_isCell_0 : decode cX7_isCell 0 = .ok (.iload_n 0, 1) := by decide +kernel
theorem dX7_isCell_1 : decode cX7_isCell 1 = .ok (.iconst 0, 1) := by decide +kernel
theorem dX7_isCell_2 : decode cX7_isCell 2 = .ok (.iconst 5, 1) := by decide +kernel
theorem dX7_isCell_3 : decode cX7_isCell 3 = .ok (.invokestatic 55, 3) := by decide +kernel
theorem dX7_isCell_6 : decode cX7_isCell 6 = .ok (.ireturn, 1) := by decide +kernel
theorem dX7_areBoth_0 : decode cX7_areBoth 0 = .ok (.iload_n 0, 1) := by decide +kernel
theorem dX7_areBoth_1 : decode cX7_areBoth 1 = .ok (.invokestatic 59, 3) := by decide +kernel
theorem dX7_areBoth_4 : decode cX7_areBoth 4 = .ok (.ifCond .eq 14, 3) := by decide +kernel
theorem dX7_areBoth_7 : decode cX7_areBoth 7 = .ok (.iload_n 1, 1) := by decide +kernel
theorem dX7_areBoth_8 : decode cX7_areBoth 8 = .ok (.invokestatic 63, 3) := by decide +kernel
theorem dX7_areBoth_11 : decode cX7_areBoth 11 = .ok (.ifCond .eq 7, 3) := by decide +kernel
theorem dX7_areBoth_14 : decode cX7_areBoth 14 = .ok (.iconst 1, 1) := by decide +kernel
theorem dX7_areBoth_15 : decode cX7_areBoth 15 = .ok (.goto 4, 3) := by decide +kernel
theorem dX7_areBoth_18 : decode cX7_areBoth 18 = .ok (.iconst 0, 1) := by decide +kernel
theorem dX7_areBoth_19 : decode cX7_areBoth 19 = .ok (.ireturn, 1) := by decide +kernel
theorem dX7_know_0 : decode cX7_know 0 = .ok (.aload_n 0, 1) := by decide +kernel
theorem dX7_know_1 : decode cX7_know 1 = .ok (.getfield 66, 3) := by decide +kernel
theorem dX7_know_4 : decode cX7_know 4 = .ok (.iconst 4, 1) := by decide +kernel
theorem dX7_know_5 : decode cX7_know 5 = .ok (.if_icmp .ne 44, 3) := by decide +kernel
theorem dX7_know_8 : decode cX7_know 8 = .ok (.iconst 0, 1) := by decide +kernel
theorem dX7_know_9 : decode cX7_know 9 = .ok (.istore_n 1, 1) := by decide +kernel
theorem dX7_know_10 : decode cX7_know 10 = .ok (.iload_n 1, 1) := by decide +kernel
theorem dX7_know_11 : decode cX7_know 11 = .ok (.sipush 1008, 3) := by decide +kernel
theorem dX7_know_14 : decode cX7_know 14 = .ok (.if_icmp .ge 25, 3) := by decide +kernel
theorem dX7_know_17 : decode cX7_know 17 = .ok (.aload_n 0, 1) := by decide +kernel
theorem dX7_know_18 : decode cX7_know 18 = .ok (.getfield 19, 3) := by decide +kernel
theorem dX7_know_21 : decode cX7_know 21 = .ok (.iload_n 1, 1) := by decide +kernel
theorem dX7_know_22 : decode cX7_know 22 = .ok (.aload_n 0, 1) := by decide +kernel
theorem dX7_know_23 : decode cX7_know 23 = .ok (.getfield 19, 3) := by decide +kernel
theorem dX7_know_26 : decode cX7_know 26 = .ok (.sipush 336, 3) := by decide +kernel
theorem dX7_know_29 : decode cX7_know 29 = .ok (.iload_n 1, 1) := by decide +kernel
theorem dX7_know_30 : decode cX7_know 30 = .ok (.iadd, 1) := by decide +kernel
theorem dX7_know_31 : decode cX7_know 31 = .ok (.iaload, 1) := by decide +kernel
theorem dX7_know_32 : decode cX7_know 32 = .ok (.iastore, 1) := by decide +kernel
theorem dX7_know_33 : decode cX7_know 33 = .ok (.iinc 1 1, 3) := by decide +kernel
theorem dX7_know_36 : decode cX7_know 36 = .ok (.goto (-26), 3) := by decide +kernel
theorem dX7_know_39 : decode cX7_know 39 = .ok (.aload_n 0, 1) := by decide +kernel
theorem dX7_know_40 : decode cX7_know 40 = .ok (.dup, 1) := by decide +kernel
theorem dX7_know_41 : decode cX7_know 41 = .ok (.getfield 66, 3) := by decide +kernel
theorem dX7_know_44 : decode cX7_know 44 = .ok (.iconst 1, 1) := by decide +kernel
theorem dX7_know_45 : decode cX7_know 45 = .ok (.isub, 1) := by decide +kernel
theorem dX7_know_46 : decode cX7_know 46 = .ok (.putfield 66, 3) := by decide +kernel
theorem dX7_know_49 : decode cX7_know 49 = .ok (.iconst 0, 1) := by decide +kernel
theorem dX7_know_50 : decode cX7_know 50 = .ok (.istore_n 1, 1) := by decide +kernel
theorem dX7_know_51 : decode cX7_know 51 = .ok (.iload_n 1, 1) := by decide +kernel
theorem dX7_know_52 : decode cX7_know 52 = .ok (.sipush 336, 3) := by decide +kernel
theorem dX7_know_55 : decode cX7_know 55 = .ok (.if_icmp .ge 30, 3) := by decide +kernel
theorem dX7_know_58 : decode cX7_know 58 = .ok (.aload_n 0, 1) := by decide +kernel
theorem dX7_know_59 : decode cX7_know 59 = .ok (.getfield 19, 3) := by decide +kernel
theorem dX7_know_62 : decode cX7_know 62 = .ok (.sipush 336, 3) := by decide +kernel
theorem dX7_know_65 : decode cX7_know 65 = .ok (.aload_n 0, 1) := by decide +kernel
theorem dX7_know_66 : decode cX7_know 66 = .ok (.getfield 66, 3) := by decide +kernel
theorem dX7_know_69 : decode cX7_know 69 = .ok (.imul, 1) := by decide +kernel
theorem dX7_know_70 : decode cX7_know 70 = .ok (.iload_n 1, 1) := by decide +kernel
theorem dX7_know_71 : decode cX7_know 71 = .ok (.iadd, 1) := by decide +kernel
theorem dX7_know_72 : decode cX7_know 72 = .ok (.aload_n 0, 1) := by decide +kernel
theorem dX7_know_73 : decode cX7_know 73 = .ok (.getfield 7, 3) := by decide +kernel
theorem dX7_know_76 : decode cX7_know 76 = .ok (.iload_n 1, 1) := by decide +kernel
theorem dX7_know_77 : decode cX7_know 77 = .ok (.iaload, 1) := by decide +kernel
theorem dX7_know_78 : decode cX7_know 78 = .ok (.iastore, 1) := by decide +kernel
theorem dX7_know_79 : decode cX7_know 79 = .ok (.iinc 1 1, 3) := by decide +kernel
theorem dX7_know_82 : decode cX7_know 82 = .ok (.goto (-31), 3) := by decide +kernel
theorem dX7_know_85 : decode cX7_know 85 = .ok (.aload_n 0, 1) := by decide +kernel
theorem dX7_know_86 : decode cX7_know 86 = .ok (.dup, 1) := by decide +kernel
theorem dX7_know_87 : decode cX7_know 87 = .ok (.getfield 66, 3) := by decide +kernel
theorem dX7_know_90 : decode cX7_know 90 = .ok (.iconst 1, 1) := by decide +kernel
theorem dX7_know_91 : decode cX7_know 91 = .ok (.iadd, 1) := by decide +kernel
theorem dX7_know_92 : decode cX7_know 92 = .ok (.putfield 66, 3) := by decide +kernel
theorem dX7_know_95 : decode cX7_know 95 = .ok (.return_, 1) := by decide +kernel
theorem dX7_putAside_0 : decode cX7_putAside 0 = .ok (.iconst 0, 1) := by decide +kernel
theorem dX7_putAside_1 : decode cX7_putAside 1 = .ok (.istore_n 1, 1) := by decide +kernel
theorem dX7_putAside_2 : decode cX7_putAside 2 = .ok (.iload_n 1, 1) := by decide +kernel
theorem dX7_putAside_3 : decode cX7_putAside 3 = .ok (.sipush 336, 3) := by decide +kernel
theorem dX7_putAside_6 : decode cX7_putAside 6 = .ok (.if_icmp .ge 21, 3) := by decide +kernel
theorem dX7_putAside_9 : decode cX7_putAside 9 = .ok (.aload_n 0, 1) := by decide +kernel
theorem dX7_putAside_10 : decode cX7_putAside 10 = .ok (.getfield 13, 3) := by decide +kernel
theorem dX7_putAside_13 : decode cX7_putAside 13 = .ok (.iload_n 1, 1) := by decide +kernel
theorem dX7_putAside_14 : decode cX7_putAside 14 = .ok (.aload_n 0, 1) := by decide +kernel
theorem dX7_putAside_15 : decode cX7_putAside 15 = .ok (.getfield 7, 3) := by decide +kernel
theorem dX7_putAside_18 : decode cX7_putAside 18 = .ok (.iload_n 1, 1) := by decide +kernel
theorem dX7_putAside_19 : decode cX7_putAside 19 = .ok (.iaload, 1) := by decide +kernel
theorem dX7_putAside_20 : decode cX7_putAside 20 = .ok (.iastore, 1) := by decide +kernel
theorem dX7_putAside_21 : decode cX7_putAside 21 = .ok (.iinc 1 1, 3) := by decide +kernel
theorem dX7_putAside_24 : decode cX7_putAside 24 = .ok (.goto (-22), 3) := by decide +kernel
theorem dX7_putAside_27 : decode cX7_putAside 27 = .ok (.return_, 1) := by decide +kernel
theorem dX7_putBack_0 : decode cX7_putBack 0 = .ok (.iconst 0, 1) := by decide +kernel
theorem dX7_putBack_1 : decode cX7_putBack 1 = .ok (.istore_n 1, 1) := by decide +kernel
theorem dX7_putBack_2 : decode cX7_putBack 2 = .ok (.iload_n 1, 1) := by decide +kernel
theorem dX7_putBack_3 : decode cX7_putBack 3 = .ok (.sipush 336, 3) := by decide +kernel
theorem dX7_putBack_6 : decode cX7_putBack 6 = .ok (.if_icmp .ge 21, 3) := by decide +kernel
theorem dX7_putBack_9 : decode cX7_putBack 9 = .ok (.aload_n 0, 1) := by decide +kernel
theorem dX7_putBack_10 : decode cX7_putBack 10 = .ok (.getfield 7, 3) := by decide +kernel
theorem dX7_putBack_13 : decode cX7_putBack 13 = .ok (.iload_n 1, 1) := by decide +kernel
theorem dX7_putBack_14 : decode cX7_putBack 14 = .ok (.aload_n 0, 1) := by decide +kernel
theorem dX7_putBack_15 : decode cX7_putBack 15 = .ok (.getfield 13, 3) := by decide +kernel
theorem dX7_putBack_18 : decode cX7_putBack 18 = .ok (.iload_n 1, 1) := by decide +kernel
theorem dX7_putBack_19 : decode cX7_putBack 19 = .ok (.iaload, 1) := by decide +kernel
theorem dX7_putBack_20 : decode cX7_putBack 20 = .ok (.iastore, 1) := by decide +kernel
theorem dX7_putBack_21 : decode cX7_putBack 21 = .ok (.iinc 1 1, 3) := by decide +kernel
theorem dX7_putBack_24 : decode cX7_putBack 24 = .ok (.goto (-22), 3) := by decide +kernel
theorem dX7_putBack_27 : decode cX7_putBack 27 = .ok (.return_, 1) := by decide +kernel
theorem dX7_placeOf_0 : decode cX7_placeOf 0 = .ok (.iconst 0, 1) := by decide +kernel
theorem dX7_placeOf_1 : decode cX7_placeOf 1 = .ok (.istore_n 2, 1) := by decide +kernel
theorem dX7_placeOf_2 : decode cX7_placeOf 2 = .ok (.iload_n 2, 1) := by decide +kernel
theorem dX7_placeOf_3 : decode cX7_placeOf 3 = .ok (.aload_n 0, 1) := by decide +kernel
theorem dX7_placeOf_4 : decode cX7_placeOf 4 = .ok (.getfield 7, 3) := by decide +kernel
theorem dX7_placeOf_7 : decode cX7_placeOf 7 = .ok (.sipush 132, 3) := by decide +kernel
theorem dX7_placeOf_10 : decode cX7_placeOf 10 = .ok (.iaload, 1) := by decide +kernel
theorem dX7_placeOf_11 : decode cX7_placeOf 11 = .ok (.if_icmp .ge 25, 3) := by decide +kernel
theorem dX7_placeOf_14 : decode cX7_placeOf 14 = .ok (.aload_n 0, 1) := by decide +kernel
theorem dX7_placeOf_15 : decode cX7_placeOf 15 = .ok (.getfield 7, 3) := by decide +kernel
theorem dX7_placeOf_18 : decode cX7_placeOf 18 = .ok (.iload_n 2, 1) := by decide +kernel
theorem dX7_placeOf_19 : decode cX7_placeOf 19 = .ok (.iconst 0, 1) := by decide +kernel
theorem dX7_placeOf_20 : decode cX7_placeOf 20 = .ok (.invokestatic 69, 3) := by decide +kernel
theorem dX7_placeOf_23 : decode cX7_placeOf 23 = .ok (.iaload, 1) := by decide +kernel
theorem dX7_placeOf_24 : decode cX7_placeOf 24 = .ok (.iload_n 1, 1) := by decide +kernel
theorem dX7_placeOf_25 : decode cX7_placeOf 25 = .ok (.if_icmp .ne 5, 3) := by decide +kernel
theorem dX7_placeOf_28 : decode cX7_placeOf 28 = .ok (.iload_n 2, 1) := by decide +kernel
theorem dX7_placeOf_29 : decode cX7_placeOf 29 = .ok (.ireturn, 1) := by decide +kernel
theorem dX7_placeOf_30 : decode cX7_placeOf 30 = .ok (.iinc 2 1, 3) := by decide +kernel
theorem dX7_placeOf_33 : decode cX7_placeOf 33 = .ok (.goto (-31), 3) := by decide +kernel
theorem dX7_placeOf_36 : decode cX7_placeOf 36 = .ok (.bipush (-5), 2) := by decide +kernel
theorem dX7_placeOf_38 : decode cX7_placeOf 38 = .ok (.ireturn, 1) := by decide +kernel
theorem dX7_isFull_0 : decode cX7_isFull 0 = .ok (.aload_n 0, 1) := by decide +kernel
theorem dX7_isFull_1 : decode cX7_isFull 1 = .ok (.getfield 7, 3) := by decide +kernel
theorem dX7_isFull_4 : decode cX7_isFull 4 = .ok (.sipush 132, 3) := by decide +kernel
theorem dX7_isFull_7 : decode cX7_isFull 7 = .ok (.iaload, 1) := by decide +kernel
theorem dX7_isFull_8 : decode cX7_isFull 8 = .ok (.bipush 40, 2) := by decide +kernel
theorem dX7_isFull_10 : decode cX7_isFull 10 = .ok (.if_icmp .eq 17, 3) := by decide +kernel
theorem dX7_isFull_13 : decode cX7_isFull 13 = .ok (.aload_n 0, 1) := by decide +kernel
theorem dX7_isFull_14 : decode cX7_isFull 14 = .ok (.getfield 7, 3) := by decide +kernel
theorem dX7_isFull_17 : decode cX7_isFull 17 = .ok (.sipush 133, 3) := by decide +kernel
theorem dX7_isFull_20 : decode cX7_isFull 20 = .ok (.iaload, 1) := by decide +kernel
theorem dX7_isFull_21 : decode cX7_isFull 21 = .ok (.sipush 1000, 3) := by decide +kernel
theorem dX7_isFull_24 : decode cX7_isFull 24 = .ok (.if_icmp .ne 7, 3) := by decide +kernel
theorem dX7_isFull_27 : decode cX7_isFull 27 = .ok (.iconst 1, 1) := by decide +kernel
theorem dX7_isFull_28 : decode cX7_isFull 28 = .ok (.goto 4, 3) := by decide +kernel
theorem dX7_isFull_31 : decode cX7_isFull 31 = .ok (.iconst 0, 1) := by decide +kernel
theorem dX7_isFull_32 : decode cX7_isFull 32 = .ok (.ireturn, 1) := by decide +kernel
theorem dX7_lends_0 : decode cX7_lends 0 = .ok (.aload_n 0, 1) := by decide +kernel
theorem dX7_lends_1 : decode cX7_lends 1 = .ok (.getfield 7, 3) := by decide +kernel
theorem dX7_lends_4 : decode cX7_lends 4 = .ok (.sipush 132, 3) := by decide +kernel
theorem dX7_lends_7 : decode cX7_lends 7 = .ok (.iaload, 1) := by decide +kernel
theorem dX7_lends_8 : decode cX7_lends 8 = .ok (.istore 5, 2) := by decide +kernel
theorem dX7_lends_10 : decode cX7_lends 10 = .ok (.aload_n 0, 1) := by decide +kernel
theorem dX7_lends_11 : decode cX7_lends 11 = .ok (.getfield 7, 3) := by decide +kernel
theorem dX7_lends_14 : decode cX7_lends 14 = .ok (.iload 5, 2) := by decide +kernel
theorem dX7_lends_16 : decode cX7_lends 16 = .ok (.iconst 0, 1) := by decide +kernel
theorem dX7_lends_17 : decode cX7_lends 17 = .ok (.invokestatic 69, 3) := by decide +kernel
theorem dX7_lends_20 : decode cX7_lends 20 = .ok (.aload_n 0, 1) := by decide +kernel
theorem dX7_lends_21 : decode cX7_lends 21 = .ok (.getfield 7, 3) := by decide +kernel
theorem dX7_lends_24 : decode cX7_lends 24 = .ok (.sipush 133, 3) := by decide +kernel
theorem dX7_lends_27 : decode cX7_lends 27 = .ok (.iaload, 1) := by decide +kernel
theorem dX7_lends_28 : decode cX7_lends 28 = .ok (.iastore, 1) := by decide +kernel
theorem dX7_lends_29 : decode cX7_lends 29 = .ok (.aload_n 0, 1) := by decide +kernel
theorem dX7_lends_30 : decode cX7_lends 30 = .ok (.getfield 7, 3) := by decide +kernel
theorem dX7_lends_33 : decode cX7_lends 33 = .ok (.iload 5, 2) := by decide +kernel
theorem dX7_lends_35 : decode cX7_lends 35 = .ok (.iconst 1, 1) := by decide +kernel
theorem dX7_lends_36 : decode cX7_lends 36 = .ok (.invokestatic 69, 3) := by decide +kernel
theorem dX7_lends_39 : decode cX7_lends 39 = .ok (.iload_n 1, 1) := by decide +kernel
theorem dX7_lends_40 : decode cX7_lends 40 = .ok (.iastore, 1) := by decide +kernel
theorem dX7_lends_41 : decode cX7_lends 41 = .ok (.aload_n 0, 1) := by decide +kernel
theorem dX7_lends_42 : decode cX7_lends 42 = .ok (.getfield 7, 3) := by decide +kernel
theorem dX7_lends_45 : decode cX7_lends 45 = .ok (.iload 5, 2) := by decide +kernel
theorem dX7_lends_47 : decode cX7_lends 47 = .ok (.iconst 2, 1) := by decide +kernel
theorem dX7_lends_48 : decode cX7_lends 48 = .ok (.invokestatic 69, 3) := by decide +kernel
theorem dX7_lends_51 : decode cX7_lends 51 = .ok (.iload_n 2, 1) := by decide +kernel
theorem dX7_lends_52 : decode cX7_lends 52 = .ok (.iastore, 1) := by decide +kernel
theorem dX7_lends_53 : decode cX7_lends 53 = .ok (.aload_n 0, 1) := by decide +kernel
theorem dX7_lends_54 : decode cX7_lends 54 = .ok (.getfield 7, 3) := by decide +kernel
theorem dX7_lends_57 : decode cX7_lends 57 = .ok (.iload 5, 2) := by decide +kernel
theorem dX7_lends_59 : decode cX7_lends 59 = .ok (.iconst 3, 1) := by decide +kernel
theorem dX7_lends_60 : decode cX7_lends 60 = .ok (.invokestatic 69, 3) := by decide +kernel
theorem dX7_lends_63 : decode cX7_lends 63 = .ok (.iload_n 3, 1) := by decide +kernel
theorem dX7_lends_64 : decode cX7_lends 64 = .ok (.iastore, 1) := by decide +kernel
theorem dX7_lends_65 : decode cX7_lends 65 = .ok (.aload_n 0, 1) := by decide +kernel
theorem dX7_lends_66 : decode cX7_lends 66 = .ok (.getfield 7, 3) := by decide +kernel
theorem dX7_lends_69 : decode cX7_lends 69 = .ok (.iload 5, 2) := by decide +kernel
theorem dX7_lends_71 : decode cX7_lends 71 = .ok (.iconst 4, 1) := by decide +kernel
theorem dX7_lends_72 : decode cX7_lends 72 = .ok (.invokestatic 69, 3) := by decide +kernel
theorem dX7_lends_75 : decode cX7_lends 75 = .ok (.iload 4, 2) := by decide +kernel
theorem dX7_lends_77 : decode cX7_lends 77 = .ok (.iastore, 1) := by decide +kernel
theorem dX7_lends_78 : decode cX7_lends 78 = .ok (.aload_n 0, 1) := by decide +kernel
theorem dX7_lends_79 : decode cX7_lends 79 = .ok (.getfield 7, 3) := by decide +kernel
theorem dX7_lends_82 : decode cX7_lends 82 = .ok (.iload_n 1, 1) := by decide +kernel
theorem dX7_lends_83 : decode cX7_lends 83 = .ok (.iload_n 3, 1) := by decide +kernel
theorem dX7_lends_84 : decode cX7_lends 84 = .ok (.invokestatic 51, 3) := by decide +kernel
theorem dX7_lends_87 : decode cX7_lends 87 = .ok (.dup2, 1) := by decide +kernel
theorem dX7_lends_88 : decode cX7_lends 88 = .ok (.iaload, 1) := by decide +kernel
theorem dX7_lends_89 : decode cX7_lends 89 = .ok (.iload 4, 2) := by decide +kernel
theorem dX7_lends_91 : decode cX7_lends 91 = .ok (.isub, 1) := by decide +kernel
theorem dX7_lends_92 : decode cX7_lends 92 = .ok (.iastore, 1) := by decide +kernel
theorem dX7_lends_93 : decode cX7_lends 93 = .ok (.aload_n 0, 1) := by decide +kernel
theorem dX7_lends_94 : decode cX7_lends 94 = .ok (.getfield 7, 3) := by decide +kernel
theorem dX7_lends_97 : decode cX7_lends 97 = .ok (.iload_n 2, 1) := by decide +kernel
theorem dX7_lends_98 : decode cX7_lends 98 = .ok (.iload_n 3, 1) := by decide +kernel
theorem dX7_lends_99 : decode cX7_lends 99 = .ok (.invokestatic 51, 3) := by decide +kernel
theorem dX7_lends_102 : decode cX7_lends 102 = .ok (.dup2, 1) := by decide +kernel
theorem dX7_lends_103 : decode cX7_lends 103 = .ok (.iaload, 1) := by decide +kernel
theorem dX7_lends_104 : decode cX7_lends 104 = .ok (.iload 4, 2) := by decide +kernel
theorem dX7_lends_106 : decode cX7_lends 106 = .ok (.iadd, 1) := by decide +kernel
theorem dX7_lends_107 : decode cX7_lends 107 = .ok (.iastore, 1) := by decide +kernel
theorem dX7_lends_108 : decode cX7_lends 108 = .ok (.aload_n 0, 1) := by decide +kernel
theorem dX7_lends_109 : decode cX7_lends 109 = .ok (.getfield 7, 3) := by decide +kernel
theorem dX7_lends_112 : decode cX7_lends 112 = .ok (.sipush 132, 3) := by decide +kernel
theorem dX7_lends_115 : decode cX7_lends 115 = .ok (.dup2, 1) := by decide +kernel
theorem dX7_lends_116 : decode cX7_lends 116 = .ok (.iaload, 1) := by decide +kernel
theorem dX7_lends_117 : decode cX7_lends 117 = .ok (.iconst 1, 1) := by decide +kernel
theorem dX7_lends_118 : decode cX7_lends 118 = .ok (.iadd, 1) := by decide +kernel
theorem dX7_lends_119 : decode cX7_lends 119 = .ok (.iastore, 1) := by decide +kernel
theorem dX7_lends_120 : decode cX7_lends 120 = .ok (.aload_n 0, 1) := by decide +kernel
theorem dX7_lends_121 : decode cX7_lends 121 = .ok (.getfield 7, 3) := by decide +kernel
theorem dX7_lends_124 : decode cX7_lends 124 = .ok (.sipush 133, 3) := by decide +kernel
theorem dX7_lends_127 : decode cX7_lends 127 = .ok (.dup2, 1) := by decide +kernel
theorem dX7_lends_128 : decode cX7_lends 128 = .ok (.iaload, 1) := by decide +kernel
theorem dX7_lends_129 : decode cX7_lends 129 = .ok (.iconst 1, 1) := by decide +kernel
theorem dX7_lends_130 : decode cX7_lends 130 = .ok (.iadd, 1) := by decide +kernel
theorem dX7_lends_131 : decode cX7_lends 131 = .ok (.iastore, 1) := by decide +kernel
theorem dX7_lends_132 : decode cX7_lends 132 = .ok (.aload_n 0, 1) := by decide +kernel
theorem dX7_lends_133 : decode cX7_lends 133 = .ok (.getfield 7, 3) := by decide +kernel
theorem dX7_lends_136 : decode cX7_lends 136 = .ok (.sipush 133, 3) := by decide +kernel
theorem dX7_lends_139 : decode cX7_lends 139 = .ok (.iaload, 1) := by decide +kernel
theorem dX7_lends_140 : decode cX7_lends 140 = .ok (.iconst 1, 1) := by decide +kernel
theorem dX7_lends_141 : decode cX7_lends 141 = .ok (.isub, 1) := by decide +kernel
theorem dX7_lends_142 : decode cX7_lends 142 = .ok (.ireturn, 1) := by decide +kernel
theorem dX7_canGive_0 : decode cX7_canGive 0 = .ok (.aload_n 0, 1) := by decide +kernel
theorem dX7_canGive_1 : decode cX7_canGive 1 = .ok (.getfield 7, 3) := by decide +kernel
theorem dX7_canGive_4 : decode cX7_canGive 4 = .ok (.iload_n 1, 1) := by decide +kernel
theorem dX7_canGive_5 : decode cX7_canGive 5 = .ok (.iconst 2, 1) := by decide +kernel
theorem dX7_canGive_6 : decode cX7_canGive 6 = .ok (.invokestatic 69, 3) := by decide +kernel
theorem dX7_canGive_9 : decode cX7_canGive 9 = .ok (.iaload, 1) := by decide +kernel
theorem dX7_canGive_10 : decode cX7_canGive 10 = .ok (.istore_n 2, 1) := by decide +kernel
theorem dX7_canGive_11 : decode cX7_canGive 11 = .ok (.aload_n 0, 1) := by decide +kernel
theorem dX7_canGive_12 : decode cX7_canGive 12 = .ok (.getfield 7, 3) := by decide +kernel
theorem dX7_canGive_15 : decode cX7_canGive 15 = .ok (.iload_n 1, 1) := by decide +kernel
theorem dX7_canGive_16 : decode cX7_canGive 16 = .ok (.iconst 3, 1) := by decide +kernel
theorem dX7_canGive_17 : decode cX7_canGive 17 = .ok (.invokestatic 69, 3) := by decide +kernel
theorem dX7_canGive_20 : decode cX7_canGive 20 = .ok (.iaload, 1) := by decide +kernel
theorem dX7_canGive_21 : decode cX7_canGive 21 = .ok (.istore_n 3, 1) := by decide +kernel
theorem dX7_canGive_22 : decode cX7_canGive 22 = .ok (.aload_n 0, 1) := by decide +kernel
theorem dX7_canGive_23 : decode cX7_canGive 23 = .ok (.getfield 7, 3) := by decide +kernel
theorem dX7_canGive_26 : decode cX7_canGive 26 = .ok (.iload_n 2, 1) := by decide +kernel
theorem dX7_canGive_27 : decode cX7_canGive 27 = .ok (.iload_n 3, 1) := by decide +kernel
theorem dX7_canGive_28 : decode cX7_canGive 28 = .ok (.invokestatic 51, 3) := by decide +kernel
theorem dX7_canGive_31 : decode cX7_canGive 31 = .ok (.iaload, 1) := by decide +kernel
theorem dX7_canGive_32 : decode cX7_canGive 32 = .ok (.aload_n 0, 1) := by decide +kernel
theorem dX7_canGive_33 : decode cX7_canGive 33 = .ok (.getfield 7, 3) := by decide +kernel
theorem dX7_canGive_36 : decode cX7_canGive 36 = .ok (.iload_n 1, 1) := by decide +kernel
theorem dX7_canGive_37 : decode cX7_canGive 37 = .ok (.iconst 4, 1) := by decide +kernel
theorem dX7_canGive_38 : decode cX7_canGive 38 = .ok (.invokestatic 69, 3) := by decide +kernel
theorem dX7_canGive_41 : decode cX7_canGive 41 = .ok (.iaload, 1) := by decide +kernel
theorem dX7_canGive_42 : decode cX7_canGive 42 = .ok (.if_icmp .lt 20, 3) := by decide +kernel
theorem dX7_canGive_45 : decode cX7_canGive 45 = .ok (.aload_n 0, 1) := by decide +kernel
theorem dX7_canGive_46 : decode cX7_canGive 46 = .ok (.getfield 7, 3) := by decide +kernel
theorem dX7_canGive_49 : decode cX7_canGive 49 = .ok (.iload_n 2, 1) := by decide +kernel
theorem dX7_canGive_50 : decode cX7_canGive 50 = .ok (.iload_n 3, 1) := by decide +kernel
theorem dX7_canGive_51 : decode cX7_canGive 51 = .ok (.invokestatic 72, 3) := by decide +kernel
theorem dX7_canGive_54 : decode cX7_canGive 54 = .ok (.iaload, 1) := by decide +kernel
theorem dX7_canGive_55 : decode cX7_canGive 55 = .ok (.ifCond .ne 7, 3) := by decide +kernel
theorem dX7_canGive_58 : decode cX7_canGive 58 = .ok (.iconst 1, 1) := by decide +kernel
theorem dX7_canGive_59 : decode cX7_canGive 59 = .ok (.goto 4, 3) := by decide +kernel
theorem dX7_canGive_62 : decode cX7_canGive 62 = .ok (.iconst 0, 1) := by decide +kernel
theorem dX7_canGive_63 : decode cX7_canGive 63 = .ok (.ireturn, 1) := by decide +kernel
theorem dX7_gives_0 : decode cX7_gives 0 = .ok (.aload_n 0, 1) := by decide +kernel
theorem dX7_gives_1 : decode cX7_gives 1 = .ok (.getfield 7, 3) := by decide +kernel
theorem dX7_gives_4 : decode cX7_gives 4 = .ok (.iload_n 1, 1) := by decide +kernel
theorem dX7_gives_5 : decode cX7_gives 5 = .ok (.iconst 1, 1) := by decide +kernel
theorem dX7_gives_6 : decode cX7_gives 6 = .ok (.invokestatic 69, 3) := by decide +kernel
theorem dX7_gives_9 : decode cX7_gives 9 = .ok (.iaload, 1) := by decide +kernel
theorem dX7_gives_10 : decode cX7_gives 10 = .ok (.istore_n 2, 1) := by decide +kernel
theorem dX7_gives_11 : decode cX7_gives 11 = .ok (.aload_n 0, 1) := by decide +kernel
theorem dX7_gives_12 : decode cX7_gives 12 = .ok (.getfield 7, 3) := by decide +kernel
theorem dX7_gives_15 : decode cX7_gives 15 = .ok (.iload_n 1, 1) := by decide +kernel
theorem dX7_gives_16 : decode cX7_gives 16 = .ok (.iconst 3, 1) := by decide +kernel
theorem dX7_gives_17 : decode cX7_gives 17 = .ok (.invokestatic 69, 3) := by decide +kernel
theorem dX7_gives_20 : decode cX7_gives 20 = .ok (.iaload, 1) := by decide +kernel
theorem dX7_gives_21 : decode cX7_gives 21 = .ok (.istore_n 3, 1) := by decide +kernel
theorem dX7_gives_22 : decode cX7_gives 22 = .ok (.aload_n 0, 1) := by decide +kernel
theorem dX7_gives_23 : decode cX7_gives 23 = .ok (.getfield 7, 3) := by decide +kernel
theorem dX7_gives_26 : decode cX7_gives 26 = .ok (.aload_n 0, 1) := by decide +kernel
theorem dX7_gives_27 : decode cX7_gives 27 = .ok (.getfield 7, 3) := by decide +kernel
theorem dX7_gives_30 : decode cX7_gives 30 = .ok (.iload_n 1, 1) := by decide +kernel
theorem dX7_gives_31 : decode cX7_gives 31 = .ok (.iconst 2, 1) := by decide +kernel
theorem dX7_gives_32 : decode cX7_gives 32 = .ok (.invokestatic 69, 3) := by decide +kernel
theorem dX7_gives_35 : decode cX7_gives 35 = .ok (.iaload, 1) := by decide +kernel
theorem dX7_gives_36 : decode cX7_gives 36 = .ok (.iload_n 3, 1) := by decide +kernel
theorem dX7_gives_37 : decode cX7_gives 37 = .ok (.invokestatic 51, 3) := by decide +kernel
theorem dX7_gives_40 : decode cX7_gives 40 = .ok (.dup2, 1) := by decide +kernel
theorem dX7_gives_41 : decode cX7_gives 41 = .ok (.iaload, 1) := by decide +kernel
theorem dX7_gives_42 : decode cX7_gives 42 = .ok (.aload_n 0, 1) := by decide +kernel
theorem dX7_gives_43 : decode cX7_gives 43 = .ok (.getfield 7, 3) := by decide +kernel
theorem dX7_gives_46 : decode cX7_gives 46 = .ok (.iload_n 1, 1) := by decide +kernel
theorem dX7_gives_47 : decode cX7_gives 47 = .ok (.iconst 4, 1) := by decide +kernel
theorem dX7_gives_48 : decode cX7_gives 48 = .ok (.invokestatic 69, 3) := by decide +kernel
theorem dX7_gives_51 : decode cX7_gives 51 = .ok (.iaload, 1) := by decide +kernel
theorem dX7_gives_52 : decode cX7_gives 52 = .ok (.isub, 1) := by decide +kernel
theorem dX7_gives_53 : decode cX7_gives 53 = .ok (.iastore, 1) := by decide +kernel
theorem dX7_gives_54 : decode cX7_gives 54 = .ok (.aload_n 0, 1) := by decide +kernel
theorem dX7_gives_55 : decode cX7_gives 55 = .ok (.getfield 7, 3) := by decide +kernel
theorem dX7_gives_58 : decode cX7_gives 58 = .ok (.iload_n 2, 1) := by decide +kernel
theorem dX7_gives_59 : decode cX7_gives 59 = .ok (.iload_n 3, 1) := by decide +kernel
theorem dX7_gives_60 : decode cX7_gives 60 = .ok (.invokestatic 51, 3) := by decide +kernel
theorem dX7_gives_63 : decode cX7_gives 63 = .ok (.dup2, 1) := by decide +kernel
theorem dX7_gives_64 : decode cX7_gives 64 = .ok (.iaload, 1) := by decide +kernel
theorem dX7_gives_65 : decode cX7_gives 65 = .ok (.aload_n 0, 1) := by decide +kernel
theorem dX7_gives_66 : decode cX7_gives 66 = .ok (.getfield 7, 3) := by decide +kernel
theorem dX7_gives_69 : decode cX7_gives 69 = .ok (.iload_n 1, 1) := by decide +kernel
theorem dX7_gives_70 : decode cX7_gives 70 = .ok (.iconst 4, 1) := by decide +kernel
theorem dX7_gives_71 : decode cX7_gives 71 = .ok (.invokestatic 69, 3) := by decide +kernel
theorem dX7_gives_74 : decode cX7_gives 74 = .ok (.iaload, 1) := by decide +kernel
theorem dX7_gives_75 : decode cX7_gives 75 = .ok (.iadd, 1) := by decide +kernel
theorem dX7_gives_76 : decode cX7_gives 76 = .ok (.iastore, 1) := by decide +kernel
theorem dX7_gives_77 : decode cX7_gives 77 = .ok (.iload_n 1, 1) := by decide +kernel
theorem dX7_gives_78 : decode cX7_gives 78 = .ok (.iconst 0, 1) := by decide +kernel
theorem dX7_gives_79 : decode cX7_gives 79 = .ok (.invokestatic 69, 3) := by decide +kernel
theorem dX7_gives_82 : decode cX7_gives 82 = .ok (.istore 4, 2) := by decide +kernel
theorem dX7_gives_84 : decode cX7_gives 84 = .ok (.iload 4, 2) := by decide +kernel
theorem dX7_gives_86 : decode cX7_gives 86 = .ok (.aload_n 0, 1) := by decide +kernel
theorem dX7_gives_87 : decode cX7_gives 87 = .ok (.getfield 7, 3) := by decide +kernel
theorem dX7_gives_90 : decode cX7_gives 90 = .ok (.sipush 132, 3) := by decide +kernel
theorem dX7_gives_93 : decode cX7_gives 93 = .ok (.iaload, 1) := by decide +kernel
theorem dX7_gives_94 : decode cX7_gives 94 = .ok (.iconst 1, 1) := by decide +kernel
theorem dX7_gives_95 : decode cX7_gives 95 = .ok (.isub, 1) := by decide +kernel
theorem dX7_gives_96 : decode cX7_gives 96 = .ok (.iconst 0, 1) := by decide +kernel
theorem dX7_gives_97 : decode cX7_gives 97 = .ok (.invokestatic 69, 3) := by decide +kernel
theorem dX7_gives_100 : decode cX7_gives 100 = .ok (.if_icmp .ge 25, 3) := by decide +kernel
theorem dX7_gives_103 : decode cX7_gives 103 = .ok (.aload_n 0, 1) := by decide +kernel
theorem dX7_gives_104 : decode cX7_gives 104 = .ok (.getfield 7, 3) := by decide +kernel
theorem dX7_gives_107 : decode cX7_gives 107 = .ok (.iload 4, 2) := by decide +kernel
theorem dX7_gives_109 : decode cX7_gives 109 = .ok (.aload_n 0, 1) := by decide +kernel
theorem dX7_gives_110 : decode cX7_gives 110 = .ok (.getfield 7, 3) := by decide +kernel
theorem dX7_gives_113 : decode cX7_gives 113 = .ok (.iload 4, 2) := by decide +kernel
theorem dX7_gives_115 : decode cX7_gives 115 = .ok (.iconst 5, 1) := by decide +kernel
theorem dX7_gives_116 : decode cX7_gives 116 = .ok (.iadd, 1) := by decide +kernel
theorem dX7_gives_117 : decode cX7_gives 117 = .ok (.iaload, 1) := by decide +kernel
theorem dX7_gives_118 : decode cX7_gives 118 = .ok (.iastore, 1) := by decide +kernel
theorem dX7_gives_119 : decode cX7_gives 119 = .ok (.iinc 4 1, 3) := by decide +kernel
theorem dX7_gives_122 : decode cX7_gives 122 = .ok (.goto (-38), 3) := by decide +kernel
theorem dX7_gives_125 : decode cX7_gives 125 = .ok (.aload_n 0, 1) := by decide +kernel
theorem dX7_gives_126 : decode cX7_gives 126 = .ok (.getfield 7, 3) := by decide +kernel
theorem dX7_gives_129 : decode cX7_gives 129 = .ok (.sipush 132, 3) := by decide +kernel
theorem dX7_gives_132 : decode cX7_gives 132 = .ok (.dup2, 1) := by decide +kernel
theorem dX7_gives_133 : decode cX7_gives 133 = .ok (.iaload, 1) := by decide +kernel
theorem dX7_gives_134 : decode cX7_gives 134 = .ok (.iconst 1, 1) := by decide +kernel
theorem dX7_gives_135 : decode cX7_gives 135 = .ok (.isub, 1) := by decide +kernel
theorem dX7_gives_136 : decode cX7_gives 136 = .ok (.iastore, 1) := by decide +kernel
theorem dX7_gives_137 : decode cX7_gives 137 = .ok (.aload_n 0, 1) := by decide +kernel
theorem dX7_gives_138 : decode cX7_gives 138 = .ok (.getfield 7, 3) := by decide +kernel
theorem dX7_gives_141 : decode cX7_gives 141 = .ok (.sipush 135, 3) := by decide +kernel
theorem dX7_gives_144 : decode cX7_gives 144 = .ok (.dup2, 1) := by decide +kernel
theorem dX7_gives_145 : decode cX7_gives 145 = .ok (.iaload, 1) := by decide +kernel
theorem dX7_gives_146 : decode cX7_gives 146 = .ok (.iconst 1, 1) := by decide +kernel
theorem dX7_gives_147 : decode cX7_gives 147 = .ok (.iadd, 1) := by decide +kernel
theorem dX7_gives_148 : decode cX7_gives 148 = .ok (.iastore, 1) := by decide +kernel
theorem dX7_gives_149 : decode cX7_gives 149 = .ok (.aload_n 0, 1) := by decide +kernel
theorem dX7_gives_150 : decode cX7_gives 150 = .ok (.getfield 7, 3) := by decide +kernel
theorem dX7_gives_153 : decode cX7_gives 153 = .ok (.iload_n 2, 1) := by decide +kernel
theorem dX7_gives_154 : decode cX7_gives 154 = .ok (.iload_n 3, 1) := by decide +kernel
theorem dX7_gives_155 : decode cX7_gives 155 = .ok (.invokestatic 51, 3) := by decide +kernel
theorem dX7_gives_158 : decode cX7_gives 158 = .ok (.iaload, 1) := by decide +kernel
theorem dX7_gives_159 : decode cX7_gives 159 = .ok (.ireturn, 1) := by decide +kernel
theorem dX7_isGathering_0 : decode cX7_isGathering 0 = .ok (.iconst 0, 1) := by decide +kernel
theorem dX7_isGathering_1 : decode cX7_isGathering 1 = .ok (.istore_n 2, 1) := by decide +kernel
theorem dX7_isGathering_2 : decode cX7_isGathering 2 = .ok (.iconst 0, 1) := by decide +kernel
theorem dX7_isGathering_3 : decode cX7_isGathering 3 = .ok (.istore_n 3, 1) := by decide +kernel
theorem dX7_isGathering_4 : decode cX7_isGathering 4 = .ok (.iload_n 3, 1) := by decide +kernel
theorem dX7_isGathering_5 : decode cX7_isGathering 5 = .ok (.aload_n 0, 1) := by decide +kernel
theorem dX7_isGathering_6 : decode cX7_isGathering 6 = .ok (.getfield 75, 3) := by decide +kernel
theorem dX7_isGathering_9 : decode cX7_isGathering 9 = .ok (.if_icmp .ge 29, 3) := by decide +kernel
theorem dX7_isGathering_12 : decode cX7_isGathering 12 = .ok (.iload_n 2, 1) := by decide +kernel
theorem dX7_isGathering_13 : decode cX7_isGathering 13 = .ok (.ifCond .ne 13, 3) := by decide +kernel
theorem dX7_isGathering_16 : decode cX7_isGathering 16 = .ok (.aload_n 0, 1) := by decide +kernel
theorem dX7_isGathering_17 : decode cX7_isGathering 17 = .ok (.getfield 35, 3) := by decide +kernel
theorem dX7_isGathering_20 : decode cX7_isGathering 20 = .ok (.iload_n 3, 1) := by decide +kernel
theorem dX7_isGathering_21 : decode cX7_isGathering 21 = .ok (.iaload, 1) := by decide +kernel
theorem dX7_isGathering_22 : decode cX7_isGathering 22 = .ok (.iload_n 1, 1) := by decide +kernel
theorem dX7_isGathering_23 : decode cX7_isGathering 23 = .ok (.if_icmp .ne 7, 3) := by decide +kernel
theorem dX7_isGathering_26 : decode cX7_isGathering 26 = .ok (.iconst 1, 1) := by decide +kernel
theorem dX7_isGathering_27 : decode cX7_isGathering 27 = .ok (.goto 4, 3) := by decide +kernel
theorem dX7_isGathering_30 : decode cX7_isGathering 30 = .ok (.iconst 0, 1) := by decide +kernel
theorem dX7_isGathering_31 : decode cX7_isGathering 31 = .ok (.istore_n 2, 1) := by decide +kernel
theorem dX7_isGathering_32 : decode cX7_isGathering 32 = .ok (.iinc 3 1, 3) := by decide +kernel
theorem dX7_isGathering_35 : decode cX7_isGathering 35 = .ok (.goto (-31), 3) := by decide +kernel
theorem dX7_isGathering_38 : decode cX7_isGathering 38 = .ok (.iload_n 2, 1) := by decide +kernel
theorem dX7_isGathering_39 : decode cX7_isGathering 39 = .ok (.ireturn, 1) := by decide +kernel
theorem dX7_enter_0 : decode cX7_enter 0 = .ok (.aload_n 0, 1) := by decide +kernel
theorem dX7_enter_1 : decode cX7_enter 1 = .ok (.getfield 35, 3) := by decide +kernel
theorem dX7_enter_4 : decode cX7_enter 4 = .ok (.aload_n 0, 1) := by decide +kernel
theorem dX7_enter_5 : decode cX7_enter 5 = .ok (.getfield 75, 3) := by decide +kernel
theorem dX7_enter_8 : decode cX7_enter 8 = .ok (.iload_n 1, 1) := by decide +kernel
theorem dX7_enter_9 : decode cX7_enter 9 = .ok (.iastore, 1) := by decide +kernel
theorem dX7_enter_10 : decode cX7_enter 10 = .ok (.aload_n 0, 1) := by decide +kernel
theorem dX7_enter_11 : decode cX7_enter 11 = .ok (.getfield 38, 3) := by decide +kernel
theorem dX7_enter_14 : decode cX7_enter 14 = .ok (.aload_n 0, 1) := by decide +kernel
theorem dX7_enter_15 : decode cX7_enter 15 = .ok (.getfield 75, 3) := by decide +kernel
theorem dX7_enter_18 : decode cX7_enter 18 = .ok (.sipush 1000, 3) := by decide +kernel
theorem dX7_enter_21 : decode cX7_enter 21 = .ok (.iastore, 1) := by decide +kernel
theorem dX7_enter_22 : decode cX7_enter 22 = .ok (.aload_n 0, 1) := by decide +kernel
theorem dX7_enter_23 : decode cX7_enter 23 = .ok (.getfield 41, 3) := by decide +kernel
theorem dX7_enter_26 : decode cX7_enter 26 = .ok (.aload_n 0, 1) := by decide +kernel
theorem dX7_enter_27 : decode cX7_enter 27 = .ok (.getfield 75, 3) := by decide +kernel
theorem dX7_enter_30 : decode cX7_enter 30 = .ok (.iconst 0, 1) := by decide +kernel
theorem dX7_enter_31 : decode cX7_enter 31 = .ok (.bastore, 1) := by decide +kernel
theorem dX7_enter_32 : decode cX7_enter 32 = .ok (.aload_n 0, 1) := by decide +kernel
theorem dX7_enter_33 : decode cX7_enter 33 = .ok (.dup, 1) := by decide +kernel
theorem dX7_enter_34 : decode cX7_enter 34 = .ok (.getfield 75, 3) := by decide +kernel
theorem dX7_enter_37 : decode cX7_enter 37 = .ok (.iconst 1, 1) := by decide +kernel
theorem dX7_enter_38 : decode cX7_enter 38 = .ok (.iadd, 1) := by decide +kernel
theorem dX7_enter_39 : decode cX7_enter 39 = .ok (.putfield 75, 3) := by decide +kernel
theorem dX7_enter_42 : decode cX7_enter 42 = .ok (.return_, 1) := by decide +kernel
theorem dX7_latest_0 : decode cX7_latest 0 = .ok (.bipush (-5), 2) := by decide +kernel
theorem dX7_latest_2 : decode cX7_latest 2 = .ok (.istore 4, 2) := by decide +kernel
theorem dX7_latest_4 : decode cX7_latest 4 = .ok (.iconst 0, 1) := by decide +kernel
theorem dX7_latest_5 : decode cX7_latest 5 = .ok (.istore 5, 2) := by decide +kernel
theorem dX7_latest_7 : decode cX7_latest 7 = .ok (.iload 5, 2) := by decide +kernel
theorem dX7_latest_9 : decode cX7_latest 9 = .ok (.aload_n 0, 1) := by decide +kernel
theorem dX7_latest_10 : decode cX7_latest 10 = .ok (.getfield 7, 3) := by decide +kernel
theorem dX7_latest_13 : decode cX7_latest 13 = .ok (.sipush 132, 3) := by decide +kernel
theorem dX7_latest_16 : decode cX7_latest 16 = .ok (.iaload, 1) := by decide +kernel
theorem dX7_latest_17 : decode cX7_latest 17 = .ok (.if_icmp .ge 75, 3) := by decide +kernel
theorem dX7_latest_20 : decode cX7_latest 20 = .ok (.aload_n 0, 1) := by decide +kernel
theorem dX7_latest_21 : decode cX7_latest 21 = .ok (.getfield 7, 3) := by decide +kernel
theorem dX7_latest_24 : decode cX7_latest 24 = .ok (.iload 5, 2) := by decide +kernel
theorem dX7_latest_26 : decode cX7_latest 26 = .ok (.iconst 1, 1) := by decide +kernel
theorem dX7_latest_27 : decode cX7_latest 27 = .ok (.invokestatic 69, 3) := by decide +kernel
theorem dX7_latest_30 : decode cX7_latest 30 = .ok (.iaload, 1) := by decide +kernel
theorem dX7_latest_31 : decode cX7_latest 31 = .ok (.iload_n 1, 1) := by decide +kernel
theorem dX7_latest_32 : decode cX7_latest 32 = .ok (.if_icmp .ne 37, 3) := by decide +kernel
theorem dX7_latest_35 : decode cX7_latest 35 = .ok (.aload_n 0, 1) := by decide +kernel
theorem dX7_latest_36 : decode cX7_latest 36 = .ok (.getfield 7, 3) := by decide +kernel
theorem dX7_latest_39 : decode cX7_latest 39 = .ok (.iload 5, 2) := by decide +kernel
theorem dX7_latest_41 : decode cX7_latest 41 = .ok (.iconst 3, 1) := by decide +kernel
theorem dX7_latest_42 : decode cX7_latest 42 = .ok (.invokestatic 69, 3) := by decide +kernel
theorem dX7_latest_45 : decode cX7_latest 45 = .ok (.iaload, 1) := by decide +kernel
theorem dX7_latest_46 : decode cX7_latest 46 = .ok (.iload_n 2, 1) := by decide +kernel
theorem dX7_latest_47 : decode cX7_latest 47 = .ok (.if_icmp .ne 22, 3) := by decide +kernel
theorem dX7_latest_50 : decode cX7_latest 50 = .ok (.aload_n 0, 1) := by decide +kernel
theorem dX7_latest_51 : decode cX7_latest 51 = .ok (.getfield 7, 3) := by decide +kernel
theorem dX7_latest_54 : decode cX7_latest 54 = .ok (.iload 5, 2) := by decide +kernel
theorem dX7_latest_56 : decode cX7_latest 56 = .ok (.iconst 0, 1) := by decide +kernel
theorem dX7_latest_57 : decode cX7_latest 57 = .ok (.invokestatic 69, 3) := by decide +kernel
theorem dX7_latest_60 : decode cX7_latest 60 = .ok (.iaload, 1) := by decide +kernel
theorem dX7_latest_61 : decode cX7_latest 61 = .ok (.iload_n 3, 1) := by decide +kernel
theorem dX7_latest_62 : decode cX7_latest 62 = .ok (.if_icmp .ge 7, 3) := by decide +kernel
theorem dX7_latest_65 : decode cX7_latest 65 = .ok (.iconst 1, 1) := by decide +kernel
theorem dX7_latest_66 : decode cX7_latest 66 = .ok (.goto 4, 3) := by decide +kernel
theorem dX7_latest_69 : decode cX7_latest 69 = .ok (.iconst 0, 1) := by decide +kernel
theorem dX7_latest_70 : decode cX7_latest 70 = .ok (.istore 6, 2) := by decide +kernel
theorem dX7_latest_72 : decode cX7_latest 72 = .ok (.iload 6, 2) := by decide +kernel
theorem dX7_latest_74 : decode cX7_latest 74 = .ok (.ifCond .eq 8, 3) := by decide +kernel
theorem dX7_latest_77 : decode cX7_latest 77 = .ok (.iload 5, 2) := by decide +kernel
theorem dX7_latest_79 : decode cX7_latest 79 = .ok (.goto 5, 3) := by decide +kernel
theorem dX7_latest_82 : decode cX7_latest 82 = .ok (.iload 4, 2) := by decide +kernel
theorem dX7_latest_84 : decode cX7_latest 84 = .ok (.istore 4, 2) := by decide +kernel
theorem dX7_latest_86 : decode cX7_latest 86 = .ok (.iinc 5 1, 3) := by decide +kernel
theorem dX7_latest_89 : decode cX7_latest 89 = .ok (.goto (-82), 3) := by decide +kernel
theorem dX7_latest_92 : decode cX7_latest 92 = .ok (.iload 4, 2) := by decide +kernel
theorem dX7_latest_94 : decode cX7_latest 94 = .ok (.ireturn, 1) := by decide +kernel
theorem dX7_gathers_0 : decode cX7_gathers 0 = .ok (.aload_n 0, 1) := by decide +kernel
theorem dX7_gathers_1 : decode cX7_gathers 1 = .ok (.getfield 7, 3) := by decide +kernel
theorem dX7_gathers_4 : decode cX7_gathers 4 = .ok (.sipush 135, 3) := by decide +kernel
theorem dX7_gathers_7 : decode cX7_gathers 7 = .ok (.iaload, 1) := by decide +kernel
theorem dX7_gathers_8 : decode cX7_gathers 8 = .ok (.istore_n 3, 1) := by decide +kernel
theorem dX7_gathers_9 : decode cX7_gathers 9 = .ok (.aload_n 0, 1) := by decide +kernel
theorem dX7_gathers_10 : decode cX7_gathers 10 = .ok (.iconst 0, 1) := by decide +kernel
theorem dX7_gathers_11 : decode cX7_gathers 11 = .ok (.putfield 75, 3) := by decide +kernel
theorem dX7_gathers_14 : decode cX7_gathers 14 = .ok (.aload_n 0, 1) := by decide +kernel
theorem dX7_gathers_15 : decode cX7_gathers 15 = .ok (.iload_n 1, 1) := by decide +kernel
theorem dX7_gathers_16 : decode cX7_gathers 16 = .ok (.invokevirtual 78, 3) := by decide +kernel
theorem dX7_gathers_19 : decode cX7_gathers 19 = .ok (.aload_n 0, 1) := by decide +kernel
theorem dX7_gathers_20 : decode cX7_gathers 20 = .ok (.getfield 75, 3) := by decide +kernel
theorem dX7_gathers_23 : decode cX7_gathers 23 = .ok (.ifCond .le 201, 3) := by decide +kernel
theorem dX7_gathers_26 : decode cX7_gathers 26 = .ok (.aload_n 0, 1) := by decide +kernel
theorem dX7_gathers_27 : decode cX7_gathers 27 = .ok (.getfield 75, 3) := by decide +kernel
theorem dX7_gathers_30 : decode cX7_gathers 30 = .ok (.iconst 1, 1) := by decide +kernel
theorem dX7_gathers_31 : decode cX7_gathers 31 = .ok (.isub, 1) := by decide +kernel
theorem dX7_gathers_32 : decode cX7_gathers 32 = .ok (.istore 4, 2) := by decide +kernel
theorem dX7_gathers_34 : decode cX7_gathers 34 = .ok (.aload_n 0, 1) := by decide +kernel
theorem dX7_gathers_35 : decode cX7_gathers 35 = .ok (.getfield 41, 3) := by decide +kernel
theorem dX7_gathers_38 : decode cX7_gathers 38 = .ok (.iload 4, 2) := by decide +kernel
theorem dX7_gathers_40 : decode cX7_gathers 40 = .ok (.baload, 1) := by decide +kernel
theorem dX7_gathers_41 : decode cX7_gathers 41 = .ok (.ifCond .eq 17, 3) := by decide +kernel
theorem dX7_gathers_44 : decode cX7_gathers 44 = .ok (.aload_n 0, 1) := by decide +kernel
theorem dX7_gathers_45 : decode cX7_gathers 45 = .ok (.aload_n 0, 1) := by decide +kernel
theorem dX7_gathers_46 : decode cX7_gathers 46 = .ok (.getfield 38, 3) := by decide +kernel
theorem dX7_gathers_49 : decode cX7_gathers 49 = .ok (.iload 4, 2) := by decide +kernel
theorem dX7_gathers_51 : decode cX7_gathers 51 = .ok (.iaload, 1) := by decide +kernel
theorem dX7_gathers_52 : decode cX7_gathers 52 = .ok (.invokevirtual 82, 3) := by decide +kernel
theorem dX7_gathers_55 : decode cX7_gathers 55 = .ok (.goto 22, 3) := by decide +kernel
theorem dX7_gathers_58 : decode cX7_gathers 58 = .ok (.aload_n 0, 1) := by decide +kernel
theorem dX7_gathers_59 : decode cX7_gathers 59 = .ok (.aload_n 0, 1) := by decide +kernel
theorem dX7_gathers_60 : decode cX7_gathers 60 = .ok (.getfield 35, 3) := by decide +kernel
theorem dX7_gathers_63 : decode cX7_gathers 63 = .ok (.iload 4, 2) := by decide +kernel
theorem dX7_gathers_65 : decode cX7_gathers 65 = .ok (.iaload, 1) := by decide +kernel
theorem dX7_gathers_66 : decode cX7_gathers 66 = .ok (.iload_n 2, 1) := by decide +kernel
theorem dX7_gathers_67 : decode cX7_gathers 67 = .ok (.aload_n 0, 1) := by decide +kernel
theorem dX7_gathers_68 : decode cX7_gathers 68 = .ok (.getfield 38, 3) := by decide +kernel
theorem dX7_gathers_71 : decode cX7_gathers 71 = .ok (.iload 4, 2) := by decide +kernel
theorem dX7_gathers_73 : decode cX7_gathers 73 = .ok (.iaload, 1) := by decide +kernel
theorem dX7_gathers_74 : decode cX7_gathers 74 = .ok (.invokevirtual 86, 3) := by decide +kernel
theorem dX7_gathers_77 : decode cX7_gathers 77 = .ok (.istore 5, 2) := by decide +kernel
theorem dX7_gathers_79 : decode cX7_gathers 79 = .ok (.iload 5, 2) := by decide +kernel
theorem dX7_gathers_81 : decode cX7_gathers 81 = .ok (.bipush (-5), 2) := by decide +kernel
theorem dX7_gathers_83 : decode cX7_gathers 83 = .ok (.if_icmp .ne 16, 3) := by decide +kernel
theorem dX7_gathers_86 : decode cX7_gathers 86 = .ok (.aload_n 0, 1) := by decide +kernel
theorem dX7_gathers_87 : decode cX7_gathers 87 = .ok (.dup, 1) := by decide +kernel
theorem dX7_gathers_88 : decode cX7_gathers 88 = .ok (.getfield 75, 3) := by decide +kernel
theorem dX7_gathers_91 : decode cX7_gathers 91 = .ok (.iconst 1, 1) := by decide +kernel
theorem dX7_gathers_92 : decode cX7_gathers 92 = .ok (.isub, 1) := by decide +kernel
theorem dX7_gathers_93 : decode cX7_gathers 93 = .ok (.putfield 75, 3) := by decide +kernel
theorem dX7_gathers_96 : decode cX7_gathers 96 = .ok (.goto 125, 3) := by decide +kernel
theorem dX7_gathers_99 : decode cX7_gathers 99 = .ok (.aload_n 0, 1) := by decide +kernel
theorem dX7_gathers_100 : decode cX7_gathers 100 = .ok (.getfield 7, 3) := by decide +kernel
theorem dX7_gathers_103 : decode cX7_gathers 103 = .ok (.iload 5, 2) := by decide +kernel
theorem dX7_gathers_105 : decode cX7_gathers 105 = .ok (.iconst 2, 1) := by decide +kernel
theorem dX7_gathers_106 : decode cX7_gathers 106 = .ok (.invokestatic 69, 3) := by decide +kernel
theorem dX7_gathers_109 : decode cX7_gathers 109 = .ok (.iaload, 1) := by decide +kernel
theorem dX7_gathers_110 : decode cX7_gathers 110 = .ok (.istore 6, 2) := by decide +kernel
theorem dX7_gathers_112 : decode cX7_gathers 112 = .ok (.aload_n 0, 1) := by decide +kernel
theorem dX7_gathers_113 : decode cX7_gathers 113 = .ok (.getfield 41, 3) := by decide +kernel
theorem dX7_gathers_116 : decode cX7_gathers 116 = .ok (.iload 4, 2) := by decide +kernel
theorem dX7_gathers_118 : decode cX7_gathers 118 = .ok (.baload, 1) := by decide +kernel
theorem dX7_gathers_119 : decode cX7_gathers 119 = .ok (.ifCond .ne 41, 3) := by decide +kernel
theorem dX7_gathers_122 : decode cX7_gathers 122 = .ok (.aload_n 0, 1) := by decide +kernel
theorem dX7_gathers_123 : decode cX7_gathers 123 = .ok (.getfield 7, 3) := by decide +kernel
theorem dX7_gathers_126 : decode cX7_gathers 126 = .ok (.iload 6, 2) := by decide +kernel
theorem dX7_gathers_128 : decode cX7_gathers 128 = .ok (.iload_n 2, 1) := by decide +kernel
theorem dX7_gathers_129 : decode cX7_gathers 129 = .ok (.invokestatic 51, 3) := by decide +kernel
theorem dX7_gathers_132 : decode cX7_gathers 132 = .ok (.iaload, 1) := by decide +kernel
theorem dX7_gathers_133 : decode cX7_gathers 133 = .ok (.aload_n 0, 1) := by decide +kernel
theorem dX7_gathers_134 : decode cX7_gathers 134 = .ok (.getfield 7, 3) := by decide +kernel
theorem dX7_gathers_137 : decode cX7_gathers 137 = .ok (.iload 5, 2) := by decide +kernel
theorem dX7_gathers_139 : decode cX7_gathers 139 = .ok (.iconst 4, 1) := by decide +kernel
theorem dX7_gathers_140 : decode cX7_gathers 140 = .ok (.invokestatic 69, 3) := by decide +kernel
theorem dX7_gathers_143 : decode cX7_gathers 143 = .ok (.iaload, 1) := by decide +kernel
theorem dX7_gathers_144 : decode cX7_gathers 144 = .ok (.if_icmp .ge 16, 3) := by decide +kernel
theorem dX7_gathers_147 : decode cX7_gathers 147 = .ok (.aload_n 0, 1) := by decide +kernel
theorem dX7_gathers_148 : decode cX7_gathers 148 = .ok (.iload 6, 2) := by decide +kernel
theorem dX7_gathers_150 : decode cX7_gathers 150 = .ok (.invokevirtual 90, 3) := by decide +kernel
theorem dX7_gathers_153 : decode cX7_gathers 153 = .ok (.ifCond .ne 7, 3) := by decide +kernel
theorem dX7_gathers_156 : decode cX7_gathers 156 = .ok (.iconst 1, 1) := by decide +kernel
theorem dX7_gathers_157 : decode cX7_gathers 157 = .ok (.goto 4, 3) := by decide +kernel
theorem dX7_gathers_160 : decode cX7_gathers 160 = .ok (.iconst 0, 1) := by decide +kernel
theorem dX7_gathers_161 : decode cX7_gathers 161 = .ok (.istore 7, 2) := by decide +kernel
theorem dX7_gathers_163 : decode cX7_gathers 163 = .ok (.aload_n 0, 1) := by decide +kernel
theorem dX7_gathers_164 : decode cX7_gathers 164 = .ok (.getfield 38, 3) := by decide +kernel
theorem dX7_gathers_167 : decode cX7_gathers 167 = .ok (.iload 4, 2) := by decide +kernel
theorem dX7_gathers_169 : decode cX7_gathers 169 = .ok (.aload_n 0, 1) := by decide +kernel
theorem dX7_gathers_170 : decode cX7_gathers 170 = .ok (.getfield 7, 3) := by decide +kernel
theorem dX7_gathers_173 : decode cX7_gathers 173 = .ok (.iload 5, 2) := by decide +kernel
theorem dX7_gathers_175 : decode cX7_gathers 175 = .ok (.iconst 0, 1) := by decide +kernel
theorem dX7_gathers_176 : decode cX7_gathers 176 = .ok (.invokestatic 69, 3) := by decide +kernel
theorem dX7_gathers_179 : decode cX7_gathers 179 = .ok (.iaload, 1) := by decide +kernel
theorem dX7_gathers_180 : decode cX7_gathers 180 = .ok (.iastore, 1) := by decide +kernel
theorem dX7_gathers_181 : decode cX7_gathers 181 = .ok (.aload_n 0, 1) := by decide +kernel
theorem dX7_gathers_182 : decode cX7_gathers 182 = .ok (.getfield 41, 3) := by decide +kernel
theorem dX7_gathers_185 : decode cX7_gathers 185 = .ok (.iload 4, 2) := by decide +kernel
theorem dX7_gathers_187 : decode cX7_gathers 187 = .ok (.iload 7, 2) := by decide +kernel
theorem dX7_gathers_189 : decode cX7_gathers 189 = .ok (.bastore, 1) := by decide +kernel
theorem dX7_gathers_190 : decode cX7_gathers 190 = .ok (.iload 7, 2) := by decide +kernel
theorem dX7_gathers_192 : decode cX7_gathers 192 = .ok (.ifCond .eq 12, 3) := by decide +kernel
theorem dX7_gathers_195 : decode cX7_gathers 195 = .ok (.aload_n 0, 1) := by decide +kernel
theorem dX7_gathers_196 : decode cX7_gathers 196 = .ok (.iload 6, 2) := by decide +kernel
theorem dX7_gathers_198 : decode cX7_gathers 198 = .ok (.invokevirtual 78, 3) := by decide +kernel
theorem dX7_gathers_201 : decode cX7_gathers 201 = .ok (.goto 20, 3) := by decide +kernel
theorem dX7_gathers_204 : decode cX7_gathers 204 = .ok (.aload_n 0, 1) := by decide +kernel
theorem dX7_gathers_205 : decode cX7_gathers 205 = .ok (.iload 5, 2) := by decide +kernel
theorem dX7_gathers_207 : decode cX7_gathers 207 = .ok (.invokevirtual 93, 3) := by decide +kernel
theorem dX7_gathers_210 : decode cX7_gathers 210 = .ok (.ifCond .eq 11, 3) := by decide +kernel
theorem dX7_gathers_213 : decode cX7_gathers 213 = .ok (.aload_n 0, 1) := by decide +kernel
theorem dX7_gathers_214 : decode cX7_gathers 214 = .ok (.iload 5, 2) := by decide +kernel
theorem dX7_gathers_216 : decode cX7_gathers 216 = .ok (.invokevirtual 96, 3) := by decide +kernel
theorem dX7_gathers_219 : decode cX7_gathers 219 = .ok (.istore 8, 2) := by decide +kernel
theorem dX7_gathers_221 : decode cX7_gathers 221 = .ok (.goto (-202), 3) := by decide +kernel
theorem dX7_gathers_224 : decode cX7_gathers 224 = .ok (.aload_n 0, 1) := by decide +kernel
theorem dX7_gathers_225 : decode cX7_gathers 225 = .ok (.getfield 7, 3) := by decide +kernel
theorem dX7_gathers_228 : decode cX7_gathers 228 = .ok (.sipush 135, 3) := by decide +kernel
theorem dX7_gathers_231 : decode cX7_gathers 231 = .ok (.iaload, 1) := by decide +kernel
theorem dX7_gathers_232 : decode cX7_gathers 232 = .ok (.iload_n 3, 1) := by decide +kernel
theorem dX7_gathers_233 : decode cX7_gathers 233 = .ok (.isub, 1) := by decide +kernel
theorem dX7_gathers_234 : decode cX7_gathers 234 = .ok (.ireturn, 1) := by decide +kernel
theorem dX7_wouldGather_0 : decode cX7_wouldGather 0 = .ok (.iconst 0, 1) := by decide +kernel
theorem dX7_wouldGather_1 : decode cX7_wouldGather 1 = .ok (.istore_n 3, 1) := by decide +kernel
theorem dX7_wouldGather_2 : decode cX7_wouldGather 2 = .ok (.iload_n 3, 1) := by decide +kernel
theorem dX7_wouldGather_3 : decode cX7_wouldGather 3 = .ok (.sipush 336, 3) := by decide +kernel
theorem dX7_wouldGather_6 : decode cX7_wouldGather 6 = .ok (.if_icmp .ge 21, 3) := by decide +kernel
theorem dX7_wouldGather_9 : decode cX7_wouldGather 9 = .ok (.aload_n 0, 1) := by decide +kernel
theorem dX7_wouldGather_10 : decode cX7_wouldGather 10 = .ok (.getfield 16, 3) := by decide +kernel
theorem dX7_wouldGather_13 : decode cX7_wouldGather 13 = .ok (.iload_n 3, 1) := by decide +kernel
theorem dX7_wouldGather_14 : decode cX7_wouldGather 14 = .ok (.aload_n 0, 1) := by decide +kernel
theorem dX7_wouldGather_15 : decode cX7_wouldGather 15 = .ok (.getfield 7, 3) := by decide +kernel
theorem dX7_wouldGather_18 : decode cX7_wouldGather 18 = .ok (.iload_n 3, 1) := by decide +kernel
theorem dX7_wouldGather_19 : decode cX7_wouldGather 19 = .ok (.iaload, 1) := by decide +kernel
theorem dX7_wouldGather_20 : decode cX7_wouldGather 20 = .ok (.iastore, 1) := by decide +kernel
theorem dX7_wouldGather_21 : decode cX7_wouldGather 21 = .ok (.iinc 3 1, 3) := by decide +kernel
theorem dX7_wouldGather_24 : decode cX7_wouldGather 24 = .ok (.goto (-22), 3) := by decide +kernel
theorem dX7_wouldGather_27 : decode cX7_wouldGather 27 = .ok (.aload_n 0, 1) := by decide +kernel
theorem dX7_wouldGather_28 : decode cX7_wouldGather 28 = .ok (.iload_n 1, 1) := by decide +kernel
theorem dX7_wouldGather_29 : decode cX7_wouldGather 29 = .ok (.iload_n 2, 1) := by decide +kernel
theorem dX7_wouldGather_30 : decode cX7_wouldGather 30 = .ok (.invokevirtual 99, 3) := by decide +kernel
theorem dX7_wouldGather_33 : decode cX7_wouldGather 33 = .ok (.istore_n 3, 1) := by decide +kernel
theorem dX7_wouldGather_34 : decode cX7_wouldGather 34 = .ok (.aload_n 0, 1) := by decide +kernel
theorem dX7_wouldGather_35 : decode cX7_wouldGather 35 = .ok (.getfield 7, 3) := by decide +kernel
theorem dX7_wouldGather_38 : decode cX7_wouldGather 38 = .ok (.iload_n 1, 1) := by decide +kernel
theorem dX7_wouldGather_39 : decode cX7_wouldGather 39 = .ok (.iload_n 2, 1) := by decide +kernel
theorem dX7_wouldGather_40 : decode cX7_wouldGather 40 = .ok (.invokestatic 51, 3) := by decide +kernel
theorem dX7_wouldGather_43 : decode cX7_wouldGather 43 = .ok (.iaload, 1) := by decide +kernel
theorem dX7_wouldGather_44 : decode cX7_wouldGather 44 = .ok (.istore 4, 2) := by decide +kernel
theorem dX7_wouldGather_46 : decode cX7_wouldGather 46 = .ok (.iconst 0, 1) := by decide +kernel
theorem dX7_wouldGather_47 : decode cX7_wouldGather 47 = .ok (.istore 5, 2) := by decide +kernel
theorem dX7_wouldGather_49 : decode cX7_wouldGather 49 = .ok (.iload 5, 2) := by decide +kernel
theorem dX7_wouldGather_51 : decode cX7_wouldGather 51 = .ok (.sipush 336, 3) := by decide +kernel
theorem dX7_wouldGather_54 : decode cX7_wouldGather 54 = .ok (.if_icmp .ge 23, 3) := by decide +kernel
theorem dX7_wouldGather_57 : decode cX7_wouldGather 57 = .ok (.aload_n 0, 1) := by decide +kernel
theorem dX7_wouldGather_58 : decode cX7_wouldGather 58 = .ok (.getfield 7, 3) := by decide +kernel
theorem dX7_wouldGather_61 : decode cX7_wouldGather 61 = .ok (.iload 5, 2) := by decide +kernel
theorem dX7_wouldGather_63 : decode cX7_wouldGather 63 = .ok (.aload_n 0, 1) := by decide +kernel
theorem dX7_wouldGather_64 : decode cX7_wouldGather 64 = .ok (.getfield 16, 3) := by decide +kernel
theorem dX7_wouldGather_67 : decode cX7_wouldGather 67 = .ok (.iload 5, 2) := by decide +kernel
theorem dX7_wouldGather_69 : decode cX7_wouldGather 69 = .ok (.iaload, 1) := by decide +kernel
theorem dX7_wouldGather_70 : decode cX7_wouldGather 70 = .ok (.iastore, 1) := by decide +kernel
theorem dX7_wouldGather_71 : decode cX7_wouldGather 71 = .ok (.iinc 5 1, 3) := by decide +kernel
theorem dX7_wouldGather_74 : decode cX7_wouldGather 74 = .ok (.goto (-25), 3) := by decide +kernel
theorem dX7_wouldGather_77 : decode cX7_wouldGather 77 = .ok (.iload 4, 2) := by decide +kernel
theorem dX7_wouldGather_79 : decode cX7_wouldGather 79 = .ok (.ireturn, 1) := by decide +kernel
theorem dX7_lendFault_0 : decode cX7_lendFault 0 = .ok (.iload_n 1, 1) := by decide +kernel
theorem dX7_lendFault_1 : decode cX7_lendFault 1 = .ok (.invokestatic 59, 3) := by decide +kernel
theorem dX7_lendFault_4 : decode cX7_lendFault 4 = .ok (.ifCond .eq 17, 3) := by decide +kernel
theorem dX7_lendFault_7 : decode cX7_lendFault 7 = .ok (.iload_n 2, 1) := by decide +kernel
theorem dX7_lendFault_8 : decode cX7_lendFault 8 = .ok (.invokestatic 59, 3) := by decide +kernel
theorem dX7_lendFault_11 : decode cX7_lendFault 11 = .ok (.ifCond .eq 10, 3) := by decide +kernel
theorem dX7_lendFault_14 : decode cX7_lendFault 14 = .ok (.iload_n 3, 1) := by decide +kernel
theorem dX7_lendFault_15 : decode cX7_lendFault 15 = .ok (.invokestatic 63, 3) := by decide +kernel
theorem dX7_lendFault_18 : decode cX7_lendFault 18 = .ok (.ifCond .ne 5, 3) := by decide +kernel
theorem dX7_lendFault_21 : decode cX7_lendFault 21 = .ok (.iconst (-1), 1) := by decide +kernel
theorem dX7_lendFault_22 : decode cX7_lendFault 22 = .ok (.ireturn, 1) := by decide +kernel
theorem dX7_lendFault_23 : decode cX7_lendFault 23 = .ok (.iload 4, 2) := by decide +kernel
theorem dX7_lendFault_25 : decode cX7_lendFault 25 = .ok (.iconst 1, 1) := by decide +kernel
theorem dX7_lendFault_26 : decode cX7_lendFault 26 = .ok (.bipush 64, 2) := by decide +kernel
theorem dX7_lendFault_28 : decode cX7_lendFault 28 = .ok (.invokestatic 55, 3) := by decide +kernel
theorem dX7_lendFault_31 : decode cX7_lendFault 31 = .ok (.ifCond .eq 8, 3) := by decide +kernel
theorem dX7_lendFault_34 : decode cX7_lendFault 34 = .ok (.iload_n 1, 1) := by decide +kernel
theorem dX7_lendFault_35 : decode cX7_lendFault 35 = .ok (.iload_n 2, 1) := by decide +kernel
theorem dX7_lendFault_36 : decode cX7_lendFault 36 = .ok (.if_icmp .ne 6, 3) := by decide +kernel
theorem dX7_lendFault_39 : decode cX7_lendFault 39 = .ok (.bipush (-2), 2) := by decide +kernel
theorem dX7_lendFault_41 : decode cX7_lendFault 41 = .ok (.ireturn, 1) := by decide +kernel
theorem dX7_lendFault_42 : decode cX7_lendFault 42 = .ok (.aload_n 0, 1) := by decide +kernel
theorem dX7_lendFault_43 : decode cX7_lendFault 43 = .ok (.getfield 7, 3) := by decide +kernel
theorem dX7_lendFault_46 : decode cX7_lendFault 46 = .ok (.iload_n 1, 1) := by decide +kernel
theorem dX7_lendFault_47 : decode cX7_lendFault 47 = .ok (.iload_n 3, 1) := by decide +kernel
theorem dX7_lendFault_48 : decode cX7_lendFault 48 = .ok (.invokestatic 51, 3) := by decide +kernel
theorem dX7_lendFault_51 : decode cX7_lendFault 51 = .ok (.iaload, 1) := by decide +kernel
theorem dX7_lendFault_52 : decode cX7_lendFault 52 = .ok (.iload 4, 2) := by decide +kernel
theorem dX7_lendFault_54 : decode cX7_lendFault 54 = .ok (.if_icmp .lt 17, 3) := by decide +kernel
theorem dX7_lendFault_57 : decode cX7_lendFault 57 = .ok (.aload_n 0, 1) := by decide +kernel
theorem dX7_lendFault_58 : decode cX7_lendFault 58 = .ok (.getfield 7, 3) := by decide +kernel
theorem dX7_lendFault_61 : decode cX7_lendFault 61 = .ok (.iload_n 1, 1) := by decide +kernel
theorem dX7_lendFault_62 : decode cX7_lendFault 62 = .ok (.iload_n 3, 1) := by decide +kernel
theorem dX7_lendFault_63 : decode cX7_lendFault 63 = .ok (.invokestatic 72, 3) := by decide +kernel
theorem dX7_lendFault_66 : decode cX7_lendFault 66 = .ok (.iaload, 1) := by decide +kernel
theorem dX7_lendFault_67 : decode cX7_lendFault 67 = .ok (.iconst 1, 1) := by decide +kernel
theorem dX7_lendFault_68 : decode cX7_lendFault 68 = .ok (.if_icmp .ne 6, 3) := by decide +kernel
theorem dX7_lendFault_71 : decode cX7_lendFault 71 = .ok (.bipush (-4), 2) := by decide +kernel
theorem dX7_lendFault_73 : decode cX7_lendFault 73 = .ok (.ireturn, 1) := by decide +kernel
theorem dX7_lendFault_74 : decode cX7_lendFault 74 = .ok (.aload_n 0, 1) := by decide +kernel
theorem dX7_lendFault_75 : decode cX7_lendFault 75 = .ok (.invokevirtual 102, 3) := by decide +kernel
theorem dX7_lendFault_78 : decode cX7_lendFault 78 = .ok (.ifCond .eq 8, 3) := by decide +kernel
theorem dX7_lendFault_81 : decode cX7_lendFault 81 = .ok (.bipush (-3), 2) := by decide +kernel
theorem dX7_lendFault_83 : decode cX7_lendFault 83 = .ok (.goto 4, 3) := by decide +kernel
theorem dX7_lendFault_86 : decode cX7_lendFault 86 = .ok (.iconst 0, 1) := by decide +kernel
theorem dX7_lendFault_87 : decode cX7_lendFault 87 = .ok (.ireturn, 1) := by decide +kernel
theorem dX7_backFault_0 : decode cX7_backFault 0 = .ok (.aload_n 0, 1) := by decide +kernel
theorem dX7_backFault_1 : decode cX7_backFault 1 = .ok (.iload_n 1, 1) := by decide +kernel
theorem dX7_backFault_2 : decode cX7_backFault 2 = .ok (.invokevirtual 82, 3) := by decide +kernel
theorem dX7_backFault_5 : decode cX7_backFault 5 = .ok (.istore_n 2, 1) := by decide +kernel
theorem dX7_backFault_6 : decode cX7_backFault 6 = .ok (.iload_n 2, 1) := by decide +kernel
theorem dX7_backFault_7 : decode cX7_backFault 7 = .ok (.bipush (-5), 2) := by decide +kernel
theorem dX7_backFault_9 : decode cX7_backFault 9 = .ok (.if_icmp .ne 7, 3) := by decide +kernel
theorem dX7_backFault_12 : decode cX7_backFault 12 = .ok (.iconst (-1), 1) := by decide +kernel
theorem dX7_backFault_13 : decode cX7_backFault 13 = .ok (.goto 17, 3) := by decide +kernel
theorem dX7_backFault_16 : decode cX7_backFault 16 = .ok (.aload_n 0, 1) := by decide +kernel
theorem dX7_backFault_17 : decode cX7_backFault 17 = .ok (.iload_n 2, 1) := by decide +kernel
theorem dX7_backFault_18 : decode cX7_backFault 18 = .ok (.invokevirtual 93, 3) := by decide +kernel
theorem dX7_backFault_21 : decode cX7_backFault 21 = .ok (.ifCond .eq 7, 3) := by decide +kernel
theorem dX7_backFault_24 : decode cX7_backFault 24 = .ok (.iconst 0, 1) := by decide +kernel
theorem dX7_backFault_25 : decode cX7_backFault 25 = .ok (.goto 5, 3) := by decide +kernel
theorem dX7_backFault_28 : decode cX7_backFault 28 = .ok (.bipush (-4), 2) := by decide +kernel
theorem dX7_backFault_30 : decode cX7_backFault 30 = .ok (.ireturn, 1) := by decide +kernel
theorem dX7_writeFault_0 : decode cX7_writeFault 0 = .ok (.iload_n 1, 1) := by decide +kernel
theorem dX7_writeFault_1 : decode cX7_writeFault 1 = .ok (.iload_n 2, 1) := by decide +kernel
theorem dX7_writeFault_2 : decode cX7_writeFault 2 = .ok (.invokestatic 106, 3) := by decide +kernel
theorem dX7_writeFault_5 : decode cX7_writeFault 5 = .ok (.ifCond .ne 5, 3) := by decide +kernel
theorem dX7_writeFault_8 : decode cX7_writeFault 8 = .ok (.iconst (-1), 1) := by decide +kernel
theorem dX7_writeFault_9 : decode cX7_writeFault 9 = .ok (.ireturn, 1) := by decide +kernel
theorem dX7_writeFault_10 : decode cX7_writeFault 10 = .ok (.iload_n 3, 1) := by decide +kernel
theorem dX7_writeFault_11 : decode cX7_writeFault 11 = .ok (.iconst 0, 1) := by decide +kernel
theorem dX7_writeFault_12 : decode cX7_writeFault 12 = .ok (.sipush 999, 3) := by decide +kernel
theorem dX7_writeFault_15 : decode cX7_writeFault 15 = .ok (.invokestatic 55, 3) := by decide +kernel
theorem dX7_writeFault_18 : decode cX7_writeFault 18 = .ok (.ifCond .ne 8, 3) := by decide +kernel
theorem dX7_writeFault_21 : decode cX7_writeFault 21 = .ok (.bipush (-2), 2) := by decide +kernel
theorem dX7_writeFault_23 : decode cX7_writeFault 23 = .ok (.goto 24, 3) := by decide +kernel
theorem dX7_writeFault_26 : decode cX7_writeFault 26 = .ok (.aload_n 0, 1) := by decide +kernel
theorem dX7_writeFault_27 : decode cX7_writeFault 27 = .ok (.getfield 7, 3) := by decide +kernel
theorem dX7_writeFault_30 : decode cX7_writeFault 30 = .ok (.iload_n 1, 1) := by decide +kernel
theorem dX7_writeFault_31 : decode cX7_writeFault 31 = .ok (.iload_n 2, 1) := by decide +kernel
theorem dX7_writeFault_32 : decode cX7_writeFault 32 = .ok (.invokestatic 51, 3) := by decide +kernel
theorem dX7_writeFault_35 : decode cX7_writeFault 35 = .ok (.iaload, 1) := by decide +kernel
theorem dX7_writeFault_36 : decode cX7_writeFault 36 = .ok (.bipush 64, 2) := by decide +kernel
theorem dX7_writeFault_38 : decode cX7_writeFault 38 = .ok (.if_icmp .ge 8, 3) := by decide +kernel
theorem dX7_writeFault_41 : decode cX7_writeFault 41 = .ok (.bipush (-4), 2) := by decide +kernel
theorem dX7_writeFault_43 : decode cX7_writeFault 43 = .ok (.goto 4, 3) := by decide +kernel
theorem dX7_writeFault_46 : decode cX7_writeFault 46 = .ok (.iconst 0, 1) := by decide +kernel
theorem dX7_writeFault_47 : decode cX7_writeFault 47 = .ok (.ireturn, 1) := by decide +kernel
theorem dX7_lend_0 : decode cX7_lend 0 = .ok (.aload_n 0, 1) := by decide +kernel
theorem dX7_lend_1 : decode cX7_lend 1 = .ok (.iload_n 1, 1) := by decide +kernel
theorem dX7_lend_2 : decode cX7_lend 2 = .ok (.iload_n 2, 1) := by decide +kernel
theorem dX7_lend_3 : decode cX7_lend 3 = .ok (.iload_n 3, 1) := by decide +kernel
theorem dX7_lend_4 : decode cX7_lend 4 = .ok (.iload 4, 2) := by decide +kernel
theorem dX7_lend_6 : decode cX7_lend 6 = .ok (.invokevirtual 110, 3) := by decide +kernel
theorem dX7_lend_9 : decode cX7_lend 9 = .ok (.istore 5, 2) := by decide +kernel
theorem dX7_lend_11 : decode cX7_lend 11 = .ok (.iload 5, 2) := by decide +kernel
theorem dX7_lend_13 : decode cX7_lend 13 = .ok (.ifCond .ge 6, 3) := by decide +kernel
theorem dX7_lend_16 : decode cX7_lend 16 = .ok (.iload 5, 2) := by decide +kernel
theorem dX7_lend_18 : decode cX7_lend 18 = .ok (.ireturn, 1) := by decide +kernel
theorem dX7_lend_19 : decode cX7_lend 19 = .ok (.aload_n 0, 1) := by decide +kernel
theorem dX7_lend_20 : decode cX7_lend 20 = .ok (.invokevirtual 114, 3) := by decide +kernel
theorem dX7_lend_23 : decode cX7_lend 23 = .ok (.aload_n 0, 1) := by decide +kernel
theorem dX7_lend_24 : decode cX7_lend 24 = .ok (.iload_n 1, 1) := by decide +kernel
theorem dX7_lend_25 : decode cX7_lend 25 = .ok (.iload_n 2, 1) := by decide +kernel
theorem dX7_lend_26 : decode cX7_lend 26 = .ok (.iload_n 3, 1) := by decide +kernel
theorem dX7_lend_27 : decode cX7_lend 27 = .ok (.iload 4, 2) := by decide +kernel
theorem dX7_lend_29 : decode cX7_lend 29 = .ok (.invokevirtual 117, 3) := by decide +kernel
theorem dX7_lend_32 : decode cX7_lend 32 = .ok (.ireturn, 1) := by decide +kernel
theorem dX7_half_0 : decode cX7_half 0 = .ok (.iload_n 1, 1) := by decide +kernel
theorem dX7_half_1 : decode cX7_half 1 = .ok (.invokestatic 59, 3) := by decide +kernel
theorem dX7_half_4 : decode cX7_half 4 = .ok (.ifCond .eq 17, 3) := by decide +kernel
theorem dX7_half_7 : decode cX7_half 7 = .ok (.iload_n 2, 1) := by decide +kernel
theorem dX7_half_8 : decode cX7_half 8 = .ok (.invokestatic 59, 3) := by decide +kernel
theorem dX7_half_11 : decode cX7_half 11 = .ok (.ifCond .eq 10, 3) := by decide +kernel
theorem dX7_half_14 : decode cX7_half 14 = .ok (.iload_n 3, 1) := by decide +kernel
theorem dX7_half_15 : decode cX7_half 15 = .ok (.invokestatic 63, 3) := by decide +kernel
theorem dX7_half_18 : decode cX7_half 18 = .ok (.ifCond .ne 5, 3) := by decide +kernel
theorem dX7_half_21 : decode cX7_half 21 = .ok (.iconst (-1), 1) := by decide +kernel
theorem dX7_half_22 : decode cX7_half 22 = .ok (.ireturn, 1) := by decide +kernel
theorem dX7_half_23 : decode cX7_half 23 = .ok (.iload_n 1, 1) := by decide +kernel
theorem dX7_half_24 : decode cX7_half 24 = .ok (.iload_n 2, 1) := by decide +kernel
theorem dX7_half_25 : decode cX7_half 25 = .ok (.if_icmp .ne 6, 3) := by decide +kernel
theorem dX7_half_28 : decode cX7_half 28 = .ok (.bipush (-2), 2) := by decide +kernel
theorem dX7_half_30 : decode cX7_half 30 = .ok (.ireturn, 1) := by decide +kernel
theorem dX7_half_31 : decode cX7_half 31 = .ok (.aload_n 0, 1) := by decide +kernel
theorem dX7_half_32 : decode cX7_half 32 = .ok (.getfield 7, 3) := by decide +kernel
theorem dX7_half_35 : decode cX7_half 35 = .ok (.iload_n 1, 1) := by decide +kernel
theorem dX7_half_36 : decode cX7_half 36 = .ok (.iload_n 3, 1) := by decide +kernel
theorem dX7_half_37 : decode cX7_half 37 = .ok (.invokestatic 51, 3) := by decide +kernel
theorem dX7_half_40 : decode cX7_half 40 = .ok (.iaload, 1) := by decide +kernel
theorem dX7_half_41 : decode cX7_half 41 = .ok (.iconst 2, 1) := by decide +kernel
theorem dX7_half_42 : decode cX7_half 42 = .ok (.idiv, 1) := by decide +kernel
theorem dX7_half_43 : decode cX7_half 43 = .ok (.istore 4, 2) := by decide +kernel
theorem dX7_half_45 : decode cX7_half 45 = .ok (.iload 4, 2) := by decide +kernel
theorem dX7_half_47 : decode cX7_half 47 = .ok (.iconst 1, 1) := by decide +kernel
theorem dX7_half_48 : decode cX7_half 48 = .ok (.if_icmp .lt 17, 3) := by decide +kernel
theorem dX7_half_51 : decode cX7_half 51 = .ok (.aload_n 0, 1) := by decide +kernel
theorem dX7_half_52 : decode cX7_half 52 = .ok (.getfield 7, 3) := by decide +kernel
theorem dX7_half_55 : decode cX7_half 55 = .ok (.iload_n 1, 1) := by decide +kernel
theorem dX7_half_56 : decode cX7_half 56 = .ok (.iload_n 3, 1) := by decide +kernel
theorem dX7_half_57 : decode cX7_half 57 = .ok (.invokestatic 72, 3) := by decide +kernel
theorem dX7_half_60 : decode cX7_half 60 = .ok (.iaload, 1) := by decide +kernel
theorem dX7_half_61 : decode cX7_half 61 = .ok (.iconst 1, 1) := by decide +kernel
theorem dX7_half_62 : decode cX7_half 62 = .ok (.if_icmp .ne 6, 3) := by decide +kernel
theorem dX7_half_65 : decode cX7_half 65 = .ok (.bipush (-4), 2) := by decide +kernel
theorem dX7_half_67 : decode cX7_half 67 = .ok (.ireturn, 1) := by decide +kernel
theorem dX7_half_68 : decode cX7_half 68 = .ok (.aload_n 0, 1) := by decide +kernel
theorem dX7_half_69 : decode cX7_half 69 = .ok (.invokevirtual 102, 3) := by decide +kernel
theorem dX7_half_72 : decode cX7_half 72 = .ok (.ifCond .eq 6, 3) := by decide +kernel
theorem dX7_half_75 : decode cX7_half 75 = .ok (.bipush (-3), 2) := by decide +kernel
theorem dX7_half_77 : decode cX7_half 77 = .ok (.ireturn, 1) := by decide +kernel
theorem dX7_half_78 : decode cX7_half 78 = .ok (.aload_n 0, 1) := by decide +kernel
theorem dX7_half_79 : decode cX7_half 79 = .ok (.invokevirtual 114, 3) := by decide +kernel
theorem dX7_half_82 : decode cX7_half 82 = .ok (.aload_n 0, 1) := by decide +kernel
theorem dX7_half_83 : decode cX7_half 83 = .ok (.iload_n 1, 1) := by decide +kernel
theorem dX7_half_84 : decode cX7_half 84 = .ok (.iload_n 2, 1) := by decide +kernel
theorem dX7_half_85 : decode cX7_half 85 = .ok (.iload_n 3, 1) := by decide +kernel
theorem dX7_half_86 : decode cX7_half 86 = .ok (.iload 4, 2) := by decide +kernel
theorem dX7_half_88 : decode cX7_half 88 = .ok (.invokevirtual 117, 3) := by decide +kernel
theorem dX7_half_91 : decode cX7_half 91 = .ok (.istore 5, 2) := by decide +kernel
theorem dX7_half_93 : decode cX7_half 93 = .ok (.iload 4, 2) := by decide +kernel
theorem dX7_half_95 : decode cX7_half 95 = .ok (.ireturn, 1) := by decide +kernel
theorem dX7_giveBack_0 : decode cX7_giveBack 0 = .ok (.aload_n 0, 1) := by decide +kernel
theorem dX7_giveBack_1 : decode cX7_giveBack 1 = .ok (.iload_n 1, 1) := by decide +kernel
theorem dX7_giveBack_2 : decode cX7_giveBack 2 = .ok (.invokevirtual 120, 3) := by decide +kernel
theorem dX7_giveBack_5 : decode cX7_giveBack 5 = .ok (.istore_n 2, 1) := by decide +kernel
theorem dX7_giveBack_6 : decode cX7_giveBack 6 = .ok (.iload_n 2, 1) := by decide +kernel
theorem dX7_giveBack_7 : decode cX7_giveBack 7 = .ok (.ifCond .ge 5, 3) := by decide +kernel
theorem dX7_giveBack_10 : decode cX7_giveBack 10 = .ok (.iload_n 2, 1) := by decide +kernel
theorem dX7_giveBack_11 : decode cX7_giveBack 11 = .ok (.ireturn, 1) := by decide +kernel
theorem dX7_giveBack_12 : decode cX7_giveBack 12 = .ok (.aload_n 0, 1) := by decide +kernel
theorem dX7_giveBack_13 : decode cX7_giveBack 13 = .ok (.invokevirtual 114, 3) := by decide +kernel
theorem dX7_giveBack_16 : decode cX7_giveBack 16 = .ok (.aload_n 0, 1) := by decide +kernel
theorem dX7_giveBack_17 : decode cX7_giveBack 17 = .ok (.aload_n 0, 1) := by decide +kernel
theorem dX7_giveBack_18 : decode cX7_giveBack 18 = .ok (.iload_n 1, 1) := by decide +kernel
theorem dX7_giveBack_19 : decode cX7_giveBack 19 = .ok (.invokevirtual 82, 3) := by decide +kernel
theorem dX7_giveBack_22 : decode cX7_giveBack 22 = .ok (.invokevirtual 96, 3) := by decide +kernel
theorem dX7_giveBack_25 : decode cX7_giveBack 25 = .ok (.ireturn, 1) := by decide +kernel
theorem dX7_gather_0 : decode cX7_gather 0 = .ok (.iload_n 1, 1) := by decide +kernel
theorem dX7_gather_1 : decode cX7_gather 1 = .ok (.iload_n 2, 1) := by decide +kernel
theorem dX7_gather_2 : decode cX7_gather 2 = .ok (.invokestatic 106, 3) := by decide +kernel
theorem dX7_gather_5 : decode cX7_gather 5 = .ok (.ifCond .ne 5, 3) := by decide +kernel
theorem dX7_gather_8 : decode cX7_gather 8 = .ok (.iconst (-1), 1) := by decide +kernel
theorem dX7_gather_9 : decode cX7_gather 9 = .ok (.ireturn, 1) := by decide +kernel
theorem dX7_gather_10 : decode cX7_gather 10 = .ok (.aload_n 0, 1) := by decide +kernel
theorem dX7_gather_11 : decode cX7_gather 11 = .ok (.invokevirtual 123, 3) := by decide +kernel
theorem dX7_gather_14 : decode cX7_gather 14 = .ok (.aload_n 0, 1) := by decide +kernel
theorem dX7_gather_15 : decode cX7_gather 15 = .ok (.iload_n 1, 1) := by decide +kernel
theorem dX7_gather_16 : decode cX7_gather 16 = .ok (.iload_n 2, 1) := by decide +kernel
theorem dX7_gather_17 : decode cX7_gather 17 = .ok (.invokevirtual 99, 3) := by decide +kernel
theorem dX7_gather_20 : decode cX7_gather 20 = .ok (.istore_n 3, 1) := by decide +kernel
theorem dX7_gather_21 : decode cX7_gather 21 = .ok (.aload_n 0, 1) := by decide +kernel
theorem dX7_gather_22 : decode cX7_gather 22 = .ok (.invokevirtual 126, 3) := by decide +kernel
theorem dX7_gather_25 : decode cX7_gather 25 = .ok (.iload_n 3, 1) := by decide +kernel
theorem dX7_gather_26 : decode cX7_gather 26 = .ok (.ifCond .ne 6, 3) := by decide +kernel
theorem dX7_gather_29 : decode cX7_gather 29 = .ok (.bipush (-5), 2) := by decide +kernel
theorem dX7_gather_31 : decode cX7_gather 31 = .ok (.ireturn, 1) := by decide +kernel
theorem dX7_gather_32 : decode cX7_gather 32 = .ok (.aload_n 0, 1) := by decide +kernel
theorem dX7_gather_33 : decode cX7_gather 33 = .ok (.invokevirtual 114, 3) := by decide +kernel
theorem dX7_gather_36 : decode cX7_gather 36 = .ok (.aload_n 0, 1) := by decide +kernel
theorem dX7_gather_37 : decode cX7_gather 37 = .ok (.iload_n 1, 1) := by decide +kernel
theorem dX7_gather_38 : decode cX7_gather 38 = .ok (.iload_n 2, 1) := by decide +kernel
theorem dX7_gather_39 : decode cX7_gather 39 = .ok (.invokevirtual 99, 3) := by decide +kernel
theorem dX7_gather_42 : decode cX7_gather 42 = .ok (.istore_n 3, 1) := by decide +kernel
theorem dX7_gather_43 : decode cX7_gather 43 = .ok (.aload_n 0, 1) := by decide +kernel
theorem dX7_gather_44 : decode cX7_gather 44 = .ok (.getfield 7, 3) := by decide +kernel
theorem dX7_gather_47 : decode cX7_gather 47 = .ok (.iload_n 1, 1) := by decide +kernel
theorem dX7_gather_48 : decode cX7_gather 48 = .ok (.iload_n 2, 1) := by decide +kernel
theorem dX7_gather_49 : decode cX7_gather 49 = .ok (.invokestatic 51, 3) := by decide +kernel
theorem dX7_gather_52 : decode cX7_gather 52 = .ok (.iaload, 1) := by decide +kernel
theorem dX7_gather_53 : decode cX7_gather 53 = .ok (.ireturn, 1) := by decide +kernel
theorem dX7_hold_0 : decode cX7_hold 0 = .ok (.iload_n 1, 1) := by decide +kernel
theorem dX7_hold_1 : decode cX7_hold 1 = .ok (.iload_n 2, 1) := by decide +kernel
theorem dX7_hold_2 : decode cX7_hold 2 = .ok (.invokestatic 106, 3) := by decide +kernel
theorem dX7_hold_5 : decode cX7_hold 5 = .ok (.ifCond .ne 5, 3) := by decide +kernel
theorem dX7_hold_8 : decode cX7_hold 8 = .ok (.iconst (-1), 1) := by decide +kernel
theorem dX7_hold_9 : decode cX7_hold 9 = .ok (.ireturn, 1) := by decide +kernel
theorem dX7_hold_10 : decode cX7_hold 10 = .ok (.iload_n 3, 1) := by decide +kernel
theorem dX7_hold_11 : decode cX7_hold 11 = .ok (.ifCond .eq 19, 3) := by decide +kernel
theorem dX7_hold_14 : decode cX7_hold 14 = .ok (.aload_n 0, 1) := by decide +kernel
theorem dX7_hold_15 : decode cX7_hold 15 = .ok (.getfield 7, 3) := by decide +kernel
theorem dX7_hold_18 : decode cX7_hold 18 = .ok (.iload_n 1, 1) := by decide +kernel
theorem dX7_hold_19 : decode cX7_hold 19 = .ok (.iload_n 2, 1) := by decide +kernel
theorem dX7_hold_20 : decode cX7_hold 20 = .ok (.invokestatic 51, 3) := by decide +kernel
theorem dX7_hold_23 : decode cX7_hold 23 = .ok (.iaload, 1) := by decide +kernel
theorem dX7_hold_24 : decode cX7_hold 24 = .ok (.ifCond .ne 6, 3) := by decide +kernel
theorem dX7_hold_27 : decode cX7_hold 27 = .ok (.bipush (-4), 2) := by decide +kernel
theorem dX7_hold_29 : decode cX7_hold 29 = .ok (.ireturn, 1) := by decide +kernel
theorem dX7_hold_30 : decode cX7_hold 30 = .ok (.aload_n 0, 1) := by decide +kernel
theorem dX7_hold_31 : decode cX7_hold 31 = .ok (.getfield 7, 3) := by decide +kernel
theorem dX7_hold_34 : decode cX7_hold 34 = .ok (.iload_n 1, 1) := by decide +kernel
theorem dX7_hold_35 : decode cX7_hold 35 = .ok (.iload_n 2, 1) := by decide +kernel
theorem dX7_hold_36 : decode cX7_hold 36 = .ok (.invokestatic 72, 3) := by decide +kernel
theorem dX7_hold_39 : decode cX7_hold 39 = .ok (.iaload, 1) := by decide +kernel
theorem dX7_hold_40 : decode cX7_hold 40 = .ok (.iconst 1, 1) := by decide +kernel
theorem dX7_hold_41 : decode cX7_hold 41 = .ok (.if_icmp .ne 7, 3) := by decide +kernel
theorem dX7_hold_44 : decode cX7_hold 44 = .ok (.iconst 1, 1) := by decide +kernel
theorem dX7_hold_45 : decode cX7_hold 45 = .ok (.goto 4, 3) := by decide +kernel
theorem dX7_hold_48 : decode cX7_hold 48 = .ok (.iconst 0, 1) := by decide +kernel
theorem dX7_hold_49 : decode cX7_hold 49 = .ok (.iload_n 3, 1) := by decide +kernel
theorem dX7_hold_50 : decode cX7_hold 50 = .ok (.if_icmp .ne 6, 3) := by decide +kernel
theorem dX7_hold_53 : decode cX7_hold 53 = .ok (.bipush (-5), 2) := by decide +kernel
theorem dX7_hold_55 : decode cX7_hold 55 = .ok (.ireturn, 1) := by decide +kernel
theorem dX7_hold_56 : decode cX7_hold 56 = .ok (.aload_n 0, 1) := by decide +kernel
theorem dX7_hold_57 : decode cX7_hold 57 = .ok (.invokevirtual 114, 3) := by decide +kernel
theorem dX7_hold_60 : decode cX7_hold 60 = .ok (.aload_n 0, 1) := by decide +kernel
theorem dX7_hold_61 : decode cX7_hold 61 = .ok (.getfield 7, 3) := by decide +kernel
theorem dX7_hold_64 : decode cX7_hold 64 = .ok (.iload_n 1, 1) := by decide +kernel
theorem dX7_hold_65 : decode cX7_hold 65 = .ok (.iload_n 2, 1) := by decide +kernel
theorem dX7_hold_66 : decode cX7_hold 66 = .ok (.invokestatic 72, 3) := by decide +kernel
theorem dX7_hold_69 : decode cX7_hold 69 = .ok (.iload_n 3, 1) := by decide +kernel
theorem dX7_hold_70 : decode cX7_hold 70 = .ok (.ifCond .eq 7, 3) := by decide +kernel
theorem dX7_hold_73 : decode cX7_hold 73 = .ok (.iconst 1, 1) := by decide +kernel
theorem dX7_hold_74 : decode cX7_hold 74 = .ok (.goto 4, 3) := by decide +kernel
theorem dX7_hold_77 : decode cX7_hold 77 = .ok (.iconst 0, 1) := by decide +kernel
theorem dX7_hold_78 : decode cX7_hold 78 = .ok (.iastore, 1) := by decide +kernel
theorem dX7_hold_79 : decode cX7_hold 79 = .ok (.aload_n 0, 1) := by decide +kernel
theorem dX7_hold_80 : decode cX7_hold 80 = .ok (.getfield 7, 3) := by decide +kernel
theorem dX7_hold_83 : decode cX7_hold 83 = .ok (.bipush 114, 2) := by decide +kernel
theorem dX7_hold_85 : decode cX7_hold 85 = .ok (.iload_n 2, 1) := by decide +kernel
theorem dX7_hold_86 : decode cX7_hold 86 = .ok (.iadd, 1) := by decide +kernel
theorem dX7_hold_87 : decode cX7_hold 87 = .ok (.iaload, 1) := by decide +kernel
theorem dX7_hold_88 : decode cX7_hold 88 = .ok (.ireturn, 1) := by decide +kernel
theorem dX7_writes_0 : decode cX7_writes 0 = .ok (.aload_n 0, 1) := by decide +kernel
theorem dX7_writes_1 : decode cX7_writes 1 = .ok (.getfield 7, 3) := by decide +kernel
theorem dX7_writes_4 : decode cX7_writes 4 = .ok (.bipush 114, 2) := by decide +kernel
theorem dX7_writes_6 : decode cX7_writes 6 = .ok (.iload_n 1, 1) := by decide +kernel
theorem dX7_writes_7 : decode cX7_writes 7 = .ok (.iadd, 1) := by decide +kernel
theorem dX7_writes_8 : decode cX7_writes 8 = .ok (.iload_n 2, 1) := by decide +kernel
theorem dX7_writes_9 : decode cX7_writes 9 = .ok (.iastore, 1) := by decide +kernel
theorem dX7_writes_10 : decode cX7_writes 10 = .ok (.aload_n 0, 1) := by decide +kernel
theorem dX7_writes_11 : decode cX7_writes 11 = .ok (.getfield 7, 3) := by decide +kernel
theorem dX7_writes_14 : decode cX7_writes 14 = .ok (.bipush 120, 2) := by decide +kernel
theorem dX7_writes_16 : decode cX7_writes 16 = .ok (.iload_n 1, 1) := by decide +kernel
theorem dX7_writes_17 : decode cX7_writes 17 = .ok (.iadd, 1) := by decide +kernel
theorem dX7_writes_18 : decode cX7_writes 18 = .ok (.dup2, 1) := by decide +kernel
theorem dX7_writes_19 : decode cX7_writes 19 = .ok (.iaload, 1) := by decide +kernel
theorem dX7_writes_20 : decode cX7_writes 20 = .ok (.iconst 1, 1) := by decide +kernel
theorem dX7_writes_21 : decode cX7_writes 21 = .ok (.iadd, 1) := by decide +kernel
theorem dX7_writes_22 : decode cX7_writes 22 = .ok (.iastore, 1) := by decide +kernel
theorem dX7_writes_23 : decode cX7_writes 23 = .ok (.aload_n 0, 1) := by decide +kernel
theorem dX7_writes_24 : decode cX7_writes 24 = .ok (.getfield 7, 3) := by decide +kernel
theorem dX7_writes_27 : decode cX7_writes 27 = .ok (.sipush 134, 3) := by decide +kernel
theorem dX7_writes_30 : decode cX7_writes 30 = .ok (.dup2, 1) := by decide +kernel
theorem dX7_writes_31 : decode cX7_writes 31 = .ok (.iaload, 1) := by decide +kernel
theorem dX7_writes_32 : decode cX7_writes 32 = .ok (.iconst 1, 1) := by decide +kernel
theorem dX7_writes_33 : decode cX7_writes 33 = .ok (.iadd, 1) := by decide +kernel
theorem dX7_writes_34 : decode cX7_writes 34 = .ok (.iastore, 1) := by decide +kernel
theorem dX7_writes_35 : decode cX7_writes 35 = .ok (.aload_n 0, 1) := by decide +kernel
theorem dX7_writes_36 : decode cX7_writes 36 = .ok (.getfield 7, 3) := by decide +kernel
theorem dX7_writes_39 : decode cX7_writes 39 = .ok (.bipush 120, 2) := by decide +kernel
theorem dX7_writes_41 : decode cX7_writes 41 = .ok (.iload_n 1, 1) := by decide +kernel
theorem dX7_writes_42 : decode cX7_writes 42 = .ok (.iadd, 1) := by decide +kernel
theorem dX7_writes_43 : decode cX7_writes 43 = .ok (.iaload, 1) := by decide +kernel
theorem dX7_writes_44 : decode cX7_writes 44 = .ok (.ireturn, 1) := by decide +kernel
theorem dX7_write_0 : decode cX7_write 0 = .ok (.aload_n 0, 1) := by decide +kernel
theorem dX7_write_1 : decode cX7_write 1 = .ok (.iload_n 1, 1) := by decide +kernel
theorem dX7_write_2 : decode cX7_write 2 = .ok (.iload_n 2, 1) := by decide +kernel
theorem dX7_write_3 : decode cX7_write 3 = .ok (.iload_n 3, 1) := by decide +kernel
theorem dX7_write_4 : decode cX7_write 4 = .ok (.invokevirtual 129, 3) := by decide +kernel
theorem dX7_write_7 : decode cX7_write 7 = .ok (.istore 4, 2) := by decide +kernel
theorem dX7_write_9 : decode cX7_write 9 = .ok (.iload 4, 2) := by decide +kernel
theorem dX7_write_11 : decode cX7_write 11 = .ok (.ifCond .ge 6, 3) := by decide +kernel
theorem dX7_write_14 : decode cX7_write 14 = .ok (.iload 4, 2) := by decide +kernel
theorem dX7_write_16 : decode cX7_write 16 = .ok (.ireturn, 1) := by decide +kernel
theorem dX7_write_17 : decode cX7_write 17 = .ok (.aload_n 0, 1) := by decide +kernel
theorem dX7_write_18 : decode cX7_write 18 = .ok (.invokevirtual 114, 3) := by decide +kernel
theorem dX7_write_21 : decode cX7_write 21 = .ok (.aload_n 0, 1) := by decide +kernel
theorem dX7_write_22 : decode cX7_write 22 = .ok (.iload_n 2, 1) := by decide +kernel
theorem dX7_write_23 : decode cX7_write 23 = .ok (.iload_n 3, 1) := by decide +kernel
theorem dX7_write_24 : decode cX7_write 24 = .ok (.invokevirtual 132, 3) := by decide +kernel
theorem dX7_write_27 : decode cX7_write 27 = .ok (.ireturn, 1) := by decide +kernel
theorem dX7_read_0 : decode cX7_read 0 = .ok (.iload_n 1, 1) := by decide +kernel
theorem dX7_read_1 : decode cX7_read 1 = .ok (.iload_n 2, 1) := by decide +kernel
theorem dX7_read_2 : decode cX7_read 2 = .ok (.invokestatic 106, 3) := by decide +kernel
theorem dX7_read_5 : decode cX7_read 5 = .ok (.ifCond .ne 5, 3) := by decide +kernel
theorem dX7_read_8 : decode cX7_read 8 = .ok (.iconst (-1), 1) := by decide +kernel
theorem dX7_read_9 : decode cX7_read 9 = .ok (.ireturn, 1) := by decide +kernel
theorem dX7_read_10 : decode cX7_read 10 = .ok (.aload_n 0, 1) := by decide +kernel
theorem dX7_read_11 : decode cX7_read 11 = .ok (.getfield 7, 3) := by decide +kernel
theorem dX7_read_14 : decode cX7_read 14 = .ok (.iload_n 1, 1) := by decide +kernel
theorem dX7_read_15 : decode cX7_read 15 = .ok (.iload_n 2, 1) := by decide +kernel
theorem dX7_read_16 : decode cX7_read 16 = .ok (.invokestatic 51, 3) := by decide +kernel
theorem dX7_read_19 : decode cX7_read 19 = .ok (.iaload, 1) := by decide +kernel
theorem dX7_read_20 : decode cX7_read 20 = .ok (.ifCond .ne 8, 3) := by decide +kernel
theorem dX7_read_23 : decode cX7_read 23 = .ok (.bipush (-4), 2) := by decide +kernel
theorem dX7_read_25 : decode cX7_read 25 = .ok (.goto 12, 3) := by decide +kernel
theorem dX7_read_28 : decode cX7_read 28 = .ok (.aload_n 0, 1) := by decide +kernel
theorem dX7_read_29 : decode cX7_read 29 = .ok (.getfield 7, 3) := by decide +kernel
theorem dX7_read_32 : decode cX7_read 32 = .ok (.bipush 114, 2) := by decide +kernel
theorem dX7_read_34 : decode cX7_read 34 = .ok (.iload_n 2, 1) := by decide +kernel
theorem dX7_read_35 : decode cX7_read 35 = .ok (.iadd, 1) := by decide +kernel
theorem dX7_read_36 : decode cX7_read 36 = .ok (.iaload, 1) := by decide +kernel
theorem dX7_read_37 : decode cX7_read 37 = .ok (.ireturn, 1) := by decide +kernel
theorem dX7_placeOfClaim_0 : decode cX7_placeOfClaim 0 = .ok (.bipush (-5), 2) := by decide +kernel
theorem dX7_placeOfClaim_2 : decode cX7_placeOfClaim 2 = .ok (.istore_n 3, 1) := by decide +kernel
theorem dX7_placeOfClaim_3 : decode cX7_placeOfClaim 3 = .ok (.iconst 0, 1) := by decide +kernel
theorem dX7_placeOfClaim_4 : decode cX7_placeOfClaim 4 = .ok (.istore 4, 2) := by decide +kernel
theorem dX7_placeOfClaim_6 : decode cX7_placeOfClaim 6 = .ok (.iload 4, 2) := by decide +kernel
theorem dX7_placeOfClaim_8 : decode cX7_placeOfClaim 8 = .ok (.aload_n 0, 1) := by decide +kernel
theorem dX7_placeOfClaim_9 : decode cX7_placeOfClaim 9 = .ok (.getfield 7, 3) := by decide +kernel
theorem dX7_placeOfClaim_12 : decode cX7_placeOfClaim 12 = .ok (.bipush 108, 2) := by decide +kernel
theorem dX7_placeOfClaim_14 : decode cX7_placeOfClaim 14 = .ok (.iload_n 2, 1) := by decide +kernel
theorem dX7_placeOfClaim_15 : decode cX7_placeOfClaim 15 = .ok (.iadd, 1) := by decide +kernel
theorem dX7_placeOfClaim_16 : decode cX7_placeOfClaim 16 = .ok (.iaload, 1) := by decide +kernel
theorem dX7_placeOfClaim_17 : decode cX7_placeOfClaim 17 = .ok (.if_icmp .ge 35, 3) := by decide +kernel
theorem dX7_placeOfClaim_20 : decode cX7_placeOfClaim 20 = .ok (.aload_n 0, 1) := by decide +kernel
theorem dX7_placeOfClaim_21 : decode cX7_placeOfClaim 21 = .ok (.getfield 7, 3) := by decide +kernel
theorem dX7_placeOfClaim_24 : decode cX7_placeOfClaim 24 = .ok (.bipush 72, 2) := by decide +kernel
theorem dX7_placeOfClaim_26 : decode cX7_placeOfClaim 26 = .ok (.bipush 6, 2) := by decide +kernel
theorem dX7_placeOfClaim_28 : decode cX7_placeOfClaim 28 = .ok (.iload_n 2, 1) := by decide +kernel
theorem dX7_placeOfClaim_29 : decode cX7_placeOfClaim 29 = .ok (.imul, 1) := by decide +kernel
theorem dX7_placeOfClaim_30 : decode cX7_placeOfClaim 30 = .ok (.iadd, 1) := by decide +kernel
theorem dX7_placeOfClaim_31 : decode cX7_placeOfClaim 31 = .ok (.iload 4, 2) := by decide +kernel
theorem dX7_placeOfClaim_33 : decode cX7_placeOfClaim 33 = .ok (.iadd, 1) := by decide +kernel
theorem dX7_placeOfClaim_34 : decode cX7_placeOfClaim 34 = .ok (.iaload, 1) := by decide +kernel
theorem dX7_placeOfClaim_35 : decode cX7_placeOfClaim 35 = .ok (.iload_n 1, 1) := by decide +kernel
theorem dX7_placeOfClaim_36 : decode cX7_placeOfClaim 36 = .ok (.if_icmp .ne 8, 3) := by decide +kernel
theorem dX7_placeOfClaim_39 : decode cX7_placeOfClaim 39 = .ok (.iload 4, 2) := by decide +kernel
theorem dX7_placeOfClaim_41 : decode cX7_placeOfClaim 41 = .ok (.goto 4, 3) := by decide +kernel
theorem dX7_placeOfClaim_44 : decode cX7_placeOfClaim 44 = .ok (.iload_n 3, 1) := by decide +kernel
theorem dX7_placeOfClaim_45 : decode cX7_placeOfClaim 45 = .ok (.istore_n 3, 1) := by decide +kernel
theorem dX7_placeOfClaim_46 : decode cX7_placeOfClaim 46 = .ok (.iinc 4 1, 3) := by decide +kernel
theorem dX7_placeOfClaim_49 : decode cX7_placeOfClaim 49 = .ok (.goto (-43), 3) := by decide +kernel
theorem dX7_placeOfClaim_52 : decode cX7_placeOfClaim 52 = .ok (.iload_n 3, 1) := by decide +kernel
theorem dX7_placeOfClaim_53 : decode cX7_placeOfClaim 53 = .ok (.ireturn, 1) := by decide +kernel
theorem dX7_dropClaim_0 : decode cX7_dropClaim 0 = .ok (.aload_n 0, 1) := by decide +kernel
theorem dX7_dropClaim_1 : decode cX7_dropClaim 1 = .ok (.getfield 7, 3) := by decide +kernel
theorem dX7_dropClaim_4 : decode cX7_dropClaim 4 = .ok (.bipush 108, 2) := by decide +kernel
theorem dX7_dropClaim_6 : decode cX7_dropClaim 6 = .ok (.iload_n 1, 1) := by decide +kernel
theorem dX7_dropClaim_7 : decode cX7_dropClaim 7 = .ok (.iadd, 1) := by decide +kernel
theorem dX7_dropClaim_8 : decode cX7_dropClaim 8 = .ok (.dup2, 1) := by decide +kernel
theorem dX7_dropClaim_9 : decode cX7_dropClaim 9 = .ok (.iaload, 1) := by decide +kernel
theorem dX7_dropClaim_10 : decode cX7_dropClaim 10 = .ok (.iconst 1, 1) := by decide +kernel
theorem dX7_dropClaim_11 : decode cX7_dropClaim 11 = .ok (.isub, 1) := by decide +kernel
theorem dX7_dropClaim_12 : decode cX7_dropClaim 12 = .ok (.iastore, 1) := by decide +kernel
theorem dX7_dropClaim_13 : decode cX7_dropClaim 13 = .ok (.iload_n 2, 1) := by decide +kernel
theorem dX7_dropClaim_14 : decode cX7_dropClaim 14 = .ok (.istore_n 3, 1) := by decide +kernel
theorem dX7_dropClaim_15 : decode cX7_dropClaim 15 = .ok (.iload_n 3, 1) := by decide +kernel
theorem dX7_dropClaim_16 : decode cX7_dropClaim 16 = .ok (.aload_n 0, 1) := by decide +kernel
theorem dX7_dropClaim_17 : decode cX7_dropClaim 17 = .ok (.getfield 7, 3) := by decide +kernel
theorem dX7_dropClaim_20 : decode cX7_dropClaim 20 = .ok (.bipush 108, 2) := by decide +kernel
theorem dX7_dropClaim_22 : decode cX7_dropClaim 22 = .ok (.iload_n 1, 1) := by decide +kernel
theorem dX7_dropClaim_23 : decode cX7_dropClaim 23 = .ok (.iadd, 1) := by decide +kernel
theorem dX7_dropClaim_24 : decode cX7_dropClaim 24 = .ok (.iaload, 1) := by decide +kernel
theorem dX7_dropClaim_25 : decode cX7_dropClaim 25 = .ok (.if_icmp .ge 39, 3) := by decide +kernel
theorem dX7_dropClaim_28 : decode cX7_dropClaim 28 = .ok (.aload_n 0, 1) := by decide +kernel
theorem dX7_dropClaim_29 : decode cX7_dropClaim 29 = .ok (.getfield 7, 3) := by decide +kernel
theorem dX7_dropClaim_32 : decode cX7_dropClaim 32 = .ok (.bipush 72, 2) := by decide +kernel
theorem dX7_dropClaim_34 : decode cX7_dropClaim 34 = .ok (.bipush 6, 2) := by decide +kernel
theorem dX7_dropClaim_36 : decode cX7_dropClaim 36 = .ok (.iload_n 1, 1) := by decide +kernel
theorem dX7_dropClaim_37 : decode cX7_dropClaim 37 = .ok (.imul, 1) := by decide +kernel
theorem dX7_dropClaim_38 : decode cX7_dropClaim 38 = .ok (.iadd, 1) := by decide +kernel
theorem dX7_dropClaim_39 : decode cX7_dropClaim 39 = .ok (.iload_n 3, 1) := by decide +kernel
theorem dX7_dropClaim_40 : decode cX7_dropClaim 40 = .ok (.iadd, 1) := by decide +kernel
theorem dX7_dropClaim_41 : decode cX7_dropClaim 41 = .ok (.aload_n 0, 1) := by decide +kernel
theorem dX7_dropClaim_42 : decode cX7_dropClaim 42 = .ok (.getfield 7, 3) := by decide +kernel
theorem dX7_dropClaim_45 : decode cX7_dropClaim 45 = .ok (.bipush 72, 2) := by decide +kernel
theorem dX7_dropClaim_47 : decode cX7_dropClaim 47 = .ok (.bipush 6, 2) := by decide +kernel
theorem dX7_dropClaim_49 : decode cX7_dropClaim 49 = .ok (.iload_n 1, 1) := by decide +kernel
theorem dX7_dropClaim_50 : decode cX7_dropClaim 50 = .ok (.imul, 1) := by decide +kernel
theorem dX7_dropClaim_51 : decode cX7_dropClaim 51 = .ok (.iadd, 1) := by decide +kernel
theorem dX7_dropClaim_52 : decode cX7_dropClaim 52 = .ok (.iload_n 3, 1) := by decide +kernel
theorem dX7_dropClaim_53 : decode cX7_dropClaim 53 = .ok (.iadd, 1) := by decide +kernel
theorem dX7_dropClaim_54 : decode cX7_dropClaim 54 = .ok (.iconst 1, 1) := by decide +kernel
theorem dX7_dropClaim_55 : decode cX7_dropClaim 55 = .ok (.iadd, 1) := by decide +kernel
theorem dX7_dropClaim_56 : decode cX7_dropClaim 56 = .ok (.iaload, 1) := by decide +kernel
theorem dX7_dropClaim_57 : decode cX7_dropClaim 57 = .ok (.iastore, 1) := by decide +kernel
theorem dX7_dropClaim_58 : decode cX7_dropClaim 58 = .ok (.iinc 3 1, 3) := by decide +kernel
theorem dX7_dropClaim_61 : decode cX7_dropClaim 61 = .ok (.goto (-46), 3) := by decide +kernel
theorem dX7_dropClaim_64 : decode cX7_dropClaim 64 = .ok (.return_, 1) := by decide +kernel
theorem dX7_claim_0 : decode cX7_claim 0 = .ok (.iload_n 1, 1) := by decide +kernel
theorem dX7_claim_1 : decode cX7_claim 1 = .ok (.iload_n 2, 1) := by decide +kernel
theorem dX7_claim_2 : decode cX7_claim 2 = .ok (.invokestatic 106, 3) := by decide +kernel
theorem dX7_claim_5 : decode cX7_claim 5 = .ok (.ifCond .ne 5, 3) := by decide +kernel
theorem dX7_claim_8 : decode cX7_claim 8 = .ok (.iconst (-1), 1) := by decide +kernel
theorem dX7_claim_9 : decode cX7_claim 9 = .ok (.ireturn, 1) := by decide +kernel
theorem dX7_claim_10 : decode cX7_claim 10 = .ok (.aload_n 0, 1) := by decide +kernel
theorem dX7_claim_11 : decode cX7_claim 11 = .ok (.iload_n 1, 1) := by decide +kernel
theorem dX7_claim_12 : decode cX7_claim 12 = .ok (.iload_n 2, 1) := by decide +kernel
theorem dX7_claim_13 : decode cX7_claim 13 = .ok (.invokevirtual 135, 3) := by decide +kernel
theorem dX7_claim_16 : decode cX7_claim 16 = .ok (.istore 4, 2) := by decide +kernel
theorem dX7_claim_18 : decode cX7_claim 18 = .ok (.iload 4, 2) := by decide +kernel
theorem dX7_claim_20 : decode cX7_claim 20 = .ok (.bipush (-5), 2) := by decide +kernel
theorem dX7_claim_22 : decode cX7_claim 22 = .ok (.if_icmp .eq 7, 3) := by decide +kernel
theorem dX7_claim_25 : decode cX7_claim 25 = .ok (.iconst 1, 1) := by decide +kernel
theorem dX7_claim_26 : decode cX7_claim 26 = .ok (.goto 4, 3) := by decide +kernel
theorem dX7_claim_29 : decode cX7_claim 29 = .ok (.iconst 0, 1) := by decide +kernel
theorem dX7_claim_30 : decode cX7_claim 30 = .ok (.iload_n 3, 1) := by decide +kernel
theorem dX7_claim_31 : decode cX7_claim 31 = .ok (.if_icmp .ne 6, 3) := by decide +kernel
theorem dX7_claim_34 : decode cX7_claim 34 = .ok (.bipush (-5), 2) := by decide +kernel
theorem dX7_claim_36 : decode cX7_claim 36 = .ok (.ireturn, 1) := by decide +kernel
theorem dX7_claim_37 : decode cX7_claim 37 = .ok (.aload_n 0, 1) := by decide +kernel
theorem dX7_claim_38 : decode cX7_claim 38 = .ok (.invokevirtual 114, 3) := by decide +kernel
theorem dX7_claim_41 : decode cX7_claim 41 = .ok (.iload_n 3, 1) := by decide +kernel
theorem dX7_claim_42 : decode cX7_claim 42 = .ok (.ifCond .eq 42, 3) := by decide +kernel
theorem dX7_claim_45 : decode cX7_claim 45 = .ok (.aload_n 0, 1) := by decide +kernel
theorem dX7_claim_46 : decode cX7_claim 46 = .ok (.getfield 7, 3) := by decide +kernel
theorem dX7_claim_49 : decode cX7_claim 49 = .ok (.bipush 72, 2) := by decide +kernel
theorem dX7_claim_51 : decode cX7_claim 51 = .ok (.bipush 6, 2) := by decide +kernel
theorem dX7_claim_53 : decode cX7_claim 53 = .ok (.iload_n 2, 1) := by decide +kernel
theorem dX7_claim_54 : decode cX7_claim 54 = .ok (.imul, 1) := by decide +kernel
theorem dX7_claim_55 : decode cX7_claim 55 = .ok (.iadd, 1) := by decide +kernel
theorem dX7_claim_56 : decode cX7_claim 56 = .ok (.aload_n 0, 1) := by decide +kernel
theorem dX7_claim_57 : decode cX7_claim 57 = .ok (.getfield 7, 3) := by decide +kernel
theorem dX7_claim_60 : decode cX7_claim 60 = .ok (.bipush 108, 2) := by decide +kernel
theorem dX7_claim_62 : decode cX7_claim 62 = .ok (.iload_n 2, 1) := by decide +kernel
theorem dX7_claim_63 : decode cX7_claim 63 = .ok (.iadd, 1) := by decide +kernel
theorem dX7_claim_64 : decode cX7_claim 64 = .ok (.iaload, 1) := by decide +kernel
theorem dX7_claim_65 : decode cX7_claim 65 = .ok (.iadd, 1) := by decide +kernel
theorem dX7_claim_66 : decode cX7_claim 66 = .ok (.iload_n 1, 1) := by decide +kernel
theorem dX7_claim_67 : decode cX7_claim 67 = .ok (.iastore, 1) := by decide +kernel
theorem dX7_claim_68 : decode cX7_claim 68 = .ok (.aload_n 0, 1) := by decide +kernel
theorem dX7_claim_69 : decode cX7_claim 69 = .ok (.getfield 7, 3) := by decide +kernel
theorem dX7_claim_72 : decode cX7_claim 72 = .ok (.bipush 108, 2) := by decide +kernel
theorem dX7_claim_74 : decode cX7_claim 74 = .ok (.iload_n 2, 1) := by decide +kernel
theorem dX7_claim_75 : decode cX7_claim 75 = .ok (.iadd, 1) := by decide +kernel
theorem dX7_claim_76 : decode cX7_claim 76 = .ok (.dup2, 1) := by decide +kernel
theorem dX7_claim_77 : decode cX7_claim 77 = .ok (.iaload, 1) := by decide +kernel
theorem dX7_claim_78 : decode cX7_claim 78 = .ok (.iconst 1, 1) := by decide +kernel
theorem dX7_claim_79 : decode cX7_claim 79 = .ok (.iadd, 1) := by decide +kernel
theorem dX7_claim_80 : decode cX7_claim 80 = .ok (.iastore, 1) := by decide +kernel
theorem dX7_claim_81 : decode cX7_claim 81 = .ok (.goto 10, 3) := by decide +kernel
theorem dX7_claim_84 : decode cX7_claim 84 = .ok (.aload_n 0, 1) := by decide +kernel
theorem dX7_claim_85 : decode cX7_claim 85 = .ok (.iload_n 2, 1) := by decide +kernel
theorem dX7_claim_86 : decode cX7_claim 86 = .ok (.iload 4, 2) := by decide +kernel
theorem dX7_claim_88 : decode cX7_claim 88 = .ok (.invokevirtual 138, 3) := by decide +kernel
theorem dX7_claim_91 : decode cX7_claim 91 = .ok (.aload_n 0, 1) := by decide +kernel
theorem dX7_claim_92 : decode cX7_claim 92 = .ok (.getfield 7, 3) := by decide +kernel
theorem dX7_claim_95 : decode cX7_claim 95 = .ok (.bipush 108, 2) := by decide +kernel
theorem dX7_claim_97 : decode cX7_claim 97 = .ok (.iload_n 2, 1) := by decide +kernel
theorem dX7_claim_98 : decode cX7_claim 98 = .ok (.iadd, 1) := by decide +kernel
theorem dX7_claim_99 : decode cX7_claim 99 = .ok (.iaload, 1) := by decide +kernel
theorem dX7_claim_100 : decode cX7_claim 100 = .ok (.ireturn, 1) := by decide +kernel
theorem dX7_serves_0 : decode cX7_serves 0 = .ok (.aload_n 0, 1) := by decide +kernel
theorem dX7_serves_1 : decode cX7_serves 1 = .ok (.getfield 7, 3) := by decide +kernel
theorem dX7_serves_4 : decode cX7_serves 4 = .ok (.bipush 126, 2) := by decide +kernel
theorem dX7_serves_6 : decode cX7_serves 6 = .ok (.iload_n 1, 1) := by decide +kernel
theorem dX7_serves_7 : decode cX7_serves 7 = .ok (.iadd, 1) := by decide +kernel
theorem dX7_serves_8 : decode cX7_serves 8 = .ok (.iaload, 1) := by decide +kernel
theorem dX7_serves_9 : decode cX7_serves 9 = .ok (.istore_n 2, 1) := by decide +kernel
theorem dX7_serves_10 : decode cX7_serves 10 = .ok (.aload_n 0, 1) := by decide +kernel
theorem dX7_serves_11 : decode cX7_serves 11 = .ok (.getfield 7, 3) := by decide +kernel
theorem dX7_serves_14 : decode cX7_serves 14 = .ok (.bipush 72, 2) := by decide +kernel
theorem dX7_serves_16 : decode cX7_serves 16 = .ok (.bipush 6, 2) := by decide +kernel
theorem dX7_serves_18 : decode cX7_serves 18 = .ok (.iload_n 1, 1) := by decide +kernel
theorem dX7_serves_19 : decode cX7_serves 19 = .ok (.imul, 1) := by decide +kernel
theorem dX7_serves_20 : decode cX7_serves 20 = .ok (.iadd, 1) := by decide +kernel
theorem dX7_serves_21 : decode cX7_serves 21 = .ok (.iaload, 1) := by decide +kernel
theorem dX7_serves_22 : decode cX7_serves 22 = .ok (.istore_n 3, 1) := by decide +kernel
theorem dX7_serves_23 : decode cX7_serves 23 = .ok (.aload_n 0, 1) := by decide +kernel
theorem dX7_serves_24 : decode cX7_serves 24 = .ok (.iload_n 2, 1) := by decide +kernel
theorem dX7_serves_25 : decode cX7_serves 25 = .ok (.iload_n 1, 1) := by decide +kernel
theorem dX7_serves_26 : decode cX7_serves 26 = .ok (.invokevirtual 99, 3) := by decide +kernel
theorem dX7_serves_29 : decode cX7_serves 29 = .ok (.istore 4, 2) := by decide +kernel
theorem dX7_serves_31 : decode cX7_serves 31 = .ok (.aload_n 0, 1) := by decide +kernel
theorem dX7_serves_32 : decode cX7_serves 32 = .ok (.getfield 7, 3) := by decide +kernel
theorem dX7_serves_35 : decode cX7_serves 35 = .ok (.iload_n 2, 1) := by decide +kernel
theorem dX7_serves_36 : decode cX7_serves 36 = .ok (.iload_n 1, 1) := by decide +kernel
theorem dX7_serves_37 : decode cX7_serves 37 = .ok (.invokestatic 51, 3) := by decide +kernel
theorem dX7_serves_40 : decode cX7_serves 40 = .ok (.iaload, 1) := by decide +kernel
theorem dX7_serves_41 : decode cX7_serves 41 = .ok (.bipush 64, 2) := by decide +kernel
theorem dX7_serves_43 : decode cX7_serves 43 = .ok (.if_icmp .ne 20, 3) := by decide +kernel
theorem dX7_serves_46 : decode cX7_serves 46 = .ok (.aload_n 0, 1) := by decide +kernel
theorem dX7_serves_47 : decode cX7_serves 47 = .ok (.getfield 7, 3) := by decide +kernel
theorem dX7_serves_50 : decode cX7_serves 50 = .ok (.iload_n 2, 1) := by decide +kernel
theorem dX7_serves_51 : decode cX7_serves 51 = .ok (.iload_n 1, 1) := by decide +kernel
theorem dX7_serves_52 : decode cX7_serves 52 = .ok (.invokestatic 72, 3) := by decide +kernel
theorem dX7_serves_55 : decode cX7_serves 55 = .ok (.iaload, 1) := by decide +kernel
theorem dX7_serves_56 : decode cX7_serves 56 = .ok (.ifCond .ne 7, 3) := by decide +kernel
theorem dX7_serves_59 : decode cX7_serves 59 = .ok (.iconst 1, 1) := by decide +kernel
theorem dX7_serves_60 : decode cX7_serves 60 = .ok (.goto 4, 3) := by decide +kernel
theorem dX7_serves_63 : decode cX7_serves 63 = .ok (.iconst 0, 1) := by decide +kernel
theorem dX7_serves_64 : decode cX7_serves 64 = .ok (.istore 5, 2) := by decide +kernel
theorem dX7_serves_66 : decode cX7_serves 66 = .ok (.iload 5, 2) := by decide +kernel
theorem dX7_serves_68 : decode cX7_serves 68 = .ok (.ifCond .ne 16, 3) := by decide +kernel
theorem dX7_serves_71 : decode cX7_serves 71 = .ok (.iload 4, 2) := by decide +kernel
theorem dX7_serves_73 : decode cX7_serves 73 = .ok (.ifCond .le 8, 3) := by decide +kernel
theorem dX7_serves_76 : decode cX7_serves 76 = .ok (.bipush 9, 2) := by decide +kernel
theorem dX7_serves_78 : decode cX7_serves 78 = .ok (.goto 5, 3) := by decide +kernel
theorem dX7_serves_81 : decode cX7_serves 81 = .ok (.bipush (-5), 2) := by decide +kernel
theorem dX7_serves_83 : decode cX7_serves 83 = .ok (.ireturn, 1) := by decide +kernel
theorem dX7_serves_84 : decode cX7_serves 84 = .ok (.iload_n 3, 1) := by decide +kernel
theorem dX7_serves_85 : decode cX7_serves 85 = .ok (.iload_n 2, 1) := by decide +kernel
theorem dX7_serves_86 : decode cX7_serves 86 = .ok (.if_icmp .eq 13, 3) := by decide +kernel
theorem dX7_serves_89 : decode cX7_serves 89 = .ok (.aload_n 0, 1) := by decide +kernel
theorem dX7_serves_90 : decode cX7_serves 90 = .ok (.invokevirtual 102, 3) := by decide +kernel
theorem dX7_serves_93 : decode cX7_serves 93 = .ok (.ifCond .eq 6, 3) := by decide +kernel
theorem dX7_serves_96 : decode cX7_serves 96 = .ok (.bipush (-3), 2) := by decide +kernel
theorem dX7_serves_98 : decode cX7_serves 98 = .ok (.ireturn, 1) := by decide +kernel
theorem dX7_serves_99 : decode cX7_serves 99 = .ok (.aload_n 0, 1) := by decide +kernel
theorem dX7_serves_100 : decode cX7_serves 100 = .ok (.iload_n 1, 1) := by decide +kernel
theorem dX7_serves_101 : decode cX7_serves 101 = .ok (.iconst 0, 1) := by decide +kernel
theorem dX7_serves_102 : decode cX7_serves 102 = .ok (.invokevirtual 138, 3) := by decide +kernel
theorem dX7_serves_105 : decode cX7_serves 105 = .ok (.iload_n 3, 1) := by decide +kernel
theorem dX7_serves_106 : decode cX7_serves 106 = .ok (.iload_n 2, 1) := by decide +kernel
theorem dX7_serves_107 : decode cX7_serves 107 = .ok (.if_icmp .eq 14, 3) := by decide +kernel
theorem dX7_serves_110 : decode cX7_serves 110 = .ok (.aload_n 0, 1) := by decide +kernel
theorem dX7_serves_111 : decode cX7_serves 111 = .ok (.iload_n 2, 1) := by decide +kernel
theorem dX7_serves_112 : decode cX7_serves 112 = .ok (.iload_n 3, 1) := by decide +kernel
theorem dX7_serves_113 : decode cX7_serves 113 = .ok (.iload_n 1, 1) := by decide +kernel
theorem dX7_serves_114 : decode cX7_serves 114 = .ok (.bipush 64, 2) := by decide +kernel
theorem dX7_serves_116 : decode cX7_serves 116 = .ok (.invokevirtual 117, 3) := by decide +kernel
theorem dX7_serves_119 : decode cX7_serves 119 = .ok (.istore 6, 2) := by decide +kernel
theorem dX7_serves_121 : decode cX7_serves 121 = .ok (.iload_n 3, 1) := by decide +kernel
theorem dX7_serves_122 : decode cX7_serves 122 = .ok (.ireturn, 1) := by decide +kernel
theorem dX7_serve_0 : decode cX7_serve 0 = .ok (.iload_n 1, 1) := by decide +kernel
theorem dX7_serve_1 : decode cX7_serve 1 = .ok (.invokestatic 63, 3) := by decide +kernel
theorem dX7_serve_4 : decode cX7_serve 4 = .ok (.ifCond .ne 5, 3) := by decide +kernel
theorem dX7_serve_7 : decode cX7_serve 7 = .ok (.iconst (-1), 1) := by decide +kernel
theorem dX7_serve_8 : decode cX7_serve 8 = .ok (.ireturn, 1) := by decide +kernel
theorem dX7_serve_9 : decode cX7_serve 9 = .ok (.aload_n 0, 1) := by decide +kernel
theorem dX7_serve_10 : decode cX7_serve 10 = .ok (.getfield 7, 3) := by decide +kernel
theorem dX7_serve_13 : decode cX7_serve 13 = .ok (.bipush 108, 2) := by decide +kernel
theorem dX7_serve_15 : decode cX7_serve 15 = .ok (.iload_n 1, 1) := by decide +kernel
theorem dX7_serve_16 : decode cX7_serve 16 = .ok (.iadd, 1) := by decide +kernel
theorem dX7_serve_17 : decode cX7_serve 17 = .ok (.iaload, 1) := by decide +kernel
theorem dX7_serve_18 : decode cX7_serve 18 = .ok (.ifCond .ne 6, 3) := by decide +kernel
theorem dX7_serve_21 : decode cX7_serve 21 = .ok (.bipush (-4), 2) := by decide +kernel
theorem dX7_serve_23 : decode cX7_serve 23 = .ok (.ireturn, 1) := by decide +kernel
theorem dX7_serve_24 : decode cX7_serve 24 = .ok (.aload_n 0, 1) := by decide +kernel
theorem dX7_serve_25 : decode cX7_serve 25 = .ok (.invokevirtual 123, 3) := by decide +kernel
theorem dX7_serve_28 : decode cX7_serve 28 = .ok (.aload_n 0, 1) := by decide +kernel
theorem dX7_serve_29 : decode cX7_serve 29 = .ok (.iload_n 1, 1) := by decide +kernel
theorem dX7_serve_30 : decode cX7_serve 30 = .ok (.invokevirtual 142, 3) := by decide +kernel
theorem dX7_serve_33 : decode cX7_serve 33 = .ok (.istore_n 2, 1) := by decide +kernel
theorem dX7_serve_34 : decode cX7_serve 34 = .ok (.aload_n 0, 1) := by decide +kernel
theorem dX7_serve_35 : decode cX7_serve 35 = .ok (.invokevirtual 126, 3) := by decide +kernel
theorem dX7_serve_38 : decode cX7_serve 38 = .ok (.iload_n 2, 1) := by decide +kernel
theorem dX7_serve_39 : decode cX7_serve 39 = .ok (.ifCond .ge 5, 3) := by decide +kernel
theorem dX7_serve_42 : decode cX7_serve 42 = .ok (.iload_n 2, 1) := by decide +kernel
theorem dX7_serve_43 : decode cX7_serve 43 = .ok (.ireturn, 1) := by decide +kernel
theorem dX7_serve_44 : decode cX7_serve 44 = .ok (.aload_n 0, 1) := by decide +kernel
theorem dX7_serve_45 : decode cX7_serve 45 = .ok (.invokevirtual 114, 3) := by decide +kernel
theorem dX7_serve_48 : decode cX7_serve 48 = .ok (.aload_n 0, 1) := by decide +kernel
theorem dX7_serve_49 : decode cX7_serve 49 = .ok (.iload_n 1, 1) := by decide +kernel
theorem dX7_serve_50 : decode cX7_serve 50 = .ok (.invokevirtual 142, 3) := by decide +kernel
theorem dX7_serve_53 : decode cX7_serve 53 = .ok (.ireturn, 1) := by decide +kernel
theorem dX7_loansOf_0 : decode cX7_loansOf 0 = .ok (.iconst 0, 1) := by decide +kernel
theorem dX7_loansOf_1 : decode cX7_loansOf 1 = .ok (.istore_n 2, 1) := by decide +kernel
theorem dX7_loansOf_2 : decode cX7_loansOf 2 = .ok (.iconst 0, 1) := by decide +kernel
theorem dX7_loansOf_3 : decode cX7_loansOf 3 = .ok (.istore_n 3, 1) := by decide +kernel
theorem dX7_loansOf_4 : decode cX7_loansOf 4 = .ok (.iload_n 3, 1) := by decide +kernel
theorem dX7_loansOf_5 : decode cX7_loansOf 5 = .ok (.aload_n 0, 1) := by decide +kernel
theorem dX7_loansOf_6 : decode cX7_loansOf 6 = .ok (.getfield 7, 3) := by decide +kernel
theorem dX7_loansOf_9 : decode cX7_loansOf 9 = .ok (.sipush 132, 3) := by decide +kernel
theorem dX7_loansOf_12 : decode cX7_loansOf 12 = .ok (.iaload, 1) := by decide +kernel
theorem dX7_loansOf_13 : decode cX7_loansOf 13 = .ok (.if_icmp .ge 31, 3) := by decide +kernel
theorem dX7_loansOf_16 : decode cX7_loansOf 16 = .ok (.iload_n 2, 1) := by decide +kernel
theorem dX7_loansOf_17 : decode cX7_loansOf 17 = .ok (.aload_n 0, 1) := by decide +kernel
theorem dX7_loansOf_18 : decode cX7_loansOf 18 = .ok (.getfield 7, 3) := by decide +kernel
theorem dX7_loansOf_21 : decode cX7_loansOf 21 = .ok (.iload_n 3, 1) := by decide +kernel
theorem dX7_loansOf_22 : decode cX7_loansOf 22 = .ok (.iconst 3, 1) := by decide +kernel
theorem dX7_loansOf_23 : decode cX7_loansOf 23 = .ok (.invokestatic 69, 3) := by decide +kernel
theorem dX7_loansOf_26 : decode cX7_loansOf 26 = .ok (.iaload, 1) := by decide +kernel
theorem dX7_loansOf_27 : decode cX7_loansOf 27 = .ok (.iload_n 1, 1) := by decide +kernel
theorem dX7_loansOf_28 : decode cX7_loansOf 28 = .ok (.if_icmp .ne 7, 3) := by decide +kernel
theorem dX7_loansOf_31 : decode cX7_loansOf 31 = .ok (.iconst 1, 1) := by decide +kernel
theorem dX7_loansOf_32 : decode cX7_loansOf 32 = .ok (.goto 4, 3) := by decide +kernel
theorem dX7_loansOf_35 : decode cX7_loansOf 35 = .ok (.iconst 0, 1) := by decide +kernel
theorem dX7_loansOf_36 : decode cX7_loansOf 36 = .ok (.iadd, 1) := by decide +kernel
theorem dX7_loansOf_37 : decode cX7_loansOf 37 = .ok (.istore_n 2, 1) := by decide +kernel
theorem dX7_loansOf_38 : decode cX7_loansOf 38 = .ok (.iinc 3 1, 3) := by decide +kernel
theorem dX7_loansOf_41 : decode cX7_loansOf 41 = .ok (.goto (-37), 3) := by decide +kernel
theorem dX7_loansOf_44 : decode cX7_loansOf 44 = .ok (.iload_n 2, 1) := by decide +kernel
theorem dX7_loansOf_45 : decode cX7_loansOf 45 = .ok (.ireturn, 1) := by decide +kernel
theorem dX7_handOver_0 : decode cX7_handOver 0 = .ok (.iload_n 1, 1) := by decide +kernel
theorem dX7_handOver_1 : decode cX7_handOver 1 = .ok (.invokestatic 63, 3) := by decide +kernel
theorem dX7_handOver_4 : decode cX7_handOver 4 = .ok (.ifCond .eq 10, 3) := by decide +kernel
theorem dX7_handOver_7 : decode cX7_handOver 7 = .ok (.iload_n 2, 1) := by decide +kernel
theorem dX7_handOver_8 : decode cX7_handOver 8 = .ok (.invokestatic 59, 3) := by decide +kernel
theorem dX7_handOver_11 : decode cX7_handOver 11 = .ok (.ifCond .ne 5, 3) := by decide +kernel
theorem dX7_handOver_14 : decode cX7_handOver 14 = .ok (.iconst (-1), 1) := by decide +kernel
theorem dX7_handOver_15 : decode cX7_handOver 15 = .ok (.ireturn, 1) := by decide +kernel
theorem dX7_handOver_16 : decode cX7_handOver 16 = .ok (.aload_n 0, 1) := by decide +kernel
theorem dX7_handOver_17 : decode cX7_handOver 17 = .ok (.getfield 7, 3) := by decide +kernel
theorem dX7_handOver_20 : decode cX7_handOver 20 = .ok (.bipush 126, 2) := by decide +kernel
theorem dX7_handOver_22 : decode cX7_handOver 22 = .ok (.iload_n 1, 1) := by decide +kernel
theorem dX7_handOver_23 : decode cX7_handOver 23 = .ok (.iadd, 1) := by decide +kernel
theorem dX7_handOver_24 : decode cX7_handOver 24 = .ok (.iaload, 1) := by decide +kernel
theorem dX7_handOver_25 : decode cX7_handOver 25 = .ok (.istore_n 3, 1) := by decide +kernel
theorem dX7_handOver_26 : decode cX7_handOver 26 = .ok (.aload_n 0, 1) := by decide +kernel
theorem dX7_handOver_27 : decode cX7_handOver 27 = .ok (.iload_n 1, 1) := by decide +kernel
theorem dX7_handOver_28 : decode cX7_handOver 28 = .ok (.invokevirtual 145, 3) := by decide +kernel
theorem dX7_handOver_31 : decode cX7_handOver 31 = .ok (.ifCond .gt 17, 3) := by decide +kernel
theorem dX7_handOver_34 : decode cX7_handOver 34 = .ok (.aload_n 0, 1) := by decide +kernel
theorem dX7_handOver_35 : decode cX7_handOver 35 = .ok (.getfield 7, 3) := by decide +kernel
theorem dX7_handOver_38 : decode cX7_handOver 38 = .ok (.iload_n 3, 1) := by decide +kernel
theorem dX7_handOver_39 : decode cX7_handOver 39 = .ok (.iload_n 1, 1) := by decide +kernel
theorem dX7_handOver_40 : decode cX7_handOver 40 = .ok (.invokestatic 72, 3) := by decide +kernel
theorem dX7_handOver_43 : decode cX7_handOver 43 = .ok (.iaload, 1) := by decide +kernel
theorem dX7_handOver_44 : decode cX7_handOver 44 = .ok (.iconst 1, 1) := by decide +kernel
theorem dX7_handOver_45 : decode cX7_handOver 45 = .ok (.if_icmp .ne 6, 3) := by decide +kernel
theorem dX7_handOver_48 : decode cX7_handOver 48 = .ok (.bipush (-4), 2) := by decide +kernel
theorem dX7_handOver_50 : decode cX7_handOver 50 = .ok (.ireturn, 1) := by decide +kernel
theorem dX7_handOver_51 : decode cX7_handOver 51 = .ok (.iload_n 3, 1) := by decide +kernel
theorem dX7_handOver_52 : decode cX7_handOver 52 = .ok (.iload_n 2, 1) := by decide +kernel
theorem dX7_handOver_53 : decode cX7_handOver 53 = .ok (.if_icmp .ne 6, 3) := by decide +kernel
theorem dX7_handOver_56 : decode cX7_handOver 56 = .ok (.bipush (-5), 2) := by decide +kernel
theorem dX7_handOver_58 : decode cX7_handOver 58 = .ok (.ireturn, 1) := by decide +kernel
theorem dX7_handOver_59 : decode cX7_handOver 59 = .ok (.aload_n 0, 1) := by decide +kernel
theorem dX7_handOver_60 : decode cX7_handOver 60 = .ok (.invokevirtual 114, 3) := by decide +kernel
theorem dX7_handOver_63 : decode cX7_handOver 63 = .ok (.aload_n 0, 1) := by decide +kernel
theorem dX7_handOver_64 : decode cX7_handOver 64 = .ok (.getfield 7, 3) := by decide +kernel
theorem dX7_handOver_67 : decode cX7_handOver 67 = .ok (.bipush 126, 2) := by decide +kernel
theorem dX7_handOver_69 : decode cX7_handOver 69 = .ok (.iload_n 1, 1) := by decide +kernel
theorem dX7_handOver_70 : decode cX7_handOver 70 = .ok (.iadd, 1) := by decide +kernel
theorem dX7_handOver_71 : decode cX7_handOver 71 = .ok (.iload_n 2, 1) := by decide +kernel
theorem dX7_handOver_72 : decode cX7_handOver 72 = .ok (.iastore, 1) := by decide +kernel
theorem dX7_handOver_73 : decode cX7_handOver 73 = .ok (.aload_n 0, 1) := by decide +kernel
theorem dX7_handOver_74 : decode cX7_handOver 74 = .ok (.getfield 7, 3) := by decide +kernel
theorem dX7_handOver_77 : decode cX7_handOver 77 = .ok (.iload_n 3, 1) := by decide +kernel
theorem dX7_handOver_78 : decode cX7_handOver 78 = .ok (.iload_n 1, 1) := by decide +kernel
theorem dX7_handOver_79 : decode cX7_handOver 79 = .ok (.invokestatic 51, 3) := by decide +kernel
theorem dX7_handOver_82 : decode cX7_handOver 82 = .ok (.iconst 0, 1) := by decide +kernel
theorem dX7_handOver_83 : decode cX7_handOver 83 = .ok (.iastore, 1) := by decide +kernel
theorem dX7_handOver_84 : decode cX7_handOver 84 = .ok (.aload_n 0, 1) := by decide +kernel
theorem dX7_handOver_85 : decode cX7_handOver 85 = .ok (.getfield 7, 3) := by decide +kernel
theorem dX7_handOver_88 : decode cX7_handOver 88 = .ok (.iload_n 2, 1) := by decide +kernel
theorem dX7_handOver_89 : decode cX7_handOver 89 = .ok (.iload_n 1, 1) := by decide +kernel
theorem dX7_handOver_90 : decode cX7_handOver 90 = .ok (.invokestatic 51, 3) := by decide +kernel
theorem dX7_handOver_93 : decode cX7_handOver 93 = .ok (.bipush 64, 2) := by decide +kernel
theorem dX7_handOver_95 : decode cX7_handOver 95 = .ok (.iastore, 1) := by decide +kernel
theorem dX7_handOver_96 : decode cX7_handOver 96 = .ok (.iload_n 3, 1) := by decide +kernel
theorem dX7_handOver_97 : decode cX7_handOver 97 = .ok (.ireturn, 1) := by decide +kernel
theorem dX7_type_0 : decode cX7_type 0 = .ok (.aload_n 0, 1) := by decide +kernel
theorem dX7_type_1 : decode cX7_type 1 = .ok (.getfield 148, 3) := by decide +kernel
theorem dX7_type_4 : decode cX7_type 4 = .ok (.bipush 60, 2) := by decide +kernel
theorem dX7_type_6 : decode cX7_type 6 = .ok (.if_icmp .ne 6, 3) := by decide +kernel
theorem dX7_type_9 : decode cX7_type 9 = .ok (.bipush (-3), 2) := by decide +kernel
theorem dX7_type_11 : decode cX7_type 11 = .ok (.ireturn, 1) := by decide +kernel
theorem dX7_type_12 : decode cX7_type 12 = .ok (.aload_n 0, 1) := by decide +kernel
theorem dX7_type_13 : decode cX7_type 13 = .ok (.getfield 25, 3) := by decide +kernel
theorem dX7_type_16 : decode cX7_type 16 = .ok (.aload_n 0, 1) := by decide +kernel
theorem dX7_type_17 : decode cX7_type 17 = .ok (.getfield 148, 3) := by decide +kernel
theorem dX7_type_20 : decode cX7_type 20 = .ok (.iload_n 1, 1) := by decide +kernel
theorem dX7_type_21 : decode cX7_type 21 = .ok (.iastore, 1) := by decide +kernel
theorem dX7_type_22 : decode cX7_type 22 = .ok (.aload_n 0, 1) := by decide +kernel
theorem dX7_type_23 : decode cX7_type 23 = .ok (.dup, 1) := by decide +kernel
theorem dX7_type_24 : decode cX7_type 24 = .ok (.getfield 148, 3) := by decide +kernel
theorem dX7_type_27 : decode cX7_type 27 = .ok (.iconst 1, 1) := by decide +kernel
theorem dX7_type_28 : decode cX7_type 28 = .ok (.iadd, 1) := by decide +kernel
theorem dX7_type_29 : decode cX7_type 29 = .ok (.putfield 148, 3) := by decide +kernel
theorem dX7_type_32 : decode cX7_type 32 = .ok (.aload_n 0, 1) := by decide +kernel
theorem dX7_type_33 : decode cX7_type 33 = .ok (.getfield 148, 3) := by decide +kernel
theorem dX7_type_36 : decode cX7_type 36 = .ok (.ireturn, 1) := by decide +kernel
theorem dX7_clearText_0 : decode cX7_clearText 0 = .ok (.aload_n 0, 1) := by decide +kernel
theorem dX7_clearText_1 : decode cX7_clearText 1 = .ok (.getfield 148, 3) := by decide +kernel
theorem dX7_clearText_4 : decode cX7_clearText 4 = .ok (.istore_n 1, 1) := by decide +kernel
theorem dX7_clearText_5 : decode cX7_clearText 5 = .ok (.aload_n 0, 1) := by decide +kernel
theorem dX7_clearText_6 : decode cX7_clearText 6 = .ok (.iconst 0, 1) := by decide +kernel
theorem dX7_clearText_7 : decode cX7_clearText 7 = .ok (.putfield 148, 3) := by decide +kernel
theorem dX7_clearText_10 : decode cX7_clearText 10 = .ok (.iload_n 1, 1) := by decide +kernel
theorem dX7_clearText_11 : decode cX7_clearText 11 = .ok (.ireturn, 1) := by decide +kernel
theorem dX7_sign_0 : decode cX7_sign 0 = .ok (.aload_n 0, 1) := by decide +kernel
theorem dX7_sign_1 : decode cX7_sign 1 = .ok (.getfield 151, 3) := by decide +kernel
theorem dX7_sign_4 : decode cX7_sign 4 = .ok (.aload_n 0, 1) := by decide +kernel
theorem dX7_sign_5 : decode cX7_sign 5 = .ok (.getfield 148, 3) := by decide +kernel
theorem dX7_sign_8 : decode cX7_sign 8 = .ok (.if_icmp .ge 15, 3) := by decide +kernel
theorem dX7_sign_11 : decode cX7_sign 11 = .ok (.aload_n 0, 1) := by decide +kernel
theorem dX7_sign_12 : decode cX7_sign 12 = .ok (.getfield 25, 3) := by decide +kernel
theorem dX7_sign_15 : decode cX7_sign 15 = .ok (.aload_n 0, 1) := by decide +kernel
theorem dX7_sign_16 : decode cX7_sign 16 = .ok (.getfield 151, 3) := by decide +kernel
theorem dX7_sign_19 : decode cX7_sign 19 = .ok (.iaload, 1) := by decide +kernel
theorem dX7_sign_20 : decode cX7_sign 20 = .ok (.goto 4, 3) := by decide +kernel
theorem dX7_sign_23 : decode cX7_sign 23 = .ok (.iconst 0, 1) := by decide +kernel
theorem dX7_sign_24 : decode cX7_sign 24 = .ok (.istore_n 3, 1) := by decide +kernel
theorem dX7_sign_25 : decode cX7_sign 25 = .ok (.aload_n 0, 1) := by decide +kernel
theorem dX7_sign_26 : decode cX7_sign 26 = .ok (.aload_n 0, 1) := by decide +kernel
theorem dX7_sign_27 : decode cX7_sign 27 = .ok (.getfield 154, 3) := by decide +kernel
theorem dX7_sign_30 : decode cX7_sign 30 = .ok (.ifCond .ne 12, 3) := by decide +kernel
theorem dX7_sign_33 : decode cX7_sign 33 = .ok (.iload_n 3, 1) := by decide +kernel
theorem dX7_sign_34 : decode cX7_sign 34 = .ok (.iload_n 1, 1) := by decide +kernel
theorem dX7_sign_35 : decode cX7_sign 35 = .ok (.iload_n 2, 1) := by decide +kernel
theorem dX7_sign_36 : decode cX7_sign 36 = .ok (.invokestatic 55, 3) := by decide +kernel
theorem dX7_sign_39 : decode cX7_sign 39 = .ok (.ifCond .ne 7, 3) := by decide +kernel
theorem dX7_sign_42 : decode cX7_sign 42 = .ok (.iconst 1, 1) := by decide +kernel
theorem dX7_sign_43 : decode cX7_sign 43 = .ok (.goto 4, 3) := by decide +kernel
theorem dX7_sign_46 : decode cX7_sign 46 = .ok (.iconst 0, 1) := by decide +kernel
theorem dX7_sign_47 : decode cX7_sign 47 = .ok (.putfield 154, 3) := by decide +kernel
theorem dX7_sign_50 : decode cX7_sign 50 = .ok (.aload_n 0, 1) := by decide +kernel
theorem dX7_sign_51 : decode cX7_sign 51 = .ok (.dup, 1) := by decide +kernel
theorem dX7_sign_52 : decode cX7_sign 52 = .ok (.getfield 151, 3) := by decide +kernel
theorem dX7_sign_55 : decode cX7_sign 55 = .ok (.aload_n 0, 1) := by decide +kernel
theorem dX7_sign_56 : decode cX7_sign 56 = .ok (.getfield 154, 3) := by decide +kernel
theorem dX7_sign_59 : decode cX7_sign 59 = .ok (.ifCond .eq 7, 3) := by decide +kernel
theorem dX7_sign_62 : decode cX7_sign 62 = .ok (.iconst 0, 1) := by decide +kernel
theorem dX7_sign_63 : decode cX7_sign 63 = .ok (.goto 4, 3) := by decide +kernel
theorem dX7_sign_66 : decode cX7_sign 66 = .ok (.iconst 1, 1) := by decide +kernel
theorem dX7_sign_67 : decode cX7_sign 67 = .ok (.iadd, 1) := by decide +kernel
theorem dX7_sign_68 : decode cX7_sign 68 = .ok (.putfield 151, 3) := by decide +kernel
theorem dX7_sign_71 : decode cX7_sign 71 = .ok (.iload_n 3, 1) := by decide +kernel
theorem dX7_sign_72 : decode cX7_sign 72 = .ok (.ireturn, 1) := by decide +kernel
theorem dX7_digit_0 : decode cX7_digit 0 = .ok (.aload_n 0, 1) := by decide +kernel
theorem dX7_digit_1 : decode cX7_digit 1 = .ok (.bipush 48, 2) := by decide +kernel
theorem dX7_digit_3 : decode cX7_digit 3 = .ok (.bipush 53, 2) := by decide +kernel
theorem dX7_digit_5 : decode cX7_digit 5 = .ok (.invokevirtual 158, 3) := by decide +kernel
theorem dX7_digit_8 : decode cX7_digit 8 = .ok (.bipush 48, 2) := by decide +kernel
theorem dX7_digit_10 : decode cX7_digit 10 = .ok (.isub, 1) := by decide +kernel
theorem dX7_digit_11 : decode cX7_digit 11 = .ok (.ireturn, 1) := by decide +kernel
theorem dX7_number_0 : decode cX7_number 0 = .ok (.aload_n 0, 1) := by decide +kernel
theorem dX7_number_1 : decode cX7_number 1 = .ok (.bipush 48, 2) := by decide +kernel
theorem dX7_number_3 : decode cX7_number 3 = .ok (.iload_n 1, 1) := by decide +kernel
theorem dX7_number_4 : decode cX7_number 4 = .ok (.iadd, 1) := by decide +kernel
theorem dX7_number_5 : decode cX7_number 5 = .ok (.bipush 57, 2) := by decide +kernel
theorem dX7_number_7 : decode cX7_number 7 = .ok (.invokevirtual 158, 3) := by decide +kernel
theorem dX7_number_10 : decode cX7_number 10 = .ok (.bipush 48, 2) := by decide +kernel
theorem dX7_number_12 : decode cX7_number 12 = .ok (.isub, 1) := by decide +kernel
theorem dX7_number_13 : decode cX7_number 13 = .ok (.istore_n 3, 1) := by decide +kernel
theorem dX7_number_14 : decode cX7_number 14 = .ok (.aload_n 0, 1) := by decide +kernel
theorem dX7_number_15 : decode cX7_number 15 = .ok (.getfield 154, 3) := by decide +kernel
theorem dX7_number_18 : decode cX7_number 18 = .ok (.ifCond .ne 78, 3) := by decide +kernel
theorem dX7_number_21 : decode cX7_number 21 = .ok (.iload_n 3, 1) := by decide +kernel
theorem dX7_number_22 : decode cX7_number 22 = .ok (.ifCond .le 74, 3) := by decide +kernel
theorem dX7_number_25 : decode cX7_number 25 = .ok (.aload_n 0, 1) := by decide +kernel
theorem dX7_number_26 : decode cX7_number 26 = .ok (.getfield 151, 3) := by decide +kernel
theorem dX7_number_29 : decode cX7_number 29 = .ok (.aload_n 0, 1) := by decide +kernel
theorem dX7_number_30 : decode cX7_number 30 = .ok (.getfield 148, 3) := by decide +kernel
theorem dX7_number_33 : decode cX7_number 33 = .ok (.if_icmp .ge 63, 3) := by decide +kernel
theorem dX7_number_36 : decode cX7_number 36 = .ok (.aload_n 0, 1) := by decide +kernel
theorem dX7_number_37 : decode cX7_number 37 = .ok (.getfield 25, 3) := by decide +kernel
theorem dX7_number_40 : decode cX7_number 40 = .ok (.aload_n 0, 1) := by decide +kernel
theorem dX7_number_41 : decode cX7_number 41 = .ok (.getfield 151, 3) := by decide +kernel
theorem dX7_number_44 : decode cX7_number 44 = .ok (.iaload, 1) := by decide +kernel
theorem dX7_number_45 : decode cX7_number 45 = .ok (.bipush 48, 2) := by decide +kernel
theorem dX7_number_47 : decode cX7_number 47 = .ok (.bipush 57, 2) := by decide +kernel
theorem dX7_number_49 : decode cX7_number 49 = .ok (.invokestatic 55, 3) := by decide +kernel
theorem dX7_number_52 : decode cX7_number 52 = .ok (.ifCond .eq 44, 3) := by decide +kernel
theorem dX7_number_55 : decode cX7_number 55 = .ok (.bipush 10, 2) := by decide +kernel
theorem dX7_number_57 : decode cX7_number 57 = .ok (.iload_n 3, 1) := by decide +kernel
theorem dX7_number_58 : decode cX7_number 58 = .ok (.imul, 1) := by decide +kernel
theorem dX7_number_59 : decode cX7_number 59 = .ok (.aload_n 0, 1) := by decide +kernel
theorem dX7_number_60 : decode cX7_number 60 = .ok (.getfield 25, 3) := by decide +kernel
theorem dX7_number_63 : decode cX7_number 63 = .ok (.aload_n 0, 1) := by decide +kernel
theorem dX7_number_64 : decode cX7_number 64 = .ok (.getfield 151, 3) := by decide +kernel
theorem dX7_number_67 : decode cX7_number 67 = .ok (.iaload, 1) := by decide +kernel
theorem dX7_number_68 : decode cX7_number 68 = .ok (.iadd, 1) := by decide +kernel
theorem dX7_number_69 : decode cX7_number 69 = .ok (.bipush 48, 2) := by decide +kernel
theorem dX7_number_71 : decode cX7_number 71 = .ok (.isub, 1) := by decide +kernel
theorem dX7_number_72 : decode cX7_number 72 = .ok (.iload_n 2, 1) := by decide +kernel
theorem dX7_number_73 : decode cX7_number 73 = .ok (.if_icmp .gt 23, 3) := by decide +kernel
theorem dX7_number_76 : decode cX7_number 76 = .ok (.bipush 10, 2) := by decide +kernel
theorem dX7_number_78 : decode cX7_number 78 = .ok (.iload_n 3, 1) := by decide +kernel
theorem dX7_number_79 : decode cX7_number 79 = .ok (.imul, 1) := by decide +kernel
theorem dX7_number_80 : decode cX7_number 80 = .ok (.aload_n 0, 1) := by decide +kernel
theorem dX7_number_81 : decode cX7_number 81 = .ok (.bipush 48, 2) := by decide +kernel
theorem dX7_number_83 : decode cX7_number 83 = .ok (.bipush 57, 2) := by decide +kernel
theorem dX7_number_85 : decode cX7_number 85 = .ok (.invokevirtual 158, 3) := by decide +kernel
theorem dX7_number_88 : decode cX7_number 88 = .ok (.iadd, 1) := by decide +kernel
theorem dX7_number_89 : decode cX7_number 89 = .ok (.bipush 48, 2) := by decide +kernel
theorem dX7_number_91 : decode cX7_number 91 = .ok (.isub, 1) := by decide +kernel
theorem dX7_number_92 : decode cX7_number 92 = .ok (.istore_n 3, 1) := by decide +kernel
theorem dX7_number_93 : decode cX7_number 93 = .ok (.goto (-79), 3) := by decide +kernel
theorem dX7_number_96 : decode cX7_number 96 = .ok (.iload_n 3, 1) := by decide +kernel
theorem dX7_number_97 : decode cX7_number 97 = .ok (.ireturn, 1) := by decide +kernel
theorem dX7_order_0 : decode cX7_order 0 = .ok (.aload_n 0, 1) := by decide +kernel
theorem dX7_order_1 : decode cX7_order 1 = .ok (.getfield 151, 3) := by decide +kernel
theorem dX7_order_4 : decode cX7_order 4 = .ok (.aload_n 0, 1) := by decide +kernel
theorem dX7_order_5 : decode cX7_order 5 = .ok (.getfield 148, 3) := by decide +kernel
theorem dX7_order_8 : decode cX7_order 8 = .ok (.if_icmp .ge 15, 3) := by decide +kernel
theorem dX7_order_11 : decode cX7_order 11 = .ok (.aload_n 0, 1) := by decide +kernel
theorem dX7_order_12 : decode cX7_order 12 = .ok (.getfield 25, 3) := by decide +kernel
theorem dX7_order_15 : decode cX7_order 15 = .ok (.aload_n 0, 1) := by decide +kernel
theorem dX7_order_16 : decode cX7_order 16 = .ok (.getfield 151, 3) := by decide +kernel
theorem dX7_order_19 : decode cX7_order 19 = .ok (.iaload, 1) := by decide +kernel
theorem dX7_order_20 : decode cX7_order 20 = .ok (.goto 4, 3) := by decide +kernel
theorem dX7_order_23 : decode cX7_order 23 = .ok (.iconst 0, 1) := by decide +kernel
theorem dX7_order_24 : decode cX7_order 24 = .ok (.istore_n 1, 1) := by decide +kernel
theorem dX7_order_25 : decode cX7_order 25 = .ok (.aload_n 0, 1) := by decide +kernel
theorem dX7_order_26 : decode cX7_order 26 = .ok (.aload_n 0, 1) := by decide +kernel
theorem dX7_order_27 : decode cX7_order 27 = .ok (.getfield 154, 3) := by decide +kernel
theorem dX7_order_30 : decode cX7_order 30 = .ok (.ifCond .ne 27, 3) := by decide +kernel
theorem dX7_order_33 : decode cX7_order 33 = .ok (.iload_n 1, 1) := by decide +kernel
theorem dX7_order_34 : decode cX7_order 34 = .ok (.bipush 108, 2) := by decide +kernel
theorem dX7_order_36 : decode cX7_order 36 = .ok (.if_icmp .eq 25, 3) := by decide +kernel
theorem dX7_order_39 : decode cX7_order 39 = .ok (.iload_n 1, 1) := by decide +kernel
theorem dX7_order_40 : decode cX7_order 40 = .ok (.bipush 98, 2) := by decide +kernel
theorem dX7_order_42 : decode cX7_order 42 = .ok (.if_icmp .eq 19, 3) := by decide +kernel
theorem dX7_order_45 : decode cX7_order 45 = .ok (.iload_n 1, 1) := by decide +kernel
theorem dX7_order_46 : decode cX7_order 46 = .ok (.bipush 119, 2) := by decide +kernel
theorem dX7_order_48 : decode cX7_order 48 = .ok (.if_icmp .eq 13, 3) := by decide +kernel
theorem dX7_order_51 : decode cX7_order 51 = .ok (.iload_n 1, 1) := by decide +kernel
theorem dX7_order_52 : decode cX7_order 52 = .ok (.bipush 103, 2) := by decide +kernel
theorem dX7_order_54 : decode cX7_order 54 = .ok (.if_icmp .eq 7, 3) := by decide +kernel
theorem dX7_order_57 : decode cX7_order 57 = .ok (.iconst 1, 1) := by decide +kernel
theorem dX7_order_58 : decode cX7_order 58 = .ok (.goto 4, 3) := by decide +kernel
theorem dX7_order_61 : decode cX7_order 61 = .ok (.iconst 0, 1) := by decide +kernel
theorem dX7_order_62 : decode cX7_order 62 = .ok (.putfield 154, 3) := by decide +kernel
theorem dX7_order_65 : decode cX7_order 65 = .ok (.aload_n 0, 1) := by decide +kernel
theorem dX7_order_66 : decode cX7_order 66 = .ok (.dup, 1) := by decide +kernel
theorem dX7_order_67 : decode cX7_order 67 = .ok (.getfield 151, 3) := by decide +kernel
theorem dX7_order_70 : decode cX7_order 70 = .ok (.aload_n 0, 1) := by decide +kernel
theorem dX7_order_71 : decode cX7_order 71 = .ok (.getfield 154, 3) := by decide +kernel
theorem dX7_order_74 : decode cX7_order 74 = .ok (.ifCond .eq 7, 3) := by decide +kernel
theorem dX7_order_77 : decode cX7_order 77 = .ok (.iconst 0, 1) := by decide +kernel
theorem dX7_order_78 : decode cX7_order 78 = .ok (.goto 4, 3) := by decide +kernel
theorem dX7_order_81 : decode cX7_order 81 = .ok (.iconst 1, 1) := by decide +kernel
theorem dX7_order_82 : decode cX7_order 82 = .ok (.iadd, 1) := by decide +kernel
theorem dX7_order_83 : decode cX7_order 83 = .ok (.putfield 151, 3) := by decide +kernel
theorem dX7_order_86 : decode cX7_order 86 = .ok (.aload_n 0, 1) := by decide +kernel
theorem dX7_order_87 : decode cX7_order 87 = .ok (.getfield 45, 3) := by decide +kernel
theorem dX7_order_90 : decode cX7_order 90 = .ok (.iconst 0, 1) := by decide +kernel
theorem dX7_order_91 : decode cX7_order 91 = .ok (.iload_n 1, 1) := by decide +kernel
theorem dX7_order_92 : decode cX7_order 92 = .ok (.iastore, 1) := by decide +kernel
theorem dX7_order_93 : decode cX7_order 93 = .ok (.aload_n 0, 1) := by decide +kernel
theorem dX7_order_94 : decode cX7_order 94 = .ok (.getfield 45, 3) := by decide +kernel
theorem dX7_order_97 : decode cX7_order 97 = .ok (.iconst 1, 1) := by decide +kernel
theorem dX7_order_98 : decode cX7_order 98 = .ok (.iload_n 1, 1) := by decide +kernel
theorem dX7_order_99 : decode cX7_order 99 = .ok (.bipush 98, 2) := by decide +kernel
theorem dX7_order_101 : decode cX7_order 101 = .ok (.if_icmp .ne 14, 3) := by decide +kernel
theorem dX7_order_104 : decode cX7_order 104 = .ok (.aload_n 0, 1) := by decide +kernel
theorem dX7_order_105 : decode cX7_order 105 = .ok (.iconst 0, 1) := by decide +kernel
theorem dX7_order_106 : decode cX7_order 106 = .ok (.sipush 999, 3) := by decide +kernel
theorem dX7_order_109 : decode cX7_order 109 = .ok (.invokevirtual 161, 3) := by decide +kernel
theorem dX7_order_112 : decode cX7_order 112 = .ok (.goto 7, 3) := by decide +kernel
theorem dX7_order_115 : decode cX7_order 115 = .ok (.aload_n 0, 1) := by decide +kernel
theorem dX7_order_116 : decode cX7_order 116 = .ok (.invokevirtual 164, 3) := by decide +kernel
theorem dX7_order_119 : decode cX7_order 119 = .ok (.iastore, 1) := by decide +kernel
theorem dX7_order_120 : decode cX7_order 120 = .ok (.iload_n 1, 1) := by decide +kernel
theorem dX7_order_121 : decode cX7_order 121 = .ok (.bipush 108, 2) := by decide +kernel
theorem dX7_order_123 : decode cX7_order 123 = .ok (.if_icmp .ne 14, 3) := by decide +kernel
theorem dX7_order_126 : decode cX7_order 126 = .ok (.aload_n 0, 1) := by decide +kernel
theorem dX7_order_127 : decode cX7_order 127 = .ok (.bipush 62, 2) := by decide +kernel
theorem dX7_order_129 : decode cX7_order 129 = .ok (.bipush 62, 2) := by decide +kernel
theorem dX7_order_131 : decode cX7_order 131 = .ok (.invokevirtual 158, 3) := by decide +kernel
theorem dX7_order_134 : decode cX7_order 134 = .ok (.goto 4, 3) := by decide +kernel
theorem dX7_order_137 : decode cX7_order 137 = .ok (.iconst 0, 1) := by decide +kernel
theorem dX7_order_138 : decode cX7_order 138 = .ok (.istore_n 2, 1) := by decide +kernel
theorem dX7_order_139 : decode cX7_order 139 = .ok (.aload_n 0, 1) := by decide +kernel
theorem dX7_order_140 : decode cX7_order 140 = .ok (.getfield 45, 3) := by decide +kernel
theorem dX7_order_143 : decode cX7_order 143 = .ok (.iconst 2, 1) := by decide +kernel
theorem dX7_order_144 : decode cX7_order 144 = .ok (.iload_n 1, 1) := by decide +kernel
theorem dX7_order_145 : decode cX7_order 145 = .ok (.bipush 108, 2) := by decide +kernel
theorem dX7_order_147 : decode cX7_order 147 = .ok (.if_icmp .ne 10, 3) := by decide +kernel
theorem dX7_order_150 : decode cX7_order 150 = .ok (.aload_n 0, 1) := by decide +kernel
theorem dX7_order_151 : decode cX7_order 151 = .ok (.invokevirtual 164, 3) := by decide +kernel
theorem dX7_order_154 : decode cX7_order 154 = .ok (.goto 4, 3) := by decide +kernel
theorem dX7_order_157 : decode cX7_order 157 = .ok (.iconst 0, 1) := by decide +kernel
theorem dX7_order_158 : decode cX7_order 158 = .ok (.iastore, 1) := by decide +kernel
theorem dX7_order_159 : decode cX7_order 159 = .ok (.iload_n 1, 1) := by decide +kernel
theorem dX7_order_160 : decode cX7_order 160 = .ok (.bipush 98, 2) := by decide +kernel
theorem dX7_order_162 : decode cX7_order 162 = .ok (.if_icmp .ne 7, 3) := by decide +kernel
theorem dX7_order_165 : decode cX7_order 165 = .ok (.iconst 0, 1) := by decide +kernel
theorem dX7_order_166 : decode cX7_order 166 = .ok (.goto 11, 3) := by decide +kernel
theorem dX7_order_169 : decode cX7_order 169 = .ok (.aload_n 0, 1) := by decide +kernel
theorem dX7_order_170 : decode cX7_order 170 = .ok (.bipush 58, 2) := by decide +kernel
theorem dX7_order_172 : decode cX7_order 172 = .ok (.bipush 58, 2) := by decide +kernel
theorem dX7_order_174 : decode cX7_order 174 = .ok (.invokevirtual 158, 3) := by decide +kernel
theorem dX7_order_177 : decode cX7_order 177 = .ok (.istore_n 2, 1) := by decide +kernel
theorem dX7_order_178 : decode cX7_order 178 = .ok (.aload_n 0, 1) := by decide +kernel
theorem dX7_order_179 : decode cX7_order 179 = .ok (.getfield 45, 3) := by decide +kernel
theorem dX7_order_182 : decode cX7_order 182 = .ok (.iconst 3, 1) := by decide +kernel
theorem dX7_order_183 : decode cX7_order 183 = .ok (.iload_n 1, 1) := by decide +kernel
theorem dX7_order_184 : decode cX7_order 184 = .ok (.bipush 98, 2) := by decide +kernel
theorem dX7_order_186 : decode cX7_order 186 = .ok (.if_icmp .ne 7, 3) := by decide +kernel
theorem dX7_order_189 : decode cX7_order 189 = .ok (.iconst 0, 1) := by decide +kernel
theorem dX7_order_190 : decode cX7_order 190 = .ok (.goto 7, 3) := by decide +kernel
theorem dX7_order_193 : decode cX7_order 193 = .ok (.aload_n 0, 1) := by decide +kernel
theorem dX7_order_194 : decode cX7_order 194 = .ok (.invokevirtual 164, 3) := by decide +kernel
theorem dX7_order_197 : decode cX7_order 197 = .ok (.iastore, 1) := by decide +kernel
theorem dX7_order_198 : decode cX7_order 198 = .ok (.iload_n 1, 1) := by decide +kernel
theorem dX7_order_199 : decode cX7_order 199 = .ok (.bipush 108, 2) := by decide +kernel
theorem dX7_order_201 : decode cX7_order 201 = .ok (.if_icmp .ne 14, 3) := by decide +kernel
theorem dX7_order_204 : decode cX7_order 204 = .ok (.aload_n 0, 1) := by decide +kernel
theorem dX7_order_205 : decode cX7_order 205 = .ok (.bipush 47, 2) := by decide +kernel
theorem dX7_order_207 : decode cX7_order 207 = .ok (.bipush 47, 2) := by decide +kernel
theorem dX7_order_209 : decode cX7_order 209 = .ok (.invokevirtual 158, 3) := by decide +kernel
theorem dX7_order_212 : decode cX7_order 212 = .ok (.goto 21, 3) := by decide +kernel
theorem dX7_order_215 : decode cX7_order 215 = .ok (.iload_n 1, 1) := by decide +kernel
theorem dX7_order_216 : decode cX7_order 216 = .ok (.bipush 119, 2) := by decide +kernel
theorem dX7_order_218 : decode cX7_order 218 = .ok (.if_icmp .ne 14, 3) := by decide +kernel
theorem dX7_order_221 : decode cX7_order 221 = .ok (.aload_n 0, 1) := by decide +kernel
theorem dX7_order_222 : decode cX7_order 222 = .ok (.bipush 61, 2) := by decide +kernel
theorem dX7_order_224 : decode cX7_order 224 = .ok (.bipush 61, 2) := by decide +kernel
theorem dX7_order_226 : decode cX7_order 226 = .ok (.invokevirtual 158, 3) := by decide +kernel
theorem dX7_order_229 : decode cX7_order 229 = .ok (.goto 4, 3) := by decide +kernel
theorem dX7_order_232 : decode cX7_order 232 = .ok (.iconst 0, 1) := by decide +kernel
theorem dX7_order_233 : decode cX7_order 233 = .ok (.istore_n 2, 1) := by decide +kernel
theorem dX7_order_234 : decode cX7_order 234 = .ok (.aload_n 0, 1) := by decide +kernel
theorem dX7_order_235 : decode cX7_order 235 = .ok (.getfield 45, 3) := by decide +kernel
theorem dX7_order_238 : decode cX7_order 238 = .ok (.iconst 4, 1) := by decide +kernel
theorem dX7_order_239 : decode cX7_order 239 = .ok (.iload_n 1, 1) := by decide +kernel
theorem dX7_order_240 : decode cX7_order 240 = .ok (.bipush 108, 2) := by decide +kernel
theorem dX7_order_242 : decode cX7_order 242 = .ok (.if_icmp .ne 13, 3) := by decide +kernel
theorem dX7_order_245 : decode cX7_order 245 = .ok (.aload_n 0, 1) := by decide +kernel
theorem dX7_order_246 : decode cX7_order 246 = .ok (.iconst 1, 1) := by decide +kernel
theorem dX7_order_247 : decode cX7_order 247 = .ok (.bipush 64, 2) := by decide +kernel
theorem dX7_order_249 : decode cX7_order 249 = .ok (.invokevirtual 161, 3) := by decide +kernel
theorem dX7_order_252 : decode cX7_order 252 = .ok (.goto 21, 3) := by decide +kernel
theorem dX7_order_255 : decode cX7_order 255 = .ok (.iload_n 1, 1) := by decide +kernel
theorem dX7_order_256 : decode cX7_order 256 = .ok (.bipush 119, 2) := by decide +kernel
theorem dX7_order_258 : decode cX7_order 258 = .ok (.if_icmp .ne 14, 3) := by decide +kernel
theorem dX7_order_261 : decode cX7_order 261 = .ok (.aload_n 0, 1) := by decide +kernel
theorem dX7_order_262 : decode cX7_order 262 = .ok (.iconst 0, 1) := by decide +kernel
theorem dX7_order_263 : decode cX7_order 263 = .ok (.sipush 999, 3) := by decide +kernel
theorem dX7_order_266 : decode cX7_order 266 = .ok (.invokevirtual 161, 3) := by decide +kernel
theorem dX7_order_269 : decode cX7_order 269 = .ok (.goto 4, 3) := by decide +kernel
theorem dX7_order_272 : decode cX7_order 272 = .ok (.iconst 0, 1) := by decide +kernel
theorem dX7_order_273 : decode cX7_order 273 = .ok (.iastore, 1) := by decide +kernel
theorem dX7_order_274 : decode cX7_order 274 = .ok (.return_, 1) := by decide +kernel
theorem dX7_does_0 : decode cX7_does 0 = .ok (.aload_n 0, 1) := by decide +kernel
theorem dX7_does_1 : decode cX7_does 1 = .ok (.getfield 45, 3) := by decide +kernel
theorem dX7_does_4 : decode cX7_does 4 = .ok (.iconst 0, 1) := by decide +kernel
theorem dX7_does_5 : decode cX7_does 5 = .ok (.iaload, 1) := by decide +kernel
theorem dX7_does_6 : decode cX7_does 6 = .ok (.istore_n 1, 1) := by decide +kernel
theorem dX7_does_7 : decode cX7_does 7 = .ok (.aload_n 0, 1) := by decide +kernel
theorem dX7_does_8 : decode cX7_does 8 = .ok (.getfield 45, 3) := by decide +kernel
theorem dX7_does_11 : decode cX7_does 11 = .ok (.iconst 1, 1) := by decide +kernel
theorem dX7_does_12 : decode cX7_does 12 = .ok (.iaload, 1) := by decide +kernel
theorem dX7_does_13 : decode cX7_does 13 = .ok (.istore_n 2, 1) := by decide +kernel
theorem dX7_does_14 : decode cX7_does 14 = .ok (.aload_n 0, 1) := by decide +kernel
theorem dX7_does_15 : decode cX7_does 15 = .ok (.getfield 45, 3) := by decide +kernel
theorem dX7_does_18 : decode cX7_does 18 = .ok (.iconst 3, 1) := by decide +kernel
theorem dX7_does_19 : decode cX7_does 19 = .ok (.iaload, 1) := by decide +kernel
theorem dX7_does_20 : decode cX7_does 20 = .ok (.istore_n 3, 1) := by decide +kernel
theorem dX7_does_21 : decode cX7_does 21 = .ok (.iload_n 1, 1) := by decide +kernel
theorem dX7_does_22 : decode cX7_does 22 = .ok (.bipush 108, 2) := by decide +kernel
theorem dX7_does_24 : decode cX7_does 24 = .ok (.if_icmp .ne 24, 3) := by decide +kernel
theorem dX7_does_27 : decode cX7_does 27 = .ok (.aload_n 0, 1) := by decide +kernel
theorem dX7_does_28 : decode cX7_does 28 = .ok (.iload_n 2, 1) := by decide +kernel
theorem dX7_does_29 : decode cX7_does 29 = .ok (.aload_n 0, 1) := by decide +kernel
theorem dX7_does_30 : decode cX7_does 30 = .ok (.getfield 45, 3) := by decide +kernel
theorem dX7_does_33 : decode cX7_does 33 = .ok (.iconst 2, 1) := by decide +kernel
theorem dX7_does_34 : decode cX7_does 34 = .ok (.iaload, 1) := by decide +kernel
theorem dX7_does_35 : decode cX7_does 35 = .ok (.iload_n 3, 1) := by decide +kernel
theorem dX7_does_36 : decode cX7_does 36 = .ok (.aload_n 0, 1) := by decide +kernel
theorem dX7_does_37 : decode cX7_does 37 = .ok (.getfield 45, 3) := by decide +kernel
theorem dX7_does_40 : decode cX7_does 40 = .ok (.iconst 4, 1) := by decide +kernel
theorem dX7_does_41 : decode cX7_does 41 = .ok (.iaload, 1) := by decide +kernel
theorem dX7_does_42 : decode cX7_does 42 = .ok (.invokevirtual 110, 3) := by decide +kernel
theorem dX7_does_45 : decode cX7_does 45 = .ok (.goto 39, 3) := by decide +kernel
theorem dX7_does_48 : decode cX7_does 48 = .ok (.iload_n 1, 1) := by decide +kernel
theorem dX7_does_49 : decode cX7_does 49 = .ok (.bipush 98, 2) := by decide +kernel
theorem dX7_does_51 : decode cX7_does 51 = .ok (.if_icmp .ne 11, 3) := by decide +kernel
theorem dX7_does_54 : decode cX7_does 54 = .ok (.aload_n 0, 1) := by decide +kernel
theorem dX7_does_55 : decode cX7_does 55 = .ok (.iload_n 2, 1) := by decide +kernel
theorem dX7_does_56 : decode cX7_does 56 = .ok (.invokevirtual 120, 3) := by decide +kernel
theorem dX7_does_59 : decode cX7_does 59 = .ok (.goto 25, 3) := by decide +kernel
theorem dX7_does_62 : decode cX7_does 62 = .ok (.iload_n 1, 1) := by decide +kernel
theorem dX7_does_63 : decode cX7_does 63 = .ok (.bipush 119, 2) := by decide +kernel
theorem dX7_does_65 : decode cX7_does 65 = .ok (.if_icmp .ne 18, 3) := by decide +kernel
theorem dX7_does_68 : decode cX7_does 68 = .ok (.aload_n 0, 1) := by decide +kernel
theorem dX7_does_69 : decode cX7_does 69 = .ok (.iload_n 2, 1) := by decide +kernel
theorem dX7_does_70 : decode cX7_does 70 = .ok (.iload_n 3, 1) := by decide +kernel
theorem dX7_does_71 : decode cX7_does 71 = .ok (.aload_n 0, 1) := by decide +kernel
theorem dX7_does_72 : decode cX7_does 72 = .ok (.getfield 45, 3) := by decide +kernel
theorem dX7_does_75 : decode cX7_does 75 = .ok (.iconst 4, 1) := by decide +kernel
theorem dX7_does_76 : decode cX7_does 76 = .ok (.iaload, 1) := by decide +kernel
theorem dX7_does_77 : decode cX7_does 77 = .ok (.invokevirtual 129, 3) := by decide +kernel
theorem dX7_does_80 : decode cX7_does 80 = .ok (.goto 4, 3) := by decide +kernel
theorem dX7_does_83 : decode cX7_does 83 = .ok (.iconst 0, 1) := by decide +kernel
theorem dX7_does_84 : decode cX7_does 84 = .ok (.istore 4, 2) := by decide +kernel
theorem dX7_does_86 : decode cX7_does 86 = .ok (.iload 4, 2) := by decide +kernel
theorem dX7_does_88 : decode cX7_does 88 = .ok (.ifCond .ge 6, 3) := by decide +kernel
theorem dX7_does_91 : decode cX7_does 91 = .ok (.iload 4, 2) := by decide +kernel
theorem dX7_does_93 : decode cX7_does 93 = .ok (.ireturn, 1) := by decide +kernel
theorem dX7_does_94 : decode cX7_does 94 = .ok (.iload_n 1, 1) := by decide +kernel
theorem dX7_does_95 : decode cX7_does 95 = .ok (.bipush 108, 2) := by decide +kernel
theorem dX7_does_97 : decode cX7_does 97 = .ok (.if_icmp .ne 24, 3) := by decide +kernel
theorem dX7_does_100 : decode cX7_does 100 = .ok (.aload_n 0, 1) := by decide +kernel
theorem dX7_does_101 : decode cX7_does 101 = .ok (.iload_n 2, 1) := by decide +kernel
theorem dX7_does_102 : decode cX7_does 102 = .ok (.aload_n 0, 1) := by decide +kernel
theorem dX7_does_103 : decode cX7_does 103 = .ok (.getfield 45, 3) := by decide +kernel
theorem dX7_does_106 : decode cX7_does 106 = .ok (.iconst 2, 1) := by decide +kernel
theorem dX7_does_107 : decode cX7_does 107 = .ok (.iaload, 1) := by decide +kernel
theorem dX7_does_108 : decode cX7_does 108 = .ok (.iload_n 3, 1) := by decide +kernel
theorem dX7_does_109 : decode cX7_does 109 = .ok (.aload_n 0, 1) := by decide +kernel
theorem dX7_does_110 : decode cX7_does 110 = .ok (.getfield 45, 3) := by decide +kernel
theorem dX7_does_113 : decode cX7_does 113 = .ok (.iconst 4, 1) := by decide +kernel
theorem dX7_does_114 : decode cX7_does 114 = .ok (.iaload, 1) := by decide +kernel
theorem dX7_does_115 : decode cX7_does 115 = .ok (.invokevirtual 117, 3) := by decide +kernel
theorem dX7_does_118 : decode cX7_does 118 = .ok (.goto 47, 3) := by decide +kernel
theorem dX7_does_121 : decode cX7_does 121 = .ok (.iload_n 1, 1) := by decide +kernel
theorem dX7_does_122 : decode cX7_does 122 = .ok (.bipush 98, 2) := by decide +kernel
theorem dX7_does_124 : decode cX7_does 124 = .ok (.if_icmp .ne 15, 3) := by decide +kernel
theorem dX7_does_127 : decode cX7_does 127 = .ok (.aload_n 0, 1) := by decide +kernel
theorem dX7_does_128 : decode cX7_does 128 = .ok (.aload_n 0, 1) := by decide +kernel
theorem dX7_does_129 : decode cX7_does 129 = .ok (.iload_n 2, 1) := by decide +kernel
theorem dX7_does_130 : decode cX7_does 130 = .ok (.invokevirtual 82, 3) := by decide +kernel
theorem dX7_does_133 : decode cX7_does 133 = .ok (.invokevirtual 96, 3) := by decide +kernel
theorem dX7_does_136 : decode cX7_does 136 = .ok (.goto 29, 3) := by decide +kernel
theorem dX7_does_139 : decode cX7_does 139 = .ok (.iload_n 1, 1) := by decide +kernel
theorem dX7_does_140 : decode cX7_does 140 = .ok (.bipush 119, 2) := by decide +kernel
theorem dX7_does_142 : decode cX7_does 142 = .ok (.if_icmp .ne 17, 3) := by decide +kernel
theorem dX7_does_145 : decode cX7_does 145 = .ok (.aload_n 0, 1) := by decide +kernel
theorem dX7_does_146 : decode cX7_does 146 = .ok (.iload_n 3, 1) := by decide +kernel
theorem dX7_does_147 : decode cX7_does 147 = .ok (.aload_n 0, 1) := by decide +kernel
theorem dX7_does_148 : decode cX7_does 148 = .ok (.getfield 45, 3) := by decide +kernel
theorem dX7_does_151 : decode cX7_does 151 = .ok (.iconst 4, 1) := by decide +kernel
theorem dX7_does_152 : decode cX7_does 152 = .ok (.iaload, 1) := by decide +kernel
theorem dX7_does_153 : decode cX7_does 153 = .ok (.invokevirtual 132, 3) := by decide +kernel
theorem dX7_does_156 : decode cX7_does 156 = .ok (.goto 9, 3) := by decide +kernel
theorem dX7_does_159 : decode cX7_does 159 = .ok (.aload_n 0, 1) := by decide +kernel
theorem dX7_does_160 : decode cX7_does 160 = .ok (.iload_n 2, 1) := by decide +kernel
theorem dX7_does_161 : decode cX7_does 161 = .ok (.iload_n 3, 1) := by decide +kernel
theorem dX7_does_162 : decode cX7_does 162 = .ok (.invokevirtual 99, 3) := by decide +kernel
theorem dX7_does_165 : decode cX7_does 165 = .ok (.istore 5, 2) := by decide +kernel
theorem dX7_does_167 : decode cX7_does 167 = .ok (.iconst 0, 1) := by decide +kernel
theorem dX7_does_168 : decode cX7_does 168 = .ok (.ireturn, 1) := by decide +kernel
theorem dX7_go_0 : decode cX7_go 0 = .ok (.aload_n 0, 1) := by decide +kernel
theorem dX7_go_1 : decode cX7_go 1 = .ok (.iconst 0, 1) := by decide +kernel
theorem dX7_go_2 : decode cX7_go 2 = .ok (.putfield 151, 3) := by decide +kernel
theorem dX7_go_5 : decode cX7_go 5 = .ok (.aload_n 0, 1) := by decide +kernel
theorem dX7_go_6 : decode cX7_go 6 = .ok (.iconst 0, 1) := by decide +kernel
theorem dX7_go_7 : decode cX7_go 7 = .ok (.putfield 154, 3) := by decide +kernel
theorem dX7_go_10 : decode cX7_go 10 = .ok (.aload_n 0, 1) := by decide +kernel
theorem dX7_go_11 : decode cX7_go 11 = .ok (.iconst 0, 1) := by decide +kernel
theorem dX7_go_12 : decode cX7_go 12 = .ok (.putfield 168, 3) := by decide +kernel
theorem dX7_go_15 : decode cX7_go 15 = .ok (.iconst 0, 1) := by decide +kernel
theorem dX7_go_16 : decode cX7_go 16 = .ok (.istore_n 2, 1) := by decide +kernel
theorem dX7_go_17 : decode cX7_go 17 = .ok (.iconst 1, 1) := by decide +kernel
theorem dX7_go_18 : decode cX7_go 18 = .ok (.istore_n 3, 1) := by decide +kernel
theorem dX7_go_19 : decode cX7_go 19 = .ok (.iload_n 3, 1) := by decide +kernel
theorem dX7_go_20 : decode cX7_go 20 = .ok (.ifCond .eq 99, 3) := by decide +kernel
theorem dX7_go_23 : decode cX7_go 23 = .ok (.aload_n 0, 1) := by decide +kernel
theorem dX7_go_24 : decode cX7_go 24 = .ok (.invokevirtual 171, 3) := by decide +kernel
theorem dX7_go_27 : decode cX7_go 27 = .ok (.aload_n 0, 1) := by decide +kernel
theorem dX7_go_28 : decode cX7_go 28 = .ok (.iload_n 1, 1) := by decide +kernel
theorem dX7_go_29 : decode cX7_go 29 = .ok (.ifCond .eq 10, 3) := by decide +kernel
theorem dX7_go_32 : decode cX7_go 32 = .ok (.aload_n 0, 1) := by decide +kernel
theorem dX7_go_33 : decode cX7_go 33 = .ok (.invokevirtual 174, 3) := by decide +kernel
theorem dX7_go_36 : decode cX7_go 36 = .ok (.goto 4, 3) := by decide +kernel
theorem dX7_go_39 : decode cX7_go 39 = .ok (.iconst 0, 1) := by decide +kernel
theorem dX7_go_40 : decode cX7_go 40 = .ok (.putfield 168, 3) := by decide +kernel
theorem dX7_go_43 : decode cX7_go 43 = .ok (.iload_n 2, 1) := by decide +kernel
theorem dX7_go_44 : decode cX7_go 44 = .ok (.aload_n 0, 1) := by decide +kernel
theorem dX7_go_45 : decode cX7_go 45 = .ok (.getfield 168, 3) := by decide +kernel
theorem dX7_go_48 : decode cX7_go 48 = .ok (.ifCond .ne 7, 3) := by decide +kernel
theorem dX7_go_51 : decode cX7_go 51 = .ok (.iconst 1, 1) := by decide +kernel
theorem dX7_go_52 : decode cX7_go 52 = .ok (.goto 4, 3) := by decide +kernel
theorem dX7_go_55 : decode cX7_go 55 = .ok (.iconst 0, 1) := by decide +kernel
theorem dX7_go_56 : decode cX7_go 56 = .ok (.iadd, 1) := by decide +kernel
theorem dX7_go_57 : decode cX7_go 57 = .ok (.istore_n 2, 1) := by decide +kernel
theorem dX7_go_58 : decode cX7_go 58 = .ok (.aload_n 0, 1) := by decide +kernel
theorem dX7_go_59 : decode cX7_go 59 = .ok (.getfield 154, 3) := by decide +kernel
theorem dX7_go_62 : decode cX7_go 62 = .ok (.ifCond .ne 25, 3) := by decide +kernel
theorem dX7_go_65 : decode cX7_go 65 = .ok (.aload_n 0, 1) := by decide +kernel
theorem dX7_go_66 : decode cX7_go 66 = .ok (.getfield 168, 3) := by decide +kernel
theorem dX7_go_69 : decode cX7_go 69 = .ok (.ifCond .ne 18, 3) := by decide +kernel
theorem dX7_go_72 : decode cX7_go 72 = .ok (.aload_n 0, 1) := by decide +kernel
theorem dX7_go_73 : decode cX7_go 73 = .ok (.getfield 151, 3) := by decide +kernel
theorem dX7_go_76 : decode cX7_go 76 = .ok (.aload_n 0, 1) := by decide +kernel
theorem dX7_go_77 : decode cX7_go 77 = .ok (.getfield 148, 3) := by decide +kernel
theorem dX7_go_80 : decode cX7_go 80 = .ok (.if_icmp .ge 7, 3) := by decide +kernel
theorem dX7_go_83 : decode cX7_go 83 = .ok (.iconst 1, 1) := by decide +kernel
theorem dX7_go_84 : decode cX7_go 84 = .ok (.goto 4, 3) := by decide +kernel
theorem dX7_go_87 : decode cX7_go 87 = .ok (.iconst 0, 1) := by decide +kernel
theorem dX7_go_88 : decode cX7_go 88 = .ok (.istore_n 3, 1) := by decide +kernel
theorem dX7_go_89 : decode cX7_go 89 = .ok (.iload_n 3, 1) := by decide +kernel
theorem dX7_go_90 : decode cX7_go 90 = .ok (.ifCond .eq (-71), 3) := by decide +kernel
theorem dX7_go_93 : decode cX7_go 93 = .ok (.aload_n 0, 1) := by decide +kernel
theorem dX7_go_94 : decode cX7_go 94 = .ok (.bipush 44, 2) := by decide +kernel
theorem dX7_go_96 : decode cX7_go 96 = .ok (.bipush 44, 2) := by decide +kernel
theorem dX7_go_98 : decode cX7_go 98 = .ok (.invokevirtual 158, 3) := by decide +kernel
theorem dX7_go_101 : decode cX7_go 101 = .ok (.istore 4, 2) := by decide +kernel
theorem dX7_go_103 : decode cX7_go 103 = .ok (.aload_n 0, 1) := by decide +kernel
theorem dX7_go_104 : decode cX7_go 104 = .ok (.getfield 154, 3) := by decide +kernel
theorem dX7_go_107 : decode cX7_go 107 = .ok (.ifCond .ne 7, 3) := by decide +kernel
theorem dX7_go_110 : decode cX7_go 110 = .ok (.iconst 1, 1) := by decide +kernel
theorem dX7_go_111 : decode cX7_go 111 = .ok (.goto 4, 3) := by decide +kernel
theorem dX7_go_114 : decode cX7_go 114 = .ok (.iconst 0, 1) := by decide +kernel
theorem dX7_go_115 : decode cX7_go 115 = .ok (.istore_n 3, 1) := by decide +kernel
theorem dX7_go_116 : decode cX7_go 116 = .ok (.goto (-97), 3) := by decide +kernel
theorem dX7_go_119 : decode cX7_go 119 = .ok (.iload_n 2, 1) := by decide +kernel
theorem dX7_go_120 : decode cX7_go 120 = .ok (.ireturn, 1) := by decide +kernel
theorem dX7_perform_0 : decode cX7_perform 0 = .ok (.aload_n 0, 1) := by decide +kernel
theorem dX7_perform_1 : decode cX7_perform 1 = .ok (.iconst 0, 1) := by decide +kernel
theorem dX7_perform_2 : decode cX7_perform 2 = .ok (.invokevirtual 177, 3) := by decide +kernel
theorem dX7_perform_5 : decode cX7_perform 5 = .ok (.istore_n 1, 1) := by decide +kernel
theorem dX7_perform_6 : decode cX7_perform 6 = .ok (.aload_n 0, 1) := by decide +kernel
theorem dX7_perform_7 : decode cX7_perform 7 = .ok (.getfield 154, 3) := by decide +kernel
theorem dX7_perform_10 : decode cX7_perform 10 = .ok (.ifCond .eq 11, 3) := by decide +kernel
theorem dX7_perform_13 : decode cX7_perform 13 = .ok (.bipush (-100), 2) := by decide +kernel
theorem dX7_perform_15 : decode cX7_perform 15 = .ok (.aload_n 0, 1) := by decide +kernel
theorem dX7_perform_16 : decode cX7_perform 16 = .ok (.getfield 151, 3) := by decide +kernel
theorem dX7_perform_19 : decode cX7_perform 19 = .ok (.isub, 1) := by decide +kernel
theorem dX7_perform_20 : decode cX7_perform 20 = .ok (.ireturn, 1) := by decide +kernel
theorem dX7_perform_21 : decode cX7_perform 21 = .ok (.aload_n 0, 1) := by decide +kernel
theorem dX7_perform_22 : decode cX7_perform 22 = .ok (.invokevirtual 123, 3) := by decide +kernel
theorem dX7_perform_25 : decode cX7_perform 25 = .ok (.aload_n 0, 1) := by decide +kernel
theorem dX7_perform_26 : decode cX7_perform 26 = .ok (.iconst 1, 1) := by decide +kernel
theorem dX7_perform_27 : decode cX7_perform 27 = .ok (.invokevirtual 177, 3) := by decide +kernel
theorem dX7_perform_30 : decode cX7_perform 30 = .ok (.istore_n 1, 1) := by decide +kernel
theorem dX7_perform_31 : decode cX7_perform 31 = .ok (.aload_n 0, 1) := by decide +kernel
theorem dX7_perform_32 : decode cX7_perform 32 = .ok (.invokevirtual 126, 3) := by decide +kernel
theorem dX7_perform_35 : decode cX7_perform 35 = .ok (.aload_n 0, 1) := by decide +kernel
theorem dX7_perform_36 : decode cX7_perform 36 = .ok (.getfield 168, 3) := by decide +kernel
theorem dX7_perform_39 : decode cX7_perform 39 = .ok (.ifCond .ge 19, 3) := by decide +kernel
theorem dX7_perform_42 : decode cX7_perform 42 = .ok (.aload_n 0, 1) := by decide +kernel
theorem dX7_perform_43 : decode cX7_perform 43 = .ok (.iload_n 1, 1) := by decide +kernel
theorem dX7_perform_44 : decode cX7_perform 44 = .ok (.putfield 28, 3) := by decide +kernel
theorem dX7_perform_47 : decode cX7_perform 47 = .ok (.aload_n 0, 1) := by decide +kernel
theorem dX7_perform_48 : decode cX7_perform 48 = .ok (.aload_n 0, 1) := by decide +kernel
theorem dX7_perform_49 : decode cX7_perform 49 = .ok (.getfield 168, 3) := by decide +kernel
theorem dX7_perform_52 : decode cX7_perform 52 = .ok (.putfield 32, 3) := by decide +kernel
theorem dX7_perform_55 : decode cX7_perform 55 = .ok (.bipush (-4), 2) := by decide +kernel
theorem dX7_perform_57 : decode cX7_perform 57 = .ok (.ireturn, 1) := by decide +kernel
theorem dX7_perform_58 : decode cX7_perform 58 = .ok (.aload_n 0, 1) := by decide +kernel
theorem dX7_perform_59 : decode cX7_perform 59 = .ok (.invokevirtual 114, 3) := by decide +kernel
theorem dX7_perform_62 : decode cX7_perform 62 = .ok (.aload_n 0, 1) := by decide +kernel
theorem dX7_perform_63 : decode cX7_perform 63 = .ok (.iconst 1, 1) := by decide +kernel
theorem dX7_perform_64 : decode cX7_perform 64 = .ok (.invokevirtual 177, 3) := by decide +kernel
theorem dX7_perform_67 : decode cX7_perform 67 = .ok (.ireturn, 1) := by decide +kernel
theorem dX7_stop_0 : decode cX7_stop 0 = .ok (.iload_n 1, 1) := by decide +kernel
theorem dX7_stop_1 : decode cX7_stop 1 = .ok (.iconst 0, 1) := by decide +kernel
theorem dX7_stop_2 : decode cX7_stop 2 = .ok (.iconst 1, 1) := by decide +kernel
theorem dX7_stop_3 : decode cX7_stop 3 = .ok (.invokestatic 55, 3) := by decide +kernel
theorem dX7_stop_6 : decode cX7_stop 6 = .ok (.ifCond .ne 8, 3) := by decide +kernel
theorem dX7_stop_9 : decode cX7_stop 9 = .ok (.bipush (-2), 2) := by decide +kernel
theorem dX7_stop_11 : decode cX7_stop 11 = .ok (.goto 18, 3) := by decide +kernel
theorem dX7_stop_14 : decode cX7_stop 14 = .ok (.iload_n 1, 1) := by decide +kernel
theorem dX7_stop_15 : decode cX7_stop 15 = .ok (.ifCond .ne 10, 3) := by decide +kernel
theorem dX7_stop_18 : decode cX7_stop 18 = .ok (.aload_n 0, 1) := by decide +kernel
theorem dX7_stop_19 : decode cX7_stop 19 = .ok (.getfield 28, 3) := by decide +kernel
theorem dX7_stop_22 : decode cX7_stop 22 = .ok (.goto 7, 3) := by decide +kernel
theorem dX7_stop_25 : decode cX7_stop 25 = .ok (.aload_n 0, 1) := by decide +kernel
theorem dX7_stop_26 : decode cX7_stop 26 = .ok (.getfield 32, 3) := by decide +kernel
theorem dX7_stop_29 : decode cX7_stop 29 = .ok (.ireturn, 1) := by decide +kernel
theorem dX7_undo_0 : decode cX7_undo 0 = .ok (.aload_n 0, 1) := by decide +kernel
theorem dX7_undo_1 : decode cX7_undo 1 = .ok (.getfield 66, 3) := by decide +kernel
theorem dX7_undo_4 : decode cX7_undo 4 = .ok (.ifCond .ne 6, 3) := by decide +kernel
theorem dX7_undo_7 : decode cX7_undo 7 = .ok (.bipush (-5), 2) := by decide +kernel
theorem dX7_undo_9 : decode cX7_undo 9 = .ok (.ireturn, 1) := by decide +kernel
theorem dX7_undo_10 : decode cX7_undo 10 = .ok (.aload_n 0, 1) := by decide +kernel
theorem dX7_undo_11 : decode cX7_undo 11 = .ok (.dup, 1) := by decide +kernel
theorem dX7_undo_12 : decode cX7_undo 12 = .ok (.getfield 66, 3) := by decide +kernel
theorem dX7_undo_15 : decode cX7_undo 15 = .ok (.iconst 1, 1) := by decide +kernel
theorem dX7_undo_16 : decode cX7_undo 16 = .ok (.isub, 1) := by decide +kernel
theorem dX7_undo_17 : decode cX7_undo 17 = .ok (.putfield 66, 3) := by decide +kernel
theorem dX7_undo_20 : decode cX7_undo 20 = .ok (.iconst 0, 1) := by decide +kernel
theorem dX7_undo_21 : decode cX7_undo 21 = .ok (.istore_n 1, 1) := by decide +kernel
theorem dX7_undo_22 : decode cX7_undo 22 = .ok (.iload_n 1, 1) := by decide +kernel
theorem dX7_undo_23 : decode cX7_undo 23 = .ok (.sipush 336, 3) := by decide +kernel
theorem dX7_undo_26 : decode cX7_undo 26 = .ok (.if_icmp .ge 30, 3) := by decide +kernel
theorem dX7_undo_29 : decode cX7_undo 29 = .ok (.aload_n 0, 1) := by decide +kernel
theorem dX7_undo_30 : decode cX7_undo 30 = .ok (.getfield 7, 3) := by decide +kernel
theorem dX7_undo_33 : decode cX7_undo 33 = .ok (.iload_n 1, 1) := by decide +kernel
theorem dX7_undo_34 : decode cX7_undo 34 = .ok (.aload_n 0, 1) := by decide +kernel
theorem dX7_undo_35 : decode cX7_undo 35 = .ok (.getfield 19, 3) := by decide +kernel
theorem dX7_undo_38 : decode cX7_undo 38 = .ok (.sipush 336, 3) := by decide +kernel
theorem dX7_undo_41 : decode cX7_undo 41 = .ok (.aload_n 0, 1) := by decide +kernel
theorem dX7_undo_42 : decode cX7_undo 42 = .ok (.getfield 66, 3) := by decide +kernel
theorem dX7_undo_45 : decode cX7_undo 45 = .ok (.imul, 1) := by decide +kernel
theorem dX7_undo_46 : decode cX7_undo 46 = .ok (.iload_n 1, 1) := by decide +kernel
theorem dX7_undo_47 : decode cX7_undo 47 = .ok (.iadd, 1) := by decide +kernel
theorem dX7_undo_48 : decode cX7_undo 48 = .ok (.iaload, 1) := by decide +kernel
theorem dX7_undo_49 : decode cX7_undo 49 = .ok (.iastore, 1) := by decide +kernel
theorem dX7_undo_50 : decode cX7_undo 50 = .ok (.iinc 1 1, 3) := by decide +kernel
theorem dX7_undo_53 : decode cX7_undo 53 = .ok (.goto (-31), 3) := by decide +kernel
theorem dX7_undo_56 : decode cX7_undo 56 = .ok (.aload_n 0, 1) := by decide +kernel
theorem dX7_undo_57 : decode cX7_undo 57 = .ok (.getfield 66, 3) := by decide +kernel
theorem dX7_undo_60 : decode cX7_undo 60 = .ok (.ireturn, 1) := by decide +kernel
theorem dX7_keep_0 : decode cX7_keep 0 = .ok (.iconst 0, 1) := by decide +kernel
theorem dX7_keep_1 : decode cX7_keep 1 = .ok (.istore_n 1, 1) := by decide +kernel
theorem dX7_keep_2 : decode cX7_keep 2 = .ok (.iload_n 1, 1) := by decide +kernel
theorem dX7_keep_3 : decode cX7_keep 3 = .ok (.sipush 336, 3) := by decide +kernel
theorem dX7_keep_6 : decode cX7_keep 6 = .ok (.if_icmp .ge 21, 3) := by decide +kernel
theorem dX7_keep_9 : decode cX7_keep 9 = .ok (.aload_n 0, 1) := by decide +kernel
theorem dX7_keep_10 : decode cX7_keep 10 = .ok (.getfield 22, 3) := by decide +kernel
theorem dX7_keep_13 : decode cX7_keep 13 = .ok (.iload_n 1, 1) := by decide +kernel
theorem dX7_keep_14 : decode cX7_keep 14 = .ok (.aload_n 0, 1) := by decide +kernel
theorem dX7_keep_15 : decode cX7_keep 15 = .ok (.getfield 7, 3) := by decide +kernel
theorem dX7_keep_18 : decode cX7_keep 18 = .ok (.iload_n 1, 1) := by decide +kernel
theorem dX7_keep_19 : decode cX7_keep 19 = .ok (.iaload, 1) := by decide +kernel
theorem dX7_keep_20 : decode cX7_keep 20 = .ok (.iastore, 1) := by decide +kernel
theorem dX7_keep_21 : decode cX7_keep 21 = .ok (.iinc 1 1, 3) := by decide +kernel
theorem dX7_keep_24 : decode cX7_keep 24 = .ok (.goto (-22), 3) := by decide +kernel
theorem dX7_keep_27 : decode cX7_keep 27 = .ok (.aload_n 0, 1) := by decide +kernel
theorem dX7_keep_28 : decode cX7_keep 28 = .ok (.iconst 1, 1) := by decide +kernel
theorem dX7_keep_29 : decode cX7_keep 29 = .ok (.putfield 181, 3) := by decide +kernel
theorem dX7_keep_32 : decode cX7_keep 32 = .ok (.aload_n 0, 1) := by decide +kernel
theorem dX7_keep_33 : decode cX7_keep 33 = .ok (.getfield 7, 3) := by decide +kernel
theorem dX7_keep_36 : decode cX7_keep 36 = .ok (.sipush 132, 3) := by decide +kernel
theorem dX7_keep_39 : decode cX7_keep 39 = .ok (.iaload, 1) := by decide +kernel
theorem dX7_keep_40 : decode cX7_keep 40 = .ok (.ireturn, 1) := by decide +kernel
theorem dX7_restore_0 : decode cX7_restore 0 = .ok (.aload_n 0, 1) := by decide +kernel
theorem dX7_restore_1 : decode cX7_restore 1 = .ok (.getfield 181, 3) := by decide +kernel
theorem dX7_restore_4 : decode cX7_restore 4 = .ok (.ifCond .ne 6, 3) := by decide +kernel
theorem dX7_restore_7 : decode cX7_restore 7 = .ok (.bipush (-5), 2) := by decide +kernel
theorem dX7_restore_9 : decode cX7_restore 9 = .ok (.ireturn, 1) := by decide +kernel
theorem dX7_restore_10 : decode cX7_restore 10 = .ok (.aload_n 0, 1) := by decide +kernel
theorem dX7_restore_11 : decode cX7_restore 11 = .ok (.invokevirtual 114, 3) := by decide +kernel
theorem dX7_restore_14 : decode cX7_restore 14 = .ok (.iconst 0, 1) := by decide +kernel
theorem dX7_restore_15 : decode cX7_restore 15 = .ok (.istore_n 1, 1) := by decide +kernel
theorem dX7_restore_16 : decode cX7_restore 16 = .ok (.iload_n 1, 1) := by decide +kernel
theorem dX7_restore_17 : decode cX7_restore 17 = .ok (.sipush 336, 3) := by decide +kernel
theorem dX7_restore_20 : decode cX7_restore 20 = .ok (.if_icmp .ge 21, 3) := by decide +kernel
theorem dX7_restore_23 : decode cX7_restore 23 = .ok (.aload_n 0, 1) := by decide +kernel
theorem dX7_restore_24 : decode cX7_restore 24 = .ok (.getfield 7, 3) := by decide +kernel
theorem dX7_restore_27 : decode cX7_restore 27 = .ok (.iload_n 1, 1) := by decide +kernel
theorem dX7_restore_28 : decode cX7_restore 28 = .ok (.aload_n 0, 1) := by decide +kernel
theorem dX7_restore_29 : decode cX7_restore 29 = .ok (.getfield 22, 3) := by decide +kernel
theorem dX7_restore_32 : decode cX7_restore 32 = .ok (.iload_n 1, 1) := by decide +kernel
theorem dX7_restore_33 : decode cX7_restore 33 = .ok (.iaload, 1) := by decide +kernel
theorem dX7_restore_34 : decode cX7_restore 34 = .ok (.iastore, 1) := by decide +kernel
theorem dX7_restore_35 : decode cX7_restore 35 = .ok (.iinc 1 1, 3) := by decide +kernel
theorem dX7_restore_38 : decode cX7_restore 38 = .ok (.goto (-22), 3) := by decide +kernel
theorem dX7_restore_41 : decode cX7_restore 41 = .ok (.aload_n 0, 1) := by decide +kernel
theorem dX7_restore_42 : decode cX7_restore 42 = .ok (.getfield 7, 3) := by decide +kernel
theorem dX7_restore_45 : decode cX7_restore 45 = .ok (.sipush 132, 3) := by decide +kernel
theorem dX7_restore_48 : decode cX7_restore 48 = .ok (.iaload, 1) := by decide +kernel
theorem dX7_restore_49 : decode cX7_restore 49 = .ok (.ireturn, 1) := by decide +kernel
theorem dX7_agentsOf_0 : decode cX7_agentsOf 0 = .ok (.iconst 0, 1) := by decide +kernel
theorem dX7_agentsOf_1 : decode cX7_agentsOf 1 = .ok (.istore_n 3, 1) := by decide +kernel
theorem dX7_agentsOf_2 : decode cX7_agentsOf 2 = .ok (.iconst 0, 1) := by decide +kernel
theorem dX7_agentsOf_3 : decode cX7_agentsOf 3 = .ok (.istore 4, 2) := by decide +kernel
theorem dX7_agentsOf_5 : decode cX7_agentsOf 5 = .ok (.iload 4, 2) := by decide +kernel
theorem dX7_agentsOf_7 : decode cX7_agentsOf 7 = .ok (.bipush 6, 2) := by decide +kernel
theorem dX7_agentsOf_9 : decode cX7_agentsOf 9 = .ok (.if_icmp .ge 51, 3) := by decide +kernel
theorem dX7_agentsOf_12 : decode cX7_agentsOf 12 = .ok (.iload_n 3, 1) := by decide +kernel
theorem dX7_agentsOf_13 : decode cX7_agentsOf 13 = .ok (.iload_n 2, 1) := by decide +kernel
theorem dX7_agentsOf_14 : decode cX7_agentsOf 14 = .ok (.bipush 8, 2) := by decide +kernel
theorem dX7_agentsOf_16 : decode cX7_agentsOf 16 = .ok (.if_icmp .ne 17, 3) := by decide +kernel
theorem dX7_agentsOf_19 : decode cX7_agentsOf 19 = .ok (.aload_n 0, 1) := by decide +kernel
theorem dX7_agentsOf_20 : decode cX7_agentsOf 20 = .ok (.getfield 7, 3) := by decide +kernel
theorem dX7_agentsOf_23 : decode cX7_agentsOf 23 = .ok (.iload 4, 2) := by decide +kernel
theorem dX7_agentsOf_25 : decode cX7_agentsOf 25 = .ok (.iload_n 1, 1) := by decide +kernel
theorem dX7_agentsOf_26 : decode cX7_agentsOf 26 = .ok (.invokestatic 72, 3) := by decide +kernel
theorem dX7_agentsOf_29 : decode cX7_agentsOf 29 = .ok (.iaload, 1) := by decide +kernel
theorem dX7_agentsOf_30 : decode cX7_agentsOf 30 = .ok (.goto 22, 3) := by decide +kernel
theorem dX7_agentsOf_33 : decode cX7_agentsOf 33 = .ok (.aload_n 0, 1) := by decide +kernel
theorem dX7_agentsOf_34 : decode cX7_agentsOf 34 = .ok (.getfield 7, 3) := by decide +kernel
theorem dX7_agentsOf_37 : decode cX7_agentsOf 37 = .ok (.iload 4, 2) := by decide +kernel
theorem dX7_agentsOf_39 : decode cX7_agentsOf 39 = .ok (.iload_n 1, 1) := by decide +kernel
theorem dX7_agentsOf_40 : decode cX7_agentsOf 40 = .ok (.invokestatic 51, 3) := by decide +kernel
theorem dX7_agentsOf_43 : decode cX7_agentsOf 43 = .ok (.iaload, 1) := by decide +kernel
theorem dX7_agentsOf_44 : decode cX7_agentsOf 44 = .ok (.ifCond .le 7, 3) := by decide +kernel
theorem dX7_agentsOf_47 : decode cX7_agentsOf 47 = .ok (.iconst 1, 1) := by decide +kernel
theorem dX7_agentsOf_48 : decode cX7_agentsOf 48 = .ok (.goto 4, 3) := by decide +kernel
theorem dX7_agentsOf_51 : decode cX7_agentsOf 51 = .ok (.iconst 0, 1) := by decide +kernel
theorem dX7_agentsOf_52 : decode cX7_agentsOf 52 = .ok (.iadd, 1) := by decide +kernel
theorem dX7_agentsOf_53 : decode cX7_agentsOf 53 = .ok (.istore_n 3, 1) := by decide +kernel
theorem dX7_agentsOf_54 : decode cX7_agentsOf 54 = .ok (.iinc 4 1, 3) := by decide +kernel
theorem dX7_agentsOf_57 : decode cX7_agentsOf 57 = .ok (.goto (-52), 3) := by decide +kernel
theorem dX7_agentsOf_60 : decode cX7_agentsOf 60 = .ok (.iload_n 3, 1) := by decide +kernel
theorem dX7_agentsOf_61 : decode cX7_agentsOf 61 = .ok (.ireturn, 1) := by decide +kernel
theorem dX7_wholeOf_0 : decode cX7_wholeOf 0 = .ok (.bipush (-5), 2) := by decide +kernel
theorem dX7_wholeOf_2 : decode cX7_wholeOf 2 = .ok (.istore_n 2, 1) := by decide +kernel
theorem dX7_wholeOf_3 : decode cX7_wholeOf 3 = .ok (.iconst 0, 1) := by decide +kernel
theorem dX7_wholeOf_4 : decode cX7_wholeOf 4 = .ok (.istore_n 3, 1) := by decide +kernel
theorem dX7_wholeOf_5 : decode cX7_wholeOf 5 = .ok (.iload_n 3, 1) := by decide +kernel
theorem dX7_wholeOf_6 : decode cX7_wholeOf 6 = .ok (.bipush 6, 2) := by decide +kernel
theorem dX7_wholeOf_8 : decode cX7_wholeOf 8 = .ok (.if_icmp .ge 30, 3) := by decide +kernel
theorem dX7_wholeOf_11 : decode cX7_wholeOf 11 = .ok (.aload_n 0, 1) := by decide +kernel
theorem dX7_wholeOf_12 : decode cX7_wholeOf 12 = .ok (.getfield 7, 3) := by decide +kernel
theorem dX7_wholeOf_15 : decode cX7_wholeOf 15 = .ok (.iload_n 3, 1) := by decide +kernel
theorem dX7_wholeOf_16 : decode cX7_wholeOf 16 = .ok (.iload_n 1, 1) := by decide +kernel
theorem dX7_wholeOf_17 : decode cX7_wholeOf 17 = .ok (.invokestatic 51, 3) := by decide +kernel
theorem dX7_wholeOf_20 : decode cX7_wholeOf 20 = .ok (.iaload, 1) := by decide +kernel
theorem dX7_wholeOf_21 : decode cX7_wholeOf 21 = .ok (.bipush 64, 2) := by decide +kernel
theorem dX7_wholeOf_23 : decode cX7_wholeOf 23 = .ok (.if_icmp .ne 7, 3) := by decide +kernel
theorem dX7_wholeOf_26 : decode cX7_wholeOf 26 = .ok (.iload_n 3, 1) := by decide +kernel
theorem dX7_wholeOf_27 : decode cX7_wholeOf 27 = .ok (.goto 4, 3) := by decide +kernel
theorem dX7_wholeOf_30 : decode cX7_wholeOf 30 = .ok (.iload_n 2, 1) := by decide +kernel
theorem dX7_wholeOf_31 : decode cX7_wholeOf 31 = .ok (.istore_n 2, 1) := by decide +kernel
theorem dX7_wholeOf_32 : decode cX7_wholeOf 32 = .ok (.iinc 3 1, 3) := by decide +kernel
theorem dX7_wholeOf_35 : decode cX7_wholeOf 35 = .ok (.goto (-30), 3) := by decide +kernel
theorem dX7_wholeOf_38 : decode cX7_wholeOf 38 = .ok (.iload_n 2, 1) := by decide +kernel
theorem dX7_wholeOf_39 : decode cX7_wholeOf 39 = .ok (.ireturn, 1) := by decide +kernel
theorem dX7_cell_0 : decode cX7_cell 0 = .ok (.iload_n 1, 1) := by decide +kernel
theorem dX7_cell_1 : decode cX7_cell 1 = .ok (.invokestatic 63, 3) := by decide +kernel
theorem dX7_cell_4 : decode cX7_cell 4 = .ok (.ifCond .ne 5, 3) := by decide +kernel
theorem dX7_cell_7 : decode cX7_cell 7 = .ok (.iconst (-1), 1) := by decide +kernel
theorem dX7_cell_8 : decode cX7_cell 8 = .ok (.ireturn, 1) := by decide +kernel
theorem dX7_cell_9 : decode cX7_cell 9 = .ok (.iload_n 2, 1) := by decide +kernel
theorem dX7_cell_10 : decode cX7_cell 10 = .ok (.tableswitch 139 0 8 #[50, 60, 70, 80, 87, 97, 127, 133, 80], 50) := by decide +kernel
theorem dX7_cell_60 : decode cX7_cell 60 = .ok (.aload_n 0, 1) := by decide +kernel
theorem dX7_cell_61 : decode cX7_cell 61 = .ok (.getfield 7, 3) := by decide +kernel
theorem dX7_cell_64 : decode cX7_cell 64 = .ok (.bipush 114, 2) := by decide +kernel
theorem dX7_cell_66 : decode cX7_cell 66 = .ok (.iload_n 1, 1) := by decide +kernel
theorem dX7_cell_67 : decode cX7_cell 67 = .ok (.iadd, 1) := by decide +kernel
theorem dX7_cell_68 : decode cX7_cell 68 = .ok (.iaload, 1) := by decide +kernel
theorem dX7_cell_69 : decode cX7_cell 69 = .ok (.ireturn, 1) := by decide +kernel
theorem dX7_cell_70 : decode cX7_cell 70 = .ok (.aload_n 0, 1) := by decide +kernel
theorem dX7_cell_71 : decode cX7_cell 71 = .ok (.getfield 7, 3) := by decide +kernel
theorem dX7_cell_74 : decode cX7_cell 74 = .ok (.bipush 120, 2) := by decide +kernel
theorem dX7_cell_76 : decode cX7_cell 76 = .ok (.iload_n 1, 1) := by decide +kernel
theorem dX7_cell_77 : decode cX7_cell 77 = .ok (.iadd, 1) := by decide +kernel
theorem dX7_cell_78 : decode cX7_cell 78 = .ok (.iaload, 1) := by decide +kernel
theorem dX7_cell_79 : decode cX7_cell 79 = .ok (.ireturn, 1) := by decide +kernel
theorem dX7_cell_80 : decode cX7_cell 80 = .ok (.aload_n 0, 1) := by decide +kernel
theorem dX7_cell_81 : decode cX7_cell 81 = .ok (.getfield 7, 3) := by decide +kernel
theorem dX7_cell_84 : decode cX7_cell 84 = .ok (.bipush 126, 2) := by decide +kernel
theorem dX7_cell_86 : decode cX7_cell 86 = .ok (.iload_n 1, 1) := by decide +kernel
theorem dX7_cell_87 : decode cX7_cell 87 = .ok (.iadd, 1) := by decide +kernel
theorem dX7_cell_88 : decode cX7_cell 88 = .ok (.iaload, 1) := by decide +kernel
theorem dX7_cell_89 : decode cX7_cell 89 = .ok (.ireturn, 1) := by decide +kernel
theorem dX7_cell_90 : decode cX7_cell 90 = .ok (.aload_n 0, 1) := by decide +kernel
theorem dX7_cell_91 : decode cX7_cell 91 = .ok (.iload_n 1, 1) := by decide +kernel
theorem dX7_cell_92 : decode cX7_cell 92 = .ok (.iload_n 2, 1) := by decide +kernel
theorem dX7_cell_93 : decode cX7_cell 93 = .ok (.invokevirtual 184, 3) := by decide +kernel
theorem dX7_cell_96 : decode cX7_cell 96 = .ok (.ireturn, 1) := by decide +kernel
theorem dX7_cell_97 : decode cX7_cell 97 = .ok (.aload_n 0, 1) := by decide +kernel
theorem dX7_cell_98 : decode cX7_cell 98 = .ok (.getfield 7, 3) := by decide +kernel
theorem dX7_cell_101 : decode cX7_cell 101 = .ok (.bipush 108, 2) := by decide +kernel
theorem dX7_cell_103 : decode cX7_cell 103 = .ok (.iload_n 1, 1) := by decide +kernel
theorem dX7_cell_104 : decode cX7_cell 104 = .ok (.iadd, 1) := by decide +kernel
theorem dX7_cell_105 : decode cX7_cell 105 = .ok (.iaload, 1) := by decide +kernel
theorem dX7_cell_106 : decode cX7_cell 106 = .ok (.ireturn, 1) := by decide +kernel
theorem dX7_cell_107 : decode cX7_cell 107 = .ok (.aload_n 0, 1) := by decide +kernel
theorem dX7_cell_108 : decode cX7_cell 108 = .ok (.getfield 7, 3) := by decide +kernel
theorem dX7_cell_111 : decode cX7_cell 111 = .ok (.bipush 108, 2) := by decide +kernel
theorem dX7_cell_113 : decode cX7_cell 113 = .ok (.iload_n 1, 1) := by decide +kernel
theorem dX7_cell_114 : decode cX7_cell 114 = .ok (.iadd, 1) := by decide +kernel
theorem dX7_cell_115 : decode cX7_cell 115 = .ok (.iaload, 1) := by decide +kernel
theorem dX7_cell_116 : decode cX7_cell 116 = .ok (.ifCond .ne 8, 3) := by decide +kernel
theorem dX7_cell_119 : decode cX7_cell 119 = .ok (.bipush (-5), 2) := by decide +kernel
theorem dX7_cell_121 : decode cX7_cell 121 = .ok (.goto 15, 3) := by decide +kernel
theorem dX7_cell_124 : decode cX7_cell 124 = .ok (.aload_n 0, 1) := by decide +kernel
theorem dX7_cell_125 : decode cX7_cell 125 = .ok (.getfield 7, 3) := by decide +kernel
theorem dX7_cell_128 : decode cX7_cell 128 = .ok (.bipush 72, 2) := by decide +kernel
theorem dX7_cell_130 : decode cX7_cell 130 = .ok (.bipush 6, 2) := by decide +kernel
theorem dX7_cell_132 : decode cX7_cell 132 = .ok (.iload_n 1, 1) := by decide +kernel
theorem dX7_cell_133 : decode cX7_cell 133 = .ok (.imul, 1) := by decide +kernel
theorem dX7_cell_134 : decode cX7_cell 134 = .ok (.iadd, 1) := by decide +kernel
theorem dX7_cell_135 : decode cX7_cell 135 = .ok (.iaload, 1) := by decide +kernel
theorem dX7_cell_136 : decode cX7_cell 136 = .ok (.ireturn, 1) := by decide +kernel
theorem dX7_cell_137 : decode cX7_cell 137 = .ok (.aload_n 0, 1) := by decide +kernel
theorem dX7_cell_138 : decode cX7_cell 138 = .ok (.iload_n 1, 1) := by decide +kernel
theorem dX7_cell_139 : decode cX7_cell 139 = .ok (.invokevirtual 145, 3) := by decide +kernel
theorem dX7_cell_142 : decode cX7_cell 142 = .ok (.ireturn, 1) := by decide +kernel
theorem dX7_cell_143 : decode cX7_cell 143 = .ok (.aload_n 0, 1) := by decide +kernel
theorem dX7_cell_144 : decode cX7_cell 144 = .ok (.iload_n 1, 1) := by decide +kernel
theorem dX7_cell_145 : decode cX7_cell 145 = .ok (.invokevirtual 187, 3) := by decide +kernel
theorem dX7_cell_148 : decode cX7_cell 148 = .ok (.ireturn, 1) := by decide +kernel
theorem dX7_cell_149 : decode cX7_cell 149 = .ok (.bipush (-2), 2) := by decide +kernel
theorem dX7_cell_151 : decode cX7_cell 151 = .ok (.ireturn, 1) := by decide +kernel
theorem dX7_sum_0 : decode cX7_sum 0 = .ok (.iconst 0, 1) := by decide +kernel
theorem dX7_sum_1 : decode cX7_sum 1 = .ok (.istore 4, 2) := by decide +kernel
theorem dX7_sum_3 : decode cX7_sum 3 = .ok (.iconst 0, 1) := by decide +kernel
theorem dX7_sum_4 : decode cX7_sum 4 = .ok (.istore 5, 2) := by decide +kernel
theorem dX7_sum_6 : decode cX7_sum 6 = .ok (.iload 5, 2) := by decide +kernel
theorem dX7_sum_8 : decode cX7_sum 8 = .ok (.aload_n 0, 1) := by decide +kernel
theorem dX7_sum_9 : decode cX7_sum 9 = .ok (.getfield 7, 3) := by decide +kernel
theorem dX7_sum_12 : decode cX7_sum 12 = .ok (.sipush 132, 3) := by decide +kernel
theorem dX7_sum_15 : decode cX7_sum 15 = .ok (.iaload, 1) := by decide +kernel
theorem dX7_sum_16 : decode cX7_sum 16 = .ok (.if_icmp .ge 59, 3) := by decide +kernel
theorem dX7_sum_19 : decode cX7_sum 19 = .ok (.iload 4, 2) := by decide +kernel
theorem dX7_sum_21 : decode cX7_sum 21 = .ok (.aload_n 0, 1) := by decide +kernel
theorem dX7_sum_22 : decode cX7_sum 22 = .ok (.getfield 7, 3) := by decide +kernel
theorem dX7_sum_25 : decode cX7_sum 25 = .ok (.iload 5, 2) := by decide +kernel
theorem dX7_sum_27 : decode cX7_sum 27 = .ok (.iconst 3, 1) := by decide +kernel
theorem dX7_sum_28 : decode cX7_sum 28 = .ok (.invokestatic 69, 3) := by decide +kernel
theorem dX7_sum_31 : decode cX7_sum 31 = .ok (.iaload, 1) := by decide +kernel
theorem dX7_sum_32 : decode cX7_sum 32 = .ok (.iload_n 2, 1) := by decide +kernel
theorem dX7_sum_33 : decode cX7_sum 33 = .ok (.if_icmp .ne 32, 3) := by decide +kernel
theorem dX7_sum_36 : decode cX7_sum 36 = .ok (.aload_n 0, 1) := by decide +kernel
theorem dX7_sum_37 : decode cX7_sum 37 = .ok (.getfield 7, 3) := by decide +kernel
theorem dX7_sum_40 : decode cX7_sum 40 = .ok (.iload 5, 2) := by decide +kernel
theorem dX7_sum_42 : decode cX7_sum 42 = .ok (.iload_n 3, 1) := by decide +kernel
theorem dX7_sum_43 : decode cX7_sum 43 = .ok (.invokestatic 69, 3) := by decide +kernel
theorem dX7_sum_46 : decode cX7_sum 46 = .ok (.iaload, 1) := by decide +kernel
theorem dX7_sum_47 : decode cX7_sum 47 = .ok (.iload_n 1, 1) := by decide +kernel
theorem dX7_sum_48 : decode cX7_sum 48 = .ok (.if_icmp .ne 17, 3) := by decide +kernel
theorem dX7_sum_51 : decode cX7_sum 51 = .ok (.aload_n 0, 1) := by decide +kernel
theorem dX7_sum_52 : decode cX7_sum 52 = .ok (.getfield 7, 3) := by decide +kernel
theorem dX7_sum_55 : decode cX7_sum 55 = .ok (.iload 5, 2) := by decide +kernel
theorem dX7_sum_57 : decode cX7_sum 57 = .ok (.iconst 4, 1) := by decide +kernel
theorem dX7_sum_58 : decode cX7_sum 58 = .ok (.invokestatic 69, 3) := by decide +kernel
theorem dX7_sum_61 : decode cX7_sum 61 = .ok (.iaload, 1) := by decide +kernel
theorem dX7_sum_62 : decode cX7_sum 62 = .ok (.goto 4, 3) := by decide +kernel
theorem dX7_sum_65 : decode cX7_sum 65 = .ok (.iconst 0, 1) := by decide +kernel
theorem dX7_sum_66 : decode cX7_sum 66 = .ok (.iadd, 1) := by decide +kernel
theorem dX7_sum_67 : decode cX7_sum 67 = .ok (.istore 4, 2) := by decide +kernel
theorem dX7_sum_69 : decode cX7_sum 69 = .ok (.iinc 5 1, 3) := by decide +kernel
theorem dX7_sum_72 : decode cX7_sum 72 = .ok (.goto (-66), 3) := by decide +kernel
theorem dX7_sum_75 : decode cX7_sum 75 = .ok (.iload 4, 2) := by decide +kernel
theorem dX7_sum_77 : decode cX7_sum 77 = .ok (.ireturn, 1) := by decide +kernel
theorem dX7_part_0 : decode cX7_part 0 = .ok (.iload_n 1, 1) := by decide +kernel
theorem dX7_part_1 : decode cX7_part 1 = .ok (.iload_n 2, 1) := by decide +kernel
theorem dX7_part_2 : decode cX7_part 2 = .ok (.invokestatic 106, 3) := by decide +kernel
theorem dX7_part_5 : decode cX7_part 5 = .ok (.ifCond .ne 5, 3) := by decide +kernel
theorem dX7_part_8 : decode cX7_part 8 = .ok (.iconst (-1), 1) := by decide +kernel
theorem dX7_part_9 : decode cX7_part 9 = .ok (.ireturn, 1) := by decide +kernel
theorem dX7_part_10 : decode cX7_part 10 = .ok (.iload_n 3, 1) := by decide +kernel
theorem dX7_part_11 : decode cX7_part 11 = .ok (.tableswitch 81 0 5 #[37, 48, 48, 56, 67, 74], 37) := by decide +kernel
theorem dX7_part_48 : decode cX7_part 48 = .ok (.aload_n 0, 1) := by decide +kernel
theorem dX7_part_49 : decode cX7_part 49 = .ok (.getfield 7, 3) := by decide +kernel
theorem dX7_part_52 : decode cX7_part 52 = .ok (.iload_n 1, 1) := by decide +kernel
theorem dX7_part_53 : decode cX7_part 53 = .ok (.iload_n 2, 1) := by decide +kernel
theorem dX7_part_54 : decode cX7_part 54 = .ok (.invokestatic 51, 3) := by decide +kernel
theorem dX7_part_57 : decode cX7_part 57 = .ok (.iaload, 1) := by decide +kernel
theorem dX7_part_58 : decode cX7_part 58 = .ok (.ireturn, 1) := by decide +kernel
theorem dX7_part_59 : decode cX7_part 59 = .ok (.aload_n 0, 1) := by decide +kernel
theorem dX7_part_60 : decode cX7_part 60 = .ok (.iload_n 1, 1) := by decide +kernel
theorem dX7_part_61 : decode cX7_part 61 = .ok (.iload_n 2, 1) := by decide +kernel
theorem dX7_part_62 : decode cX7_part 62 = .ok (.iload_n 3, 1) := by decide +kernel
theorem dX7_part_63 : decode cX7_part 63 = .ok (.invokevirtual 190, 3) := by decide +kernel
theorem dX7_part_66 : decode cX7_part 66 = .ok (.ireturn, 1) := by decide +kernel
theorem dX7_part_67 : decode cX7_part 67 = .ok (.aload_n 0, 1) := by decide +kernel
theorem dX7_part_68 : decode cX7_part 68 = .ok (.getfield 7, 3) := by decide +kernel
theorem dX7_part_71 : decode cX7_part 71 = .ok (.iload_n 1, 1) := by decide +kernel
theorem dX7_part_72 : decode cX7_part 72 = .ok (.iload_n 2, 1) := by decide +kernel
theorem dX7_part_73 : decode cX7_part 73 = .ok (.invokestatic 72, 3) := by decide +kernel
theorem dX7_part_76 : decode cX7_part 76 = .ok (.iaload, 1) := by decide +kernel
theorem dX7_part_77 : decode cX7_part 77 = .ok (.ireturn, 1) := by decide +kernel
theorem dX7_part_78 : decode cX7_part 78 = .ok (.aload_n 0, 1) := by decide +kernel
theorem dX7_part_79 : decode cX7_part 79 = .ok (.iload_n 1, 1) := by decide +kernel
theorem dX7_part_80 : decode cX7_part 80 = .ok (.iload_n 2, 1) := by decide +kernel
theorem dX7_part_81 : decode cX7_part 81 = .ok (.invokevirtual 135, 3) := by decide +kernel
theorem dX7_part_84 : decode cX7_part 84 = .ok (.ireturn, 1) := by decide +kernel
theorem dX7_part_85 : decode cX7_part 85 = .ok (.aload_n 0, 1) := by decide +kernel
theorem dX7_part_86 : decode cX7_part 86 = .ok (.iload_n 1, 1) := by decide +kernel
theorem dX7_part_87 : decode cX7_part 87 = .ok (.iload_n 2, 1) := by decide +kernel
theorem dX7_part_88 : decode cX7_part 88 = .ok (.invokevirtual 193, 3) := by decide +kernel
theorem dX7_part_91 : decode cX7_part 91 = .ok (.ireturn, 1) := by decide +kernel
theorem dX7_part_92 : decode cX7_part 92 = .ok (.bipush (-2), 2) := by decide +kernel
theorem dX7_part_94 : decode cX7_part 94 = .ok (.ireturn, 1) := by decide +kernel
theorem dX7_loan_0 : decode cX7_loan 0 = .ok (.aload_n 0, 1) := by decide +kernel
theorem dX7_loan_1 : decode cX7_loan 1 = .ok (.iload_n 1, 1) := by decide +kernel
theorem dX7_loan_2 : decode cX7_loan 2 = .ok (.invokevirtual 82, 3) := by decide +kernel
theorem dX7_loan_5 : decode cX7_loan 5 = .ok (.istore_n 3, 1) := by decide +kernel
theorem dX7_loan_6 : decode cX7_loan 6 = .ok (.iload_n 3, 1) := by decide +kernel
theorem dX7_loan_7 : decode cX7_loan 7 = .ok (.bipush (-5), 2) := by decide +kernel
theorem dX7_loan_9 : decode cX7_loan 9 = .ok (.if_icmp .ne 5, 3) := by decide +kernel
theorem dX7_loan_12 : decode cX7_loan 12 = .ok (.iconst (-1), 1) := by decide +kernel
theorem dX7_loan_13 : decode cX7_loan 13 = .ok (.ireturn, 1) := by decide +kernel
theorem dX7_loan_14 : decode cX7_loan 14 = .ok (.iload_n 2, 1) := by decide +kernel
theorem dX7_loan_15 : decode cX7_loan 15 = .ok (.iconst 0, 1) := by decide +kernel
theorem dX7_loan_16 : decode cX7_loan 16 = .ok (.iconst 4, 1) := by decide +kernel
theorem dX7_loan_17 : decode cX7_loan 17 = .ok (.invokestatic 55, 3) := by decide +kernel
theorem dX7_loan_20 : decode cX7_loan 20 = .ok (.ifCond .ne 6, 3) := by decide +kernel
theorem dX7_loan_23 : decode cX7_loan 23 = .ok (.bipush (-2), 2) := by decide +kernel
theorem dX7_loan_25 : decode cX7_loan 25 = .ok (.ireturn, 1) := by decide +kernel
theorem dX7_loan_26 : decode cX7_loan 26 = .ok (.iload_n 2, 1) := by decide +kernel
theorem dX7_loan_27 : decode cX7_loan 27 = .ok (.iconst 4, 1) := by decide +kernel
theorem dX7_loan_28 : decode cX7_loan 28 = .ok (.if_icmp .ge 18, 3) := by decide +kernel
theorem dX7_loan_31 : decode cX7_loan 31 = .ok (.aload_n 0, 1) := by decide +kernel
theorem dX7_loan_32 : decode cX7_loan 32 = .ok (.getfield 7, 3) := by decide +kernel
theorem dX7_loan_35 : decode cX7_loan 35 = .ok (.iload_n 3, 1) := by decide +kernel
theorem dX7_loan_36 : decode cX7_loan 36 = .ok (.iload_n 2, 1) := by decide +kernel
theorem dX7_loan_37 : decode cX7_loan 37 = .ok (.iconst 1, 1) := by decide +kernel
theorem dX7_loan_38 : decode cX7_loan 38 = .ok (.iadd, 1) := by decide +kernel
theorem dX7_loan_39 : decode cX7_loan 39 = .ok (.invokestatic 69, 3) := by decide +kernel
theorem dX7_loan_42 : decode cX7_loan 42 = .ok (.iaload, 1) := by decide +kernel
theorem dX7_loan_43 : decode cX7_loan 43 = .ok (.goto 16, 3) := by decide +kernel
theorem dX7_loan_46 : decode cX7_loan 46 = .ok (.aload_n 0, 1) := by decide +kernel
theorem dX7_loan_47 : decode cX7_loan 47 = .ok (.iload_n 3, 1) := by decide +kernel
theorem dX7_loan_48 : decode cX7_loan 48 = .ok (.invokevirtual 93, 3) := by decide +kernel
theorem dX7_loan_51 : decode cX7_loan 51 = .ok (.ifCond .eq 7, 3) := by decide +kernel
theorem dX7_loan_54 : decode cX7_loan 54 = .ok (.iconst 1, 1) := by decide +kernel
theorem dX7_loan_55 : decode cX7_loan 55 = .ok (.goto 4, 3) := by decide +kernel
theorem dX7_loan_58 : decode cX7_loan 58 = .ok (.iconst 0, 1) := by decide +kernel
theorem dX7_loan_59 : decode cX7_loan 59 = .ok (.ireturn, 1) := by decide +kernel
theorem dX7_reason_0 : decode cX7_reason 0 = .ok (.iload_n 1, 1) := by decide +kernel
theorem dX7_reason_1 : decode cX7_reason 1 = .ok (.iload_n 2, 1) := by decide +kernel
theorem dX7_reason_2 : decode cX7_reason 2 = .ok (.invokestatic 106, 3) := by decide +kernel
theorem dX7_reason_5 : decode cX7_reason 5 = .ok (.ifCond .ne 5, 3) := by decide +kernel
theorem dX7_reason_8 : decode cX7_reason 8 = .ok (.iconst (-1), 1) := by decide +kernel
theorem dX7_reason_9 : decode cX7_reason 9 = .ok (.ireturn, 1) := by decide +kernel
theorem dX7_reason_10 : decode cX7_reason 10 = .ok (.aload_n 0, 1) := by decide +kernel
theorem dX7_reason_11 : decode cX7_reason 11 = .ok (.iload_n 1, 1) := by decide +kernel
theorem dX7_reason_12 : decode cX7_reason 12 = .ok (.iload_n 2, 1) := by decide +kernel
theorem dX7_reason_13 : decode cX7_reason 13 = .ok (.invokevirtual 193, 3) := by decide +kernel
theorem dX7_reason_16 : decode cX7_reason 16 = .ok (.bipush 64, 2) := by decide +kernel
theorem dX7_reason_18 : decode cX7_reason 18 = .ok (.if_icmp .ne 7, 3) := by decide +kernel
theorem dX7_reason_21 : decode cX7_reason 21 = .ok (.iconst 0, 1) := by decide +kernel
theorem dX7_reason_22 : decode cX7_reason 22 = .ok (.goto 18, 3) := by decide +kernel
theorem dX7_reason_25 : decode cX7_reason 25 = .ok (.aload_n 0, 1) := by decide +kernel
theorem dX7_reason_26 : decode cX7_reason 26 = .ok (.iload_n 2, 1) := by decide +kernel
theorem dX7_reason_27 : decode cX7_reason 27 = .ok (.bipush 8, 2) := by decide +kernel
theorem dX7_reason_29 : decode cX7_reason 29 = .ok (.invokevirtual 184, 3) := by decide +kernel
theorem dX7_reason_32 : decode cX7_reason 32 = .ok (.ifCond .le 7, 3) := by decide +kernel
theorem dX7_reason_35 : decode cX7_reason 35 = .ok (.iconst 1, 1) := by decide +kernel
theorem dX7_reason_36 : decode cX7_reason 36 = .ok (.goto 4, 3) := by decide +kernel
theorem dX7_reason_39 : decode cX7_reason 39 = .ok (.iconst 2, 1) := by decide +kernel
theorem dX7_reason_40 : decode cX7_reason 40 = .ok (.ireturn, 1) := by decide +kernel
theorem dX7_chain_0 : decode cX7_chain 0 = .ok (.iload_n 1, 1) := by decide +kernel
theorem dX7_chain_1 : decode cX7_chain 1 = .ok (.invokestatic 63, 3) := by decide +kernel
theorem dX7_chain_4 : decode cX7_chain 4 = .ok (.ifCond .ne 5, 3) := by decide +kernel
theorem dX7_chain_7 : decode cX7_chain 7 = .ok (.iconst (-1), 1) := by decide +kernel
theorem dX7_chain_8 : decode cX7_chain 8 = .ok (.ireturn, 1) := by decide +kernel
theorem dX7_chain_9 : decode cX7_chain 9 = .ok (.iconst 0, 1) := by decide +kernel
theorem dX7_chain_10 : decode cX7_chain 10 = .ok (.istore_n 2, 1) := by decide +kernel
theorem dX7_chain_11 : decode cX7_chain 11 = .ok (.iconst 0, 1) := by decide +kernel
theorem dX7_chain_12 : decode cX7_chain 12 = .ok (.istore_n 3, 1) := by decide +kernel
theorem dX7_chain_13 : decode cX7_chain 13 = .ok (.iload_n 3, 1) := by decide +kernel
theorem dX7_chain_14 : decode cX7_chain 14 = .ok (.sipush 384, 3) := by decide +kernel
theorem dX7_chain_17 : decode cX7_chain 17 = .ok (.if_icmp .ge 33, 3) := by decide +kernel
theorem dX7_chain_20 : decode cX7_chain 20 = .ok (.aload_n 0, 1) := by decide +kernel
theorem dX7_chain_21 : decode cX7_chain 21 = .ok (.getfield 48, 3) := by decide +kernel
theorem dX7_chain_24 : decode cX7_chain 24 = .ok (.iload_n 3, 1) := by decide +kernel
theorem dX7_chain_25 : decode cX7_chain 25 = .ok (.iload_n 3, 1) := by decide +kernel
theorem dX7_chain_26 : decode cX7_chain 26 = .ok (.bipush 64, 2) := by decide +kernel
theorem dX7_chain_28 : decode cX7_chain 28 = .ok (.irem, 1) := by decide +kernel
theorem dX7_chain_29 : decode cX7_chain 29 = .ok (.iconst 1, 1) := by decide +kernel
theorem dX7_chain_30 : decode cX7_chain 30 = .ok (.iload_n 3, 1) := by decide +kernel
theorem dX7_chain_31 : decode cX7_chain 31 = .ok (.bipush 64, 2) := by decide +kernel
theorem dX7_chain_33 : decode cX7_chain 33 = .ok (.idiv, 1) := by decide +kernel
theorem dX7_chain_34 : decode cX7_chain 34 = .ok (.ishl, 1) := by decide +kernel
theorem dX7_chain_35 : decode cX7_chain 35 = .ok (.if_icmp .ne 7, 3) := by decide +kernel
theorem dX7_chain_38 : decode cX7_chain 38 = .ok (.iconst 1, 1) := by decide +kernel
theorem dX7_chain_39 : decode cX7_chain 39 = .ok (.goto 4, 3) := by decide +kernel
theorem dX7_chain_42 : decode cX7_chain 42 = .ok (.iconst 0, 1) := by decide +kernel
theorem dX7_chain_43 : decode cX7_chain 43 = .ok (.bastore, 1) := by decide +kernel
theorem dX7_chain_44 : decode cX7_chain 44 = .ok (.iinc 3 1, 3) := by decide +kernel
theorem dX7_chain_47 : decode cX7_chain 47 = .ok (.goto (-34), 3) := by decide +kernel
theorem dX7_chain_50 : decode cX7_chain 50 = .ok (.iconst 1, 1) := by decide +kernel
theorem dX7_chain_51 : decode cX7_chain 51 = .ok (.istore_n 3, 1) := by decide +kernel
theorem dX7_chain_52 : decode cX7_chain 52 = .ok (.iload_n 3, 1) := by decide +kernel
theorem dX7_chain_53 : decode cX7_chain 53 = .ok (.bipush 64, 2) := by decide +kernel
theorem dX7_chain_55 : decode cX7_chain 55 = .ok (.if_icmp .ge 178, 3) := by decide +kernel
theorem dX7_chain_58 : decode cX7_chain 58 = .ok (.iconst (-1), 1) := by decide +kernel
theorem dX7_chain_59 : decode cX7_chain 59 = .ok (.istore 4, 2) := by decide +kernel
theorem dX7_chain_61 : decode cX7_chain 61 = .ok (.iconst 0, 1) := by decide +kernel
theorem dX7_chain_62 : decode cX7_chain 62 = .ok (.istore 5, 2) := by decide +kernel
theorem dX7_chain_64 : decode cX7_chain 64 = .ok (.iload 5, 2) := by decide +kernel
theorem dX7_chain_66 : decode cX7_chain 66 = .ok (.bipush 6, 2) := by decide +kernel
theorem dX7_chain_68 : decode cX7_chain 68 = .ok (.if_icmp .ge 20, 3) := by decide +kernel
theorem dX7_chain_71 : decode cX7_chain 71 = .ok (.iload 4, 2) := by decide +kernel
theorem dX7_chain_73 : decode cX7_chain 73 = .ok (.iload_n 3, 1) := by decide +kernel
theorem dX7_chain_74 : decode cX7_chain 74 = .ok (.iload 5, 2) := by decide +kernel
theorem dX7_chain_76 : decode cX7_chain 76 = .ok (.ishr, 1) := by decide +kernel
theorem dX7_chain_77 : decode cX7_chain 77 = .ok (.iconst 1, 1) := by decide +kernel
theorem dX7_chain_78 : decode cX7_chain 78 = .ok (.iand, 1) := by decide +kernel
theorem dX7_chain_79 : decode cX7_chain 79 = .ok (.iadd, 1) := by decide +kernel
theorem dX7_chain_80 : decode cX7_chain 80 = .ok (.istore 4, 2) := by decide +kernel
theorem dX7_chain_82 : decode cX7_chain 82 = .ok (.iinc 5 1, 3) := by decide +kernel
theorem dX7_chain_85 : decode cX7_chain 85 = .ok (.goto (-21), 3) := by decide +kernel
theorem dX7_chain_88 : decode cX7_chain 88 = .ok (.iconst 0, 1) := by decide +kernel
theorem dX7_chain_89 : decode cX7_chain 89 = .ok (.istore 5, 2) := by decide +kernel
theorem dX7_chain_91 : decode cX7_chain 91 = .ok (.iload 5, 2) := by decide +kernel
theorem dX7_chain_93 : decode cX7_chain 93 = .ok (.aload_n 0, 1) := by decide +kernel
theorem dX7_chain_94 : decode cX7_chain 94 = .ok (.getfield 7, 3) := by decide +kernel
theorem dX7_chain_97 : decode cX7_chain 97 = .ok (.sipush 132, 3) := by decide +kernel
theorem dX7_chain_100 : decode cX7_chain 100 = .ok (.iaload, 1) := by decide +kernel
theorem dX7_chain_101 : decode cX7_chain 101 = .ok (.if_icmp .ge 126, 3) := by decide +kernel
theorem dX7_chain_104 : decode cX7_chain 104 = .ok (.aload_n 0, 1) := by decide +kernel
theorem dX7_chain_105 : decode cX7_chain 105 = .ok (.getfield 7, 3) := by decide +kernel
theorem dX7_chain_108 : decode cX7_chain 108 = .ok (.iload 5, 2) := by decide +kernel
theorem dX7_chain_110 : decode cX7_chain 110 = .ok (.iconst 1, 1) := by decide +kernel
theorem dX7_chain_111 : decode cX7_chain 111 = .ok (.invokestatic 69, 3) := by decide +kernel
theorem dX7_chain_114 : decode cX7_chain 114 = .ok (.iaload, 1) := by decide +kernel
theorem dX7_chain_115 : decode cX7_chain 115 = .ok (.istore 6, 2) := by decide +kernel
theorem dX7_chain_117 : decode cX7_chain 117 = .ok (.aload_n 0, 1) := by decide +kernel
theorem dX7_chain_118 : decode cX7_chain 118 = .ok (.getfield 7, 3) := by decide +kernel
theorem dX7_chain_121 : decode cX7_chain 121 = .ok (.iload 5, 2) := by decide +kernel
theorem dX7_chain_123 : decode cX7_chain 123 = .ok (.iconst 2, 1) := by decide +kernel
theorem dX7_chain_124 : decode cX7_chain 124 = .ok (.invokestatic 69, 3) := by decide +kernel
theorem dX7_chain_127 : decode cX7_chain 127 = .ok (.iaload, 1) := by decide +kernel
theorem dX7_chain_128 : decode cX7_chain 128 = .ok (.istore 7, 2) := by decide +kernel
theorem dX7_chain_130 : decode cX7_chain 130 = .ok (.aload_n 0, 1) := by decide +kernel
theorem dX7_chain_131 : decode cX7_chain 131 = .ok (.getfield 7, 3) := by decide +kernel
theorem dX7_chain_134 : decode cX7_chain 134 = .ok (.iload 5, 2) := by decide +kernel
theorem dX7_chain_136 : decode cX7_chain 136 = .ok (.iconst 3, 1) := by decide +kernel
theorem dX7_chain_137 : decode cX7_chain 137 = .ok (.invokestatic 69, 3) := by decide +kernel
theorem dX7_chain_140 : decode cX7_chain 140 = .ok (.iaload, 1) := by decide +kernel
theorem dX7_chain_141 : decode cX7_chain 141 = .ok (.iload_n 1, 1) := by decide +kernel
theorem dX7_chain_142 : decode cX7_chain 142 = .ok (.if_icmp .ne 31, 3) := by decide +kernel
theorem dX7_chain_145 : decode cX7_chain 145 = .ok (.aload_n 0, 1) := by decide +kernel
theorem dX7_chain_146 : decode cX7_chain 146 = .ok (.getfield 48, 3) := by decide +kernel
theorem dX7_chain_149 : decode cX7_chain 149 = .ok (.bipush 64, 2) := by decide +kernel
theorem dX7_chain_151 : decode cX7_chain 151 = .ok (.iload 6, 2) := by decide +kernel
theorem dX7_chain_153 : decode cX7_chain 153 = .ok (.imul, 1) := by decide +kernel
theorem dX7_chain_154 : decode cX7_chain 154 = .ok (.iload_n 3, 1) := by decide +kernel
theorem dX7_chain_155 : decode cX7_chain 155 = .ok (.iadd, 1) := by decide +kernel
theorem dX7_chain_156 : decode cX7_chain 156 = .ok (.baload, 1) := by decide +kernel
theorem dX7_chain_157 : decode cX7_chain 157 = .ok (.ifCond .eq 16, 3) := by decide +kernel
theorem dX7_chain_160 : decode cX7_chain 160 = .ok (.iload_n 3, 1) := by decide +kernel
theorem dX7_chain_161 : decode cX7_chain 161 = .ok (.iload 7, 2) := by decide +kernel
theorem dX7_chain_163 : decode cX7_chain 163 = .ok (.ishr, 1) := by decide +kernel
theorem dX7_chain_164 : decode cX7_chain 164 = .ok (.iconst 1, 1) := by decide +kernel
theorem dX7_chain_165 : decode cX7_chain 165 = .ok (.iand, 1) := by decide +kernel
theorem dX7_chain_166 : decode cX7_chain 166 = .ok (.ifCond .ne 7, 3) := by decide +kernel
theorem dX7_chain_169 : decode cX7_chain 169 = .ok (.iconst 1, 1) := by decide +kernel
theorem dX7_chain_170 : decode cX7_chain 170 = .ok (.goto 4, 3) := by decide +kernel
theorem dX7_chain_173 : decode cX7_chain 173 = .ok (.iconst 0, 1) := by decide +kernel
theorem dX7_chain_174 : decode cX7_chain 174 = .ok (.istore 8, 2) := by decide +kernel
theorem dX7_chain_176 : decode cX7_chain 176 = .ok (.iload 8, 2) := by decide +kernel
theorem dX7_chain_178 : decode cX7_chain 178 = .ok (.ifCond .eq 18, 3) := by decide +kernel
theorem dX7_chain_181 : decode cX7_chain 181 = .ok (.iload 4, 2) := by decide +kernel
theorem dX7_chain_183 : decode cX7_chain 183 = .ok (.iconst 1, 1) := by decide +kernel
theorem dX7_chain_184 : decode cX7_chain 184 = .ok (.iadd, 1) := by decide +kernel
theorem dX7_chain_185 : decode cX7_chain 185 = .ok (.iload_n 2, 1) := by decide +kernel
theorem dX7_chain_186 : decode cX7_chain 186 = .ok (.if_icmp .le 10, 3) := by decide +kernel
theorem dX7_chain_189 : decode cX7_chain 189 = .ok (.iload 4, 2) := by decide +kernel
theorem dX7_chain_191 : decode cX7_chain 191 = .ok (.iconst 1, 1) := by decide +kernel
theorem dX7_chain_192 : decode cX7_chain 192 = .ok (.iadd, 1) := by decide +kernel
theorem dX7_chain_193 : decode cX7_chain 193 = .ok (.goto 4, 3) := by decide +kernel
theorem dX7_chain_196 : decode cX7_chain 196 = .ok (.iload_n 2, 1) := by decide +kernel
theorem dX7_chain_197 : decode cX7_chain 197 = .ok (.istore_n 2, 1) := by decide +kernel
theorem dX7_chain_198 : decode cX7_chain 198 = .ok (.iload 8, 2) := by decide +kernel
theorem dX7_chain_200 : decode cX7_chain 200 = .ok (.ifCond .eq 21, 3) := by decide +kernel
theorem dX7_chain_203 : decode cX7_chain 203 = .ok (.aload_n 0, 1) := by decide +kernel
theorem dX7_chain_204 : decode cX7_chain 204 = .ok (.getfield 48, 3) := by decide +kernel
theorem dX7_chain_207 : decode cX7_chain 207 = .ok (.bipush 64, 2) := by decide +kernel
theorem dX7_chain_209 : decode cX7_chain 209 = .ok (.iload 7, 2) := by decide +kernel
theorem dX7_chain_211 : decode cX7_chain 211 = .ok (.imul, 1) := by decide +kernel
theorem dX7_chain_212 : decode cX7_chain 212 = .ok (.iload_n 3, 1) := by decide +kernel
theorem dX7_chain_213 : decode cX7_chain 213 = .ok (.iconst 1, 1) := by decide +kernel
theorem dX7_chain_214 : decode cX7_chain 214 = .ok (.iload 7, 2) := by decide +kernel
theorem dX7_chain_216 : decode cX7_chain 216 = .ok (.ishl, 1) := by decide +kernel
theorem dX7_chain_217 : decode cX7_chain 217 = .ok (.ior, 1) := by decide +kernel
theorem dX7_chain_218 : decode cX7_chain 218 = .ok (.iadd, 1) := by decide +kernel
theorem dX7_chain_219 : decode cX7_chain 219 = .ok (.iconst 1, 1) := by decide +kernel
theorem dX7_chain_220 : decode cX7_chain 220 = .ok (.bastore, 1) := by decide +kernel
theorem dX7_chain_221 : decode cX7_chain 221 = .ok (.iinc 5 1, 3) := by decide +kernel
theorem dX7_chain_224 : decode cX7_chain 224 = .ok (.goto (-133), 3) := by decide +kernel
theorem dX7_chain_227 : decode cX7_chain 227 = .ok (.iinc 3 1, 3) := by decide +kernel
theorem dX7_chain_230 : decode cX7_chain 230 = .ok (.goto (-178), 3) := by decide +kernel
theorem dX7_chain_233 : decode cX7_chain 233 = .ok (.iload_n 2, 1) := by decide +kernel
theorem dX7_chain_234 : decode cX7_chain 234 = .ok (.ireturn, 1) := by decide +kernel
theorem dX7_sumOfCells_0 : decode cX7_sumOfCells 0 = .ok (.iconst 0, 1) := by decide +kernel
theorem dX7_sumOfCells_1 : decode cX7_sumOfCells 1 = .ok (.istore_n 2, 1) := by decide +kernel
theorem dX7_sumOfCells_2 : decode cX7_sumOfCells 2 = .ok (.iconst 0, 1) := by decide +kernel
theorem dX7_sumOfCells_3 : decode cX7_sumOfCells 3 = .ok (.istore_n 3, 1) := by decide +kernel
theorem dX7_sumOfCells_4 : decode cX7_sumOfCells 4 = .ok (.iload_n 3, 1) := by decide +kernel
theorem dX7_sumOfCells_5 : decode cX7_sumOfCells 5 = .ok (.bipush 6, 2) := by decide +kernel
theorem dX7_sumOfCells_7 : decode cX7_sumOfCells 7 = .ok (.if_icmp .ge 59, 3) := by decide +kernel
theorem dX7_sumOfCells_10 : decode cX7_sumOfCells 10 = .ok (.iload_n 2, 1) := by decide +kernel
theorem dX7_sumOfCells_11 : decode cX7_sumOfCells 11 = .ok (.iload_n 1, 1) := by decide +kernel
theorem dX7_sumOfCells_12 : decode cX7_sumOfCells 12 = .ok (.iconst 2, 1) := by decide +kernel
theorem dX7_sumOfCells_13 : decode cX7_sumOfCells 13 = .ok (.if_icmp .ne 21, 3) := by decide +kernel
theorem dX7_sumOfCells_16 : decode cX7_sumOfCells 16 = .ok (.aload_n 0, 1) := by decide +kernel
theorem dX7_sumOfCells_17 : decode cX7_sumOfCells 17 = .ok (.iload_n 3, 1) := by decide +kernel
theorem dX7_sumOfCells_18 : decode cX7_sumOfCells 18 = .ok (.invokevirtual 187, 3) := by decide +kernel
theorem dX7_sumOfCells_21 : decode cX7_sumOfCells 21 = .ok (.bipush (-5), 2) := by decide +kernel
theorem dX7_sumOfCells_23 : decode cX7_sumOfCells 23 = .ok (.if_icmp .ne 7, 3) := by decide +kernel
theorem dX7_sumOfCells_26 : decode cX7_sumOfCells 26 = .ok (.iconst 0, 1) := by decide +kernel
theorem dX7_sumOfCells_27 : decode cX7_sumOfCells 27 = .ok (.goto 31, 3) := by decide +kernel
theorem dX7_sumOfCells_30 : decode cX7_sumOfCells 30 = .ok (.iconst 1, 1) := by decide +kernel
theorem dX7_sumOfCells_31 : decode cX7_sumOfCells 31 = .ok (.goto 27, 3) := by decide +kernel
theorem dX7_sumOfCells_34 : decode cX7_sumOfCells 34 = .ok (.iload_n 1, 1) := by decide +kernel
theorem dX7_sumOfCells_35 : decode cX7_sumOfCells 35 = .ok (.iconst 3, 1) := by decide +kernel
theorem dX7_sumOfCells_36 : decode cX7_sumOfCells 36 = .ok (.if_icmp .ne 15, 3) := by decide +kernel
theorem dX7_sumOfCells_39 : decode cX7_sumOfCells 39 = .ok (.aload_n 0, 1) := by decide +kernel
theorem dX7_sumOfCells_40 : decode cX7_sumOfCells 40 = .ok (.getfield 7, 3) := by decide +kernel
theorem dX7_sumOfCells_43 : decode cX7_sumOfCells 43 = .ok (.bipush 108, 2) := by decide +kernel
theorem dX7_sumOfCells_45 : decode cX7_sumOfCells 45 = .ok (.iload_n 3, 1) := by decide +kernel
theorem dX7_sumOfCells_46 : decode cX7_sumOfCells 46 = .ok (.iadd, 1) := by decide +kernel
theorem dX7_sumOfCells_47 : decode cX7_sumOfCells 47 = .ok (.iaload, 1) := by decide +kernel
theorem dX7_sumOfCells_48 : decode cX7_sumOfCells 48 = .ok (.goto 10, 3) := by decide +kernel
theorem dX7_sumOfCells_51 : decode cX7_sumOfCells 51 = .ok (.aload_n 0, 1) := by decide +kernel
theorem dX7_sumOfCells_52 : decode cX7_sumOfCells 52 = .ok (.iload_n 3, 1) := by decide +kernel
theorem dX7_sumOfCells_53 : decode cX7_sumOfCells 53 = .ok (.bipush 8, 2) := by decide +kernel
theorem dX7_sumOfCells_55 : decode cX7_sumOfCells 55 = .ok (.invokevirtual 184, 3) := by decide +kernel
theorem dX7_sumOfCells_58 : decode cX7_sumOfCells 58 = .ok (.iadd, 1) := by decide +kernel
theorem dX7_sumOfCells_59 : decode cX7_sumOfCells 59 = .ok (.istore_n 2, 1) := by decide +kernel
theorem dX7_sumOfCells_60 : decode cX7_sumOfCells 60 = .ok (.iinc 3 1, 3) := by decide +kernel
theorem dX7_sumOfCells_63 : decode cX7_sumOfCells 63 = .ok (.goto (-59), 3) := by decide +kernel
theorem dX7_sumOfCells_66 : decode cX7_sumOfCells 66 = .ok (.iload_n 2, 1) := by decide +kernel
theorem dX7_sumOfCells_67 : decode cX7_sumOfCells 67 = .ok (.ireturn, 1) := by decide +kernel
theorem dX7_count_0 : decode cX7_count 0 = .ok (.iload_n 1, 1) := by decide +kernel
theorem dX7_count_1 : decode cX7_count 1 = .ok (.tableswitch 103 0 8 #[51, 60, 69, 69, 75, 84, 69, 93, 98], 51) := by decide +kernel
theorem dX7_count_52 : decode cX7_count 52 = .ok (.aload_n 0, 1) := by decide +kernel
theorem dX7_count_53 : decode cX7_count 53 = .ok (.getfield 7, 3) := by decide +kernel
theorem dX7_count_56 : decode cX7_count 56 = .ok (.sipush 132, 3) := by decide +kernel
theorem dX7_count_59 : decode cX7_count 59 = .ok (.iaload, 1) := by decide +kernel
theorem dX7_count_60 : decode cX7_count 60 = .ok (.ireturn, 1) := by decide +kernel
theorem dX7_count_61 : decode cX7_count 61 = .ok (.aload_n 0, 1) := by decide +kernel
theorem dX7_count_62 : decode cX7_count 62 = .ok (.getfield 7, 3) := by decide +kernel
theorem dX7_count_65 : decode cX7_count 65 = .ok (.sipush 133, 3) := by decide +kernel
theorem dX7_count_68 : decode cX7_count 68 = .ok (.iaload, 1) := by decide +kernel
theorem dX7_count_69 : decode cX7_count 69 = .ok (.ireturn, 1) := by decide +kernel
theorem dX7_count_70 : decode cX7_count 70 = .ok (.aload_n 0, 1) := by decide +kernel
theorem dX7_count_71 : decode cX7_count 71 = .ok (.iload_n 1, 1) := by decide +kernel
theorem dX7_count_72 : decode cX7_count 72 = .ok (.invokevirtual 196, 3) := by decide +kernel
theorem dX7_count_75 : decode cX7_count 75 = .ok (.ireturn, 1) := by decide +kernel
theorem dX7_count_76 : decode cX7_count 76 = .ok (.aload_n 0, 1) := by decide +kernel
theorem dX7_count_77 : decode cX7_count 77 = .ok (.getfield 7, 3) := by decide +kernel
theorem dX7_count_80 : decode cX7_count 80 = .ok (.sipush 134, 3) := by decide +kernel
theorem dX7_count_83 : decode cX7_count 83 = .ok (.iaload, 1) := by decide +kernel
theorem dX7_count_84 : decode cX7_count 84 = .ok (.ireturn, 1) := by decide +kernel
theorem dX7_count_85 : decode cX7_count 85 = .ok (.aload_n 0, 1) := by decide +kernel
theorem dX7_count_86 : decode cX7_count 86 = .ok (.getfield 7, 3) := by decide +kernel
theorem dX7_count_89 : decode cX7_count 89 = .ok (.sipush 135, 3) := by decide +kernel
theorem dX7_count_92 : decode cX7_count 92 = .ok (.iaload, 1) := by decide +kernel
theorem dX7_count_93 : decode cX7_count 93 = .ok (.ireturn, 1) := by decide +kernel
theorem dX7_count_94 : decode cX7_count 94 = .ok (.aload_n 0, 1) := by decide +kernel
theorem dX7_count_95 : decode cX7_count 95 = .ok (.getfield 66, 3) := by decide +kernel
theorem dX7_count_98 : decode cX7_count 98 = .ok (.ireturn, 1) := by decide +kernel
theorem dX7_count_99 : decode cX7_count 99 = .ok (.aload_n 0, 1) := by decide +kernel
theorem dX7_count_100 : decode cX7_count 100 = .ok (.getfield 148, 3) := by decide +kernel
theorem dX7_count_103 : decode cX7_count 103 = .ok (.ireturn, 1) := by decide +kernel
theorem dX7_count_104 : decode cX7_count 104 = .ok (.bipush (-2), 2) := by decide +kernel
theorem dX7_count_106 : decode cX7_count 106 = .ok (.ireturn, 1) := by decide +kernel
theorem dJ6_bitCount_0f7a4_0 : decode cJ6_bitCount_0f7a4 0 = .ok (.iload_n 0, 1) := by decide +kernel
theorem dJ6_bitCount_0f7a4_1 : decode cJ6_bitCount_0f7a4 1 = .ok (.iload_n 0, 1) := by decide +kernel
theorem dJ6_bitCount_0f7a4_2 : decode cJ6_bitCount_0f7a4 2 = .ok (.iconst 1, 1) := by decide +kernel
theorem dJ6_bitCount_0f7a4_3 : decode cJ6_bitCount_0f7a4 3 = .ok (.iushr, 1) := by decide +kernel
theorem dJ6_bitCount_0f7a4_4 : decode cJ6_bitCount_0f7a4 4 = .ok (.ldc_w 265, 3) := by decide +kernel
theorem dJ6_bitCount_0f7a4_7 : decode cJ6_bitCount_0f7a4 7 = .ok (.iand, 1) := by decide +kernel
theorem dJ6_bitCount_0f7a4_8 : decode cJ6_bitCount_0f7a4 8 = .ok (.isub, 1) := by decide +kernel
theorem dJ6_bitCount_0f7a4_9 : decode cJ6_bitCount_0f7a4 9 = .ok (.istore_n 0, 1) := by decide +kernel
theorem dJ6_bitCount_0f7a4_10 : decode cJ6_bitCount_0f7a4 10 = .ok (.iload_n 0, 1) := by decide +kernel
theorem dJ6_bitCount_0f7a4_11 : decode cJ6_bitCount_0f7a4 11 = .ok (.ldc_w 266, 3) := by decide +kernel
theorem dJ6_bitCount_0f7a4_14 : decode cJ6_bitCount_0f7a4 14 = .ok (.iand, 1) := by decide +kernel
theorem dJ6_bitCount_0f7a4_15 : decode cJ6_bitCount_0f7a4 15 = .ok (.iload_n 0, 1) := by decide +kernel
theorem dJ6_bitCount_0f7a4_16 : decode cJ6_bitCount_0f7a4 16 = .ok (.iconst 2, 1) := by decide +kernel
theorem dJ6_bitCount_0f7a4_17 : decode cJ6_bitCount_0f7a4 17 = .ok (.iushr, 1) := by decide +kernel
theorem dJ6_bitCount_0f7a4_18 : decode cJ6_bitCount_0f7a4 18 = .ok (.ldc_w 266, 3) := by decide +kernel
theorem dJ6_bitCount_0f7a4_21 : decode cJ6_bitCount_0f7a4 21 = .ok (.iand, 1) := by decide +kernel
theorem dJ6_bitCount_0f7a4_22 : decode cJ6_bitCount_0f7a4 22 = .ok (.iadd, 1) := by decide +kernel
theorem dJ6_bitCount_0f7a4_23 : decode cJ6_bitCount_0f7a4 23 = .ok (.istore_n 0, 1) := by decide +kernel
theorem dJ6_bitCount_0f7a4_24 : decode cJ6_bitCount_0f7a4 24 = .ok (.iload_n 0, 1) := by decide +kernel
theorem dJ6_bitCount_0f7a4_25 : decode cJ6_bitCount_0f7a4 25 = .ok (.iload_n 0, 1) := by decide +kernel
theorem dJ6_bitCount_0f7a4_26 : decode cJ6_bitCount_0f7a4 26 = .ok (.iconst 4, 1) := by decide +kernel
theorem dJ6_bitCount_0f7a4_27 : decode cJ6_bitCount_0f7a4 27 = .ok (.iushr, 1) := by decide +kernel
theorem dJ6_bitCount_0f7a4_28 : decode cJ6_bitCount_0f7a4 28 = .ok (.iadd, 1) := by decide +kernel
theorem dJ6_bitCount_0f7a4_29 : decode cJ6_bitCount_0f7a4 29 = .ok (.ldc_w 267, 3) := by decide +kernel
theorem dJ6_bitCount_0f7a4_32 : decode cJ6_bitCount_0f7a4 32 = .ok (.iand, 1) := by decide +kernel
theorem dJ6_bitCount_0f7a4_33 : decode cJ6_bitCount_0f7a4 33 = .ok (.istore_n 0, 1) := by decide +kernel
theorem dJ6_bitCount_0f7a4_34 : decode cJ6_bitCount_0f7a4 34 = .ok (.iload_n 0, 1) := by decide +kernel
theorem dJ6_bitCount_0f7a4_35 : decode cJ6_bitCount_0f7a4 35 = .ok (.iload_n 0, 1) := by decide +kernel
theorem dJ6_bitCount_0f7a4_36 : decode cJ6_bitCount_0f7a4 36 = .ok (.bipush 8, 2) := by decide +kernel
theorem dJ6_bitCount_0f7a4_38 : decode cJ6_bitCount_0f7a4 38 = .ok (.iushr, 1) := by decide +kernel
theorem dJ6_bitCount_0f7a4_39 : decode cJ6_bitCount_0f7a4 39 = .ok (.iadd, 1) := by decide +kernel
theorem dJ6_bitCount_0f7a4_40 : decode cJ6_bitCount_0f7a4 40 = .ok (.istore_n 0, 1) := by decide +kernel
theorem dJ6_bitCount_0f7a4_41 : decode cJ6_bitCount_0f7a4 41 = .ok (.iload_n 0, 1) := by decide +kernel
theorem dJ6_bitCount_0f7a4_42 : decode cJ6_bitCount_0f7a4 42 = .ok (.iload_n 0, 1) := by decide +kernel
theorem dJ6_bitCount_0f7a4_43 : decode cJ6_bitCount_0f7a4 43 = .ok (.bipush 16, 2) := by decide +kernel
theorem dJ6_bitCount_0f7a4_45 : decode cJ6_bitCount_0f7a4 45 = .ok (.iushr, 1) := by decide +kernel
theorem dJ6_bitCount_0f7a4_46 : decode cJ6_bitCount_0f7a4 46 = .ok (.iadd, 1) := by decide +kernel
theorem dJ6_bitCount_0f7a4_47 : decode cJ6_bitCount_0f7a4 47 = .ok (.istore_n 0, 1) := by decide +kernel
theorem dJ6_bitCount_0f7a4_48 : decode cJ6_bitCount_0f7a4 48 = .ok (.iload_n 0, 1) := by decide +kernel
theorem dJ6_bitCount_0f7a4_49 : decode cJ6_bitCount_0f7a4 49 = .ok (.bipush 63, 2) := by decide +kernel
theorem dJ6_bitCount_0f7a4_51 : decode cJ6_bitCount_0f7a4 51 = .ok (.iand, 1) := by decide +kernel
theorem dJ6_bitCount_0f7a4_52 : decode cJ6_bitCount_0f7a4 52 = .ok (.ireturn, 1) := by decide +kernel
theorem dJ9_max_7cf53_0 : decode cJ9_max_7cf53 0 = .ok (.iload_n 0, 1) := by decide +kernel
theorem dJ9_max_7cf53_1 : decode cJ9_max_7cf53 1 = .ok (.iload_n 1, 1) := by decide +kernel
theorem dJ9_max_7cf53_2 : decode cJ9_max_7cf53 2 = .ok (.if_icmp .lt 7, 3) := by decide +kernel
theorem dJ9_max_7cf53_5 : decode cJ9_max_7cf53 5 = .ok (.iload_n 0, 1) := by decide +kernel
theorem dJ9_max_7cf53_6 : decode cJ9_max_7cf53 6 = .ok (.goto 4, 3) := by decide +kernel
theorem dJ9_max_7cf53_9 : decode cJ9_max_7cf53 9 = .ok (.iload_n 1, 1) := by decide +kernel
theorem dJ9_max_7cf53_10 : decode cJ9_max_7cf53 10 = .ok (.ireturn, 1) := by decide +kernel
theorem dJ9_min_7cf53_0 : decode cJ9_min_7cf53 0 = .ok (.iload_n 0, 1) := by decide +kernel
theorem dJ9_min_7cf53_1 : decode cJ9_min_7cf53 1 = .ok (.iload_n 1, 1) := by decide +kernel
theorem dJ9_min_7cf53_2 : decode cJ9_min_7cf53 2 = .ok (.if_icmp .gt 7, 3) := by decide +kernel
theorem dJ9_min_7cf53_5 : decode cJ9_min_7cf53 5 = .ok (.iload_n 0, 1) := by decide +kernel
theorem dJ9_min_7cf53_6 : decode cJ9_min_7cf53 6 = .ok (.goto 4, 3) := by decide +kernel
theorem dJ9_min_7cf53_9 : decode cJ9_min_7cf53 9 = .ok (.iload_n 1, 1) := by decide +kernel
theorem dJ9_min_7cf53_10 : decode cJ9_min_7cf53 10 = .ok (.ireturn, 1) := by decide +kernel
theorem dJ7_fill_53178_0 : decode cJ7_fill_53178 0 = .ok (.iconst 0, 1) := by decide +kernel
theorem dJ7_fill_53178_1 : decode cJ7_fill_53178 1 = .ok (.istore_n 2, 1) := by decide +kernel
theorem dJ7_fill_53178_2 : decode cJ7_fill_53178 2 = .ok (.aload_n 0, 1) := by decide +kernel
theorem dJ7_fill_53178_3 : decode cJ7_fill_53178 3 = .ok (.arraylength, 1) := by decide +kernel
theorem dJ7_fill_53178_4 : decode cJ7_fill_53178 4 = .ok (.istore_n 3, 1) := by decide +kernel
theorem dJ7_fill_53178_5 : decode cJ7_fill_53178 5 = .ok (.iload_n 2, 1) := by decide +kernel
theorem dJ7_fill_53178_6 : decode cJ7_fill_53178 6 = .ok (.iload_n 3, 1) := by decide +kernel
theorem dJ7_fill_53178_7 : decode cJ7_fill_53178 7 = .ok (.if_icmp .ge 13, 3) := by decide +kernel
theorem dJ7_fill_53178_10 : decode cJ7_fill_53178 10 = .ok (.aload_n 0, 1) := by decide +kernel
theorem dJ7_fill_53178_11 : decode cJ7_fill_53178 11 = .ok (.iload_n 2, 1) := by decide +kernel
theorem dJ7_fill_53178_12 : decode cJ7_fill_53178 12 = .ok (.iload_n 1, 1) := by decide +kernel
theorem dJ7_fill_53178_13 : decode cJ7_fill_53178 13 = .ok (.iastore, 1) := by decide +kernel
theorem dJ7_fill_53178_14 : decode cJ7_fill_53178 14 = .ok (.iinc 2 1, 3) := by decide +kernel
theorem dJ7_fill_53178_17 : decode cJ7_fill_53178 17 = .ok (.goto (-12), 3) := by decide +kernel
theorem dJ7_fill_53178_20 : decode cJ7_fill_53178 20 = .ok (.return_, 1) := by decide +kernel
theorem dL_law_0 : decode cL_law 0 = .ok (.new 7, 3) := by decide +kernel
theorem dL_law_3 : decode cL_law 3 = .ok (.dup, 1) := by decide +kernel
theorem dL_law_4 : decode cL_law 4 = .ok (.invokespecial 9, 3) := by decide +kernel
theorem dL_law_7 : decode cL_law 7 = .ok (.astore_n 1, 1) := by decide +kernel
theorem dL_law_8 : decode cL_law 8 = .ok (.new 10, 3) := by decide +kernel
theorem dL_law_11 : decode cL_law 11 = .ok (.dup, 1) := by decide +kernel
theorem dL_law_12 : decode cL_law 12 = .ok (.invokespecial 12, 3) := by decide +kernel
theorem dL_law_15 : decode cL_law 15 = .ok (.astore_n 2, 1) := by decide +kernel
theorem dL_law_16 : decode cL_law 16 = .ok (.iconst 0, 1) := by decide +kernel
theorem dL_law_17 : decode cL_law 17 = .ok (.istore_n 3, 1) := by decide +kernel
theorem dL_law_18 : decode cL_law 18 = .ok (.iload_n 3, 1) := by decide +kernel
theorem dL_law_19 : decode cL_law 19 = .ok (.aload_n 0, 1) := by decide +kernel
theorem dL_law_20 : decode cL_law 20 = .ok (.arraylength, 1) := by decide +kernel
theorem dL_law_21 : decode cL_law 21 = .ok (.iconst 5, 1) := by decide +kernel
theorem dL_law_22 : decode cL_law 22 = .ok (.isub, 1) := by decide +kernel
theorem dL_law_23 : decode cL_law 23 = .ok (.if_icmp .gt 826, 3) := by decide +kernel
theorem dL_law_26 : decode cL_law 26 = .ok (.aload_n 0, 1) := by decide +kernel
theorem dL_law_27 : decode cL_law 27 = .ok (.iload_n 3, 1) := by decide +kernel
theorem dL_law_28 : decode cL_law 28 = .ok (.iaload, 1) := by decide +kernel
theorem dL_law_29 : decode cL_law 29 = .ok (.bipush 31, 2) := by decide +kernel
theorem dL_law_31 : decode cL_law 31 = .ok (.iand, 1) := by decide +kernel
theorem dL_law_32 : decode cL_law 32 = .ok (.tableswitch 811 0 22 #[108, 161, 204, 227, 260, 319, 362, 395, 454, 477, 510, 535, 548, 561, 584, 597, 610, 623, 656, 699, 732, 765, 788], 108) := by decide +kernel
theorem dL_law_140 : decode cL_law 140 = .ok (.aload_n 1, 1) := by decide +kernel
theorem dL_law_141 : decode cL_law 141 = .ok (.aload_n 0, 1) := by decide +kernel
theorem dL_law_142 : decode cL_law 142 = .ok (.iload_n 3, 1) := by decide +kernel
theorem dL_law_143 : decode cL_law 143 = .ok (.iconst 1, 1) := by decide +kernel
theorem dL_law_144 : decode cL_law 144 = .ok (.iadd, 1) := by decide +kernel
theorem dL_law_145 : decode cL_law 145 = .ok (.iaload, 1) := by decide +kernel
theorem dL_law_146 : decode cL_law 146 = .ok (.aload_n 0, 1) := by decide +kernel
theorem dL_law_147 : decode cL_law 147 = .ok (.iload_n 3, 1) := by decide +kernel
theorem dL_law_148 : decode cL_law 148 = .ok (.iconst 2, 1) := by decide +kernel
theorem dL_law_149 : decode cL_law 149 = .ok (.iadd, 1) := by decide +kernel
theorem dL_law_150 : decode cL_law 150 = .ok (.iaload, 1) := by decide +kernel
theorem dL_law_151 : decode cL_law 151 = .ok (.aload_n 0, 1) := by decide +kernel
theorem dL_law_152 : decode cL_law 152 = .ok (.iload_n 3, 1) := by decide +kernel
theorem dL_law_153 : decode cL_law 153 = .ok (.iconst 3, 1) := by decide +kernel
theorem dL_law_154 : decode cL_law 154 = .ok (.iadd, 1) := by decide +kernel
theorem dL_law_155 : decode cL_law 155 = .ok (.iaload, 1) := by decide +kernel
theorem dL_law_156 : decode cL_law 156 = .ok (.aload_n 0, 1) := by decide +kernel
theorem dL_law_157 : decode cL_law 157 = .ok (.iload_n 3, 1) := by decide +kernel
theorem dL_law_158 : decode cL_law 158 = .ok (.iconst 4, 1) := by decide +kernel
theorem dL_law_159 : decode cL_law 159 = .ok (.iadd, 1) := by decide +kernel
theorem dL_law_160 : decode cL_law 160 = .ok (.iaload, 1) := by decide +kernel
theorem dL_law_161 : decode cL_law 161 = .ok (.invokevirtual 13, 3) := by decide +kernel
theorem dL_law_164 : decode cL_law 164 = .ok (.aload_n 2, 1) := by decide +kernel
theorem dL_law_165 : decode cL_law 165 = .ok (.aload_n 0, 1) := by decide +kernel
theorem dL_law_166 : decode cL_law 166 = .ok (.iload_n 3, 1) := by decide +kernel
theorem dL_law_167 : decode cL_law 167 = .ok (.iconst 1, 1) := by decide +kernel
theorem dL_law_168 : decode cL_law 168 = .ok (.iadd, 1) := by decide +kernel
theorem dL_law_169 : decode cL_law 169 = .ok (.iaload, 1) := by decide +kernel
theorem dL_law_170 : decode cL_law 170 = .ok (.aload_n 0, 1) := by decide +kernel
theorem dL_law_171 : decode cL_law 171 = .ok (.iload_n 3, 1) := by decide +kernel
theorem dL_law_172 : decode cL_law 172 = .ok (.iconst 2, 1) := by decide +kernel
theorem dL_law_173 : decode cL_law 173 = .ok (.iadd, 1) := by decide +kernel
theorem dL_law_174 : decode cL_law 174 = .ok (.iaload, 1) := by decide +kernel
theorem dL_law_175 : decode cL_law 175 = .ok (.aload_n 0, 1) := by decide +kernel
theorem dL_law_176 : decode cL_law 176 = .ok (.iload_n 3, 1) := by decide +kernel
theorem dL_law_177 : decode cL_law 177 = .ok (.iconst 3, 1) := by decide +kernel
theorem dL_law_178 : decode cL_law 178 = .ok (.iadd, 1) := by decide +kernel
theorem dL_law_179 : decode cL_law 179 = .ok (.iaload, 1) := by decide +kernel
theorem dL_law_180 : decode cL_law 180 = .ok (.aload_n 0, 1) := by decide +kernel
theorem dL_law_181 : decode cL_law 181 = .ok (.iload_n 3, 1) := by decide +kernel
theorem dL_law_182 : decode cL_law 182 = .ok (.iconst 4, 1) := by decide +kernel
theorem dL_law_183 : decode cL_law 183 = .ok (.iadd, 1) := by decide +kernel
theorem dL_law_184 : decode cL_law 184 = .ok (.iaload, 1) := by decide +kernel
theorem dL_law_185 : decode cL_law 185 = .ok (.invokevirtual 17, 3) := by decide +kernel
theorem dL_law_188 : decode cL_law 188 = .ok (.if_icmp .eq 655, 3) := by decide +kernel
theorem dL_law_191 : decode cL_law 191 = .ok (.iconst 0, 1) := by decide +kernel
theorem dL_law_192 : decode cL_law 192 = .ok (.ireturn, 1) := by decide +kernel
theorem dL_law_193 : decode cL_law 193 = .ok (.aload_n 1, 1) := by decide +kernel
theorem dL_law_194 : decode cL_law 194 = .ok (.aload_n 0, 1) := by decide +kernel
theorem dL_law_195 : decode cL_law 195 = .ok (.iload_n 3, 1) := by decide +kernel
theorem dL_law_196 : decode cL_law 196 = .ok (.iconst 1, 1) := by decide +kernel
theorem dL_law_197 : decode cL_law 197 = .ok (.iadd, 1) := by decide +kernel
theorem dL_law_198 : decode cL_law 198 = .ok (.iaload, 1) := by decide +kernel
theorem dL_law_199 : decode cL_law 199 = .ok (.aload_n 0, 1) := by decide +kernel
theorem dL_law_200 : decode cL_law 200 = .ok (.iload_n 3, 1) := by decide +kernel
theorem dL_law_201 : decode cL_law 201 = .ok (.iconst 2, 1) := by decide +kernel
theorem dL_law_202 : decode cL_law 202 = .ok (.iadd, 1) := by decide +kernel
theorem dL_law_203 : decode cL_law 203 = .ok (.iaload, 1) := by decide +kernel
theorem dL_law_204 : decode cL_law 204 = .ok (.aload_n 0, 1) := by decide +kernel
theorem dL_law_205 : decode cL_law 205 = .ok (.iload_n 3, 1) := by decide +kernel
theorem dL_law_206 : decode cL_law 206 = .ok (.iconst 3, 1) := by decide +kernel
theorem dL_law_207 : decode cL_law 207 = .ok (.iadd, 1) := by decide +kernel
theorem dL_law_208 : decode cL_law 208 = .ok (.iaload, 1) := by decide +kernel
theorem dL_law_209 : decode cL_law 209 = .ok (.invokevirtual 18, 3) := by decide +kernel
theorem dL_law_212 : decode cL_law 212 = .ok (.aload_n 2, 1) := by decide +kernel
theorem dL_law_213 : decode cL_law 213 = .ok (.aload_n 0, 1) := by decide +kernel
theorem dL_law_214 : decode cL_law 214 = .ok (.iload_n 3, 1) := by decide +kernel
theorem dL_law_215 : decode cL_law 215 = .ok (.iconst 1, 1) := by decide +kernel
theorem dL_law_216 : decode cL_law 216 = .ok (.iadd, 1) := by decide +kernel
theorem dL_law_217 : decode cL_law 217 = .ok (.iaload, 1) := by decide +kernel
theorem dL_law_218 : decode cL_law 218 = .ok (.aload_n 0, 1) := by decide +kernel
theorem dL_law_219 : decode cL_law 219 = .ok (.iload_n 3, 1) := by decide +kernel
theorem dL_law_220 : decode cL_law 220 = .ok (.iconst 2, 1) := by decide +kernel
theorem dL_law_221 : decode cL_law 221 = .ok (.iadd, 1) := by decide +kernel
theorem dL_law_222 : decode cL_law 222 = .ok (.iaload, 1) := by decide +kernel
theorem dL_law_223 : decode cL_law 223 = .ok (.aload_n 0, 1) := by decide +kernel
theorem dL_law_224 : decode cL_law 224 = .ok (.iload_n 3, 1) := by decide +kernel
theorem dL_law_225 : decode cL_law 225 = .ok (.iconst 3, 1) := by decide +kernel
theorem dL_law_226 : decode cL_law 226 = .ok (.iadd, 1) := by decide +kernel
theorem dL_law_227 : decode cL_law 227 = .ok (.iaload, 1) := by decide +kernel
theorem dL_law_228 : decode cL_law 228 = .ok (.invokevirtual 22, 3) := by decide +kernel
theorem dL_law_231 : decode cL_law 231 = .ok (.if_icmp .eq 612, 3) := by decide +kernel
theorem dL_law_234 : decode cL_law 234 = .ok (.iconst 0, 1) := by decide +kernel
theorem dL_law_235 : decode cL_law 235 = .ok (.ireturn, 1) := by decide +kernel
theorem dL_law_236 : decode cL_law 236 = .ok (.aload_n 1, 1) := by decide +kernel
theorem dL_law_237 : decode cL_law 237 = .ok (.aload_n 0, 1) := by decide +kernel
theorem dL_law_238 : decode cL_law 238 = .ok (.iload_n 3, 1) := by decide +kernel
theorem dL_law_239 : decode cL_law 239 = .ok (.iconst 1, 1) := by decide +kernel
theorem dL_law_240 : decode cL_law 240 = .ok (.iadd, 1) := by decide +kernel
theorem dL_law_241 : decode cL_law 241 = .ok (.iaload, 1) := by decide +kernel
theorem dL_law_242 : decode cL_law 242 = .ok (.invokevirtual 23, 3) := by decide +kernel
theorem dL_law_245 : decode cL_law 245 = .ok (.aload_n 2, 1) := by decide +kernel
theorem dL_law_246 : decode cL_law 246 = .ok (.aload_n 0, 1) := by decide +kernel
theorem dL_law_247 : decode cL_law 247 = .ok (.iload_n 3, 1) := by decide +kernel
theorem dL_law_248 : decode cL_law 248 = .ok (.iconst 1, 1) := by decide +kernel
theorem dL_law_249 : decode cL_law 249 = .ok (.iadd, 1) := by decide +kernel
theorem dL_law_250 : decode cL_law 250 = .ok (.iaload, 1) := by decide +kernel
theorem dL_law_251 : decode cL_law 251 = .ok (.invokevirtual 27, 3) := by decide +kernel
theorem dL_law_254 : decode cL_law 254 = .ok (.if_icmp .eq 589, 3) := by decide +kernel
theorem dL_law_257 : decode cL_law 257 = .ok (.iconst 0, 1) := by decide +kernel
theorem dL_law_258 : decode cL_law 258 = .ok (.ireturn, 1) := by decide +kernel
theorem dL_law_259 : decode cL_law 259 = .ok (.aload_n 1, 1) := by decide +kernel
theorem dL_law_260 : decode cL_law 260 = .ok (.aload_n 0, 1) := by decide +kernel
theorem dL_law_261 : decode cL_law 261 = .ok (.iload_n 3, 1) := by decide +kernel
theorem dL_law_262 : decode cL_law 262 = .ok (.iconst 1, 1) := by decide +kernel
theorem dL_law_263 : decode cL_law 263 = .ok (.iadd, 1) := by decide +kernel
theorem dL_law_264 : decode cL_law 264 = .ok (.iaload, 1) := by decide +kernel
theorem dL_law_265 : decode cL_law 265 = .ok (.aload_n 0, 1) := by decide +kernel
theorem dL_law_266 : decode cL_law 266 = .ok (.iload_n 3, 1) := by decide +kernel
theorem dL_law_267 : decode cL_law 267 = .ok (.iconst 2, 1) := by decide +kernel
theorem dL_law_268 : decode cL_law 268 = .ok (.iadd, 1) := by decide +kernel
theorem dL_law_269 : decode cL_law 269 = .ok (.iaload, 1) := by decide +kernel
theorem dL_law_270 : decode cL_law 270 = .ok (.invokevirtual 28, 3) := by decide +kernel
theorem dL_law_273 : decode cL_law 273 = .ok (.aload_n 2, 1) := by decide +kernel
theorem dL_law_274 : decode cL_law 274 = .ok (.aload_n 0, 1) := by decide +kernel
theorem dL_law_275 : decode cL_law 275 = .ok (.iload_n 3, 1) := by decide +kernel
theorem dL_law_276 : decode cL_law 276 = .ok (.iconst 1, 1) := by decide +kernel
theorem dL_law_277 : decode cL_law 277 = .ok (.iadd, 1) := by decide +kernel
theorem dL_law_278 : decode cL_law 278 = .ok (.iaload, 1) := by decide +kernel
theorem dL_law_279 : decode cL_law 279 = .ok (.aload_n 0, 1) := by decide +kernel
theorem dL_law_280 : decode cL_law 280 = .ok (.iload_n 3, 1) := by decide +kernel
theorem dL_law_281 : decode cL_law 281 = .ok (.iconst 2, 1) := by decide +kernel
theorem dL_law_282 : decode cL_law 282 = .ok (.iadd, 1) := by decide +kernel
theorem dL_law_283 : decode cL_law 283 = .ok (.iaload, 1) := by decide +kernel
theorem dL_law_284 : decode cL_law 284 = .ok (.invokevirtual 32, 3) := by decide +kernel
theorem dL_law_287 : decode cL_law 287 = .ok (.if_icmp .eq 556, 3) := by decide +kernel
theorem dL_law_290 : decode cL_law 290 = .ok (.iconst 0, 1) := by decide +kernel
theorem dL_law_291 : decode cL_law 291 = .ok (.ireturn, 1) := by decide +kernel
theorem dL_law_292 : decode cL_law 292 = .ok (.aload_n 1, 1) := by decide +kernel
theorem dL_law_293 : decode cL_law 293 = .ok (.aload_n 0, 1) := by decide +kernel
theorem dL_law_294 : decode cL_law 294 = .ok (.iload_n 3, 1) := by decide +kernel
theorem dL_law_295 : decode cL_law 295 = .ok (.iconst 1, 1) := by decide +kernel
theorem dL_law_296 : decode cL_law 296 = .ok (.iadd, 1) := by decide +kernel
theorem dL_law_297 : decode cL_law 297 = .ok (.iaload, 1) := by decide +kernel
theorem dL_law_298 : decode cL_law 298 = .ok (.aload_n 0, 1) := by decide +kernel
theorem dL_law_299 : decode cL_law 299 = .ok (.iload_n 3, 1) := by decide +kernel
theorem dL_law_300 : decode cL_law 300 = .ok (.iconst 2, 1) := by decide +kernel
theorem dL_law_301 : decode cL_law 301 = .ok (.iadd, 1) := by decide +kernel
theorem dL_law_302 : decode cL_law 302 = .ok (.iaload, 1) := by decide +kernel
theorem dL_law_303 : decode cL_law 303 = .ok (.aload_n 0, 1) := by decide +kernel
theorem dL_law_304 : decode cL_law 304 = .ok (.iload_n 3, 1) := by decide +kernel
theorem dL_law_305 : decode cL_law 305 = .ok (.iconst 3, 1) := by decide +kernel
theorem dL_law_306 : decode cL_law 306 = .ok (.iadd, 1) := by decide +kernel
theorem dL_law_307 : decode cL_law 307 = .ok (.iaload, 1) := by decide +kernel
theorem dL_law_308 : decode cL_law 308 = .ok (.ifCond .eq 7, 3) := by decide +kernel
theorem dL_law_311 : decode cL_law 311 = .ok (.iconst 1, 1) := by decide +kernel
theorem dL_law_312 : decode cL_law 312 = .ok (.goto 4, 3) := by decide +kernel
theorem dL_law_315 : decode cL_law 315 = .ok (.iconst 0, 1) := by decide +kernel
theorem dL_law_316 : decode cL_law 316 = .ok (.invokevirtual 33, 3) := by decide +kernel
theorem dL_law_319 : decode cL_law 319 = .ok (.aload_n 2, 1) := by decide +kernel
theorem dL_law_320 : decode cL_law 320 = .ok (.aload_n 0, 1) := by decide +kernel
theorem dL_law_321 : decode cL_law 321 = .ok (.iload_n 3, 1) := by decide +kernel
theorem dL_law_322 : decode cL_law 322 = .ok (.iconst 1, 1) := by decide +kernel
theorem dL_law_323 : decode cL_law 323 = .ok (.iadd, 1) := by decide +kernel
theorem dL_law_324 : decode cL_law 324 = .ok (.iaload, 1) := by decide +kernel
theorem dL_law_325 : decode cL_law 325 = .ok (.aload_n 0, 1) := by decide +kernel
theorem dL_law_326 : decode cL_law 326 = .ok (.iload_n 3, 1) := by decide +kernel
theorem dL_law_327 : decode cL_law 327 = .ok (.iconst 2, 1) := by decide +kernel
theorem dL_law_328 : decode cL_law 328 = .ok (.iadd, 1) := by decide +kernel
theorem dL_law_329 : decode cL_law 329 = .ok (.iaload, 1) := by decide +kernel
theorem dL_law_330 : decode cL_law 330 = .ok (.aload_n 0, 1) := by decide +kernel
theorem dL_law_331 : decode cL_law 331 = .ok (.iload_n 3, 1) := by decide +kernel
theorem dL_law_332 : decode cL_law 332 = .ok (.iconst 3, 1) := by decide +kernel
theorem dL_law_333 : decode cL_law 333 = .ok (.iadd, 1) := by decide +kernel
theorem dL_law_334 : decode cL_law 334 = .ok (.iaload, 1) := by decide +kernel
theorem dL_law_335 : decode cL_law 335 = .ok (.ifCond .eq 7, 3) := by decide +kernel
theorem dL_law_338 : decode cL_law 338 = .ok (.iconst 1, 1) := by decide +kernel
theorem dL_law_339 : decode cL_law 339 = .ok (.goto 4, 3) := by decide +kernel
theorem dL_law_342 : decode cL_law 342 = .ok (.iconst 0, 1) := by decide +kernel
theorem dL_law_343 : decode cL_law 343 = .ok (.invokevirtual 37, 3) := by decide +kernel
theorem dL_law_346 : decode cL_law 346 = .ok (.if_icmp .eq 497, 3) := by decide +kernel
theorem dL_law_349 : decode cL_law 349 = .ok (.iconst 0, 1) := by decide +kernel
theorem dL_law_350 : decode cL_law 350 = .ok (.ireturn, 1) := by decide +kernel
theorem dL_law_351 : decode cL_law 351 = .ok (.aload_n 1, 1) := by decide +kernel
theorem dL_law_352 : decode cL_law 352 = .ok (.aload_n 0, 1) := by decide +kernel
theorem dL_law_353 : decode cL_law 353 = .ok (.iload_n 3, 1) := by decide +kernel
theorem dL_law_354 : decode cL_law 354 = .ok (.iconst 1, 1) := by decide +kernel
theorem dL_law_355 : decode cL_law 355 = .ok (.iadd, 1) := by decide +kernel
theorem dL_law_356 : decode cL_law 356 = .ok (.iaload, 1) := by decide +kernel
theorem dL_law_357 : decode cL_law 357 = .ok (.aload_n 0, 1) := by decide +kernel
theorem dL_law_358 : decode cL_law 358 = .ok (.iload_n 3, 1) := by decide +kernel
theorem dL_law_359 : decode cL_law 359 = .ok (.iconst 2, 1) := by decide +kernel
theorem dL_law_360 : decode cL_law 360 = .ok (.iadd, 1) := by decide +kernel
theorem dL_law_361 : decode cL_law 361 = .ok (.iaload, 1) := by decide +kernel
theorem dL_law_362 : decode cL_law 362 = .ok (.aload_n 0, 1) := by decide +kernel
theorem dL_law_363 : decode cL_law 363 = .ok (.iload_n 3, 1) := by decide +kernel
theorem dL_law_364 : decode cL_law 364 = .ok (.iconst 3, 1) := by decide +kernel
theorem dL_law_365 : decode cL_law 365 = .ok (.iadd, 1) := by decide +kernel
theorem dL_law_366 : decode cL_law 366 = .ok (.iaload, 1) := by decide +kernel
theorem dL_law_367 : decode cL_law 367 = .ok (.invokevirtual 38, 3) := by decide +kernel
theorem dL_law_370 : decode cL_law 370 = .ok (.aload_n 2, 1) := by decide +kernel
theorem dL_law_371 : decode cL_law 371 = .ok (.aload_n 0, 1) := by decide +kernel
theorem dL_law_372 : decode cL_law 372 = .ok (.iload_n 3, 1) := by decide +kernel
theorem dL_law_373 : decode cL_law 373 = .ok (.iconst 1, 1) := by decide +kernel
theorem dL_law_374 : decode cL_law 374 = .ok (.iadd, 1) := by decide +kernel
theorem dL_law_375 : decode cL_law 375 = .ok (.iaload, 1) := by decide +kernel
theorem dL_law_376 : decode cL_law 376 = .ok (.aload_n 0, 1) := by decide +kernel
theorem dL_law_377 : decode cL_law 377 = .ok (.iload_n 3, 1) := by decide +kernel
theorem dL_law_378 : decode cL_law 378 = .ok (.iconst 2, 1) := by decide +kernel
theorem dL_law_379 : decode cL_law 379 = .ok (.iadd, 1) := by decide +kernel
theorem dL_law_380 : decode cL_law 380 = .ok (.iaload, 1) := by decide +kernel
theorem dL_law_381 : decode cL_law 381 = .ok (.aload_n 0, 1) := by decide +kernel
theorem dL_law_382 : decode cL_law 382 = .ok (.iload_n 3, 1) := by decide +kernel
theorem dL_law_383 : decode cL_law 383 = .ok (.iconst 3, 1) := by decide +kernel
theorem dL_law_384 : decode cL_law 384 = .ok (.iadd, 1) := by decide +kernel
theorem dL_law_385 : decode cL_law 385 = .ok (.iaload, 1) := by decide +kernel
theorem dL_law_386 : decode cL_law 386 = .ok (.invokevirtual 41, 3) := by decide +kernel
theorem dL_law_389 : decode cL_law 389 = .ok (.if_icmp .eq 454, 3) := by decide +kernel
theorem dL_law_392 : decode cL_law 392 = .ok (.iconst 0, 1) := by decide +kernel
theorem dL_law_393 : decode cL_law 393 = .ok (.ireturn, 1) := by decide +kernel
theorem dL_law_394 : decode cL_law 394 = .ok (.aload_n 1, 1) := by decide +kernel
theorem dL_law_395 : decode cL_law 395 = .ok (.aload_n 0, 1) := by decide +kernel
theorem dL_law_396 : decode cL_law 396 = .ok (.iload_n 3, 1) := by decide +kernel
theorem dL_law_397 : decode cL_law 397 = .ok (.iconst 1, 1) := by decide +kernel
theorem dL_law_398 : decode cL_law 398 = .ok (.iadd, 1) := by decide +kernel
theorem dL_law_399 : decode cL_law 399 = .ok (.iaload, 1) := by decide +kernel
theorem dL_law_400 : decode cL_law 400 = .ok (.aload_n 0, 1) := by decide +kernel
theorem dL_law_401 : decode cL_law 401 = .ok (.iload_n 3, 1) := by decide +kernel
theorem dL_law_402 : decode cL_law 402 = .ok (.iconst 2, 1) := by decide +kernel
theorem dL_law_403 : decode cL_law 403 = .ok (.iadd, 1) := by decide +kernel
theorem dL_law_404 : decode cL_law 404 = .ok (.iaload, 1) := by decide +kernel
theorem dL_law_405 : decode cL_law 405 = .ok (.invokevirtual 42, 3) := by decide +kernel
theorem dL_law_408 : decode cL_law 408 = .ok (.aload_n 2, 1) := by decide +kernel
theorem dL_law_409 : decode cL_law 409 = .ok (.aload_n 0, 1) := by decide +kernel
theorem dL_law_410 : decode cL_law 410 = .ok (.iload_n 3, 1) := by decide +kernel
theorem dL_law_411 : decode cL_law 411 = .ok (.iconst 1, 1) := by decide +kernel
theorem dL_law_412 : decode cL_law 412 = .ok (.iadd, 1) := by decide +kernel
theorem dL_law_413 : decode cL_law 413 = .ok (.iaload, 1) := by decide +kernel
theorem dL_law_414 : decode cL_law 414 = .ok (.aload_n 0, 1) := by decide +kernel
theorem dL_law_415 : decode cL_law 415 = .ok (.iload_n 3, 1) := by decide +kernel
theorem dL_law_416 : decode cL_law 416 = .ok (.iconst 2, 1) := by decide +kernel
theorem dL_law_417 : decode cL_law 417 = .ok (.iadd, 1) := by decide +kernel
theorem dL_law_418 : decode cL_law 418 = .ok (.iaload, 1) := by decide +kernel
theorem dL_law_419 : decode cL_law 419 = .ok (.invokevirtual 45, 3) := by decide +kernel
theorem dL_law_422 : decode cL_law 422 = .ok (.if_icmp .eq 421, 3) := by decide +kernel
theorem dL_law_425 : decode cL_law 425 = .ok (.iconst 0, 1) := by decide +kernel
theorem dL_law_426 : decode cL_law 426 = .ok (.ireturn, 1) := by decide +kernel
theorem dL_law_427 : decode cL_law 427 = .ok (.aload_n 1, 1) := by decide +kernel
theorem dL_law_428 : decode cL_law 428 = .ok (.aload_n 0, 1) := by decide +kernel
theorem dL_law_429 : decode cL_law 429 = .ok (.iload_n 3, 1) := by decide +kernel
theorem dL_law_430 : decode cL_law 430 = .ok (.iconst 1, 1) := by decide +kernel
theorem dL_law_431 : decode cL_law 431 = .ok (.iadd, 1) := by decide +kernel
theorem dL_law_432 : decode cL_law 432 = .ok (.iaload, 1) := by decide +kernel
theorem dL_law_433 : decode cL_law 433 = .ok (.aload_n 0, 1) := by decide +kernel
theorem dL_law_434 : decode cL_law 434 = .ok (.iload_n 3, 1) := by decide +kernel
theorem dL_law_435 : decode cL_law 435 = .ok (.iconst 2, 1) := by decide +kernel
theorem dL_law_436 : decode cL_law 436 = .ok (.iadd, 1) := by decide +kernel
theorem dL_law_437 : decode cL_law 437 = .ok (.iaload, 1) := by decide +kernel
theorem dL_law_438 : decode cL_law 438 = .ok (.aload_n 0, 1) := by decide +kernel
theorem dL_law_439 : decode cL_law 439 = .ok (.iload_n 3, 1) := by decide +kernel
theorem dL_law_440 : decode cL_law 440 = .ok (.iconst 3, 1) := by decide +kernel
theorem dL_law_441 : decode cL_law 441 = .ok (.iadd, 1) := by decide +kernel
theorem dL_law_442 : decode cL_law 442 = .ok (.iaload, 1) := by decide +kernel
theorem dL_law_443 : decode cL_law 443 = .ok (.ifCond .eq 7, 3) := by decide +kernel
theorem dL_law_446 : decode cL_law 446 = .ok (.iconst 1, 1) := by decide +kernel
theorem dL_law_447 : decode cL_law 447 = .ok (.goto 4, 3) := by decide +kernel
theorem dL_law_450 : decode cL_law 450 = .ok (.iconst 0, 1) := by decide +kernel
theorem dL_law_451 : decode cL_law 451 = .ok (.invokevirtual 46, 3) := by decide +kernel
theorem dL_law_454 : decode cL_law 454 = .ok (.aload_n 2, 1) := by decide +kernel
theorem dL_law_455 : decode cL_law 455 = .ok (.aload_n 0, 1) := by decide +kernel
theorem dL_law_456 : decode cL_law 456 = .ok (.iload_n 3, 1) := by decide +kernel
theorem dL_law_457 : decode cL_law 457 = .ok (.iconst 1, 1) := by decide +kernel
theorem dL_law_458 : decode cL_law 458 = .ok (.iadd, 1) := by decide +kernel
theorem dL_law_459 : decode cL_law 459 = .ok (.iaload, 1) := by decide +kernel
theorem dL_law_460 : decode cL_law 460 = .ok (.aload_n 0, 1) := by decide +kernel
theorem dL_law_461 : decode cL_law 461 = .ok (.iload_n 3, 1) := by decide +kernel
theorem dL_law_462 : decode cL_law 462 = .ok (.iconst 2, 1) := by decide +kernel
theorem dL_law_463 : decode cL_law 463 = .ok (.iadd, 1) := by decide +kernel
theorem dL_law_464 : decode cL_law 464 = .ok (.iaload, 1) := by decide +kernel
theorem dL_law_465 : decode cL_law 465 = .ok (.aload_n 0, 1) := by decide +kernel
theorem dL_law_466 : decode cL_law 466 = .ok (.iload_n 3, 1) := by decide +kernel
theorem dL_law_467 : decode cL_law 467 = .ok (.iconst 3, 1) := by decide +kernel
theorem dL_law_468 : decode cL_law 468 = .ok (.iadd, 1) := by decide +kernel
theorem dL_law_469 : decode cL_law 469 = .ok (.iaload, 1) := by decide +kernel
theorem dL_law_470 : decode cL_law 470 = .ok (.ifCond .eq 7, 3) := by decide +kernel
theorem dL_law_473 : decode cL_law 473 = .ok (.iconst 1, 1) := by decide +kernel
theorem dL_law_474 : decode cL_law 474 = .ok (.goto 4, 3) := by decide +kernel
theorem dL_law_477 : decode cL_law 477 = .ok (.iconst 0, 1) := by decide +kernel
theorem dL_law_478 : decode cL_law 478 = .ok (.invokevirtual 49, 3) := by decide +kernel
theorem dL_law_481 : decode cL_law 481 = .ok (.if_icmp .eq 362, 3) := by decide +kernel
theorem dL_law_484 : decode cL_law 484 = .ok (.iconst 0, 1) := by decide +kernel
theorem dL_law_485 : decode cL_law 485 = .ok (.ireturn, 1) := by decide +kernel
theorem dL_law_486 : decode cL_law 486 = .ok (.aload_n 1, 1) := by decide +kernel
theorem dL_law_487 : decode cL_law 487 = .ok (.aload_n 0, 1) := by decide +kernel
theorem dL_law_488 : decode cL_law 488 = .ok (.iload_n 3, 1) := by decide +kernel
theorem dL_law_489 : decode cL_law 489 = .ok (.iconst 1, 1) := by decide +kernel
theorem dL_law_490 : decode cL_law 490 = .ok (.iadd, 1) := by decide +kernel
theorem dL_law_491 : decode cL_law 491 = .ok (.iaload, 1) := by decide +kernel
theorem dL_law_492 : decode cL_law 492 = .ok (.invokevirtual 50, 3) := by decide +kernel
theorem dL_law_495 : decode cL_law 495 = .ok (.aload_n 2, 1) := by decide +kernel
theorem dL_law_496 : decode cL_law 496 = .ok (.aload_n 0, 1) := by decide +kernel
theorem dL_law_497 : decode cL_law 497 = .ok (.iload_n 3, 1) := by decide +kernel
theorem dL_law_498 : decode cL_law 498 = .ok (.iconst 1, 1) := by decide +kernel
theorem dL_law_499 : decode cL_law 499 = .ok (.iadd, 1) := by decide +kernel
theorem dL_law_500 : decode cL_law 500 = .ok (.iaload, 1) := by decide +kernel
theorem dL_law_501 : decode cL_law 501 = .ok (.invokevirtual 53, 3) := by decide +kernel
theorem dL_law_504 : decode cL_law 504 = .ok (.if_icmp .eq 339, 3) := by decide +kernel
theorem dL_law_507 : decode cL_law 507 = .ok (.iconst 0, 1) := by decide +kernel
theorem dL_law_508 : decode cL_law 508 = .ok (.ireturn, 1) := by decide +kernel
theorem dL_law_509 : decode cL_law 509 = .ok (.aload_n 1, 1) := by decide +kernel
theorem dL_law_510 : decode cL_law 510 = .ok (.aload_n 0, 1) := by decide +kernel
theorem dL_law_511 : decode cL_law 511 = .ok (.iload_n 3, 1) := by decide +kernel
theorem dL_law_512 : decode cL_law 512 = .ok (.iconst 1, 1) := by decide +kernel
theorem dL_law_513 : decode cL_law 513 = .ok (.iadd, 1) := by decide +kernel
theorem dL_law_514 : decode cL_law 514 = .ok (.iaload, 1) := by decide +kernel
theorem dL_law_515 : decode cL_law 515 = .ok (.aload_n 0, 1) := by decide +kernel
theorem dL_law_516 : decode cL_law 516 = .ok (.iload_n 3, 1) := by decide +kernel
theorem dL_law_517 : decode cL_law 517 = .ok (.iconst 2, 1) := by decide +kernel
theorem dL_law_518 : decode cL_law 518 = .ok (.iadd, 1) := by decide +kernel
theorem dL_law_519 : decode cL_law 519 = .ok (.iaload, 1) := by decide +kernel
theorem dL_law_520 : decode cL_law 520 = .ok (.invokevirtual 54, 3) := by decide +kernel
theorem dL_law_523 : decode cL_law 523 = .ok (.aload_n 2, 1) := by decide +kernel
theorem dL_law_524 : decode cL_law 524 = .ok (.aload_n 0, 1) := by decide +kernel
theorem dL_law_525 : decode cL_law 525 = .ok (.iload_n 3, 1) := by decide +kernel
theorem dL_law_526 : decode cL_law 526 = .ok (.iconst 1, 1) := by decide +kernel
theorem dL_law_527 : decode cL_law 527 = .ok (.iadd, 1) := by decide +kernel
theorem dL_law_528 : decode cL_law 528 = .ok (.iaload, 1) := by decide +kernel
theorem dL_law_529 : decode cL_law 529 = .ok (.aload_n 0, 1) := by decide +kernel
theorem dL_law_530 : decode cL_law 530 = .ok (.iload_n 3, 1) := by decide +kernel
theorem dL_law_531 : decode cL_law 531 = .ok (.iconst 2, 1) := by decide +kernel
theorem dL_law_532 : decode cL_law 532 = .ok (.iadd, 1) := by decide +kernel
theorem dL_law_533 : decode cL_law 533 = .ok (.iaload, 1) := by decide +kernel
theorem dL_law_534 : decode cL_law 534 = .ok (.invokevirtual 57, 3) := by decide +kernel
theorem dL_law_537 : decode cL_law 537 = .ok (.if_icmp .eq 306, 3) := by decide +kernel
theorem dL_law_540 : decode cL_law 540 = .ok (.iconst 0, 1) := by decide +kernel
theorem dL_law_541 : decode cL_law 541 = .ok (.ireturn, 1) := by decide +kernel
theorem dL_law_542 : decode cL_law 542 = .ok (.aload_n 1, 1) := by decide +kernel
theorem dL_law_543 : decode cL_law 543 = .ok (.aload_n 0, 1) := by decide +kernel
theorem dL_law_544 : decode cL_law 544 = .ok (.iload_n 3, 1) := by decide +kernel
theorem dL_law_545 : decode cL_law 545 = .ok (.iconst 1, 1) := by decide +kernel
theorem dL_law_546 : decode cL_law 546 = .ok (.iadd, 1) := by decide +kernel
theorem dL_law_547 : decode cL_law 547 = .ok (.iaload, 1) := by decide +kernel
theorem dL_law_548 : decode cL_law 548 = .ok (.i2c, 1) := by decide +kernel
theorem dL_law_549 : decode cL_law 549 = .ok (.invokevirtual 58, 3) := by decide +kernel
theorem dL_law_552 : decode cL_law 552 = .ok (.aload_n 2, 1) := by decide +kernel
theorem dL_law_553 : decode cL_law 553 = .ok (.aload_n 0, 1) := by decide +kernel
theorem dL_law_554 : decode cL_law 554 = .ok (.iload_n 3, 1) := by decide +kernel
theorem dL_law_555 : decode cL_law 555 = .ok (.iconst 1, 1) := by decide +kernel
theorem dL_law_556 : decode cL_law 556 = .ok (.iadd, 1) := by decide +kernel
theorem dL_law_557 : decode cL_law 557 = .ok (.iaload, 1) := by decide +kernel
theorem dL_law_558 : decode cL_law 558 = .ok (.i2c, 1) := by decide +kernel
theorem dL_law_559 : decode cL_law 559 = .ok (.invokevirtual 62, 3) := by decide +kernel
theorem dL_law_562 : decode cL_law 562 = .ok (.if_icmp .eq 281, 3) := by decide +kernel
theorem dL_law_565 : decode cL_law 565 = .ok (.iconst 0, 1) := by decide +kernel
theorem dL_law_566 : decode cL_law 566 = .ok (.ireturn, 1) := by decide +kernel
theorem dL_law_567 : decode cL_law 567 = .ok (.aload_n 1, 1) := by decide +kernel
theorem dL_law_568 : decode cL_law 568 = .ok (.invokevirtual 63, 3) := by decide +kernel
theorem dL_law_571 : decode cL_law 571 = .ok (.aload_n 2, 1) := by decide +kernel
theorem dL_law_572 : decode cL_law 572 = .ok (.invokevirtual 67, 3) := by decide +kernel
theorem dL_law_575 : decode cL_law 575 = .ok (.if_icmp .eq 268, 3) := by decide +kernel
theorem dL_law_578 : decode cL_law 578 = .ok (.iconst 0, 1) := by decide +kernel
theorem dL_law_579 : decode cL_law 579 = .ok (.ireturn, 1) := by decide +kernel
theorem dL_law_580 : decode cL_law 580 = .ok (.aload_n 1, 1) := by decide +kernel
theorem dL_law_581 : decode cL_law 581 = .ok (.invokevirtual 68, 3) := by decide +kernel
theorem dL_law_584 : decode cL_law 584 = .ok (.aload_n 2, 1) := by decide +kernel
theorem dL_law_585 : decode cL_law 585 = .ok (.invokevirtual 71, 3) := by decide +kernel
theorem dL_law_588 : decode cL_law 588 = .ok (.if_icmp .eq 255, 3) := by decide +kernel
theorem dL_law_591 : decode cL_law 591 = .ok (.iconst 0, 1) := by decide +kernel
theorem dL_law_592 : decode cL_law 592 = .ok (.ireturn, 1) := by decide +kernel
theorem dL_law_593 : decode cL_law 593 = .ok (.aload_n 1, 1) := by decide +kernel
theorem dL_law_594 : decode cL_law 594 = .ok (.aload_n 0, 1) := by decide +kernel
theorem dL_law_595 : decode cL_law 595 = .ok (.iload_n 3, 1) := by decide +kernel
theorem dL_law_596 : decode cL_law 596 = .ok (.iconst 1, 1) := by decide +kernel
theorem dL_law_597 : decode cL_law 597 = .ok (.iadd, 1) := by decide +kernel
theorem dL_law_598 : decode cL_law 598 = .ok (.iaload, 1) := by decide +kernel
theorem dL_law_599 : decode cL_law 599 = .ok (.invokevirtual 72, 3) := by decide +kernel
theorem dL_law_602 : decode cL_law 602 = .ok (.aload_n 2, 1) := by decide +kernel
theorem dL_law_603 : decode cL_law 603 = .ok (.aload_n 0, 1) := by decide +kernel
theorem dL_law_604 : decode cL_law 604 = .ok (.iload_n 3, 1) := by decide +kernel
theorem dL_law_605 : decode cL_law 605 = .ok (.iconst 1, 1) := by decide +kernel
theorem dL_law_606 : decode cL_law 606 = .ok (.iadd, 1) := by decide +kernel
theorem dL_law_607 : decode cL_law 607 = .ok (.iaload, 1) := by decide +kernel
theorem dL_law_608 : decode cL_law 608 = .ok (.invokevirtual 75, 3) := by decide +kernel
theorem dL_law_611 : decode cL_law 611 = .ok (.if_icmp .eq 232, 3) := by decide +kernel
theorem dL_law_614 : decode cL_law 614 = .ok (.iconst 0, 1) := by decide +kernel
theorem dL_law_615 : decode cL_law 615 = .ok (.ireturn, 1) := by decide +kernel
theorem dL_law_616 : decode cL_law 616 = .ok (.aload_n 1, 1) := by decide +kernel
theorem dL_law_617 : decode cL_law 617 = .ok (.invokevirtual 76, 3) := by decide +kernel
theorem dL_law_620 : decode cL_law 620 = .ok (.aload_n 2, 1) := by decide +kernel
theorem dL_law_621 : decode cL_law 621 = .ok (.invokevirtual 79, 3) := by decide +kernel
theorem dL_law_624 : decode cL_law 624 = .ok (.if_icmp .eq 219, 3) := by decide +kernel
theorem dL_law_627 : decode cL_law 627 = .ok (.iconst 0, 1) := by decide +kernel
theorem dL_law_628 : decode cL_law 628 = .ok (.ireturn, 1) := by decide +kernel
theorem dL_law_629 : decode cL_law 629 = .ok (.aload_n 1, 1) := by decide +kernel
theorem dL_law_630 : decode cL_law 630 = .ok (.invokevirtual 80, 3) := by decide +kernel
theorem dL_law_633 : decode cL_law 633 = .ok (.aload_n 2, 1) := by decide +kernel
theorem dL_law_634 : decode cL_law 634 = .ok (.invokevirtual 83, 3) := by decide +kernel
theorem dL_law_637 : decode cL_law 637 = .ok (.if_icmp .eq 206, 3) := by decide +kernel
theorem dL_law_640 : decode cL_law 640 = .ok (.iconst 0, 1) := by decide +kernel
theorem dL_law_641 : decode cL_law 641 = .ok (.ireturn, 1) := by decide +kernel
theorem dL_law_642 : decode cL_law 642 = .ok (.aload_n 1, 1) := by decide +kernel
theorem dL_law_643 : decode cL_law 643 = .ok (.invokevirtual 84, 3) := by decide +kernel
theorem dL_law_646 : decode cL_law 646 = .ok (.aload_n 2, 1) := by decide +kernel
theorem dL_law_647 : decode cL_law 647 = .ok (.invokevirtual 87, 3) := by decide +kernel
theorem dL_law_650 : decode cL_law 650 = .ok (.if_icmp .eq 193, 3) := by decide +kernel
theorem dL_law_653 : decode cL_law 653 = .ok (.iconst 0, 1) := by decide +kernel
theorem dL_law_654 : decode cL_law 654 = .ok (.ireturn, 1) := by decide +kernel
theorem dL_law_655 : decode cL_law 655 = .ok (.aload_n 1, 1) := by decide +kernel
theorem dL_law_656 : decode cL_law 656 = .ok (.aload_n 0, 1) := by decide +kernel
theorem dL_law_657 : decode cL_law 657 = .ok (.iload_n 3, 1) := by decide +kernel
theorem dL_law_658 : decode cL_law 658 = .ok (.iconst 1, 1) := by decide +kernel
theorem dL_law_659 : decode cL_law 659 = .ok (.iadd, 1) := by decide +kernel
theorem dL_law_660 : decode cL_law 660 = .ok (.iaload, 1) := by decide +kernel
theorem dL_law_661 : decode cL_law 661 = .ok (.aload_n 0, 1) := by decide +kernel
theorem dL_law_662 : decode cL_law 662 = .ok (.iload_n 3, 1) := by decide +kernel
theorem dL_law_663 : decode cL_law 663 = .ok (.iconst 2, 1) := by decide +kernel
theorem dL_law_664 : decode cL_law 664 = .ok (.iadd, 1) := by decide +kernel
theorem dL_law_665 : decode cL_law 665 = .ok (.iaload, 1) := by decide +kernel
theorem dL_law_666 : decode cL_law 666 = .ok (.invokevirtual 88, 3) := by decide +kernel
theorem dL_law_669 : decode cL_law 669 = .ok (.aload_n 2, 1) := by decide +kernel
theorem dL_law_670 : decode cL_law 670 = .ok (.aload_n 0, 1) := by decide +kernel
theorem dL_law_671 : decode cL_law 671 = .ok (.iload_n 3, 1) := by decide +kernel
theorem dL_law_672 : decode cL_law 672 = .ok (.iconst 1, 1) := by decide +kernel
theorem dL_law_673 : decode cL_law 673 = .ok (.iadd, 1) := by decide +kernel
theorem dL_law_674 : decode cL_law 674 = .ok (.iaload, 1) := by decide +kernel
theorem dL_law_675 : decode cL_law 675 = .ok (.aload_n 0, 1) := by decide +kernel
theorem dL_law_676 : decode cL_law 676 = .ok (.iload_n 3, 1) := by decide +kernel
theorem dL_law_677 : decode cL_law 677 = .ok (.iconst 2, 1) := by decide +kernel
theorem dL_law_678 : decode cL_law 678 = .ok (.iadd, 1) := by decide +kernel
theorem dL_law_679 : decode cL_law 679 = .ok (.iaload, 1) := by decide +kernel
theorem dL_law_680 : decode cL_law 680 = .ok (.invokevirtual 91, 3) := by decide +kernel
theorem dL_law_683 : decode cL_law 683 = .ok (.if_icmp .eq 160, 3) := by decide +kernel
theorem dL_law_686 : decode cL_law 686 = .ok (.iconst 0, 1) := by decide +kernel
theorem dL_law_687 : decode cL_law 687 = .ok (.ireturn, 1) := by decide +kernel
theorem dL_law_688 : decode cL_law 688 = .ok (.aload_n 1, 1) := by decide +kernel
theorem dL_law_689 : decode cL_law 689 = .ok (.aload_n 0, 1) := by decide +kernel
theorem dL_law_690 : decode cL_law 690 = .ok (.iload_n 3, 1) := by decide +kernel
theorem dL_law_691 : decode cL_law 691 = .ok (.iconst 1, 1) := by decide +kernel
theorem dL_law_692 : decode cL_law 692 = .ok (.iadd, 1) := by decide +kernel
theorem dL_law_693 : decode cL_law 693 = .ok (.iaload, 1) := by decide +kernel
theorem dL_law_694 : decode cL_law 694 = .ok (.aload_n 0, 1) := by decide +kernel
theorem dL_law_695 : decode cL_law 695 = .ok (.iload_n 3, 1) := by decide +kernel
theorem dL_law_696 : decode cL_law 696 = .ok (.iconst 2, 1) := by decide +kernel
theorem dL_law_697 : decode cL_law 697 = .ok (.iadd, 1) := by decide +kernel
theorem dL_law_698 : decode cL_law 698 = .ok (.iaload, 1) := by decide +kernel
theorem dL_law_699 : decode cL_law 699 = .ok (.aload_n 0, 1) := by decide +kernel
theorem dL_law_700 : decode cL_law 700 = .ok (.iload_n 3, 1) := by decide +kernel
theorem dL_law_701 : decode cL_law 701 = .ok (.iconst 3, 1) := by decide +kernel
theorem dL_law_702 : decode cL_law 702 = .ok (.iadd, 1) := by decide +kernel
theorem dL_law_703 : decode cL_law 703 = .ok (.iaload, 1) := by decide +kernel
theorem dL_law_704 : decode cL_law 704 = .ok (.invokevirtual 92, 3) := by decide +kernel
theorem dL_law_707 : decode cL_law 707 = .ok (.aload_n 2, 1) := by decide +kernel
theorem dL_law_708 : decode cL_law 708 = .ok (.aload_n 0, 1) := by decide +kernel
theorem dL_law_709 : decode cL_law 709 = .ok (.iload_n 3, 1) := by decide +kernel
theorem dL_law_710 : decode cL_law 710 = .ok (.iconst 1, 1) := by decide +kernel
theorem dL_law_711 : decode cL_law 711 = .ok (.iadd, 1) := by decide +kernel
theorem dL_law_712 : decode cL_law 712 = .ok (.iaload, 1) := by decide +kernel
theorem dL_law_713 : decode cL_law 713 = .ok (.aload_n 0, 1) := by decide +kernel
theorem dL_law_714 : decode cL_law 714 = .ok (.iload_n 3, 1) := by decide +kernel
theorem dL_law_715 : decode cL_law 715 = .ok (.iconst 2, 1) := by decide +kernel
theorem dL_law_716 : decode cL_law 716 = .ok (.iadd, 1) := by decide +kernel
theorem dL_law_717 : decode cL_law 717 = .ok (.iaload, 1) := by decide +kernel
theorem dL_law_718 : decode cL_law 718 = .ok (.aload_n 0, 1) := by decide +kernel
theorem dL_law_719 : decode cL_law 719 = .ok (.iload_n 3, 1) := by decide +kernel
theorem dL_law_720 : decode cL_law 720 = .ok (.iconst 3, 1) := by decide +kernel
theorem dL_law_721 : decode cL_law 721 = .ok (.iadd, 1) := by decide +kernel
theorem dL_law_722 : decode cL_law 722 = .ok (.iaload, 1) := by decide +kernel
theorem dL_law_723 : decode cL_law 723 = .ok (.invokevirtual 95, 3) := by decide +kernel
theorem dL_law_726 : decode cL_law 726 = .ok (.if_icmp .eq 117, 3) := by decide +kernel
theorem dL_law_729 : decode cL_law 729 = .ok (.iconst 0, 1) := by decide +kernel
theorem dL_law_730 : decode cL_law 730 = .ok (.ireturn, 1) := by decide +kernel
theorem dL_law_731 : decode cL_law 731 = .ok (.aload_n 1, 1) := by decide +kernel
theorem dL_law_732 : decode cL_law 732 = .ok (.aload_n 0, 1) := by decide +kernel
theorem dL_law_733 : decode cL_law 733 = .ok (.iload_n 3, 1) := by decide +kernel
theorem dL_law_734 : decode cL_law 734 = .ok (.iconst 1, 1) := by decide +kernel
theorem dL_law_735 : decode cL_law 735 = .ok (.iadd, 1) := by decide +kernel
theorem dL_law_736 : decode cL_law 736 = .ok (.iaload, 1) := by decide +kernel
theorem dL_law_737 : decode cL_law 737 = .ok (.aload_n 0, 1) := by decide +kernel
theorem dL_law_738 : decode cL_law 738 = .ok (.iload_n 3, 1) := by decide +kernel
theorem dL_law_739 : decode cL_law 739 = .ok (.iconst 2, 1) := by decide +kernel
theorem dL_law_740 : decode cL_law 740 = .ok (.iadd, 1) := by decide +kernel
theorem dL_law_741 : decode cL_law 741 = .ok (.iaload, 1) := by decide +kernel
theorem dL_law_742 : decode cL_law 742 = .ok (.invokevirtual 96, 3) := by decide +kernel
theorem dL_law_745 : decode cL_law 745 = .ok (.aload_n 2, 1) := by decide +kernel
theorem dL_law_746 : decode cL_law 746 = .ok (.aload_n 0, 1) := by decide +kernel
theorem dL_law_747 : decode cL_law 747 = .ok (.iload_n 3, 1) := by decide +kernel
theorem dL_law_748 : decode cL_law 748 = .ok (.iconst 1, 1) := by decide +kernel
theorem dL_law_749 : decode cL_law 749 = .ok (.iadd, 1) := by decide +kernel
theorem dL_law_750 : decode cL_law 750 = .ok (.iaload, 1) := by decide +kernel
theorem dL_law_751 : decode cL_law 751 = .ok (.aload_n 0, 1) := by decide +kernel
theorem dL_law_752 : decode cL_law 752 = .ok (.iload_n 3, 1) := by decide +kernel
theorem dL_law_753 : decode cL_law 753 = .ok (.iconst 2, 1) := by decide +kernel
theorem dL_law_754 : decode cL_law 754 = .ok (.iadd, 1) := by decide +kernel
theorem dL_law_755 : decode cL_law 755 = .ok (.iaload, 1) := by decide +kernel
theorem dL_law_756 : decode cL_law 756 = .ok (.invokevirtual 99, 3) := by decide +kernel
theorem dL_law_759 : decode cL_law 759 = .ok (.if_icmp .eq 84, 3) := by decide +kernel
theorem dL_law_762 : decode cL_law 762 = .ok (.iconst 0, 1) := by decide +kernel
theorem dL_law_763 : decode cL_law 763 = .ok (.ireturn, 1) := by decide +kernel
theorem dL_law_764 : decode cL_law 764 = .ok (.aload_n 1, 1) := by decide +kernel
theorem dL_law_765 : decode cL_law 765 = .ok (.aload_n 0, 1) := by decide +kernel
theorem dL_law_766 : decode cL_law 766 = .ok (.iload_n 3, 1) := by decide +kernel
theorem dL_law_767 : decode cL_law 767 = .ok (.iconst 1, 1) := by decide +kernel
theorem dL_law_768 : decode cL_law 768 = .ok (.iadd, 1) := by decide +kernel
theorem dL_law_769 : decode cL_law 769 = .ok (.iaload, 1) := by decide +kernel
theorem dL_law_770 : decode cL_law 770 = .ok (.aload_n 0, 1) := by decide +kernel
theorem dL_law_771 : decode cL_law 771 = .ok (.iload_n 3, 1) := by decide +kernel
theorem dL_law_772 : decode cL_law 772 = .ok (.iconst 2, 1) := by decide +kernel
theorem dL_law_773 : decode cL_law 773 = .ok (.iadd, 1) := by decide +kernel
theorem dL_law_774 : decode cL_law 774 = .ok (.iaload, 1) := by decide +kernel
theorem dL_law_775 : decode cL_law 775 = .ok (.invokevirtual 100, 3) := by decide +kernel
theorem dL_law_778 : decode cL_law 778 = .ok (.aload_n 2, 1) := by decide +kernel
theorem dL_law_779 : decode cL_law 779 = .ok (.aload_n 0, 1) := by decide +kernel
theorem dL_law_780 : decode cL_law 780 = .ok (.iload_n 3, 1) := by decide +kernel
theorem dL_law_781 : decode cL_law 781 = .ok (.iconst 1, 1) := by decide +kernel
theorem dL_law_782 : decode cL_law 782 = .ok (.iadd, 1) := by decide +kernel
theorem dL_law_783 : decode cL_law 783 = .ok (.iaload, 1) := by decide +kernel
theorem dL_law_784 : decode cL_law 784 = .ok (.aload_n 0, 1) := by decide +kernel
theorem dL_law_785 : decode cL_law 785 = .ok (.iload_n 3, 1) := by decide +kernel
theorem dL_law_786 : decode cL_law 786 = .ok (.iconst 2, 1) := by decide +kernel
theorem dL_law_787 : decode cL_law 787 = .ok (.iadd, 1) := by decide +kernel
theorem dL_law_788 : decode cL_law 788 = .ok (.iaload, 1) := by decide +kernel
theorem dL_law_789 : decode cL_law 789 = .ok (.invokevirtual 103, 3) := by decide +kernel
theorem dL_law_792 : decode cL_law 792 = .ok (.if_icmp .eq 51, 3) := by decide +kernel
theorem dL_law_795 : decode cL_law 795 = .ok (.iconst 0, 1) := by decide +kernel
theorem dL_law_796 : decode cL_law 796 = .ok (.ireturn, 1) := by decide +kernel
theorem dL_law_797 : decode cL_law 797 = .ok (.aload_n 1, 1) := by decide +kernel
theorem dL_law_798 : decode cL_law 798 = .ok (.aload_n 0, 1) := by decide +kernel
theorem dL_law_799 : decode cL_law 799 = .ok (.iload_n 3, 1) := by decide +kernel
theorem dL_law_800 : decode cL_law 800 = .ok (.iconst 1, 1) := by decide +kernel
theorem dL_law_801 : decode cL_law 801 = .ok (.iadd, 1) := by decide +kernel
theorem dL_law_802 : decode cL_law 802 = .ok (.iaload, 1) := by decide +kernel
theorem dL_law_803 : decode cL_law 803 = .ok (.invokevirtual 104, 3) := by decide +kernel
theorem dL_law_806 : decode cL_law 806 = .ok (.aload_n 2, 1) := by decide +kernel
theorem dL_law_807 : decode cL_law 807 = .ok (.aload_n 0, 1) := by decide +kernel
theorem dL_law_808 : decode cL_law 808 = .ok (.iload_n 3, 1) := by decide +kernel
theorem dL_law_809 : decode cL_law 809 = .ok (.iconst 1, 1) := by decide +kernel
theorem dL_law_810 : decode cL_law 810 = .ok (.iadd, 1) := by decide +kernel
theorem dL_law_811 : decode cL_law 811 = .ok (.iaload, 1) := by decide +kernel
theorem dL_law_812 : decode cL_law 812 = .ok (.invokevirtual 107, 3) := by decide +kernel
theorem dL_law_815 : decode cL_law 815 = .ok (.if_icmp .eq 28, 3) := by decide +kernel
theorem dL_law_818 : decode cL_law 818 = .ok (.iconst 0, 1) := by decide +kernel
theorem dL_law_819 : decode cL_law 819 = .ok (.ireturn, 1) := by decide +kernel
theorem dL_law_820 : decode cL_law 820 = .ok (.aload_n 1, 1) := by decide +kernel
theorem dL_law_821 : decode cL_law 821 = .ok (.aload_n 0, 1) := by decide +kernel
theorem dL_law_822 : decode cL_law 822 = .ok (.iload_n 3, 1) := by decide +kernel
theorem dL_law_823 : decode cL_law 823 = .ok (.iconst 1, 1) := by decide +kernel
theorem dL_law_824 : decode cL_law 824 = .ok (.iadd, 1) := by decide +kernel
theorem dL_law_825 : decode cL_law 825 = .ok (.iaload, 1) := by decide +kernel
theorem dL_law_826 : decode cL_law 826 = .ok (.invokevirtual 108, 3) := by decide +kernel
theorem dL_law_829 : decode cL_law 829 = .ok (.aload_n 2, 1) := by decide +kernel
theorem dL_law_830 : decode cL_law 830 = .ok (.aload_n 0, 1) := by decide +kernel
theorem dL_law_831 : decode cL_law 831 = .ok (.iload_n 3, 1) := by decide +kernel
theorem dL_law_832 : decode cL_law 832 = .ok (.iconst 1, 1) := by decide +kernel
theorem dL_law_833 : decode cL_law 833 = .ok (.iadd, 1) := by decide +kernel
theorem dL_law_834 : decode cL_law 834 = .ok (.iaload, 1) := by decide +kernel
theorem dL_law_835 : decode cL_law 835 = .ok (.invokevirtual 111, 3) := by decide +kernel
theorem dL_law_838 : decode cL_law 838 = .ok (.if_icmp .eq 5, 3) := by decide +kernel
theorem dL_law_841 : decode cL_law 841 = .ok (.iconst 0, 1) := by decide +kernel
theorem dL_law_842 : decode cL_law 842 = .ok (.ireturn, 1) := by decide +kernel
theorem dL_law_843 : decode cL_law 843 = .ok (.iinc 3 5, 3) := by decide +kernel
theorem dL_law_846 : decode cL_law 846 = .ok (.goto (-828), 3) := by decide +kernel
theorem dL_law_849 : decode cL_law 849 = .ok (.iconst 1, 1) := by decide +kernel
theorem dL_law_850 : decode cL_law 850 = .ok (.ireturn, 1) := by decide +kernel
