theorem d_A_init_0 : decode b_A_init 0 = .ok (.aload_n 0, 1) := by decide +kernel
theorem d_A_init_1 : decode b_A_init 1 = .ok (.invokespecial 1, 3) := by decide +kernel
theorem d_A_init_4 : decode b_A_init 4 = .ok (.aload_n 0, 1) := by decide +kernel
theorem d_A_init_5 : decode b_A_init 5 = .ok (.getstatic 39, 3) := by decide +kernel
theorem d_A_init_8 : decode b_A_init 8 = .ok (.putfield 9, 3) := by decide +kernel
theorem d_A_init_11 : decode b_A_init 11 = .ok (.return_, 1) := by decide +kernel
theorem d_A_size_0 : decode b_A_size 0 = .ok (.aload_n 0, 1) := by decide +kernel
theorem d_A_size_1 : decode b_A_size 1 = .ok (.getfield 48, 3) := by decide +kernel
theorem d_A_size_4 : decode b_A_size 4 = .ok (.ireturn, 1) := by decide +kernel
theorem d_A_get_0 : decode b_A_get 0 = .ok (.iload_n 1, 1) := by decide +kernel
theorem d_A_get_1 : decode b_A_get 1 = .ok (.aload_n 0, 1) := by decide +kernel
theorem d_A_get_2 : decode b_A_get 2 = .ok (.getfield 48, 3) := by decide +kernel
theorem d_A_get_5 : decode b_A_get 5 = .ok (.invokestatic 118, 3) := by decide +kernel
theorem d_A_get_8 : decode b_A_get 8 = .ok (.pop, 1) := by decide +kernel
theorem d_A_get_9 : decode b_A_get 9 = .ok (.aload_n 0, 1) := by decide +kernel
theorem d_A_get_10 : decode b_A_get 10 = .ok (.iload_n 1, 1) := by decide +kernel
theorem d_A_get_11 : decode b_A_get 11 = .ok (.invokevirtual 123, 3) := by decide +kernel
theorem d_A_get_14 : decode b_A_get 14 = .ok (.areturn, 1) := by decide +kernel
theorem d_A_elementData_0 : decode b_A_elementData 0 = .ok (.aload_n 0, 1) := by decide +kernel
theorem d_A_elementData_1 : decode b_A_elementData 1 = .ok (.getfield 9, 3) := by decide +kernel
theorem d_A_elementData_4 : decode b_A_elementData 4 = .ok (.iload_n 1, 1) := by decide +kernel
theorem d_A_elementData_5 : decode b_A_elementData 5 = .ok (.aaload, 1) := by decide +kernel
theorem d_A_elementData_6 : decode b_A_elementData 6 = .ok (.areturn, 1) := by decide +kernel
theorem d_A_add1_0 : decode b_A_add1 0 = .ok (.aload_n 0, 1) := by decide +kernel
theorem d_A_add1_1 : decode b_A_add1 1 = .ok (.dup, 1) := by decide +kernel
theorem d_A_add1_2 : decode b_A_add1 2 = .ok (.getfield 63, 3) := by decide +kernel
theorem d_A_add1_5 : decode b_A_add1 5 = .ok (.iconst 1, 1) := by decide +kernel
theorem d_A_add1_6 : decode b_A_add1 6 = .ok (.iadd, 1) := by decide +kernel
theorem d_A_add1_7 : decode b_A_add1 7 = .ok (.putfield 63, 3) := by decide +kernel
theorem d_A_add1_10 : decode b_A_add1 10 = .ok (.aload_n 0, 1) := by decide +kernel
theorem d_A_add1_11 : decode b_A_add1 11 = .ok (.aload_n 1, 1) := by decide +kernel
theorem d_A_add1_12 : decode b_A_add1 12 = .ok (.aload_n 0, 1) := by decide +kernel
theorem d_A_add1_13 : decode b_A_add1 13 = .ok (.getfield 9, 3) := by decide +kernel
theorem d_A_add1_16 : decode b_A_add1 16 = .ok (.aload_n 0, 1) := by decide +kernel
theorem d_A_add1_17 : decode b_A_add1 17 = .ok (.getfield 48, 3) := by decide +kernel
theorem d_A_add1_20 : decode b_A_add1 20 = .ok (.invokevirtual 131, 3) := by decide +kernel
theorem d_A_add1_23 : decode b_A_add1 23 = .ok (.iconst 1, 1) := by decide +kernel
theorem d_A_add1_24 : decode b_A_add1 24 = .ok (.ireturn, 1) := by decide +kernel
theorem d_A_add2_0 : decode b_A_add2 0 = .ok (.iload_n 3, 1) := by decide +kernel
theorem d_A_add2_1 : decode b_A_add2 1 = .ok (.aload_n 2, 1) := by decide +kernel
theorem d_A_add2_2 : decode b_A_add2 2 = .ok (.arraylength, 1) := by decide +kernel
theorem d_A_add2_3 : decode b_A_add2 3 = .ok (.if_icmp .ne 8, 3) := by decide +kernel
theorem d_A_add2_6 : decode b_A_add2 6 = .ok (.aload_n 0, 1) := by decide +kernel
theorem d_A_add2_7 : decode b_A_add2 7 = .ok (.invokevirtual 129, 3) := by decide +kernel
theorem d_A_add2_10 : decode b_A_add2 10 = .ok (.astore_n 2, 1) := by decide +kernel
theorem d_A_add2_11 : decode b_A_add2 11 = .ok (.aload_n 2, 1) := by decide +kernel
theorem d_A_add2_12 : decode b_A_add2 12 = .ok (.iload_n 3, 1) := by decide +kernel
theorem d_A_add2_13 : decode b_A_add2 13 = .ok (.aload_n 1, 1) := by decide +kernel
theorem d_A_add2_14 : decode b_A_add2 14 = .ok (.aastore, 1) := by decide +kernel
theorem d_A_add2_15 : decode b_A_add2 15 = .ok (.aload_n 0, 1) := by decide +kernel
theorem d_A_add2_16 : decode b_A_add2 16 = .ok (.iload_n 3, 1) := by decide +kernel
theorem d_A_add2_17 : decode b_A_add2 17 = .ok (.iconst 1, 1) := by decide +kernel
theorem d_A_add2_18 : decode b_A_add2 18 = .ok (.iadd, 1) := by decide +kernel
theorem d_A_add2_19 : decode b_A_add2 19 = .ok (.putfield 48, 3) := by decide +kernel
theorem d_A_add2_22 : decode b_A_add2 22 = .ok (.return_, 1) := by decide +kernel
theorem d_A_grow0_0 : decode b_A_grow0 0 = .ok (.aload_n 0, 1) := by decide +kernel
theorem d_A_grow0_1 : decode b_A_grow0 1 = .ok (.aload_n 0, 1) := by decide +kernel
theorem d_A_grow0_2 : decode b_A_grow0 2 = .ok (.getfield 48, 3) := by decide +kernel
theorem d_A_grow0_5 : decode b_A_grow0 5 = .ok (.iconst 1, 1) := by decide +kernel
theorem d_A_grow0_6 : decode b_A_grow0 6 = .ok (.iadd, 1) := by decide +kernel
theorem d_A_grow0_7 : decode b_A_grow0 7 = .ok (.invokevirtual 69, 3) := by decide +kernel
theorem d_A_grow0_10 : decode b_A_grow0 10 = .ok (.areturn, 1) := by decide +kernel
theorem d_A_grow1_0 : decode b_A_grow1 0 = .ok (.aload_n 0, 1) := by decide +kernel
theorem d_A_grow1_1 : decode b_A_grow1 1 = .ok (.getfield 9, 3) := by decide +kernel
theorem d_A_grow1_4 : decode b_A_grow1 4 = .ok (.arraylength, 1) := by decide +kernel
theorem d_A_grow1_5 : decode b_A_grow1 5 = .ok (.istore_n 2, 1) := by decide +kernel
theorem d_A_grow1_6 : decode b_A_grow1 6 = .ok (.iload_n 2, 1) := by decide +kernel
theorem d_A_grow1_7 : decode b_A_grow1 7 = .ok (.ifCond .gt 13, 3) := by decide +kernel
theorem d_A_grow1_10 : decode b_A_grow1 10 = .ok (.aload_n 0, 1) := by decide +kernel
theorem d_A_grow1_11 : decode b_A_grow1 11 = .ok (.getfield 9, 3) := by decide +kernel
theorem d_A_grow1_14 : decode b_A_grow1 14 = .ok (.getstatic 39, 3) := by decide +kernel
theorem d_A_grow1_17 : decode b_A_grow1 17 = .ok (.if_acmp .eq 28, 3) := by decide +kernel
theorem d_A_grow1_20 : decode b_A_grow1 20 = .ok (.iload_n 2, 1) := by decide +kernel
theorem d_A_grow1_21 : decode b_A_grow1 21 = .ok (.iload_n 1, 1) := by decide +kernel
theorem d_A_grow1_22 : decode b_A_grow1 22 = .ok (.iload_n 2, 1) := by decide +kernel
theorem d_A_grow1_23 : decode b_A_grow1 23 = .ok (.isub, 1) := by decide +kernel
theorem d_A_grow1_24 : decode b_A_grow1 24 = .ok (.iload_n 2, 1) := by decide +kernel
theorem d_A_grow1_25 : decode b_A_grow1 25 = .ok (.iconst 1, 1) := by decide +kernel
theorem d_A_grow1_26 : decode b_A_grow1 26 = .ok (.ishr, 1) := by decide +kernel
theorem d_A_grow1_27 : decode b_A_grow1 27 = .ok (.invokestatic 73, 3) := by decide +kernel
theorem d_A_grow1_30 : decode b_A_grow1 30 = .ok (.istore_n 3, 1) := by decide +kernel
theorem d_A_grow1_31 : decode b_A_grow1 31 = .ok (.aload_n 0, 1) := by decide +kernel
theorem d_A_grow1_32 : decode b_A_grow1 32 = .ok (.aload_n 0, 1) := by decide +kernel
theorem d_A_grow1_33 : decode b_A_grow1 33 = .ok (.getfield 9, 3) := by decide +kernel
theorem d_A_grow1_36 : decode b_A_grow1 36 = .ok (.iload_n 3, 1) := by decide +kernel
theorem d_A_grow1_37 : decode b_A_grow1 37 = .ok (.invokestatic 66, 3) := by decide +kernel
theorem d_A_grow1_40 : decode b_A_grow1 40 = .ok (.dup_x1, 1) := by decide +kernel
theorem d_A_grow1_41 : decode b_A_grow1 41 = .ok (.putfield 9, 3) := by decide +kernel
theorem d_A_grow1_44 : decode b_A_grow1 44 = .ok (.areturn, 1) := by decide +kernel
theorem d_A_grow1_45 : decode b_A_grow1 45 = .ok (.aload_n 0, 1) := by decide +kernel
theorem d_A_grow1_46 : decode b_A_grow1 46 = .ok (.bipush 10, 2) := by decide +kernel
theorem d_A_grow1_48 : decode b_A_grow1 48 = .ok (.iload_n 1, 1) := by decide +kernel
theorem d_A_grow1_49 : decode b_A_grow1 49 = .ok (.invokestatic 79, 3) := by decide +kernel
theorem d_A_grow1_52 : decode b_A_grow1 52 = .ok (.anewarray 7, 3) := by decide +kernel
theorem d_A_grow1_55 : decode b_A_grow1 55 = .ok (.dup_x1, 1) := by decide +kernel
theorem d_A_grow1_56 : decode b_A_grow1 56 = .ok (.putfield 9, 3) := by decide +kernel
theorem d_A_grow1_59 : decode b_A_grow1 59 = .ok (.areturn, 1) := by decide +kernel
theorem d_A_add0_0 : decode b_A_add0 0 = .ok (.aload_n 0, 1) := by decide +kernel
theorem d_A_add0_1 : decode b_A_add0 1 = .ok (.iload_n 1, 1) := by decide +kernel
theorem d_A_add0_2 : decode b_A_add0 2 = .ok (.invokevirtual 135, 3) := by decide +kernel
theorem d_A_add0_5 : decode b_A_add0 5 = .ok (.aload_n 0, 1) := by decide +kernel
theorem d_A_add0_6 : decode b_A_add0 6 = .ok (.dup, 1) := by decide +kernel
theorem d_A_add0_7 : decode b_A_add0 7 = .ok (.getfield 63, 3) := by decide +kernel
theorem d_A_add0_10 : decode b_A_add0 10 = .ok (.iconst 1, 1) := by decide +kernel
theorem d_A_add0_11 : decode b_A_add0 11 = .ok (.iadd, 1) := by decide +kernel
theorem d_A_add0_12 : decode b_A_add0 12 = .ok (.putfield 63, 3) := by decide +kernel
theorem d_A_add0_15 : decode b_A_add0 15 = .ok (.aload_n 0, 1) := by decide +kernel
theorem d_A_add0_16 : decode b_A_add0 16 = .ok (.getfield 48, 3) := by decide +kernel
theorem d_A_add0_19 : decode b_A_add0 19 = .ok (.dup, 1) := by decide +kernel
theorem d_A_add0_20 : decode b_A_add0 20 = .ok (.istore_n 3, 1) := by decide +kernel
theorem d_A_add0_21 : decode b_A_add0 21 = .ok (.aload_n 0, 1) := by decide +kernel
theorem d_A_add0_22 : decode b_A_add0 22 = .ok (.getfield 9, 3) := by decide +kernel
theorem d_A_add0_25 : decode b_A_add0 25 = .ok (.dup, 1) := by decide +kernel
theorem d_A_add0_26 : decode b_A_add0 26 = .ok (.astore 4, 2) := by decide +kernel
theorem d_A_add0_28 : decode b_A_add0 28 = .ok (.arraylength, 1) := by decide +kernel
theorem d_A_add0_29 : decode b_A_add0 29 = .ok (.if_icmp .ne 9, 3) := by decide +kernel
theorem d_A_add0_32 : decode b_A_add0 32 = .ok (.aload_n 0, 1) := by decide +kernel
theorem d_A_add0_33 : decode b_A_add0 33 = .ok (.invokevirtual 129, 3) := by decide +kernel
theorem d_A_add0_36 : decode b_A_add0 36 = .ok (.astore 4, 2) := by decide +kernel
theorem d_A_add0_38 : decode b_A_add0 38 = .ok (.aload 4, 2) := by decide +kernel
theorem d_A_add0_40 : decode b_A_add0 40 = .ok (.iload_n 1, 1) := by decide +kernel
theorem d_A_add0_41 : decode b_A_add0 41 = .ok (.aload 4, 2) := by decide +kernel
theorem d_A_add0_43 : decode b_A_add0 43 = .ok (.iload_n 1, 1) := by decide +kernel
theorem d_A_add0_44 : decode b_A_add0 44 = .ok (.iconst 1, 1) := by decide +kernel
theorem d_A_add0_45 : decode b_A_add0 45 = .ok (.iadd, 1) := by decide +kernel
theorem d_A_add0_46 : decode b_A_add0 46 = .ok (.iload_n 3, 1) := by decide +kernel
theorem d_A_add0_47 : decode b_A_add0 47 = .ok (.iload_n 1, 1) := by decide +kernel
theorem d_A_add0_48 : decode b_A_add0 48 = .ok (.isub, 1) := by decide +kernel
theorem d_A_add0_49 : decode b_A_add0 49 = .ok (.invokestatic 112, 3) := by decide +kernel
theorem d_A_add0_52 : decode b_A_add0 52 = .ok (.aload 4, 2) := by decide +kernel
theorem d_A_add0_54 : decode b_A_add0 54 = .ok (.iload_n 1, 1) := by decide +kernel
theorem d_A_add0_55 : decode b_A_add0 55 = .ok (.aload_n 2, 1) := by decide +kernel
theorem d_A_add0_56 : decode b_A_add0 56 = .ok (.aastore, 1) := by decide +kernel
theorem d_A_add0_57 : decode b_A_add0 57 = .ok (.aload_n 0, 1) := by decide +kernel
theorem d_A_add0_58 : decode b_A_add0 58 = .ok (.iload_n 3, 1) := by decide +kernel
theorem d_A_add0_59 : decode b_A_add0 59 = .ok (.iconst 1, 1) := by decide +kernel
theorem d_A_add0_60 : decode b_A_add0 60 = .ok (.iadd, 1) := by decide +kernel
theorem d_A_add0_61 : decode b_A_add0 61 = .ok (.putfield 48, 3) := by decide +kernel
theorem d_A_add0_64 : decode b_A_add0 64 = .ok (.return_, 1) := by decide +kernel
theorem d_A_rangeCheckForAdd_0 : decode b_A_rangeCheckForAdd 0 = .ok (.iload_n 1, 1) := by decide +kernel
theorem d_A_rangeCheckForAdd_1 : decode b_A_rangeCheckForAdd 1 = .ok (.aload_n 0, 1) := by decide +kernel
theorem d_A_rangeCheckForAdd_2 : decode b_A_rangeCheckForAdd 2 = .ok (.getfield 48, 3) := by decide +kernel
theorem d_A_rangeCheckForAdd_5 : decode b_A_rangeCheckForAdd 5 = .ok (.if_icmp .gt 7, 3) := by decide +kernel
theorem d_A_rangeCheckForAdd_8 : decode b_A_rangeCheckForAdd 8 = .ok (.iload_n 1, 1) := by decide +kernel
theorem d_A_rangeCheckForAdd_9 : decode b_A_rangeCheckForAdd 9 = .ok (.ifCond .ge 16, 3) := by decide +kernel
theorem d_A_rangeCheckForAdd_12 : decode b_A_rangeCheckForAdd 12 = .ok (.new 187, 3) := by decide +kernel
theorem d_A_rangeCheckForAdd_15 : decode b_A_rangeCheckForAdd 15 = .ok (.dup, 1) := by decide +kernel
theorem d_A_rangeCheckForAdd_16 : decode b_A_rangeCheckForAdd 16 = .ok (.aload_n 0, 1) := by decide +kernel
theorem d_A_rangeCheckForAdd_17 : decode b_A_rangeCheckForAdd 17 = .ok (.iload_n 1, 1) := by decide +kernel
theorem d_A_rangeCheckForAdd_18 : decode b_A_rangeCheckForAdd 18 = .ok (.invokevirtual 198, 3) := by decide +kernel
theorem d_A_rangeCheckForAdd_21 : decode b_A_rangeCheckForAdd 21 = .ok (.invokespecial 193, 3) := by decide +kernel
theorem d_A_rangeCheckForAdd_24 : decode b_A_rangeCheckForAdd 24 = .ok (.athrow, 1) := by decide +kernel
theorem d_A_rangeCheckForAdd_25 : decode b_A_rangeCheckForAdd 25 = .ok (.return_, 1) := by decide +kernel
theorem d_A_remove_0 : decode b_A_remove 0 = .ok (.iload_n 1, 1) := by decide +kernel
theorem d_A_remove_1 : decode b_A_remove 1 = .ok (.aload_n 0, 1) := by decide +kernel
theorem d_A_remove_2 : decode b_A_remove 2 = .ok (.getfield 48, 3) := by decide +kernel
theorem d_A_remove_5 : decode b_A_remove 5 = .ok (.invokestatic 118, 3) := by decide +kernel
theorem d_A_remove_8 : decode b_A_remove 8 = .ok (.pop, 1) := by decide +kernel
theorem d_A_remove_9 : decode b_A_remove 9 = .ok (.aload_n 0, 1) := by decide +kernel
theorem d_A_remove_10 : decode b_A_remove 10 = .ok (.getfield 9, 3) := by decide +kernel
theorem d_A_remove_13 : decode b_A_remove 13 = .ok (.astore_n 2, 1) := by decide +kernel
theorem d_A_remove_14 : decode b_A_remove 14 = .ok (.aload_n 2, 1) := by decide +kernel
theorem d_A_remove_15 : decode b_A_remove 15 = .ok (.iload_n 1, 1) := by decide +kernel
theorem d_A_remove_16 : decode b_A_remove 16 = .ok (.aaload, 1) := by decide +kernel
theorem d_A_remove_17 : decode b_A_remove 17 = .ok (.astore_n 3, 1) := by decide +kernel
theorem d_A_remove_18 : decode b_A_remove 18 = .ok (.aload_n 0, 1) := by decide +kernel
theorem d_A_remove_19 : decode b_A_remove 19 = .ok (.aload_n 2, 1) := by decide +kernel
theorem d_A_remove_20 : decode b_A_remove 20 = .ok (.iload_n 1, 1) := by decide +kernel
theorem d_A_remove_21 : decode b_A_remove 21 = .ok (.invokevirtual 144, 3) := by decide +kernel
theorem d_A_remove_24 : decode b_A_remove 24 = .ok (.aload_n 3, 1) := by decide +kernel
theorem d_A_remove_25 : decode b_A_remove 25 = .ok (.areturn, 1) := by decide +kernel
theorem d_A_fastRemove_0 : decode b_A_fastRemove 0 = .ok (.aload_n 0, 1) := by decide +kernel
theorem d_A_fastRemove_1 : decode b_A_fastRemove 1 = .ok (.dup, 1) := by decide +kernel
theorem d_A_fastRemove_2 : decode b_A_fastRemove 2 = .ok (.getfield 63, 3) := by decide +kernel
theorem d_A_fastRemove_5 : decode b_A_fastRemove 5 = .ok (.iconst 1, 1) := by decide +kernel
theorem d_A_fastRemove_6 : decode b_A_fastRemove 6 = .ok (.iadd, 1) := by decide +kernel
theorem d_A_fastRemove_7 : decode b_A_fastRemove 7 = .ok (.putfield 63, 3) := by decide +kernel
theorem d_A_fastRemove_10 : decode b_A_fastRemove 10 = .ok (.aload_n 0, 1) := by decide +kernel
theorem d_A_fastRemove_11 : decode b_A_fastRemove 11 = .ok (.getfield 48, 3) := by decide +kernel
theorem d_A_fastRemove_14 : decode b_A_fastRemove 14 = .ok (.iconst 1, 1) := by decide +kernel
theorem d_A_fastRemove_15 : decode b_A_fastRemove 15 = .ok (.isub, 1) := by decide +kernel
theorem d_A_fastRemove_16 : decode b_A_fastRemove 16 = .ok (.dup, 1) := by decide +kernel
theorem d_A_fastRemove_17 : decode b_A_fastRemove 17 = .ok (.istore_n 3, 1) := by decide +kernel
theorem d_A_fastRemove_18 : decode b_A_fastRemove 18 = .ok (.iload_n 2, 1) := by decide +kernel
theorem d_A_fastRemove_19 : decode b_A_fastRemove 19 = .ok (.if_icmp .le 15, 3) := by decide +kernel
theorem d_A_fastRemove_22 : decode b_A_fastRemove 22 = .ok (.aload_n 1, 1) := by decide +kernel
theorem d_A_fastRemove_23 : decode b_A_fastRemove 23 = .ok (.iload_n 2, 1) := by decide +kernel
theorem d_A_fastRemove_24 : decode b_A_fastRemove 24 = .ok (.iconst 1, 1) := by decide +kernel
theorem d_A_fastRemove_25 : decode b_A_fastRemove 25 = .ok (.iadd, 1) := by decide +kernel
theorem d_A_fastRemove_26 : decode b_A_fastRemove 26 = .ok (.aload_n 1, 1) := by decide +kernel
theorem d_A_fastRemove_27 : decode b_A_fastRemove 27 = .ok (.iload_n 2, 1) := by decide +kernel
theorem d_A_fastRemove_28 : decode b_A_fastRemove 28 = .ok (.iload_n 3, 1) := by decide +kernel
theorem d_A_fastRemove_29 : decode b_A_fastRemove 29 = .ok (.iload_n 2, 1) := by decide +kernel
theorem d_A_fastRemove_30 : decode b_A_fastRemove 30 = .ok (.isub, 1) := by decide +kernel
theorem d_A_fastRemove_31 : decode b_A_fastRemove 31 = .ok (.invokestatic 112, 3) := by decide +kernel
theorem d_A_fastRemove_34 : decode b_A_fastRemove 34 = .ok (.aload_n 1, 1) := by decide +kernel
theorem d_A_fastRemove_35 : decode b_A_fastRemove 35 = .ok (.aload_n 0, 1) := by decide +kernel
theorem d_A_fastRemove_36 : decode b_A_fastRemove 36 = .ok (.iload_n 3, 1) := by decide +kernel
theorem d_A_fastRemove_37 : decode b_A_fastRemove 37 = .ok (.dup_x1, 1) := by decide +kernel
theorem d_A_fastRemove_38 : decode b_A_fastRemove 38 = .ok (.putfield 48, 3) := by decide +kernel
theorem d_A_fastRemove_41 : decode b_A_fastRemove 41 = .ok (.aconst_null, 1) := by decide +kernel
theorem d_A_fastRemove_42 : decode b_A_fastRemove 42 = .ok (.aastore, 1) := by decide +kernel
theorem d_A_fastRemove_43 : decode b_A_fastRemove 43 = .ok (.return_, 1) := by decide +kernel

theorem d_AL_init_0 : decode b_AL_init 0 = .ok (.aload_n 0, 1) := by decide +kernel
theorem d_AL_init_1 : decode b_AL_init 1 = .ok (.invokespecial 1, 3) := by decide +kernel
theorem d_AL_init_4 : decode b_AL_init 4 = .ok (.aload_n 0, 1) := by decide +kernel
theorem d_AL_init_5 : decode b_AL_init 5 = .ok (.iconst 0, 1) := by decide +kernel
theorem d_AL_init_6 : decode b_AL_init 6 = .ok (.putfield 7, 3) := by decide +kernel
theorem d_AL_init_9 : decode b_AL_init 9 = .ok (.return_, 1) := by decide +kernel

theorem d_AC_init_0 : decode b_AC_init 0 = .ok (.aload_n 0, 1) := by decide +kernel
theorem d_AC_init_1 : decode b_AC_init 1 = .ok (.invokespecial 1, 3) := by decide +kernel
theorem d_AC_init_4 : decode b_AC_init 4 = .ok (.return_, 1) := by decide +kernel

theorem d_AR_copyOf0_0 : decode b_AR_copyOf0 0 = .ok (.aload_n 0, 1) := by decide +kernel
theorem d_AR_copyOf0_1 : decode b_AR_copyOf0 1 = .ok (.iload_n 1, 1) := by decide +kernel
theorem d_AR_copyOf0_2 : decode b_AR_copyOf0 2 = .ok (.aload_n 0, 1) := by decide +kernel
theorem d_AR_copyOf0_3 : decode b_AR_copyOf0 3 = .ok (.invokevirtual 86, 3) := by decide +kernel
theorem d_AR_copyOf0_6 : decode b_AR_copyOf0 6 = .ok (.invokestatic 300, 3) := by decide +kernel
theorem d_AR_copyOf0_9 : decode b_AR_copyOf0 9 = .ok (.areturn, 1) := by decide +kernel
theorem d_AR_copyOf1_0 : decode b_AR_copyOf1 0 = .ok (.aload_n 2, 1) := by decide +kernel
theorem d_AR_copyOf1_1 : decode b_AR_copyOf1 1 = .ok (.ldc 110, 2) := by decide +kernel
theorem d_AR_copyOf1_3 : decode b_AR_copyOf1 3 = .ok (.if_acmp .ne 10, 3) := by decide +kernel
theorem d_AR_copyOf1_6 : decode b_AR_copyOf1 6 = .ok (.iload_n 1, 1) := by decide +kernel
theorem d_AR_copyOf1_7 : decode b_AR_copyOf1 7 = .ok (.anewarray 2, 3) := by decide +kernel
theorem d_AR_copyOf1_10 : decode b_AR_copyOf1 10 = .ok (.goto 14, 3) := by decide +kernel
theorem d_AR_copyOf1_13 : decode b_AR_copyOf1 13 = .ok (.aload_n 2, 1) := by decide +kernel
theorem d_AR_copyOf1_14 : decode b_AR_copyOf1 14 = .ok (.invokevirtual 90, 3) := by decide +kernel
theorem d_AR_copyOf1_17 : decode b_AR_copyOf1 17 = .ok (.iload_n 1, 1) := by decide +kernel
theorem d_AR_copyOf1_18 : decode b_AR_copyOf1 18 = .ok (.invokestatic 95, 3) := by decide +kernel
theorem d_AR_copyOf1_21 : decode b_AR_copyOf1 21 = .ok (.checkcast 110, 3) := by decide +kernel
theorem d_AR_copyOf1_24 : decode b_AR_copyOf1 24 = .ok (.astore_n 3, 1) := by decide +kernel
theorem d_AR_copyOf1_25 : decode b_AR_copyOf1 25 = .ok (.aload_n 0, 1) := by decide +kernel
theorem d_AR_copyOf1_26 : decode b_AR_copyOf1 26 = .ok (.iconst 0, 1) := by decide +kernel
theorem d_AR_copyOf1_27 : decode b_AR_copyOf1 27 = .ok (.aload_n 3, 1) := by decide +kernel
theorem d_AR_copyOf1_28 : decode b_AR_copyOf1 28 = .ok (.iconst 0, 1) := by decide +kernel
theorem d_AR_copyOf1_29 : decode b_AR_copyOf1 29 = .ok (.aload_n 0, 1) := by decide +kernel
theorem d_AR_copyOf1_30 : decode b_AR_copyOf1 30 = .ok (.arraylength, 1) := by decide +kernel
theorem d_AR_copyOf1_31 : decode b_AR_copyOf1 31 = .ok (.iload_n 1, 1) := by decide +kernel
theorem d_AR_copyOf1_32 : decode b_AR_copyOf1 32 = .ok (.invokestatic 304, 3) := by decide +kernel
theorem d_AR_copyOf1_35 : decode b_AR_copyOf1 35 = .ok (.invokestatic 150, 3) := by decide +kernel
theorem d_AR_copyOf1_38 : decode b_AR_copyOf1 38 = .ok (.aload_n 3, 1) := by decide +kernel
theorem d_AR_copyOf1_39 : decode b_AR_copyOf1 39 = .ok (.areturn, 1) := by decide +kernel

theorem d_AS_newLength_0 : decode b_AS_newLength 0 = .ok (.iload_n 0, 1) := by decide +kernel
theorem d_AS_newLength_1 : decode b_AS_newLength 1 = .ok (.iload_n 1, 1) := by decide +kernel
theorem d_AS_newLength_2 : decode b_AS_newLength 2 = .ok (.iload_n 2, 1) := by decide +kernel
theorem d_AS_newLength_3 : decode b_AS_newLength 3 = .ok (.invokestatic 194, 3) := by decide +kernel
theorem d_AS_newLength_6 : decode b_AS_newLength 6 = .ok (.iadd, 1) := by decide +kernel
theorem d_AS_newLength_7 : decode b_AS_newLength 7 = .ok (.istore_n 3, 1) := by decide +kernel
theorem d_AS_newLength_8 : decode b_AS_newLength 8 = .ok (.iconst 0, 1) := by decide +kernel
theorem d_AS_newLength_9 : decode b_AS_newLength 9 = .ok (.iload_n 3, 1) := by decide +kernel
theorem d_AS_newLength_10 : decode b_AS_newLength 10 = .ok (.if_icmp .ge 11, 3) := by decide +kernel
theorem d_AS_newLength_13 : decode b_AS_newLength 13 = .ok (.iload_n 3, 1) := by decide +kernel
theorem d_AS_newLength_14 : decode b_AS_newLength 14 = .ok (.ldc 200, 2) := by decide +kernel
theorem d_AS_newLength_16 : decode b_AS_newLength 16 = .ok (.if_icmp .gt 5, 3) := by decide +kernel
theorem d_AS_newLength_19 : decode b_AS_newLength 19 = .ok (.iload_n 3, 1) := by decide +kernel
theorem d_AS_newLength_20 : decode b_AS_newLength 20 = .ok (.ireturn, 1) := by decide +kernel
theorem d_AS_newLength_21 : decode b_AS_newLength 21 = .ok (.iload_n 0, 1) := by decide +kernel
theorem d_AS_newLength_22 : decode b_AS_newLength 22 = .ok (.iload_n 1, 1) := by decide +kernel
theorem d_AS_newLength_23 : decode b_AS_newLength 23 = .ok (.invokestatic 201, 3) := by decide +kernel
theorem d_AS_newLength_26 : decode b_AS_newLength 26 = .ok (.ireturn, 1) := by decide +kernel
theorem d_AS_hugeLength_0 : decode b_AS_hugeLength 0 = .ok (.iload_n 0, 1) := by decide +kernel
theorem d_AS_hugeLength_1 : decode b_AS_hugeLength 1 = .ok (.iload_n 1, 1) := by decide +kernel
theorem d_AS_hugeLength_2 : decode b_AS_hugeLength 2 = .ok (.iadd, 1) := by decide +kernel
theorem d_AS_hugeLength_3 : decode b_AS_hugeLength 3 = .ok (.istore_n 2, 1) := by decide +kernel
theorem d_AS_hugeLength_4 : decode b_AS_hugeLength 4 = .ok (.iload_n 2, 1) := by decide +kernel
theorem d_AS_hugeLength_5 : decode b_AS_hugeLength 5 = .ok (.ifCond .ge 44, 3) := by decide +kernel
theorem d_AS_hugeLength_8 : decode b_AS_hugeLength 8 = .ok (.new 204, 3) := by decide +kernel
theorem d_AS_hugeLength_11 : decode b_AS_hugeLength 11 = .ok (.dup, 1) := by decide +kernel
theorem d_AS_hugeLength_12 : decode b_AS_hugeLength 12 = .ok (.new 89, 3) := by decide +kernel
theorem d_AS_hugeLength_15 : decode b_AS_hugeLength 15 = .ok (.dup, 1) := by decide +kernel
theorem d_AS_hugeLength_16 : decode b_AS_hugeLength 16 = .ok (.invokespecial 91, 3) := by decide +kernel
theorem d_AS_hugeLength_19 : decode b_AS_hugeLength 19 = .ok (.ldc 206, 2) := by decide +kernel
theorem d_AS_hugeLength_21 : decode b_AS_hugeLength 21 = .ok (.invokevirtual 94, 3) := by decide +kernel
theorem d_AS_hugeLength_24 : decode b_AS_hugeLength 24 = .ok (.iload_n 0, 1) := by decide +kernel
theorem d_AS_hugeLength_25 : decode b_AS_hugeLength 25 = .ok (.invokevirtual 98, 3) := by decide +kernel
theorem d_AS_hugeLength_28 : decode b_AS_hugeLength 28 = .ok (.ldc 208, 2) := by decide +kernel
theorem d_AS_hugeLength_30 : decode b_AS_hugeLength 30 = .ok (.invokevirtual 94, 3) := by decide +kernel
theorem d_AS_hugeLength_33 : decode b_AS_hugeLength 33 = .ok (.iload_n 1, 1) := by decide +kernel
theorem d_AS_hugeLength_34 : decode b_AS_hugeLength 34 = .ok (.invokevirtual 98, 3) := by decide +kernel
theorem d_AS_hugeLength_37 : decode b_AS_hugeLength 37 = .ok (.ldc 210, 2) := by decide +kernel
theorem d_AS_hugeLength_39 : decode b_AS_hugeLength 39 = .ok (.invokevirtual 94, 3) := by decide +kernel
theorem d_AS_hugeLength_42 : decode b_AS_hugeLength 42 = .ok (.invokevirtual 101, 3) := by decide +kernel
theorem d_AS_hugeLength_45 : decode b_AS_hugeLength 45 = .ok (.invokespecial 212, 3) := by decide +kernel
theorem d_AS_hugeLength_48 : decode b_AS_hugeLength 48 = .ok (.athrow, 1) := by decide +kernel
theorem d_AS_hugeLength_49 : decode b_AS_hugeLength 49 = .ok (.iload_n 2, 1) := by decide +kernel
theorem d_AS_hugeLength_50 : decode b_AS_hugeLength 50 = .ok (.ldc 200, 2) := by decide +kernel
theorem d_AS_hugeLength_52 : decode b_AS_hugeLength 52 = .ok (.if_icmp .gt 6, 3) := by decide +kernel
theorem d_AS_hugeLength_55 : decode b_AS_hugeLength 55 = .ok (.ldc 200, 2) := by decide +kernel
theorem d_AS_hugeLength_57 : decode b_AS_hugeLength 57 = .ok (.ireturn, 1) := by decide +kernel
theorem d_AS_hugeLength_58 : decode b_AS_hugeLength 58 = .ok (.iload_n 2, 1) := by decide +kernel
theorem d_AS_hugeLength_59 : decode b_AS_hugeLength 59 = .ok (.ireturn, 1) := by decide +kernel

theorem d_OB_checkIndex_0 : decode b_OB_checkIndex 0 = .ok (.iload_n 0, 1) := by decide +kernel
theorem d_OB_checkIndex_1 : decode b_OB_checkIndex 1 = .ok (.iload_n 1, 1) := by decide +kernel
theorem d_OB_checkIndex_2 : decode b_OB_checkIndex 2 = .ok (.aconst_null, 1) := by decide +kernel
theorem d_OB_checkIndex_3 : decode b_OB_checkIndex 3 = .ok (.invokestatic 105, 3) := by decide +kernel
theorem d_OB_checkIndex_6 : decode b_OB_checkIndex 6 = .ok (.ireturn, 1) := by decide +kernel

theorem d_PC_checkIndex_0 : decode b_PC_checkIndex 0 = .ok (.iload_n 0, 1) := by decide +kernel
theorem d_PC_checkIndex_1 : decode b_PC_checkIndex 1 = .ok (.ifCond .lt 8, 3) := by decide +kernel
theorem d_PC_checkIndex_4 : decode b_PC_checkIndex 4 = .ok (.iload_n 0, 1) := by decide +kernel
theorem d_PC_checkIndex_5 : decode b_PC_checkIndex 5 = .ok (.iload_n 1, 1) := by decide +kernel
theorem d_PC_checkIndex_6 : decode b_PC_checkIndex 6 = .ok (.if_icmp .lt 10, 3) := by decide +kernel
theorem d_PC_checkIndex_9 : decode b_PC_checkIndex 9 = .ok (.aload_n 2, 1) := by decide +kernel
theorem d_PC_checkIndex_10 : decode b_PC_checkIndex 10 = .ok (.iload_n 0, 1) := by decide +kernel
theorem d_PC_checkIndex_11 : decode b_PC_checkIndex 11 = .ok (.iload_n 1, 1) := by decide +kernel
theorem d_PC_checkIndex_12 : decode b_PC_checkIndex 12 = .ok (.invokestatic 95, 3) := by decide +kernel
theorem d_PC_checkIndex_15 : decode b_PC_checkIndex 15 = .ok (.athrow, 1) := by decide +kernel
theorem d_PC_checkIndex_16 : decode b_PC_checkIndex 16 = .ok (.iload_n 0, 1) := by decide +kernel
theorem d_PC_checkIndex_17 : decode b_PC_checkIndex 17 = .ok (.ireturn, 1) := by decide +kernel

theorem d_MA_max_0 : decode b_MA_max 0 = .ok (.iload_n 0, 1) := by decide +kernel
theorem d_MA_max_1 : decode b_MA_max 1 = .ok (.iload_n 1, 1) := by decide +kernel
theorem d_MA_max_2 : decode b_MA_max 2 = .ok (.if_icmp .lt 7, 3) := by decide +kernel
theorem d_MA_max_5 : decode b_MA_max 5 = .ok (.iload_n 0, 1) := by decide +kernel
theorem d_MA_max_6 : decode b_MA_max 6 = .ok (.goto 4, 3) := by decide +kernel
theorem d_MA_max_9 : decode b_MA_max 9 = .ok (.iload_n 1, 1) := by decide +kernel
theorem d_MA_max_10 : decode b_MA_max 10 = .ok (.ireturn, 1) := by decide +kernel
theorem d_MA_min_0 : decode b_MA_min 0 = .ok (.iload_n 0, 1) := by decide +kernel
theorem d_MA_min_1 : decode b_MA_min 1 = .ok (.iload_n 1, 1) := by decide +kernel
theorem d_MA_min_2 : decode b_MA_min 2 = .ok (.if_icmp .gt 7, 3) := by decide +kernel
theorem d_MA_min_5 : decode b_MA_min 5 = .ok (.iload_n 0, 1) := by decide +kernel
theorem d_MA_min_6 : decode b_MA_min 6 = .ok (.goto 4, 3) := by decide +kernel
theorem d_MA_min_9 : decode b_MA_min 9 = .ok (.iload_n 1, 1) := by decide +kernel
theorem d_MA_min_10 : decode b_MA_min 10 = .ok (.ireturn, 1) := by decide +kernel

theorem d_I_init_0 : decode b_I_init 0 = .ok (.aload_n 0, 1) := by decide +kernel
theorem d_I_init_1 : decode b_I_init 1 = .ok (.invokespecial 3, 3) := by decide +kernel
theorem d_I_init_4 : decode b_I_init 4 = .ok (.aload_n 0, 1) := by decide +kernel
theorem d_I_init_5 : decode b_I_init 5 = .ok (.iload_n 1, 1) := by decide +kernel
theorem d_I_init_6 : decode b_I_init 6 = .ok (.putfield 9, 3) := by decide +kernel
theorem d_I_init_9 : decode b_I_init 9 = .ok (.aload_n 0, 1) := by decide +kernel
theorem d_I_init_10 : decode b_I_init 10 = .ok (.iload_n 2, 1) := by decide +kernel
theorem d_I_init_11 : decode b_I_init 11 = .ok (.putfield 15, 3) := by decide +kernel
theorem d_I_init_14 : decode b_I_init 14 = .ok (.aload_n 0, 1) := by decide +kernel
theorem d_I_init_15 : decode b_I_init 15 = .ok (.iload_n 3, 1) := by decide +kernel
theorem d_I_init_16 : decode b_I_init 16 = .ok (.putfield 18, 3) := by decide +kernel
theorem d_I_init_19 : decode b_I_init 19 = .ok (.return_, 1) := by decide +kernel
theorem d_I_isHidden_0 : decode b_I_isHidden 0 = .ok (.aload_n 0, 1) := by decide +kernel
theorem d_I_isHidden_1 : decode b_I_isHidden 1 = .ok (.getfield 15, 3) := by decide +kernel
theorem d_I_isHidden_4 : decode b_I_isHidden 4 = .ok (.iconst 3, 1) := by decide +kernel
theorem d_I_isHidden_5 : decode b_I_isHidden 5 = .ok (.if_icmp .ne 7, 3) := by decide +kernel
theorem d_I_isHidden_8 : decode b_I_isHidden 8 = .ok (.iconst 1, 1) := by decide +kernel
theorem d_I_isHidden_9 : decode b_I_isHidden 9 = .ok (.goto 4, 3) := by decide +kernel
theorem d_I_isHidden_12 : decode b_I_isHidden 12 = .ok (.iconst 0, 1) := by decide +kernel
theorem d_I_isHidden_13 : decode b_I_isHidden 13 = .ok (.ireturn, 1) := by decide +kernel

theorem d_D_init_0 : decode b_D_init 0 = .ok (.aload_n 0, 1) := by decide +kernel
theorem d_D_init_1 : decode b_D_init 1 = .ok (.iload_n 1, 1) := by decide +kernel
theorem d_D_init_2 : decode b_D_init 2 = .ok (.iload_n 2, 1) := by decide +kernel
theorem d_D_init_3 : decode b_D_init 3 = .ok (.iload_n 3, 1) := by decide +kernel
theorem d_D_init_4 : decode b_D_init 4 = .ok (.invokespecial 3, 3) := by decide +kernel
theorem d_D_init_7 : decode b_D_init 7 = .ok (.return_, 1) := by decide +kernel
theorem d_D_threadKind_0 : decode b_D_threadKind 0 = .ok (.iconst 4, 1) := by decide +kernel
theorem d_D_threadKind_1 : decode b_D_threadKind 1 = .ok (.ireturn, 1) := by decide +kernel
theorem d_D_ownKind_0 : decode b_D_ownKind 0 = .ok (.iconst 1, 1) := by decide +kernel
theorem d_D_ownKind_1 : decode b_D_ownKind 1 = .ok (.ireturn, 1) := by decide +kernel
theorem d_D_ownMore_0 : decode b_D_ownMore 0 = .ok (.aload_n 0, 1) := by decide +kernel
theorem d_D_ownMore_1 : decode b_D_ownMore 1 = .ok (.getfield 9, 3) := by decide +kernel
theorem d_D_ownMore_4 : decode b_D_ownMore 4 = .ok (.ireturn, 1) := by decide +kernel

theorem d_S_init_0 : decode b_S_init 0 = .ok (.aload_n 0, 1) := by decide +kernel
theorem d_S_init_1 : decode b_S_init 1 = .ok (.iload_n 1, 1) := by decide +kernel
theorem d_S_init_2 : decode b_S_init 2 = .ok (.iload_n 2, 1) := by decide +kernel
theorem d_S_init_3 : decode b_S_init 3 = .ok (.iload_n 3, 1) := by decide +kernel
theorem d_S_init_4 : decode b_S_init 4 = .ok (.invokespecial 3, 3) := by decide +kernel
theorem d_S_init_7 : decode b_S_init 7 = .ok (.aload_n 0, 1) := by decide +kernel
theorem d_S_init_8 : decode b_S_init 8 = .ok (.bipush 48, 2) := by decide +kernel
theorem d_S_init_10 : decode b_S_init 10 = .ok (.newarray .int, 2) := by decide +kernel
theorem d_S_init_12 : decode b_S_init 12 = .ok (.putfield 9, 3) := by decide +kernel
theorem d_S_init_15 : decode b_S_init 15 = .ok (.return_, 1) := by decide +kernel
theorem d_S_lastBlock_0 : decode b_S_lastBlock 0 = .ok (.aload_n 0, 1) := by decide +kernel
theorem d_S_lastBlock_1 : decode b_S_lastBlock 1 = .ok (.getfield 15, 3) := by decide +kernel
theorem d_S_lastBlock_4 : decode b_S_lastBlock 4 = .ok (.ifCond .ne 7, 3) := by decide +kernel
theorem d_S_lastBlock_7 : decode b_S_lastBlock 7 = .ok (.iconst (-1), 1) := by decide +kernel
theorem d_S_lastBlock_8 : decode b_S_lastBlock 8 = .ok (.goto 14, 3) := by decide +kernel
theorem d_S_lastBlock_11 : decode b_S_lastBlock 11 = .ok (.aload_n 0, 1) := by decide +kernel
theorem d_S_lastBlock_12 : decode b_S_lastBlock 12 = .ok (.getfield 9, 3) := by decide +kernel
theorem d_S_lastBlock_15 : decode b_S_lastBlock 15 = .ok (.aload_n 0, 1) := by decide +kernel
theorem d_S_lastBlock_16 : decode b_S_lastBlock 16 = .ok (.getfield 15, 3) := by decide +kernel
theorem d_S_lastBlock_19 : decode b_S_lastBlock 19 = .ok (.iconst 1, 1) := by decide +kernel
theorem d_S_lastBlock_20 : decode b_S_lastBlock 20 = .ok (.isub, 1) := by decide +kernel
theorem d_S_lastBlock_21 : decode b_S_lastBlock 21 = .ok (.iaload, 1) := by decide +kernel
theorem d_S_lastBlock_22 : decode b_S_lastBlock 22 = .ok (.ireturn, 1) := by decide +kernel
theorem d_S_append_0 : decode b_S_append 0 = .ok (.aload_n 0, 1) := by decide +kernel
theorem d_S_append_1 : decode b_S_append 1 = .ok (.getfield 15, 3) := by decide +kernel
theorem d_S_append_4 : decode b_S_append 4 = .ok (.bipush 48, 2) := by decide +kernel
theorem d_S_append_6 : decode b_S_append 6 = .ok (.if_icmp .ge 23, 3) := by decide +kernel
theorem d_S_append_9 : decode b_S_append 9 = .ok (.aload_n 0, 1) := by decide +kernel
theorem d_S_append_10 : decode b_S_append 10 = .ok (.getfield 9, 3) := by decide +kernel
theorem d_S_append_13 : decode b_S_append 13 = .ok (.aload_n 0, 1) := by decide +kernel
theorem d_S_append_14 : decode b_S_append 14 = .ok (.getfield 15, 3) := by decide +kernel
theorem d_S_append_17 : decode b_S_append 17 = .ok (.iload_n 1, 1) := by decide +kernel
theorem d_S_append_18 : decode b_S_append 18 = .ok (.iastore, 1) := by decide +kernel
theorem d_S_append_19 : decode b_S_append 19 = .ok (.aload_n 0, 1) := by decide +kernel
theorem d_S_append_20 : decode b_S_append 20 = .ok (.dup, 1) := by decide +kernel
theorem d_S_append_21 : decode b_S_append 21 = .ok (.getfield 15, 3) := by decide +kernel
theorem d_S_append_24 : decode b_S_append 24 = .ok (.iconst 1, 1) := by decide +kernel
theorem d_S_append_25 : decode b_S_append 25 = .ok (.iadd, 1) := by decide +kernel
theorem d_S_append_26 : decode b_S_append 26 = .ok (.putfield 15, 3) := by decide +kernel
theorem d_S_append_29 : decode b_S_append 29 = .ok (.return_, 1) := by decide +kernel
theorem d_S_extentCount_0 : decode b_S_extentCount 0 = .ok (.iconst 0, 1) := by decide +kernel
theorem d_S_extentCount_1 : decode b_S_extentCount 1 = .ok (.istore_n 1, 1) := by decide +kernel
theorem d_S_extentCount_2 : decode b_S_extentCount 2 = .ok (.iconst 0, 1) := by decide +kernel
theorem d_S_extentCount_3 : decode b_S_extentCount 3 = .ok (.istore_n 2, 1) := by decide +kernel
theorem d_S_extentCount_4 : decode b_S_extentCount 4 = .ok (.iload_n 2, 1) := by decide +kernel
theorem d_S_extentCount_5 : decode b_S_extentCount 5 = .ok (.aload_n 0, 1) := by decide +kernel
theorem d_S_extentCount_6 : decode b_S_extentCount 6 = .ok (.getfield 15, 3) := by decide +kernel
theorem d_S_extentCount_9 : decode b_S_extentCount 9 = .ok (.if_icmp .ge 20, 3) := by decide +kernel
theorem d_S_extentCount_12 : decode b_S_extentCount 12 = .ok (.aload_n 0, 1) := by decide +kernel
theorem d_S_extentCount_13 : decode b_S_extentCount 13 = .ok (.iload_n 2, 1) := by decide +kernel
theorem d_S_extentCount_14 : decode b_S_extentCount 14 = .ok (.invokevirtual 19, 3) := by decide +kernel
theorem d_S_extentCount_17 : decode b_S_extentCount 17 = .ok (.ifCond .eq 6, 3) := by decide +kernel
theorem d_S_extentCount_20 : decode b_S_extentCount 20 = .ok (.iinc 1 1, 3) := by decide +kernel
theorem d_S_extentCount_23 : decode b_S_extentCount 23 = .ok (.iinc 2 1, 3) := by decide +kernel
theorem d_S_extentCount_26 : decode b_S_extentCount 26 = .ok (.goto (-22), 3) := by decide +kernel
theorem d_S_extentCount_29 : decode b_S_extentCount 29 = .ok (.iload_n 1, 1) := by decide +kernel
theorem d_S_extentCount_30 : decode b_S_extentCount 30 = .ok (.ireturn, 1) := by decide +kernel
theorem d_S_beginsExtent_0 : decode b_S_beginsExtent 0 = .ok (.iload_n 1, 1) := by decide +kernel
theorem d_S_beginsExtent_1 : decode b_S_beginsExtent 1 = .ok (.ifCond .eq 22, 3) := by decide +kernel
theorem d_S_beginsExtent_4 : decode b_S_beginsExtent 4 = .ok (.aload_n 0, 1) := by decide +kernel
theorem d_S_beginsExtent_5 : decode b_S_beginsExtent 5 = .ok (.getfield 9, 3) := by decide +kernel
theorem d_S_beginsExtent_8 : decode b_S_beginsExtent 8 = .ok (.iload_n 1, 1) := by decide +kernel
theorem d_S_beginsExtent_9 : decode b_S_beginsExtent 9 = .ok (.iaload, 1) := by decide +kernel
theorem d_S_beginsExtent_10 : decode b_S_beginsExtent 10 = .ok (.aload_n 0, 1) := by decide +kernel
theorem d_S_beginsExtent_11 : decode b_S_beginsExtent 11 = .ok (.getfield 9, 3) := by decide +kernel
theorem d_S_beginsExtent_14 : decode b_S_beginsExtent 14 = .ok (.iload_n 1, 1) := by decide +kernel
theorem d_S_beginsExtent_15 : decode b_S_beginsExtent 15 = .ok (.iconst 1, 1) := by decide +kernel
theorem d_S_beginsExtent_16 : decode b_S_beginsExtent 16 = .ok (.isub, 1) := by decide +kernel
theorem d_S_beginsExtent_17 : decode b_S_beginsExtent 17 = .ok (.iaload, 1) := by decide +kernel
theorem d_S_beginsExtent_18 : decode b_S_beginsExtent 18 = .ok (.iconst 1, 1) := by decide +kernel
theorem d_S_beginsExtent_19 : decode b_S_beginsExtent 19 = .ok (.iadd, 1) := by decide +kernel
theorem d_S_beginsExtent_20 : decode b_S_beginsExtent 20 = .ok (.if_icmp .eq 7, 3) := by decide +kernel
theorem d_S_beginsExtent_23 : decode b_S_beginsExtent 23 = .ok (.iconst 1, 1) := by decide +kernel
theorem d_S_beginsExtent_24 : decode b_S_beginsExtent 24 = .ok (.goto 4, 3) := by decide +kernel
theorem d_S_beginsExtent_27 : decode b_S_beginsExtent 27 = .ok (.iconst 0, 1) := by decide +kernel
theorem d_S_beginsExtent_28 : decode b_S_beginsExtent 28 = .ok (.ireturn, 1) := by decide +kernel
theorem d_S_threadKind_0 : decode b_S_threadKind 0 = .ok (.iconst 5, 1) := by decide +kernel
theorem d_S_threadKind_1 : decode b_S_threadKind 1 = .ok (.ireturn, 1) := by decide +kernel
theorem d_S_ownKind_0 : decode b_S_ownKind 0 = .ok (.iconst 2, 1) := by decide +kernel
theorem d_S_ownKind_1 : decode b_S_ownKind 1 = .ok (.ireturn, 1) := by decide +kernel
theorem d_S_ownMore_0 : decode b_S_ownMore 0 = .ok (.aload_n 0, 1) := by decide +kernel
theorem d_S_ownMore_1 : decode b_S_ownMore 1 = .ok (.getfield 15, 3) := by decide +kernel
theorem d_S_ownMore_4 : decode b_S_ownMore 4 = .ok (.ireturn, 1) := by decide +kernel
theorem d_S_extentPlace_0 : decode b_S_extentPlace 0 = .ok (.iconst 0, 1) := by decide +kernel
theorem d_S_extentPlace_1 : decode b_S_extentPlace 1 = .ok (.istore_n 2, 1) := by decide +kernel
theorem d_S_extentPlace_2 : decode b_S_extentPlace 2 = .ok (.iconst 0, 1) := by decide +kernel
theorem d_S_extentPlace_3 : decode b_S_extentPlace 3 = .ok (.istore_n 3, 1) := by decide +kernel
theorem d_S_extentPlace_4 : decode b_S_extentPlace 4 = .ok (.iload_n 3, 1) := by decide +kernel
theorem d_S_extentPlace_5 : decode b_S_extentPlace 5 = .ok (.aload_n 0, 1) := by decide +kernel
theorem d_S_extentPlace_6 : decode b_S_extentPlace 6 = .ok (.getfield 15, 3) := by decide +kernel
theorem d_S_extentPlace_9 : decode b_S_extentPlace 9 = .ok (.if_icmp .ge 27, 3) := by decide +kernel
theorem d_S_extentPlace_12 : decode b_S_extentPlace 12 = .ok (.aload_n 0, 1) := by decide +kernel
theorem d_S_extentPlace_13 : decode b_S_extentPlace 13 = .ok (.iload_n 3, 1) := by decide +kernel
theorem d_S_extentPlace_14 : decode b_S_extentPlace 14 = .ok (.invokevirtual 19, 3) := by decide +kernel
theorem d_S_extentPlace_17 : decode b_S_extentPlace 17 = .ok (.ifCond .eq 13, 3) := by decide +kernel
theorem d_S_extentPlace_20 : decode b_S_extentPlace 20 = .ok (.iload_n 2, 1) := by decide +kernel
theorem d_S_extentPlace_21 : decode b_S_extentPlace 21 = .ok (.iload_n 1, 1) := by decide +kernel
theorem d_S_extentPlace_22 : decode b_S_extentPlace 22 = .ok (.if_icmp .ne 5, 3) := by decide +kernel
theorem d_S_extentPlace_25 : decode b_S_extentPlace 25 = .ok (.iload_n 3, 1) := by decide +kernel
theorem d_S_extentPlace_26 : decode b_S_extentPlace 26 = .ok (.ireturn, 1) := by decide +kernel
theorem d_S_extentPlace_27 : decode b_S_extentPlace 27 = .ok (.iinc 2 1, 3) := by decide +kernel
theorem d_S_extentPlace_30 : decode b_S_extentPlace 30 = .ok (.iinc 3 1, 3) := by decide +kernel
theorem d_S_extentPlace_33 : decode b_S_extentPlace 33 = .ok (.goto (-29), 3) := by decide +kernel
theorem d_S_extentPlace_36 : decode b_S_extentPlace 36 = .ok (.aload_n 0, 1) := by decide +kernel
theorem d_S_extentPlace_37 : decode b_S_extentPlace 37 = .ok (.getfield 15, 3) := by decide +kernel
theorem d_S_extentPlace_40 : decode b_S_extentPlace 40 = .ok (.ireturn, 1) := by decide +kernel
theorem d_S_has_0 : decode b_S_has 0 = .ok (.iconst 0, 1) := by decide +kernel
theorem d_S_has_1 : decode b_S_has 1 = .ok (.istore_n 2, 1) := by decide +kernel
theorem d_S_has_2 : decode b_S_has 2 = .ok (.iload_n 2, 1) := by decide +kernel
theorem d_S_has_3 : decode b_S_has 3 = .ok (.aload_n 0, 1) := by decide +kernel
theorem d_S_has_4 : decode b_S_has 4 = .ok (.getfield 15, 3) := by decide +kernel
theorem d_S_has_7 : decode b_S_has 7 = .ok (.if_icmp .ge 21, 3) := by decide +kernel
theorem d_S_has_10 : decode b_S_has 10 = .ok (.aload_n 0, 1) := by decide +kernel
theorem d_S_has_11 : decode b_S_has 11 = .ok (.getfield 9, 3) := by decide +kernel
theorem d_S_has_14 : decode b_S_has 14 = .ok (.iload_n 2, 1) := by decide +kernel
theorem d_S_has_15 : decode b_S_has 15 = .ok (.iaload, 1) := by decide +kernel
theorem d_S_has_16 : decode b_S_has 16 = .ok (.iload_n 1, 1) := by decide +kernel
theorem d_S_has_17 : decode b_S_has 17 = .ok (.if_icmp .ne 5, 3) := by decide +kernel
theorem d_S_has_20 : decode b_S_has 20 = .ok (.iconst 1, 1) := by decide +kernel
theorem d_S_has_21 : decode b_S_has 21 = .ok (.ireturn, 1) := by decide +kernel
theorem d_S_has_22 : decode b_S_has 22 = .ok (.iinc 2 1, 3) := by decide +kernel
theorem d_S_has_25 : decode b_S_has 25 = .ok (.goto (-23), 3) := by decide +kernel
theorem d_S_has_28 : decode b_S_has 28 = .ok (.iconst 0, 1) := by decide +kernel
theorem d_S_has_29 : decode b_S_has 29 = .ok (.ireturn, 1) := by decide +kernel

theorem d_J_init_0 : decode b_J_init 0 = .ok (.aload_n 0, 1) := by decide +kernel
theorem d_J_init_1 : decode b_J_init 1 = .ok (.iload_n 1, 1) := by decide +kernel
theorem d_J_init_2 : decode b_J_init 2 = .ok (.iload_n 2, 1) := by decide +kernel
theorem d_J_init_3 : decode b_J_init 3 = .ok (.iload_n 3, 1) := by decide +kernel
theorem d_J_init_4 : decode b_J_init 4 = .ok (.invokespecial 3, 3) := by decide +kernel
theorem d_J_init_7 : decode b_J_init 7 = .ok (.aload_n 0, 1) := by decide +kernel
theorem d_J_init_8 : decode b_J_init 8 = .ok (.aload 4, 2) := by decide +kernel
theorem d_J_init_10 : decode b_J_init 10 = .ok (.putfield 9, 3) := by decide +kernel
theorem d_J_init_13 : decode b_J_init 13 = .ok (.return_, 1) := by decide +kernel
theorem d_J_threadKind_0 : decode b_J_threadKind 0 = .ok (.iconst 5, 1) := by decide +kernel
theorem d_J_threadKind_1 : decode b_J_threadKind 1 = .ok (.ireturn, 1) := by decide +kernel
theorem d_J_ownKind_0 : decode b_J_ownKind 0 = .ok (.iconst 3, 1) := by decide +kernel
theorem d_J_ownKind_1 : decode b_J_ownKind 1 = .ok (.ireturn, 1) := by decide +kernel
theorem d_J_ownMore_0 : decode b_J_ownMore 0 = .ok (.aload_n 0, 1) := by decide +kernel
theorem d_J_ownMore_1 : decode b_J_ownMore 1 = .ok (.getfield 9, 3) := by decide +kernel
theorem d_J_ownMore_4 : decode b_J_ownMore 4 = .ok (.getfield 15, 3) := by decide +kernel
theorem d_J_ownMore_7 : decode b_J_ownMore 7 = .ok (.ireturn, 1) := by decide +kernel

theorem d_N_init_0 : decode b_N_init 0 = .ok (.aload_n 0, 1) := by decide +kernel
theorem d_N_init_1 : decode b_N_init 1 = .ok (.invokespecial 3, 3) := by decide +kernel
theorem d_N_init_4 : decode b_N_init 4 = .ok (.aload_n 0, 1) := by decide +kernel
theorem d_N_init_5 : decode b_N_init 5 = .ok (.aload_n 1, 1) := by decide +kernel
theorem d_N_init_6 : decode b_N_init 6 = .ok (.putfield 9, 3) := by decide +kernel
theorem d_N_init_9 : decode b_N_init 9 = .ok (.aload_n 0, 1) := by decide +kernel
theorem d_N_init_10 : decode b_N_init 10 = .ok (.iload_n 2, 1) := by decide +kernel
theorem d_N_init_11 : decode b_N_init 11 = .ok (.putfield 15, 3) := by decide +kernel
theorem d_N_init_14 : decode b_N_init 14 = .ok (.return_, 1) := by decide +kernel
theorem d_N_comesBefore_0 : decode b_N_comesBefore 0 = .ok (.aload_n 0, 1) := by decide +kernel
theorem d_N_comesBefore_1 : decode b_N_comesBefore 1 = .ok (.invokevirtual 41, 3) := by decide +kernel
theorem d_N_comesBefore_4 : decode b_N_comesBefore 4 = .ok (.aload_n 1, 1) := by decide +kernel
theorem d_N_comesBefore_5 : decode b_N_comesBefore 5 = .ok (.invokevirtual 41, 3) := by decide +kernel
theorem d_N_comesBefore_8 : decode b_N_comesBefore 8 = .ok (.if_icmp .eq 20, 3) := by decide +kernel
theorem d_N_comesBefore_11 : decode b_N_comesBefore 11 = .ok (.aload_n 0, 1) := by decide +kernel
theorem d_N_comesBefore_12 : decode b_N_comesBefore 12 = .ok (.invokevirtual 41, 3) := by decide +kernel
theorem d_N_comesBefore_15 : decode b_N_comesBefore 15 = .ok (.aload_n 1, 1) := by decide +kernel
theorem d_N_comesBefore_16 : decode b_N_comesBefore 16 = .ok (.invokevirtual 41, 3) := by decide +kernel
theorem d_N_comesBefore_19 : decode b_N_comesBefore 19 = .ok (.if_icmp .ge 7, 3) := by decide +kernel
theorem d_N_comesBefore_22 : decode b_N_comesBefore 22 = .ok (.iconst 1, 1) := by decide +kernel
theorem d_N_comesBefore_23 : decode b_N_comesBefore 23 = .ok (.goto 4, 3) := by decide +kernel
theorem d_N_comesBefore_26 : decode b_N_comesBefore 26 = .ok (.iconst 0, 1) := by decide +kernel
theorem d_N_comesBefore_27 : decode b_N_comesBefore 27 = .ok (.ireturn, 1) := by decide +kernel
theorem d_N_comesBefore_28 : decode b_N_comesBefore 28 = .ok (.aload_n 0, 1) := by decide +kernel
theorem d_N_comesBefore_29 : decode b_N_comesBefore 29 = .ok (.invokevirtual 44, 3) := by decide +kernel
theorem d_N_comesBefore_32 : decode b_N_comesBefore 32 = .ok (.aload_n 1, 1) := by decide +kernel
theorem d_N_comesBefore_33 : decode b_N_comesBefore 33 = .ok (.invokevirtual 44, 3) := by decide +kernel
theorem d_N_comesBefore_36 : decode b_N_comesBefore 36 = .ok (.if_icmp .ge 7, 3) := by decide +kernel
theorem d_N_comesBefore_39 : decode b_N_comesBefore 39 = .ok (.iconst 1, 1) := by decide +kernel
theorem d_N_comesBefore_40 : decode b_N_comesBefore 40 = .ok (.goto 4, 3) := by decide +kernel
theorem d_N_comesBefore_43 : decode b_N_comesBefore 43 = .ok (.iconst 0, 1) := by decide +kernel
theorem d_N_comesBefore_44 : decode b_N_comesBefore 44 = .ok (.ireturn, 1) := by decide +kernel
theorem d_N_keyId_0 : decode b_N_keyId 0 = .ok (.aload_n 0, 1) := by decide +kernel
theorem d_N_keyId_1 : decode b_N_keyId 1 = .ok (.getfield 15, 3) := by decide +kernel
theorem d_N_keyId_4 : decode b_N_keyId 4 = .ok (.ifCond .eq 13, 3) := by decide +kernel
theorem d_N_keyId_7 : decode b_N_keyId 7 = .ok (.aload_n 0, 1) := by decide +kernel
theorem d_N_keyId_8 : decode b_N_keyId 8 = .ok (.getfield 9, 3) := by decide +kernel
theorem d_N_keyId_11 : decode b_N_keyId 11 = .ok (.getfield 19, 3) := by decide +kernel
theorem d_N_keyId_14 : decode b_N_keyId 14 = .ok (.goto 10, 3) := by decide +kernel
theorem d_N_keyId_17 : decode b_N_keyId 17 = .ok (.aload_n 0, 1) := by decide +kernel
theorem d_N_keyId_18 : decode b_N_keyId 18 = .ok (.getfield 9, 3) := by decide +kernel
theorem d_N_keyId_21 : decode b_N_keyId 21 = .ok (.getfield 25, 3) := by decide +kernel
theorem d_N_keyId_24 : decode b_N_keyId 24 = .ok (.ireturn, 1) := by decide +kernel
theorem d_N_keyName_0 : decode b_N_keyName 0 = .ok (.aload_n 0, 1) := by decide +kernel
theorem d_N_keyName_1 : decode b_N_keyName 1 = .ok (.getfield 15, 3) := by decide +kernel
theorem d_N_keyName_4 : decode b_N_keyName 4 = .ok (.ifCond .eq 7, 3) := by decide +kernel
theorem d_N_keyName_7 : decode b_N_keyName 7 = .ok (.iconst (-1), 1) := by decide +kernel
theorem d_N_keyName_8 : decode b_N_keyName 8 = .ok (.goto 10, 3) := by decide +kernel
theorem d_N_keyName_11 : decode b_N_keyName 11 = .ok (.aload_n 0, 1) := by decide +kernel
theorem d_N_keyName_12 : decode b_N_keyName 12 = .ok (.getfield 9, 3) := by decide +kernel
theorem d_N_keyName_15 : decode b_N_keyName 15 = .ok (.getfield 28, 3) := by decide +kernel
theorem d_N_keyName_18 : decode b_N_keyName 18 = .ok (.ireturn, 1) := by decide +kernel
theorem d_N_kind_0 : decode b_N_kind 0 = .ok (.aload_n 0, 1) := by decide +kernel
theorem d_N_kind_1 : decode b_N_kind 1 = .ok (.getfield 15, 3) := by decide +kernel
theorem d_N_kind_4 : decode b_N_kind 4 = .ok (.ifCond .eq 13, 3) := by decide +kernel
theorem d_N_kind_7 : decode b_N_kind 7 = .ok (.aload_n 0, 1) := by decide +kernel
theorem d_N_kind_8 : decode b_N_kind 8 = .ok (.getfield 9, 3) := by decide +kernel
theorem d_N_kind_11 : decode b_N_kind 11 = .ok (.invokevirtual 31, 3) := by decide +kernel
theorem d_N_kind_14 : decode b_N_kind 14 = .ok (.goto 10, 3) := by decide +kernel
theorem d_N_kind_17 : decode b_N_kind 17 = .ok (.aload_n 0, 1) := by decide +kernel
theorem d_N_kind_18 : decode b_N_kind 18 = .ok (.getfield 9, 3) := by decide +kernel
theorem d_N_kind_21 : decode b_N_kind 21 = .ok (.invokevirtual 35, 3) := by decide +kernel
theorem d_N_kind_24 : decode b_N_kind 24 = .ok (.ireturn, 1) := by decide +kernel
theorem d_N_value_0 : decode b_N_value 0 = .ok (.aload_n 0, 1) := by decide +kernel
theorem d_N_value_1 : decode b_N_value 1 = .ok (.getfield 15, 3) := by decide +kernel
theorem d_N_value_4 : decode b_N_value 4 = .ok (.ifCond .eq 13, 3) := by decide +kernel
theorem d_N_value_7 : decode b_N_value 7 = .ok (.aload_n 0, 1) := by decide +kernel
theorem d_N_value_8 : decode b_N_value 8 = .ok (.getfield 9, 3) := by decide +kernel
theorem d_N_value_11 : decode b_N_value 11 = .ok (.getfield 25, 3) := by decide +kernel
theorem d_N_value_14 : decode b_N_value 14 = .ok (.goto 10, 3) := by decide +kernel
theorem d_N_value_17 : decode b_N_value 17 = .ok (.aload_n 0, 1) := by decide +kernel
theorem d_N_value_18 : decode b_N_value 18 = .ok (.getfield 9, 3) := by decide +kernel
theorem d_N_value_21 : decode b_N_value 21 = .ok (.getfield 19, 3) := by decide +kernel
theorem d_N_value_24 : decode b_N_value 24 = .ok (.ireturn, 1) := by decide +kernel
theorem d_N_more_0 : decode b_N_more 0 = .ok (.aload_n 0, 1) := by decide +kernel
theorem d_N_more_1 : decode b_N_more 1 = .ok (.getfield 15, 3) := by decide +kernel
theorem d_N_more_4 : decode b_N_more 4 = .ok (.ifCond .eq 13, 3) := by decide +kernel
theorem d_N_more_7 : decode b_N_more 7 = .ok (.aload_n 0, 1) := by decide +kernel
theorem d_N_more_8 : decode b_N_more 8 = .ok (.getfield 9, 3) := by decide +kernel
theorem d_N_more_11 : decode b_N_more 11 = .ok (.getfield 28, 3) := by decide +kernel
theorem d_N_more_14 : decode b_N_more 14 = .ok (.goto 10, 3) := by decide +kernel
theorem d_N_more_17 : decode b_N_more 17 = .ok (.aload_n 0, 1) := by decide +kernel
theorem d_N_more_18 : decode b_N_more 18 = .ok (.getfield 9, 3) := by decide +kernel
theorem d_N_more_21 : decode b_N_more 21 = .ok (.invokevirtual 38, 3) := by decide +kernel
theorem d_N_more_24 : decode b_N_more 24 = .ok (.ireturn, 1) := by decide +kernel

theorem d_K_init_0 : decode b_K_init 0 = .ok (.aload_n 0, 1) := by decide +kernel
theorem d_K_init_1 : decode b_K_init 1 = .ok (.invokespecial 3, 3) := by decide +kernel
theorem d_K_init_4 : decode b_K_init 4 = .ok (.aload_n 0, 1) := by decide +kernel
theorem d_K_init_5 : decode b_K_init 5 = .ok (.new 9, 3) := by decide +kernel
theorem d_K_init_8 : decode b_K_init 8 = .ok (.dup, 1) := by decide +kernel
theorem d_K_init_9 : decode b_K_init 9 = .ok (.invokespecial 11, 3) := by decide +kernel
theorem d_K_init_12 : decode b_K_init 12 = .ok (.putfield 12, 3) := by decide +kernel
theorem d_K_init_15 : decode b_K_init 15 = .ok (.return_, 1) := by decide +kernel
theorem d_K_insert_0 : decode b_K_insert 0 = .ok (.iconst 0, 1) := by decide +kernel
theorem d_K_insert_1 : decode b_K_insert 1 = .ok (.istore_n 2, 1) := by decide +kernel
theorem d_K_insert_2 : decode b_K_insert 2 = .ok (.iload_n 2, 1) := by decide +kernel
theorem d_K_insert_3 : decode b_K_insert 3 = .ok (.aload_n 0, 1) := by decide +kernel
theorem d_K_insert_4 : decode b_K_insert 4 = .ok (.getfield 12, 3) := by decide +kernel
theorem d_K_insert_7 : decode b_K_insert 7 = .ok (.invokevirtual 18, 3) := by decide +kernel
theorem d_K_insert_10 : decode b_K_insert 10 = .ok (.if_icmp .ge 27, 3) := by decide +kernel
theorem d_K_insert_13 : decode b_K_insert 13 = .ok (.aload_n 0, 1) := by decide +kernel
theorem d_K_insert_14 : decode b_K_insert 14 = .ok (.getfield 12, 3) := by decide +kernel
theorem d_K_insert_17 : decode b_K_insert 17 = .ok (.iload_n 2, 1) := by decide +kernel
theorem d_K_insert_18 : decode b_K_insert 18 = .ok (.invokevirtual 22, 3) := by decide +kernel
theorem d_K_insert_21 : decode b_K_insert 21 = .ok (.checkcast 26, 3) := by decide +kernel
theorem d_K_insert_24 : decode b_K_insert 24 = .ok (.aload_n 1, 1) := by decide +kernel
theorem d_K_insert_25 : decode b_K_insert 25 = .ok (.invokevirtual 28, 3) := by decide +kernel
theorem d_K_insert_28 : decode b_K_insert 28 = .ok (.ifCond .eq 9, 3) := by decide +kernel
theorem d_K_insert_31 : decode b_K_insert 31 = .ok (.iinc 2 1, 3) := by decide +kernel
theorem d_K_insert_34 : decode b_K_insert 34 = .ok (.goto (-32), 3) := by decide +kernel
theorem d_K_insert_37 : decode b_K_insert 37 = .ok (.aload_n 0, 1) := by decide +kernel
theorem d_K_insert_38 : decode b_K_insert 38 = .ok (.getfield 12, 3) := by decide +kernel
theorem d_K_insert_41 : decode b_K_insert 41 = .ok (.iload_n 2, 1) := by decide +kernel
theorem d_K_insert_42 : decode b_K_insert 42 = .ok (.aload_n 1, 1) := by decide +kernel
theorem d_K_insert_43 : decode b_K_insert 43 = .ok (.invokevirtual 32, 3) := by decide +kernel
theorem d_K_insert_46 : decode b_K_insert 46 = .ok (.return_, 1) := by decide +kernel
theorem d_K_delete_0 : decode b_K_delete 0 = .ok (.aload_n 0, 1) := by decide +kernel
theorem d_K_delete_1 : decode b_K_delete 1 = .ok (.aload_n 1, 1) := by decide +kernel
theorem d_K_delete_2 : decode b_K_delete 2 = .ok (.iload_n 2, 1) := by decide +kernel
theorem d_K_delete_3 : decode b_K_delete 3 = .ok (.invokevirtual 44, 3) := by decide +kernel
theorem d_K_delete_6 : decode b_K_delete 6 = .ok (.istore_n 3, 1) := by decide +kernel
theorem d_K_delete_7 : decode b_K_delete 7 = .ok (.iload_n 3, 1) := by decide +kernel
theorem d_K_delete_8 : decode b_K_delete 8 = .ok (.iconst (-1), 1) := by decide +kernel
theorem d_K_delete_9 : decode b_K_delete 9 = .ok (.if_icmp .ne 5, 3) := by decide +kernel
theorem d_K_delete_12 : decode b_K_delete 12 = .ok (.iconst 0, 1) := by decide +kernel
theorem d_K_delete_13 : decode b_K_delete 13 = .ok (.ireturn, 1) := by decide +kernel
theorem d_K_delete_14 : decode b_K_delete 14 = .ok (.aload_n 0, 1) := by decide +kernel
theorem d_K_delete_15 : decode b_K_delete 15 = .ok (.getfield 12, 3) := by decide +kernel
theorem d_K_delete_18 : decode b_K_delete 18 = .ok (.iload_n 3, 1) := by decide +kernel
theorem d_K_delete_19 : decode b_K_delete 19 = .ok (.invokevirtual 48, 3) := by decide +kernel
theorem d_K_delete_22 : decode b_K_delete 22 = .ok (.pop, 1) := by decide +kernel
theorem d_K_delete_23 : decode b_K_delete 23 = .ok (.iconst 1, 1) := by decide +kernel
theorem d_K_delete_24 : decode b_K_delete 24 = .ok (.ireturn, 1) := by decide +kernel
theorem d_K_positionOf_0 : decode b_K_positionOf 0 = .ok (.iconst 0, 1) := by decide +kernel
theorem d_K_positionOf_1 : decode b_K_positionOf 1 = .ok (.istore_n 3, 1) := by decide +kernel
theorem d_K_positionOf_2 : decode b_K_positionOf 2 = .ok (.iload_n 3, 1) := by decide +kernel
theorem d_K_positionOf_3 : decode b_K_positionOf 3 = .ok (.aload_n 0, 1) := by decide +kernel
theorem d_K_positionOf_4 : decode b_K_positionOf 4 = .ok (.getfield 12, 3) := by decide +kernel
theorem d_K_positionOf_7 : decode b_K_positionOf 7 = .ok (.invokevirtual 18, 3) := by decide +kernel
theorem d_K_positionOf_10 : decode b_K_positionOf 10 = .ok (.if_icmp .ge 42, 3) := by decide +kernel
theorem d_K_positionOf_13 : decode b_K_positionOf 13 = .ok (.aload_n 0, 1) := by decide +kernel
theorem d_K_positionOf_14 : decode b_K_positionOf 14 = .ok (.getfield 12, 3) := by decide +kernel
theorem d_K_positionOf_17 : decode b_K_positionOf 17 = .ok (.iload_n 3, 1) := by decide +kernel
theorem d_K_positionOf_18 : decode b_K_positionOf 18 = .ok (.invokevirtual 22, 3) := by decide +kernel
theorem d_K_positionOf_21 : decode b_K_positionOf 21 = .ok (.checkcast 26, 3) := by decide +kernel
theorem d_K_positionOf_24 : decode b_K_positionOf 24 = .ok (.astore 4, 2) := by decide +kernel
theorem d_K_positionOf_26 : decode b_K_positionOf 26 = .ok (.aload 4, 2) := by decide +kernel
theorem d_K_positionOf_28 : decode b_K_positionOf 28 = .ok (.getfield 36, 3) := by decide +kernel
theorem d_K_positionOf_31 : decode b_K_positionOf 31 = .ok (.aload_n 1, 1) := by decide +kernel
theorem d_K_positionOf_32 : decode b_K_positionOf 32 = .ok (.if_acmp .ne 14, 3) := by decide +kernel
theorem d_K_positionOf_35 : decode b_K_positionOf 35 = .ok (.aload 4, 2) := by decide +kernel
theorem d_K_positionOf_37 : decode b_K_positionOf 37 = .ok (.getfield 40, 3) := by decide +kernel
theorem d_K_positionOf_40 : decode b_K_positionOf 40 = .ok (.iload_n 2, 1) := by decide +kernel
theorem d_K_positionOf_41 : decode b_K_positionOf 41 = .ok (.if_icmp .ne 5, 3) := by decide +kernel
theorem d_K_positionOf_44 : decode b_K_positionOf 44 = .ok (.iload_n 3, 1) := by decide +kernel
theorem d_K_positionOf_45 : decode b_K_positionOf 45 = .ok (.ireturn, 1) := by decide +kernel
theorem d_K_positionOf_46 : decode b_K_positionOf 46 = .ok (.iinc 3 1, 3) := by decide +kernel
theorem d_K_positionOf_49 : decode b_K_positionOf 49 = .ok (.goto (-47), 3) := by decide +kernel
theorem d_K_positionOf_52 : decode b_K_positionOf 52 = .ok (.iconst (-1), 1) := by decide +kernel
theorem d_K_positionOf_53 : decode b_K_positionOf 53 = .ok (.ireturn, 1) := by decide +kernel

theorem d_B_init_0 : decode b_B_init 0 = .ok (.aload_n 0, 1) := by decide +kernel
theorem d_B_init_1 : decode b_B_init 1 = .ok (.invokespecial 3, 3) := by decide +kernel
theorem d_B_init_4 : decode b_B_init 4 = .ok (.aload_n 0, 1) := by decide +kernel
theorem d_B_init_5 : decode b_B_init 5 = .ok (.bipush 48, 2) := by decide +kernel
theorem d_B_init_7 : decode b_B_init 7 = .ok (.newarray .boolean, 2) := by decide +kernel
theorem d_B_init_9 : decode b_B_init 9 = .ok (.putfield 9, 3) := by decide +kernel
theorem d_B_init_12 : decode b_B_init 12 = .ok (.return_, 1) := by decide +kernel
theorem d_B_setUsed_0 : decode b_B_setUsed 0 = .ok (.iload_n 1, 1) := by decide +kernel
theorem d_B_setUsed_1 : decode b_B_setUsed 1 = .ok (.invokestatic 15, 3) := by decide +kernel
theorem d_B_setUsed_4 : decode b_B_setUsed 4 = .ok (.ifCond .eq 10, 3) := by decide +kernel
theorem d_B_setUsed_7 : decode b_B_setUsed 7 = .ok (.aload_n 0, 1) := by decide +kernel
theorem d_B_setUsed_8 : decode b_B_setUsed 8 = .ok (.getfield 9, 3) := by decide +kernel
theorem d_B_setUsed_11 : decode b_B_setUsed 11 = .ok (.iload_n 1, 1) := by decide +kernel
theorem d_B_setUsed_12 : decode b_B_setUsed 12 = .ok (.iload_n 2, 1) := by decide +kernel
theorem d_B_setUsed_13 : decode b_B_setUsed 13 = .ok (.bastore, 1) := by decide +kernel
theorem d_B_setUsed_14 : decode b_B_setUsed 14 = .ok (.return_, 1) := by decide +kernel
theorem d_B_isBlock_0 : decode b_B_isBlock 0 = .ok (.iload_n 0, 1) := by decide +kernel
theorem d_B_isBlock_1 : decode b_B_isBlock 1 = .ok (.ifCond .lt 13, 3) := by decide +kernel
theorem d_B_isBlock_4 : decode b_B_isBlock 4 = .ok (.iload_n 0, 1) := by decide +kernel
theorem d_B_isBlock_5 : decode b_B_isBlock 5 = .ok (.bipush 48, 2) := by decide +kernel
theorem d_B_isBlock_7 : decode b_B_isBlock 7 = .ok (.if_icmp .ge 7, 3) := by decide +kernel
theorem d_B_isBlock_10 : decode b_B_isBlock 10 = .ok (.iconst 1, 1) := by decide +kernel
theorem d_B_isBlock_11 : decode b_B_isBlock 11 = .ok (.goto 4, 3) := by decide +kernel
theorem d_B_isBlock_14 : decode b_B_isBlock 14 = .ok (.iconst 0, 1) := by decide +kernel
theorem d_B_isBlock_15 : decode b_B_isBlock 15 = .ok (.ireturn, 1) := by decide +kernel
theorem d_B_unusedCount_0 : decode b_B_unusedCount 0 = .ok (.iconst 0, 1) := by decide +kernel
theorem d_B_unusedCount_1 : decode b_B_unusedCount 1 = .ok (.istore_n 1, 1) := by decide +kernel
theorem d_B_unusedCount_2 : decode b_B_unusedCount 2 = .ok (.iconst 0, 1) := by decide +kernel
theorem d_B_unusedCount_3 : decode b_B_unusedCount 3 = .ok (.istore_n 2, 1) := by decide +kernel
theorem d_B_unusedCount_4 : decode b_B_unusedCount 4 = .ok (.iload_n 2, 1) := by decide +kernel
theorem d_B_unusedCount_5 : decode b_B_unusedCount 5 = .ok (.bipush 48, 2) := by decide +kernel
theorem d_B_unusedCount_7 : decode b_B_unusedCount 7 = .ok (.if_icmp .ge 21, 3) := by decide +kernel
theorem d_B_unusedCount_10 : decode b_B_unusedCount 10 = .ok (.aload_n 0, 1) := by decide +kernel
theorem d_B_unusedCount_11 : decode b_B_unusedCount 11 = .ok (.getfield 9, 3) := by decide +kernel
theorem d_B_unusedCount_14 : decode b_B_unusedCount 14 = .ok (.iload_n 2, 1) := by decide +kernel
theorem d_B_unusedCount_15 : decode b_B_unusedCount 15 = .ok (.baload, 1) := by decide +kernel
theorem d_B_unusedCount_16 : decode b_B_unusedCount 16 = .ok (.ifCond .ne 6, 3) := by decide +kernel
theorem d_B_unusedCount_19 : decode b_B_unusedCount 19 = .ok (.iinc 1 1, 3) := by decide +kernel
theorem d_B_unusedCount_22 : decode b_B_unusedCount 22 = .ok (.iinc 2 1, 3) := by decide +kernel
theorem d_B_unusedCount_25 : decode b_B_unusedCount 25 = .ok (.goto (-21), 3) := by decide +kernel
theorem d_B_unusedCount_28 : decode b_B_unusedCount 28 = .ok (.iload_n 1, 1) := by decide +kernel
theorem d_B_unusedCount_29 : decode b_B_unusedCount 29 = .ok (.ireturn, 1) := by decide +kernel
theorem d_B_unusedAfter_0 : decode b_B_unusedAfter 0 = .ok (.iload_n 1, 1) := by decide +kernel
theorem d_B_unusedAfter_1 : decode b_B_unusedAfter 1 = .ok (.iconst 1, 1) := by decide +kernel
theorem d_B_unusedAfter_2 : decode b_B_unusedAfter 2 = .ok (.iadd, 1) := by decide +kernel
theorem d_B_unusedAfter_3 : decode b_B_unusedAfter 3 = .ok (.istore_n 2, 1) := by decide +kernel
theorem d_B_unusedAfter_4 : decode b_B_unusedAfter 4 = .ok (.iload_n 2, 1) := by decide +kernel
theorem d_B_unusedAfter_5 : decode b_B_unusedAfter 5 = .ok (.invokestatic 15, 3) := by decide +kernel
theorem d_B_unusedAfter_8 : decode b_B_unusedAfter 8 = .ok (.ifCond .eq 14, 3) := by decide +kernel
theorem d_B_unusedAfter_11 : decode b_B_unusedAfter 11 = .ok (.aload_n 0, 1) := by decide +kernel
theorem d_B_unusedAfter_12 : decode b_B_unusedAfter 12 = .ok (.getfield 9, 3) := by decide +kernel
theorem d_B_unusedAfter_15 : decode b_B_unusedAfter 15 = .ok (.iload_n 2, 1) := by decide +kernel
theorem d_B_unusedAfter_16 : decode b_B_unusedAfter 16 = .ok (.baload, 1) := by decide +kernel
theorem d_B_unusedAfter_17 : decode b_B_unusedAfter 17 = .ok (.ifCond .ne 5, 3) := by decide +kernel
theorem d_B_unusedAfter_20 : decode b_B_unusedAfter 20 = .ok (.iload_n 2, 1) := by decide +kernel
theorem d_B_unusedAfter_21 : decode b_B_unusedAfter 21 = .ok (.ireturn, 1) := by decide +kernel
theorem d_B_unusedAfter_22 : decode b_B_unusedAfter 22 = .ok (.iconst 0, 1) := by decide +kernel
theorem d_B_unusedAfter_23 : decode b_B_unusedAfter 23 = .ok (.istore_n 3, 1) := by decide +kernel
theorem d_B_unusedAfter_24 : decode b_B_unusedAfter 24 = .ok (.iload_n 3, 1) := by decide +kernel
theorem d_B_unusedAfter_25 : decode b_B_unusedAfter 25 = .ok (.bipush 48, 2) := by decide +kernel
theorem d_B_unusedAfter_27 : decode b_B_unusedAfter 27 = .ok (.if_icmp .ge 20, 3) := by decide +kernel
theorem d_B_unusedAfter_30 : decode b_B_unusedAfter 30 = .ok (.aload_n 0, 1) := by decide +kernel
theorem d_B_unusedAfter_31 : decode b_B_unusedAfter 31 = .ok (.getfield 9, 3) := by decide +kernel
theorem d_B_unusedAfter_34 : decode b_B_unusedAfter 34 = .ok (.iload_n 3, 1) := by decide +kernel
theorem d_B_unusedAfter_35 : decode b_B_unusedAfter 35 = .ok (.baload, 1) := by decide +kernel
theorem d_B_unusedAfter_36 : decode b_B_unusedAfter 36 = .ok (.ifCond .ne 5, 3) := by decide +kernel
theorem d_B_unusedAfter_39 : decode b_B_unusedAfter 39 = .ok (.iload_n 3, 1) := by decide +kernel
theorem d_B_unusedAfter_40 : decode b_B_unusedAfter 40 = .ok (.ireturn, 1) := by decide +kernel
theorem d_B_unusedAfter_41 : decode b_B_unusedAfter 41 = .ok (.iinc 3 1, 3) := by decide +kernel
theorem d_B_unusedAfter_44 : decode b_B_unusedAfter 44 = .ok (.goto (-20), 3) := by decide +kernel
theorem d_B_unusedAfter_47 : decode b_B_unusedAfter 47 = .ok (.iconst (-1), 1) := by decide +kernel
theorem d_B_unusedAfter_48 : decode b_B_unusedAfter 48 = .ok (.ireturn, 1) := by decide +kernel
theorem d_B_turnRound_0 : decode b_B_turnRound 0 = .ok (.iload_n 1, 1) := by decide +kernel
theorem d_B_turnRound_1 : decode b_B_turnRound 1 = .ok (.invokestatic 15, 3) := by decide +kernel
theorem d_B_turnRound_4 : decode b_B_turnRound 4 = .ok (.ifCond .ne 5, 3) := by decide +kernel
theorem d_B_turnRound_7 : decode b_B_turnRound 7 = .ok (.iconst 0, 1) := by decide +kernel
theorem d_B_turnRound_8 : decode b_B_turnRound 8 = .ok (.ireturn, 1) := by decide +kernel
theorem d_B_turnRound_9 : decode b_B_turnRound 9 = .ok (.aload_n 0, 1) := by decide +kernel
theorem d_B_turnRound_10 : decode b_B_turnRound 10 = .ok (.getfield 9, 3) := by decide +kernel
theorem d_B_turnRound_13 : decode b_B_turnRound 13 = .ok (.iload_n 1, 1) := by decide +kernel
theorem d_B_turnRound_14 : decode b_B_turnRound 14 = .ok (.aload_n 0, 1) := by decide +kernel
theorem d_B_turnRound_15 : decode b_B_turnRound 15 = .ok (.getfield 9, 3) := by decide +kernel
theorem d_B_turnRound_18 : decode b_B_turnRound 18 = .ok (.iload_n 1, 1) := by decide +kernel
theorem d_B_turnRound_19 : decode b_B_turnRound 19 = .ok (.baload, 1) := by decide +kernel
theorem d_B_turnRound_20 : decode b_B_turnRound 20 = .ok (.ifCond .ne 7, 3) := by decide +kernel
theorem d_B_turnRound_23 : decode b_B_turnRound 23 = .ok (.iconst 1, 1) := by decide +kernel
theorem d_B_turnRound_24 : decode b_B_turnRound 24 = .ok (.goto 4, 3) := by decide +kernel
theorem d_B_turnRound_27 : decode b_B_turnRound 27 = .ok (.iconst 0, 1) := by decide +kernel
theorem d_B_turnRound_28 : decode b_B_turnRound 28 = .ok (.bastore, 1) := by decide +kernel
theorem d_B_turnRound_29 : decode b_B_turnRound 29 = .ok (.iconst 1, 1) := by decide +kernel
theorem d_B_turnRound_30 : decode b_B_turnRound 30 = .ok (.ireturn, 1) := by decide +kernel
theorem d_B_isUsed_0 : decode b_B_isUsed 0 = .ok (.iload_n 1, 1) := by decide +kernel
theorem d_B_isUsed_1 : decode b_B_isUsed 1 = .ok (.invokestatic 15, 3) := by decide +kernel
theorem d_B_isUsed_4 : decode b_B_isUsed 4 = .ok (.ifCond .eq 16, 3) := by decide +kernel
theorem d_B_isUsed_7 : decode b_B_isUsed 7 = .ok (.aload_n 0, 1) := by decide +kernel
theorem d_B_isUsed_8 : decode b_B_isUsed 8 = .ok (.getfield 9, 3) := by decide +kernel
theorem d_B_isUsed_11 : decode b_B_isUsed 11 = .ok (.iload_n 1, 1) := by decide +kernel
theorem d_B_isUsed_12 : decode b_B_isUsed 12 = .ok (.baload, 1) := by decide +kernel
theorem d_B_isUsed_13 : decode b_B_isUsed 13 = .ok (.ifCond .eq 7, 3) := by decide +kernel
theorem d_B_isUsed_16 : decode b_B_isUsed 16 = .ok (.iconst 1, 1) := by decide +kernel
theorem d_B_isUsed_17 : decode b_B_isUsed 17 = .ok (.goto 4, 3) := by decide +kernel
theorem d_B_isUsed_20 : decode b_B_isUsed 20 = .ok (.iconst 0, 1) := by decide +kernel
theorem d_B_isUsed_21 : decode b_B_isUsed 21 = .ok (.ireturn, 1) := by decide +kernel

