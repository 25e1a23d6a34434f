theorem d_M_init_0 : decode b_M_init 0 = .ok (.aload_n 0, 1) := by decide +kernel
theorem d_M_init_1 : decode b_M_init 1 = .ok (.invokespecial 1, 3) := by decide +kernel
theorem d_M_init_4 : decode b_M_init 4 = .ok (.aload_n 0, 1) := by decide +kernel
theorem d_M_init_5 : decode b_M_init 5 = .ok (.iconst 1, 1) := by decide +kernel
theorem d_M_init_6 : decode b_M_init 6 = .ok (.putfield 7, 3) := by decide +kernel
theorem d_M_init_9 : decode b_M_init 9 = .ok (.aload_n 0, 1) := by decide +kernel
theorem d_M_init_10 : decode b_M_init 10 = .ok (.bipush 16, 2) := by decide +kernel
theorem d_M_init_12 : decode b_M_init 12 = .ok (.putfield 13, 3) := by decide +kernel
theorem d_M_init_15 : decode b_M_init 15 = .ok (.aload_n 0, 1) := by decide +kernel
theorem d_M_init_16 : decode b_M_init 16 = .ok (.bipush 40, 2) := by decide +kernel
theorem d_M_init_18 : decode b_M_init 18 = .ok (.newarray .int, 2) := by decide +kernel
theorem d_M_init_20 : decode b_M_init 20 = .ok (.putfield 17, 3) := by decide +kernel
theorem d_M_init_23 : decode b_M_init 23 = .ok (.aload_n 0, 1) := by decide +kernel
theorem d_M_init_24 : decode b_M_init 24 = .ok (.bipush 40, 2) := by decide +kernel
theorem d_M_init_26 : decode b_M_init 26 = .ok (.newarray .int, 2) := by decide +kernel
theorem d_M_init_28 : decode b_M_init 28 = .ok (.putfield 21, 3) := by decide +kernel
theorem d_M_init_31 : decode b_M_init 31 = .ok (.aload_n 0, 1) := by decide +kernel
theorem d_M_init_32 : decode b_M_init 32 = .ok (.bipush 40, 2) := by decide +kernel
theorem d_M_init_34 : decode b_M_init 34 = .ok (.newarray .int, 2) := by decide +kernel
theorem d_M_init_36 : decode b_M_init 36 = .ok (.putfield 24, 3) := by decide +kernel
theorem d_M_init_39 : decode b_M_init 39 = .ok (.aload_n 0, 1) := by decide +kernel
theorem d_M_init_40 : decode b_M_init 40 = .ok (.bipush 40, 2) := by decide +kernel
theorem d_M_init_42 : decode b_M_init 42 = .ok (.newarray .int, 2) := by decide +kernel
theorem d_M_init_44 : decode b_M_init 44 = .ok (.putfield 27, 3) := by decide +kernel
theorem d_M_init_47 : decode b_M_init 47 = .ok (.aload_n 0, 1) := by decide +kernel
theorem d_M_init_48 : decode b_M_init 48 = .ok (.bipush 40, 2) := by decide +kernel
theorem d_M_init_50 : decode b_M_init 50 = .ok (.newarray .int, 2) := by decide +kernel
theorem d_M_init_52 : decode b_M_init 52 = .ok (.putfield 30, 3) := by decide +kernel
theorem d_M_init_55 : decode b_M_init 55 = .ok (.aload_n 0, 1) := by decide +kernel
theorem d_M_init_56 : decode b_M_init 56 = .ok (.bipush 40, 2) := by decide +kernel
theorem d_M_init_58 : decode b_M_init 58 = .ok (.newarray .int, 2) := by decide +kernel
theorem d_M_init_60 : decode b_M_init 60 = .ok (.putfield 33, 3) := by decide +kernel
theorem d_M_init_63 : decode b_M_init 63 = .ok (.aload_n 0, 1) := by decide +kernel
theorem d_M_init_64 : decode b_M_init 64 = .ok (.bipush 40, 2) := by decide +kernel
theorem d_M_init_66 : decode b_M_init 66 = .ok (.newarray .boolean, 2) := by decide +kernel
theorem d_M_init_68 : decode b_M_init 68 = .ok (.putfield 36, 3) := by decide +kernel
theorem d_M_init_71 : decode b_M_init 71 = .ok (.aload_n 0, 1) := by decide +kernel
theorem d_M_init_72 : decode b_M_init 72 = .ok (.bipush 40, 2) := by decide +kernel
theorem d_M_init_74 : decode b_M_init 74 = .ok (.newarray .int, 2) := by decide +kernel
theorem d_M_init_76 : decode b_M_init 76 = .ok (.putfield 40, 3) := by decide +kernel
theorem d_M_init_79 : decode b_M_init 79 = .ok (.aload_n 0, 1) := by decide +kernel
theorem d_M_init_80 : decode b_M_init 80 = .ok (.sipush 1920, 3) := by decide +kernel
theorem d_M_init_83 : decode b_M_init 83 = .ok (.newarray .int, 2) := by decide +kernel
theorem d_M_init_85 : decode b_M_init 85 = .ok (.putfield 43, 3) := by decide +kernel
theorem d_M_init_88 : decode b_M_init 88 = .ok (.aload_n 0, 1) := by decide +kernel
theorem d_M_init_89 : decode b_M_init 89 = .ok (.bipush 48, 2) := by decide +kernel
theorem d_M_init_91 : decode b_M_init 91 = .ok (.newarray .boolean, 2) := by decide +kernel
theorem d_M_init_93 : decode b_M_init 93 = .ok (.putfield 46, 3) := by decide +kernel
theorem d_M_init_96 : decode b_M_init 96 = .ok (.return_, 1) := by decide +kernel
theorem d_M_make_0 : decode b_M_make 0 = .ok (.aload_n 0, 1) := by decide +kernel
theorem d_M_make_1 : decode b_M_make 1 = .ok (.getfield 7, 3) := by decide +kernel
theorem d_M_make_4 : decode b_M_make 4 = .ok (.ifCond .ne 5, 3) := by decide +kernel
theorem d_M_make_7 : decode b_M_make 7 = .ok (.iconst (-1), 1) := by decide +kernel
theorem d_M_make_8 : decode b_M_make 8 = .ok (.ireturn, 1) := by decide +kernel
theorem d_M_make_9 : decode b_M_make 9 = .ok (.iload_n 2, 1) := by decide +kernel
theorem d_M_make_10 : decode b_M_make 10 = .ok (.invokestatic 53, 3) := by decide +kernel
theorem d_M_make_13 : decode b_M_make 13 = .ok (.ifCond .eq 6, 3) := by decide +kernel
theorem d_M_make_16 : decode b_M_make 16 = .ok (.bipush (-2), 2) := by decide +kernel
theorem d_M_make_18 : decode b_M_make 18 = .ok (.ireturn, 1) := by decide +kernel
theorem d_M_make_19 : decode b_M_make 19 = .ok (.aload_n 0, 1) := by decide +kernel
theorem d_M_make_20 : decode b_M_make 20 = .ok (.iload_n 1, 1) := by decide +kernel
theorem d_M_make_21 : decode b_M_make 21 = .ok (.invokevirtual 57, 3) := by decide +kernel
theorem d_M_make_24 : decode b_M_make 24 = .ok (.ifCond .ne 6, 3) := by decide +kernel
theorem d_M_make_27 : decode b_M_make 27 = .ok (.bipush (-3), 2) := by decide +kernel
theorem d_M_make_29 : decode b_M_make 29 = .ok (.ireturn, 1) := by decide +kernel
theorem d_M_make_30 : decode b_M_make 30 = .ok (.aload_n 0, 1) := by decide +kernel
theorem d_M_make_31 : decode b_M_make 31 = .ok (.iload_n 1, 1) := by decide +kernel
theorem d_M_make_32 : decode b_M_make 32 = .ok (.iload_n 2, 1) := by decide +kernel
theorem d_M_make_33 : decode b_M_make 33 = .ok (.invokevirtual 60, 3) := by decide +kernel
theorem d_M_make_36 : decode b_M_make 36 = .ok (.ifCond .lt 6, 3) := by decide +kernel
theorem d_M_make_39 : decode b_M_make 39 = .ok (.bipush (-4), 2) := by decide +kernel
theorem d_M_make_41 : decode b_M_make 41 = .ok (.ireturn, 1) := by decide +kernel
theorem d_M_make_42 : decode b_M_make 42 = .ok (.aload_n 0, 1) := by decide +kernel
theorem d_M_make_43 : decode b_M_make 43 = .ok (.invokevirtual 64, 3) := by decide +kernel
theorem d_M_make_46 : decode b_M_make 46 = .ok (.bipush 20, 2) := by decide +kernel
theorem d_M_make_48 : decode b_M_make 48 = .ok (.if_icmp .ne 6, 3) := by decide +kernel
theorem d_M_make_51 : decode b_M_make 51 = .ok (.bipush (-5), 2) := by decide +kernel
theorem d_M_make_53 : decode b_M_make 53 = .ok (.ireturn, 1) := by decide +kernel
theorem d_M_make_54 : decode b_M_make 54 = .ok (.aload_n 0, 1) := by decide +kernel
theorem d_M_make_55 : decode b_M_make 55 = .ok (.iload_n 3, 1) := by decide +kernel
theorem d_M_make_56 : decode b_M_make 56 = .ok (.ifCond .eq 7, 3) := by decide +kernel
theorem d_M_make_59 : decode b_M_make 59 = .ok (.iconst 1, 1) := by decide +kernel
theorem d_M_make_60 : decode b_M_make 60 = .ok (.goto 4, 3) := by decide +kernel
theorem d_M_make_63 : decode b_M_make 63 = .ok (.iconst 2, 1) := by decide +kernel
theorem d_M_make_64 : decode b_M_make 64 = .ok (.iload_n 1, 1) := by decide +kernel
theorem d_M_make_65 : decode b_M_make 65 = .ok (.iload_n 2, 1) := by decide +kernel
theorem d_M_make_66 : decode b_M_make 66 = .ok (.iconst 0, 1) := by decide +kernel
theorem d_M_make_67 : decode b_M_make 67 = .ok (.invokevirtual 68, 3) := by decide +kernel
theorem d_M_make_70 : decode b_M_make 70 = .ok (.ireturn, 1) := by decide +kernel
theorem d_M_noName_0 : decode b_M_noName 0 = .ok (.iload_n 0, 1) := by decide +kernel
theorem d_M_noName_1 : decode b_M_noName 1 = .ok (.ifCond .lt 9, 3) := by decide +kernel
theorem d_M_noName_4 : decode b_M_noName 4 = .ok (.iload_n 0, 1) := by decide +kernel
theorem d_M_noName_5 : decode b_M_noName 5 = .ok (.bipush 99, 2) := by decide +kernel
theorem d_M_noName_7 : decode b_M_noName 7 = .ok (.if_icmp .le 7, 3) := by decide +kernel
theorem d_M_noName_10 : decode b_M_noName 10 = .ok (.iconst 1, 1) := by decide +kernel
theorem d_M_noName_11 : decode b_M_noName 11 = .ok (.goto 4, 3) := by decide +kernel
theorem d_M_noName_14 : decode b_M_noName 14 = .ok (.iconst 0, 1) := by decide +kernel
theorem d_M_noName_15 : decode b_M_noName 15 = .ok (.ireturn, 1) := by decide +kernel
theorem d_M_isFolder_0 : decode b_M_isFolder 0 = .ok (.aload_n 0, 1) := by decide +kernel
theorem d_M_isFolder_1 : decode b_M_isFolder 1 = .ok (.iload_n 1, 1) := by decide +kernel
theorem d_M_isFolder_2 : decode b_M_isFolder 2 = .ok (.invokevirtual 49, 3) := by decide +kernel
theorem d_M_isFolder_5 : decode b_M_isFolder 5 = .ok (.istore_n 2, 1) := by decide +kernel
theorem d_M_isFolder_6 : decode b_M_isFolder 6 = .ok (.iload_n 1, 1) := by decide +kernel
theorem d_M_isFolder_7 : decode b_M_isFolder 7 = .ok (.iconst 2, 1) := by decide +kernel
theorem d_M_isFolder_8 : decode b_M_isFolder 8 = .ok (.if_icmp .eq 17, 3) := by decide +kernel
theorem d_M_isFolder_11 : decode b_M_isFolder 11 = .ok (.iload_n 2, 1) := by decide +kernel
theorem d_M_isFolder_12 : decode b_M_isFolder 12 = .ok (.ifCond .lt 17, 3) := by decide +kernel
theorem d_M_isFolder_15 : decode b_M_isFolder 15 = .ok (.aload_n 0, 1) := by decide +kernel
theorem d_M_isFolder_16 : decode b_M_isFolder 16 = .ok (.getfield 17, 3) := by decide +kernel
theorem d_M_isFolder_19 : decode b_M_isFolder 19 = .ok (.iload_n 2, 1) := by decide +kernel
theorem d_M_isFolder_20 : decode b_M_isFolder 20 = .ok (.iaload, 1) := by decide +kernel
theorem d_M_isFolder_21 : decode b_M_isFolder 21 = .ok (.iconst 1, 1) := by decide +kernel
theorem d_M_isFolder_22 : decode b_M_isFolder 22 = .ok (.if_icmp .ne 7, 3) := by decide +kernel
theorem d_M_isFolder_25 : decode b_M_isFolder 25 = .ok (.iconst 1, 1) := by decide +kernel
theorem d_M_isFolder_26 : decode b_M_isFolder 26 = .ok (.goto 4, 3) := by decide +kernel
theorem d_M_isFolder_29 : decode b_M_isFolder 29 = .ok (.iconst 0, 1) := by decide +kernel
theorem d_M_isFolder_30 : decode b_M_isFolder 30 = .ok (.ireturn, 1) := by decide +kernel
theorem d_M_placeOf_0 : decode b_M_placeOf 0 = .ok (.iconst 0, 1) := by decide +kernel
theorem d_M_placeOf_1 : decode b_M_placeOf 1 = .ok (.istore_n 2, 1) := by decide +kernel
theorem d_M_placeOf_2 : decode b_M_placeOf 2 = .ok (.iload_n 2, 1) := by decide +kernel
theorem d_M_placeOf_3 : decode b_M_placeOf 3 = .ok (.bipush 40, 2) := by decide +kernel
theorem d_M_placeOf_5 : decode b_M_placeOf 5 = .ok (.if_icmp .ge 30, 3) := by decide +kernel
theorem d_M_placeOf_8 : decode b_M_placeOf 8 = .ok (.aload_n 0, 1) := by decide +kernel
theorem d_M_placeOf_9 : decode b_M_placeOf 9 = .ok (.getfield 17, 3) := by decide +kernel
theorem d_M_placeOf_12 : decode b_M_placeOf 12 = .ok (.iload_n 2, 1) := by decide +kernel
theorem d_M_placeOf_13 : decode b_M_placeOf 13 = .ok (.iaload, 1) := by decide +kernel
theorem d_M_placeOf_14 : decode b_M_placeOf 14 = .ok (.ifCond .eq 15, 3) := by decide +kernel
theorem d_M_placeOf_17 : decode b_M_placeOf 17 = .ok (.aload_n 0, 1) := by decide +kernel
theorem d_M_placeOf_18 : decode b_M_placeOf 18 = .ok (.getfield 21, 3) := by decide +kernel
theorem d_M_placeOf_21 : decode b_M_placeOf 21 = .ok (.iload_n 2, 1) := by decide +kernel
theorem d_M_placeOf_22 : decode b_M_placeOf 22 = .ok (.iaload, 1) := by decide +kernel
theorem d_M_placeOf_23 : decode b_M_placeOf 23 = .ok (.iload_n 1, 1) := by decide +kernel
theorem d_M_placeOf_24 : decode b_M_placeOf 24 = .ok (.if_icmp .ne 5, 3) := by decide +kernel
theorem d_M_placeOf_27 : decode b_M_placeOf 27 = .ok (.iload_n 2, 1) := by decide +kernel
theorem d_M_placeOf_28 : decode b_M_placeOf 28 = .ok (.ireturn, 1) := by decide +kernel
theorem d_M_placeOf_29 : decode b_M_placeOf 29 = .ok (.iinc 2 1, 3) := by decide +kernel
theorem d_M_placeOf_32 : decode b_M_placeOf 32 = .ok (.goto (-30), 3) := by decide +kernel
theorem d_M_placeOf_35 : decode b_M_placeOf 35 = .ok (.iconst (-1), 1) := by decide +kernel
theorem d_M_placeOf_36 : decode b_M_placeOf 36 = .ok (.ireturn, 1) := by decide +kernel
theorem d_M_entryOf_0 : decode b_M_entryOf 0 = .ok (.iconst 0, 1) := by decide +kernel
theorem d_M_entryOf_1 : decode b_M_entryOf 1 = .ok (.istore_n 3, 1) := by decide +kernel
theorem d_M_entryOf_2 : decode b_M_entryOf 2 = .ok (.iload_n 3, 1) := by decide +kernel
theorem d_M_entryOf_3 : decode b_M_entryOf 3 = .ok (.bipush 40, 2) := by decide +kernel
theorem d_M_entryOf_5 : decode b_M_entryOf 5 = .ok (.if_icmp .ge 51, 3) := by decide +kernel
theorem d_M_entryOf_8 : decode b_M_entryOf 8 = .ok (.aload_n 0, 1) := by decide +kernel
theorem d_M_entryOf_9 : decode b_M_entryOf 9 = .ok (.getfield 17, 3) := by decide +kernel
theorem d_M_entryOf_12 : decode b_M_entryOf 12 = .ok (.iload_n 3, 1) := by decide +kernel
theorem d_M_entryOf_13 : decode b_M_entryOf 13 = .ok (.iaload, 1) := by decide +kernel
theorem d_M_entryOf_14 : decode b_M_entryOf 14 = .ok (.iconst 1, 1) := by decide +kernel
theorem d_M_entryOf_15 : decode b_M_entryOf 15 = .ok (.if_icmp .lt 35, 3) := by decide +kernel
theorem d_M_entryOf_18 : decode b_M_entryOf 18 = .ok (.aload_n 0, 1) := by decide +kernel
theorem d_M_entryOf_19 : decode b_M_entryOf 19 = .ok (.getfield 17, 3) := by decide +kernel
theorem d_M_entryOf_22 : decode b_M_entryOf 22 = .ok (.iload_n 3, 1) := by decide +kernel
theorem d_M_entryOf_23 : decode b_M_entryOf 23 = .ok (.iaload, 1) := by decide +kernel
theorem d_M_entryOf_24 : decode b_M_entryOf 24 = .ok (.iconst 3, 1) := by decide +kernel
theorem d_M_entryOf_25 : decode b_M_entryOf 25 = .ok (.if_icmp .gt 25, 3) := by decide +kernel
theorem d_M_entryOf_28 : decode b_M_entryOf 28 = .ok (.aload_n 0, 1) := by decide +kernel
theorem d_M_entryOf_29 : decode b_M_entryOf 29 = .ok (.getfield 24, 3) := by decide +kernel
theorem d_M_entryOf_32 : decode b_M_entryOf 32 = .ok (.iload_n 3, 1) := by decide +kernel
theorem d_M_entryOf_33 : decode b_M_entryOf 33 = .ok (.iaload, 1) := by decide +kernel
theorem d_M_entryOf_34 : decode b_M_entryOf 34 = .ok (.iload_n 1, 1) := by decide +kernel
theorem d_M_entryOf_35 : decode b_M_entryOf 35 = .ok (.if_icmp .ne 15, 3) := by decide +kernel
theorem d_M_entryOf_38 : decode b_M_entryOf 38 = .ok (.aload_n 0, 1) := by decide +kernel
theorem d_M_entryOf_39 : decode b_M_entryOf 39 = .ok (.getfield 27, 3) := by decide +kernel
theorem d_M_entryOf_42 : decode b_M_entryOf 42 = .ok (.iload_n 3, 1) := by decide +kernel
theorem d_M_entryOf_43 : decode b_M_entryOf 43 = .ok (.iaload, 1) := by decide +kernel
theorem d_M_entryOf_44 : decode b_M_entryOf 44 = .ok (.iload_n 2, 1) := by decide +kernel
theorem d_M_entryOf_45 : decode b_M_entryOf 45 = .ok (.if_icmp .ne 5, 3) := by decide +kernel
theorem d_M_entryOf_48 : decode b_M_entryOf 48 = .ok (.iload_n 3, 1) := by decide +kernel
theorem d_M_entryOf_49 : decode b_M_entryOf 49 = .ok (.ireturn, 1) := by decide +kernel
theorem d_M_entryOf_50 : decode b_M_entryOf 50 = .ok (.iinc 3 1, 3) := by decide +kernel
theorem d_M_entryOf_53 : decode b_M_entryOf 53 = .ok (.goto (-51), 3) := by decide +kernel
theorem d_M_entryOf_56 : decode b_M_entryOf 56 = .ok (.iconst (-1), 1) := by decide +kernel
theorem d_M_entryOf_57 : decode b_M_entryOf 57 = .ok (.ireturn, 1) := by decide +kernel
theorem d_M_entries_0 : decode b_M_entries 0 = .ok (.iconst 0, 1) := by decide +kernel
theorem d_M_entries_1 : decode b_M_entries 1 = .ok (.istore_n 1, 1) := by decide +kernel
theorem d_M_entries_2 : decode b_M_entries 2 = .ok (.iconst 0, 1) := by decide +kernel
theorem d_M_entries_3 : decode b_M_entries 3 = .ok (.istore_n 2, 1) := by decide +kernel
theorem d_M_entries_4 : decode b_M_entries 4 = .ok (.iload_n 2, 1) := by decide +kernel
theorem d_M_entries_5 : decode b_M_entries 5 = .ok (.bipush 40, 2) := by decide +kernel
theorem d_M_entries_7 : decode b_M_entries 7 = .ok (.if_icmp .ge 37, 3) := by decide +kernel
theorem d_M_entries_10 : decode b_M_entries 10 = .ok (.aload_n 0, 1) := by decide +kernel
theorem d_M_entries_11 : decode b_M_entries 11 = .ok (.getfield 17, 3) := by decide +kernel
theorem d_M_entries_14 : decode b_M_entries 14 = .ok (.iload_n 2, 1) := by decide +kernel
theorem d_M_entries_15 : decode b_M_entries 15 = .ok (.iaload, 1) := by decide +kernel
theorem d_M_entries_16 : decode b_M_entries 16 = .ok (.iconst 1, 1) := by decide +kernel
theorem d_M_entries_17 : decode b_M_entries 17 = .ok (.if_icmp .lt 19, 3) := by decide +kernel
theorem d_M_entries_20 : decode b_M_entries 20 = .ok (.aload_n 0, 1) := by decide +kernel
theorem d_M_entries_21 : decode b_M_entries 21 = .ok (.getfield 17, 3) := by decide +kernel
theorem d_M_entries_24 : decode b_M_entries 24 = .ok (.iload_n 2, 1) := by decide +kernel
theorem d_M_entries_25 : decode b_M_entries 25 = .ok (.iaload, 1) := by decide +kernel
theorem d_M_entries_26 : decode b_M_entries 26 = .ok (.iconst 3, 1) := by decide +kernel
theorem d_M_entries_27 : decode b_M_entries 27 = .ok (.if_icmp .gt 9, 3) := by decide +kernel
theorem d_M_entries_30 : decode b_M_entries 30 = .ok (.iload_n 1, 1) := by decide +kernel
theorem d_M_entries_31 : decode b_M_entries 31 = .ok (.iconst 1, 1) := by decide +kernel
theorem d_M_entries_32 : decode b_M_entries 32 = .ok (.iadd, 1) := by decide +kernel
theorem d_M_entries_33 : decode b_M_entries 33 = .ok (.goto 4, 3) := by decide +kernel
theorem d_M_entries_36 : decode b_M_entries 36 = .ok (.iload_n 1, 1) := by decide +kernel
theorem d_M_entries_37 : decode b_M_entries 37 = .ok (.istore_n 1, 1) := by decide +kernel
theorem d_M_entries_38 : decode b_M_entries 38 = .ok (.iinc 2 1, 3) := by decide +kernel
theorem d_M_entries_41 : decode b_M_entries 41 = .ok (.goto (-37), 3) := by decide +kernel
theorem d_M_entries_44 : decode b_M_entries 44 = .ok (.iload_n 1, 1) := by decide +kernel
theorem d_M_entries_45 : decode b_M_entries 45 = .ok (.ireturn, 1) := by decide +kernel
theorem d_M_enter_0 : decode b_M_enter 0 = .ok (.iconst 0, 1) := by decide +kernel
theorem d_M_enter_1 : decode b_M_enter 1 = .ok (.istore 5, 2) := by decide +kernel
theorem d_M_enter_3 : decode b_M_enter 3 = .ok (.iload 5, 2) := by decide +kernel
theorem d_M_enter_5 : decode b_M_enter 5 = .ok (.bipush 39, 2) := by decide +kernel
theorem d_M_enter_7 : decode b_M_enter 7 = .ok (.if_icmp .ge 19, 3) := by decide +kernel
theorem d_M_enter_10 : decode b_M_enter 10 = .ok (.aload_n 0, 1) := by decide +kernel
theorem d_M_enter_11 : decode b_M_enter 11 = .ok (.getfield 17, 3) := by decide +kernel
theorem d_M_enter_14 : decode b_M_enter 14 = .ok (.iload 5, 2) := by decide +kernel
theorem d_M_enter_16 : decode b_M_enter 16 = .ok (.iaload, 1) := by decide +kernel
theorem d_M_enter_17 : decode b_M_enter 17 = .ok (.ifCond .eq 9, 3) := by decide +kernel
theorem d_M_enter_20 : decode b_M_enter 20 = .ok (.iinc 5 1, 3) := by decide +kernel
theorem d_M_enter_23 : decode b_M_enter 23 = .ok (.goto (-20), 3) := by decide +kernel
theorem d_M_enter_26 : decode b_M_enter 26 = .ok (.aload_n 0, 1) := by decide +kernel
theorem d_M_enter_27 : decode b_M_enter 27 = .ok (.getfield 17, 3) := by decide +kernel
theorem d_M_enter_30 : decode b_M_enter 30 = .ok (.iload 5, 2) := by decide +kernel
theorem d_M_enter_32 : decode b_M_enter 32 = .ok (.iload_n 1, 1) := by decide +kernel
theorem d_M_enter_33 : decode b_M_enter 33 = .ok (.iastore, 1) := by decide +kernel
theorem d_M_enter_34 : decode b_M_enter 34 = .ok (.aload_n 0, 1) := by decide +kernel
theorem d_M_enter_35 : decode b_M_enter 35 = .ok (.getfield 21, 3) := by decide +kernel
theorem d_M_enter_38 : decode b_M_enter 38 = .ok (.iload 5, 2) := by decide +kernel
theorem d_M_enter_40 : decode b_M_enter 40 = .ok (.aload_n 0, 1) := by decide +kernel
theorem d_M_enter_41 : decode b_M_enter 41 = .ok (.getfield 13, 3) := by decide +kernel
theorem d_M_enter_44 : decode b_M_enter 44 = .ok (.iastore, 1) := by decide +kernel
theorem d_M_enter_45 : decode b_M_enter 45 = .ok (.aload_n 0, 1) := by decide +kernel
theorem d_M_enter_46 : decode b_M_enter 46 = .ok (.getfield 24, 3) := by decide +kernel
theorem d_M_enter_49 : decode b_M_enter 49 = .ok (.iload 5, 2) := by decide +kernel
theorem d_M_enter_51 : decode b_M_enter 51 = .ok (.iload_n 2, 1) := by decide +kernel
theorem d_M_enter_52 : decode b_M_enter 52 = .ok (.iastore, 1) := by decide +kernel
theorem d_M_enter_53 : decode b_M_enter 53 = .ok (.aload_n 0, 1) := by decide +kernel
theorem d_M_enter_54 : decode b_M_enter 54 = .ok (.getfield 27, 3) := by decide +kernel
theorem d_M_enter_57 : decode b_M_enter 57 = .ok (.iload 5, 2) := by decide +kernel
theorem d_M_enter_59 : decode b_M_enter 59 = .ok (.iload_n 3, 1) := by decide +kernel
theorem d_M_enter_60 : decode b_M_enter 60 = .ok (.iastore, 1) := by decide +kernel
theorem d_M_enter_61 : decode b_M_enter 61 = .ok (.aload_n 0, 1) := by decide +kernel
theorem d_M_enter_62 : decode b_M_enter 62 = .ok (.getfield 30, 3) := by decide +kernel
theorem d_M_enter_65 : decode b_M_enter 65 = .ok (.iload 5, 2) := by decide +kernel
theorem d_M_enter_67 : decode b_M_enter 67 = .ok (.iload 4, 2) := by decide +kernel
theorem d_M_enter_69 : decode b_M_enter 69 = .ok (.iastore, 1) := by decide +kernel
theorem d_M_enter_70 : decode b_M_enter 70 = .ok (.aload_n 0, 1) := by decide +kernel
theorem d_M_enter_71 : decode b_M_enter 71 = .ok (.getfield 33, 3) := by decide +kernel
theorem d_M_enter_74 : decode b_M_enter 74 = .ok (.iload 5, 2) := by decide +kernel
theorem d_M_enter_76 : decode b_M_enter 76 = .ok (.iconst 0, 1) := by decide +kernel
theorem d_M_enter_77 : decode b_M_enter 77 = .ok (.iastore, 1) := by decide +kernel
theorem d_M_enter_78 : decode b_M_enter 78 = .ok (.aload_n 0, 1) := by decide +kernel
theorem d_M_enter_79 : decode b_M_enter 79 = .ok (.getfield 36, 3) := by decide +kernel
theorem d_M_enter_82 : decode b_M_enter 82 = .ok (.iload 5, 2) := by decide +kernel
theorem d_M_enter_84 : decode b_M_enter 84 = .ok (.iconst 0, 1) := by decide +kernel
theorem d_M_enter_85 : decode b_M_enter 85 = .ok (.bastore, 1) := by decide +kernel
theorem d_M_enter_86 : decode b_M_enter 86 = .ok (.aload_n 0, 1) := by decide +kernel
theorem d_M_enter_87 : decode b_M_enter 87 = .ok (.getfield 40, 3) := by decide +kernel
theorem d_M_enter_90 : decode b_M_enter 90 = .ok (.iload 5, 2) := by decide +kernel
theorem d_M_enter_92 : decode b_M_enter 92 = .ok (.iconst 0, 1) := by decide +kernel
theorem d_M_enter_93 : decode b_M_enter 93 = .ok (.iastore, 1) := by decide +kernel
theorem d_M_enter_94 : decode b_M_enter 94 = .ok (.aload_n 0, 1) := by decide +kernel
theorem d_M_enter_95 : decode b_M_enter 95 = .ok (.dup, 1) := by decide +kernel
theorem d_M_enter_96 : decode b_M_enter 96 = .ok (.getfield 13, 3) := by decide +kernel
theorem d_M_enter_99 : decode b_M_enter 99 = .ok (.iconst 1, 1) := by decide +kernel
theorem d_M_enter_100 : decode b_M_enter 100 = .ok (.iadd, 1) := by decide +kernel
theorem d_M_enter_101 : decode b_M_enter 101 = .ok (.putfield 13, 3) := by decide +kernel
theorem d_M_enter_104 : decode b_M_enter 104 = .ok (.aload_n 0, 1) := by decide +kernel
theorem d_M_enter_105 : decode b_M_enter 105 = .ok (.getfield 21, 3) := by decide +kernel
theorem d_M_enter_108 : decode b_M_enter 108 = .ok (.iload 5, 2) := by decide +kernel
theorem d_M_enter_110 : decode b_M_enter 110 = .ok (.iaload, 1) := by decide +kernel
theorem d_M_enter_111 : decode b_M_enter 111 = .ok (.ireturn, 1) := by decide +kernel
theorem d_M_link_0 : decode b_M_link 0 = .ok (.aload_n 0, 1) := by decide +kernel
theorem d_M_link_1 : decode b_M_link 1 = .ok (.getfield 7, 3) := by decide +kernel
theorem d_M_link_4 : decode b_M_link 4 = .ok (.ifCond .ne 5, 3) := by decide +kernel
theorem d_M_link_7 : decode b_M_link 7 = .ok (.iconst (-1), 1) := by decide +kernel
theorem d_M_link_8 : decode b_M_link 8 = .ok (.ireturn, 1) := by decide +kernel
theorem d_M_link_9 : decode b_M_link 9 = .ok (.iload_n 2, 1) := by decide +kernel
theorem d_M_link_10 : decode b_M_link 10 = .ok (.invokestatic 53, 3) := by decide +kernel
theorem d_M_link_13 : decode b_M_link 13 = .ok (.ifCond .ne 11, 3) := by decide +kernel
theorem d_M_link_16 : decode b_M_link 16 = .ok (.iload 4, 2) := by decide +kernel
theorem d_M_link_18 : decode b_M_link 18 = .ok (.invokestatic 53, 3) := by decide +kernel
theorem d_M_link_21 : decode b_M_link 21 = .ok (.ifCond .eq 6, 3) := by decide +kernel
theorem d_M_link_24 : decode b_M_link 24 = .ok (.bipush (-2), 2) := by decide +kernel
theorem d_M_link_26 : decode b_M_link 26 = .ok (.ireturn, 1) := by decide +kernel
theorem d_M_link_27 : decode b_M_link 27 = .ok (.aload_n 0, 1) := by decide +kernel
theorem d_M_link_28 : decode b_M_link 28 = .ok (.iload_n 1, 1) := by decide +kernel
theorem d_M_link_29 : decode b_M_link 29 = .ok (.iload_n 2, 1) := by decide +kernel
theorem d_M_link_30 : decode b_M_link 30 = .ok (.invokevirtual 60, 3) := by decide +kernel
theorem d_M_link_33 : decode b_M_link 33 = .ok (.istore 5, 2) := by decide +kernel
theorem d_M_link_35 : decode b_M_link 35 = .ok (.aload_n 0, 1) := by decide +kernel
theorem d_M_link_36 : decode b_M_link 36 = .ok (.iload_n 1, 1) := by decide +kernel
theorem d_M_link_37 : decode b_M_link 37 = .ok (.invokevirtual 57, 3) := by decide +kernel
theorem d_M_link_40 : decode b_M_link 40 = .ok (.ifCond .eq 27, 3) := by decide +kernel
theorem d_M_link_43 : decode b_M_link 43 = .ok (.iload 5, 2) := by decide +kernel
theorem d_M_link_45 : decode b_M_link 45 = .ok (.ifCond .lt 22, 3) := by decide +kernel
theorem d_M_link_48 : decode b_M_link 48 = .ok (.aload_n 0, 1) := by decide +kernel
theorem d_M_link_49 : decode b_M_link 49 = .ok (.getfield 17, 3) := by decide +kernel
theorem d_M_link_52 : decode b_M_link 52 = .ok (.iload 5, 2) := by decide +kernel
theorem d_M_link_54 : decode b_M_link 54 = .ok (.iaload, 1) := by decide +kernel
theorem d_M_link_55 : decode b_M_link 55 = .ok (.iconst 1, 1) := by decide +kernel
theorem d_M_link_56 : decode b_M_link 56 = .ok (.if_icmp .eq 11, 3) := by decide +kernel
theorem d_M_link_59 : decode b_M_link 59 = .ok (.aload_n 0, 1) := by decide +kernel
theorem d_M_link_60 : decode b_M_link 60 = .ok (.iload_n 3, 1) := by decide +kernel
theorem d_M_link_61 : decode b_M_link 61 = .ok (.invokevirtual 57, 3) := by decide +kernel
theorem d_M_link_64 : decode b_M_link 64 = .ok (.ifCond .ne 6, 3) := by decide +kernel
theorem d_M_link_67 : decode b_M_link 67 = .ok (.bipush (-3), 2) := by decide +kernel
theorem d_M_link_69 : decode b_M_link 69 = .ok (.ireturn, 1) := by decide +kernel
theorem d_M_link_70 : decode b_M_link 70 = .ok (.aload_n 0, 1) := by decide +kernel
theorem d_M_link_71 : decode b_M_link 71 = .ok (.iload_n 3, 1) := by decide +kernel
theorem d_M_link_72 : decode b_M_link 72 = .ok (.iload 4, 2) := by decide +kernel
theorem d_M_link_74 : decode b_M_link 74 = .ok (.invokevirtual 60, 3) := by decide +kernel
theorem d_M_link_77 : decode b_M_link 77 = .ok (.ifCond .lt 6, 3) := by decide +kernel
theorem d_M_link_80 : decode b_M_link 80 = .ok (.bipush (-4), 2) := by decide +kernel
theorem d_M_link_82 : decode b_M_link 82 = .ok (.ireturn, 1) := by decide +kernel
theorem d_M_link_83 : decode b_M_link 83 = .ok (.aload_n 0, 1) := by decide +kernel
theorem d_M_link_84 : decode b_M_link 84 = .ok (.invokevirtual 64, 3) := by decide +kernel
theorem d_M_link_87 : decode b_M_link 87 = .ok (.bipush 20, 2) := by decide +kernel
theorem d_M_link_89 : decode b_M_link 89 = .ok (.if_icmp .ne 6, 3) := by decide +kernel
theorem d_M_link_92 : decode b_M_link 92 = .ok (.bipush (-5), 2) := by decide +kernel
theorem d_M_link_94 : decode b_M_link 94 = .ok (.ireturn, 1) := by decide +kernel
theorem d_M_link_95 : decode b_M_link 95 = .ok (.aload_n 0, 1) := by decide +kernel
theorem d_M_link_96 : decode b_M_link 96 = .ok (.getfield 17, 3) := by decide +kernel
theorem d_M_link_99 : decode b_M_link 99 = .ok (.iload 5, 2) := by decide +kernel
theorem d_M_link_101 : decode b_M_link 101 = .ok (.iaload, 1) := by decide +kernel
theorem d_M_link_102 : decode b_M_link 102 = .ok (.iconst 3, 1) := by decide +kernel
theorem d_M_link_103 : decode b_M_link 103 = .ok (.if_icmp .ne 13, 3) := by decide +kernel
theorem d_M_link_106 : decode b_M_link 106 = .ok (.aload_n 0, 1) := by decide +kernel
theorem d_M_link_107 : decode b_M_link 107 = .ok (.getfield 30, 3) := by decide +kernel
theorem d_M_link_110 : decode b_M_link 110 = .ok (.iload 5, 2) := by decide +kernel
theorem d_M_link_112 : decode b_M_link 112 = .ok (.iaload, 1) := by decide +kernel
theorem d_M_link_113 : decode b_M_link 113 = .ok (.goto 10, 3) := by decide +kernel
theorem d_M_link_116 : decode b_M_link 116 = .ok (.aload_n 0, 1) := by decide +kernel
theorem d_M_link_117 : decode b_M_link 117 = .ok (.getfield 21, 3) := by decide +kernel
theorem d_M_link_120 : decode b_M_link 120 = .ok (.iload 5, 2) := by decide +kernel
theorem d_M_link_122 : decode b_M_link 122 = .ok (.iaload, 1) := by decide +kernel
theorem d_M_link_123 : decode b_M_link 123 = .ok (.istore 6, 2) := by decide +kernel
theorem d_M_link_125 : decode b_M_link 125 = .ok (.aload_n 0, 1) := by decide +kernel
theorem d_M_link_126 : decode b_M_link 126 = .ok (.getfield 17, 3) := by decide +kernel
theorem d_M_link_129 : decode b_M_link 129 = .ok (.iload 5, 2) := by decide +kernel
theorem d_M_link_131 : decode b_M_link 131 = .ok (.iaload, 1) := by decide +kernel
theorem d_M_link_132 : decode b_M_link 132 = .ok (.iconst 2, 1) := by decide +kernel
theorem d_M_link_133 : decode b_M_link 133 = .ok (.if_icmp .ne 39, 3) := by decide +kernel
theorem d_M_link_136 : decode b_M_link 136 = .ok (.aload_n 0, 1) := by decide +kernel
theorem d_M_link_137 : decode b_M_link 137 = .ok (.getfield 17, 3) := by decide +kernel
theorem d_M_link_140 : decode b_M_link 140 = .ok (.iload 5, 2) := by decide +kernel
theorem d_M_link_142 : decode b_M_link 142 = .ok (.iconst 4, 1) := by decide +kernel
theorem d_M_link_143 : decode b_M_link 143 = .ok (.iastore, 1) := by decide +kernel
theorem d_M_link_144 : decode b_M_link 144 = .ok (.aload_n 0, 1) := by decide +kernel
theorem d_M_link_145 : decode b_M_link 145 = .ok (.getfield 24, 3) := by decide +kernel
theorem d_M_link_148 : decode b_M_link 148 = .ok (.iload 5, 2) := by decide +kernel
theorem d_M_link_150 : decode b_M_link 150 = .ok (.iconst 3, 1) := by decide +kernel
theorem d_M_link_151 : decode b_M_link 151 = .ok (.iastore, 1) := by decide +kernel
theorem d_M_link_152 : decode b_M_link 152 = .ok (.aload_n 0, 1) := by decide +kernel
theorem d_M_link_153 : decode b_M_link 153 = .ok (.getfield 27, 3) := by decide +kernel
theorem d_M_link_156 : decode b_M_link 156 = .ok (.iload 5, 2) := by decide +kernel
theorem d_M_link_158 : decode b_M_link 158 = .ok (.iload 6, 2) := by decide +kernel
theorem d_M_link_160 : decode b_M_link 160 = .ok (.iastore, 1) := by decide +kernel
theorem d_M_link_161 : decode b_M_link 161 = .ok (.aload_n 0, 1) := by decide +kernel
theorem d_M_link_162 : decode b_M_link 162 = .ok (.iconst 3, 1) := by decide +kernel
theorem d_M_link_163 : decode b_M_link 163 = .ok (.iload_n 1, 1) := by decide +kernel
theorem d_M_link_164 : decode b_M_link 164 = .ok (.iload_n 2, 1) := by decide +kernel
theorem d_M_link_165 : decode b_M_link 165 = .ok (.iload 6, 2) := by decide +kernel
theorem d_M_link_167 : decode b_M_link 167 = .ok (.invokevirtual 68, 3) := by decide +kernel
theorem d_M_link_170 : decode b_M_link 170 = .ok (.istore 7, 2) := by decide +kernel
theorem d_M_link_172 : decode b_M_link 172 = .ok (.aload_n 0, 1) := by decide +kernel
theorem d_M_link_173 : decode b_M_link 173 = .ok (.iconst 3, 1) := by decide +kernel
theorem d_M_link_174 : decode b_M_link 174 = .ok (.iload_n 3, 1) := by decide +kernel
theorem d_M_link_175 : decode b_M_link 175 = .ok (.iload 4, 2) := by decide +kernel
theorem d_M_link_177 : decode b_M_link 177 = .ok (.iload 6, 2) := by decide +kernel
theorem d_M_link_179 : decode b_M_link 179 = .ok (.invokevirtual 68, 3) := by decide +kernel
theorem d_M_link_182 : decode b_M_link 182 = .ok (.ireturn, 1) := by decide +kernel
theorem d_M_remove_0 : decode b_M_remove 0 = .ok (.aload_n 0, 1) := by decide +kernel
theorem d_M_remove_1 : decode b_M_remove 1 = .ok (.getfield 7, 3) := by decide +kernel
theorem d_M_remove_4 : decode b_M_remove 4 = .ok (.ifCond .ne 5, 3) := by decide +kernel
theorem d_M_remove_7 : decode b_M_remove 7 = .ok (.iconst (-1), 1) := by decide +kernel
theorem d_M_remove_8 : decode b_M_remove 8 = .ok (.ireturn, 1) := by decide +kernel
theorem d_M_remove_9 : decode b_M_remove 9 = .ok (.iload_n 2, 1) := by decide +kernel
theorem d_M_remove_10 : decode b_M_remove 10 = .ok (.invokestatic 53, 3) := by decide +kernel
theorem d_M_remove_13 : decode b_M_remove 13 = .ok (.ifCond .eq 6, 3) := by decide +kernel
theorem d_M_remove_16 : decode b_M_remove 16 = .ok (.bipush (-2), 2) := by decide +kernel
theorem d_M_remove_18 : decode b_M_remove 18 = .ok (.ireturn, 1) := by decide +kernel
theorem d_M_remove_19 : decode b_M_remove 19 = .ok (.aload_n 0, 1) := by decide +kernel
theorem d_M_remove_20 : decode b_M_remove 20 = .ok (.iload_n 1, 1) := by decide +kernel
theorem d_M_remove_21 : decode b_M_remove 21 = .ok (.iload_n 2, 1) := by decide +kernel
theorem d_M_remove_22 : decode b_M_remove 22 = .ok (.invokevirtual 60, 3) := by decide +kernel
theorem d_M_remove_25 : decode b_M_remove 25 = .ok (.istore_n 3, 1) := by decide +kernel
theorem d_M_remove_26 : decode b_M_remove 26 = .ok (.aload_n 0, 1) := by decide +kernel
theorem d_M_remove_27 : decode b_M_remove 27 = .ok (.iload_n 1, 1) := by decide +kernel
theorem d_M_remove_28 : decode b_M_remove 28 = .ok (.invokevirtual 57, 3) := by decide +kernel
theorem d_M_remove_31 : decode b_M_remove 31 = .ok (.ifCond .eq 7, 3) := by decide +kernel
theorem d_M_remove_34 : decode b_M_remove 34 = .ok (.iload_n 3, 1) := by decide +kernel
theorem d_M_remove_35 : decode b_M_remove 35 = .ok (.ifCond .ge 6, 3) := by decide +kernel
theorem d_M_remove_38 : decode b_M_remove 38 = .ok (.bipush (-3), 2) := by decide +kernel
theorem d_M_remove_40 : decode b_M_remove 40 = .ok (.ireturn, 1) := by decide +kernel
theorem d_M_remove_41 : decode b_M_remove 41 = .ok (.aload_n 0, 1) := by decide +kernel
theorem d_M_remove_42 : decode b_M_remove 42 = .ok (.getfield 17, 3) := by decide +kernel
theorem d_M_remove_45 : decode b_M_remove 45 = .ok (.iload_n 3, 1) := by decide +kernel
theorem d_M_remove_46 : decode b_M_remove 46 = .ok (.iaload, 1) := by decide +kernel
theorem d_M_remove_47 : decode b_M_remove 47 = .ok (.iconst 1, 1) := by decide +kernel
theorem d_M_remove_48 : decode b_M_remove 48 = .ok (.if_icmp .ne 19, 3) := by decide +kernel
theorem d_M_remove_51 : decode b_M_remove 51 = .ok (.aload_n 0, 1) := by decide +kernel
theorem d_M_remove_52 : decode b_M_remove 52 = .ok (.aload_n 0, 1) := by decide +kernel
theorem d_M_remove_53 : decode b_M_remove 53 = .ok (.getfield 21, 3) := by decide +kernel
theorem d_M_remove_56 : decode b_M_remove 56 = .ok (.iload_n 3, 1) := by decide +kernel
theorem d_M_remove_57 : decode b_M_remove 57 = .ok (.iaload, 1) := by decide +kernel
theorem d_M_remove_58 : decode b_M_remove 58 = .ok (.invokevirtual 72, 3) := by decide +kernel
theorem d_M_remove_61 : decode b_M_remove 61 = .ok (.ifCond .le 6, 3) := by decide +kernel
theorem d_M_remove_64 : decode b_M_remove 64 = .ok (.bipush (-6), 2) := by decide +kernel
theorem d_M_remove_66 : decode b_M_remove 66 = .ok (.ireturn, 1) := by decide +kernel
theorem d_M_remove_67 : decode b_M_remove 67 = .ok (.aload_n 0, 1) := by decide +kernel
theorem d_M_remove_68 : decode b_M_remove 68 = .ok (.getfield 17, 3) := by decide +kernel
theorem d_M_remove_71 : decode b_M_remove 71 = .ok (.iload_n 3, 1) := by decide +kernel
theorem d_M_remove_72 : decode b_M_remove 72 = .ok (.iaload, 1) := by decide +kernel
theorem d_M_remove_73 : decode b_M_remove 73 = .ok (.iconst 3, 1) := by decide +kernel
theorem d_M_remove_74 : decode b_M_remove 74 = .ok (.if_icmp .ne 7, 3) := by decide +kernel
theorem d_M_remove_77 : decode b_M_remove 77 = .ok (.iconst 1, 1) := by decide +kernel
theorem d_M_remove_78 : decode b_M_remove 78 = .ok (.goto 4, 3) := by decide +kernel
theorem d_M_remove_81 : decode b_M_remove 81 = .ok (.iconst 0, 1) := by decide +kernel
theorem d_M_remove_82 : decode b_M_remove 82 = .ok (.istore 4, 2) := by decide +kernel
theorem d_M_remove_84 : decode b_M_remove 84 = .ok (.aload_n 0, 1) := by decide +kernel
theorem d_M_remove_85 : decode b_M_remove 85 = .ok (.getfield 17, 3) := by decide +kernel
theorem d_M_remove_88 : decode b_M_remove 88 = .ok (.iload_n 3, 1) := by decide +kernel
theorem d_M_remove_89 : decode b_M_remove 89 = .ok (.iconst 0, 1) := by decide +kernel
theorem d_M_remove_90 : decode b_M_remove 90 = .ok (.iastore, 1) := by decide +kernel
theorem d_M_remove_91 : decode b_M_remove 91 = .ok (.iload 4, 2) := by decide +kernel
theorem d_M_remove_93 : decode b_M_remove 93 = .ok (.ifCond .eq 36, 3) := by decide +kernel
theorem d_M_remove_96 : decode b_M_remove 96 = .ok (.aload_n 0, 1) := by decide +kernel
theorem d_M_remove_97 : decode b_M_remove 97 = .ok (.aload_n 0, 1) := by decide +kernel
theorem d_M_remove_98 : decode b_M_remove 98 = .ok (.getfield 30, 3) := by decide +kernel
theorem d_M_remove_101 : decode b_M_remove 101 = .ok (.iload_n 3, 1) := by decide +kernel
theorem d_M_remove_102 : decode b_M_remove 102 = .ok (.iaload, 1) := by decide +kernel
theorem d_M_remove_103 : decode b_M_remove 103 = .ok (.invokevirtual 75, 3) := by decide +kernel
theorem d_M_remove_106 : decode b_M_remove 106 = .ok (.ifCond .ne 23, 3) := by decide +kernel
theorem d_M_remove_109 : decode b_M_remove 109 = .ok (.aload_n 0, 1) := by decide +kernel
theorem d_M_remove_110 : decode b_M_remove 110 = .ok (.aload_n 0, 1) := by decide +kernel
theorem d_M_remove_111 : decode b_M_remove 111 = .ok (.getfield 30, 3) := by decide +kernel
theorem d_M_remove_114 : decode b_M_remove 114 = .ok (.iload_n 3, 1) := by decide +kernel
theorem d_M_remove_115 : decode b_M_remove 115 = .ok (.iaload, 1) := by decide +kernel
theorem d_M_remove_116 : decode b_M_remove 116 = .ok (.invokevirtual 49, 3) := by decide +kernel
theorem d_M_remove_119 : decode b_M_remove 119 = .ok (.istore 5, 2) := by decide +kernel
theorem d_M_remove_121 : decode b_M_remove 121 = .ok (.aload_n 0, 1) := by decide +kernel
theorem d_M_remove_122 : decode b_M_remove 122 = .ok (.getfield 17, 3) := by decide +kernel
theorem d_M_remove_125 : decode b_M_remove 125 = .ok (.iload 5, 2) := by decide +kernel
theorem d_M_remove_127 : decode b_M_remove 127 = .ok (.iconst 0, 1) := by decide +kernel
theorem d_M_remove_128 : decode b_M_remove 128 = .ok (.iastore, 1) := by decide +kernel
theorem d_M_remove_129 : decode b_M_remove 129 = .ok (.aload_n 0, 1) := by decide +kernel
theorem d_M_remove_130 : decode b_M_remove 130 = .ok (.getfield 21, 3) := by decide +kernel
theorem d_M_remove_133 : decode b_M_remove 133 = .ok (.iload_n 3, 1) := by decide +kernel
theorem d_M_remove_134 : decode b_M_remove 134 = .ok (.iaload, 1) := by decide +kernel
theorem d_M_remove_135 : decode b_M_remove 135 = .ok (.ireturn, 1) := by decide +kernel
theorem d_M_entriesIn_0 : decode b_M_entriesIn 0 = .ok (.iconst 0, 1) := by decide +kernel
theorem d_M_entriesIn_1 : decode b_M_entriesIn 1 = .ok (.istore_n 2, 1) := by decide +kernel
theorem d_M_entriesIn_2 : decode b_M_entriesIn 2 = .ok (.iconst 0, 1) := by decide +kernel
theorem d_M_entriesIn_3 : decode b_M_entriesIn 3 = .ok (.istore_n 3, 1) := by decide +kernel
theorem d_M_entriesIn_4 : decode b_M_entriesIn 4 = .ok (.iload_n 3, 1) := by decide +kernel
theorem d_M_entriesIn_5 : decode b_M_entriesIn 5 = .ok (.bipush 40, 2) := by decide +kernel
theorem d_M_entriesIn_7 : decode b_M_entriesIn 7 = .ok (.if_icmp .ge 47, 3) := by decide +kernel
theorem d_M_entriesIn_10 : decode b_M_entriesIn 10 = .ok (.aload_n 0, 1) := by decide +kernel
theorem d_M_entriesIn_11 : decode b_M_entriesIn 11 = .ok (.getfield 17, 3) := by decide +kernel
theorem d_M_entriesIn_14 : decode b_M_entriesIn 14 = .ok (.iload_n 3, 1) := by decide +kernel
theorem d_M_entriesIn_15 : decode b_M_entriesIn 15 = .ok (.iaload, 1) := by decide +kernel
theorem d_M_entriesIn_16 : decode b_M_entriesIn 16 = .ok (.iconst 1, 1) := by decide +kernel
theorem d_M_entriesIn_17 : decode b_M_entriesIn 17 = .ok (.if_icmp .lt 29, 3) := by decide +kernel
theorem d_M_entriesIn_20 : decode b_M_entriesIn 20 = .ok (.aload_n 0, 1) := by decide +kernel
theorem d_M_entriesIn_21 : decode b_M_entriesIn 21 = .ok (.getfield 17, 3) := by decide +kernel
theorem d_M_entriesIn_24 : decode b_M_entriesIn 24 = .ok (.iload_n 3, 1) := by decide +kernel
theorem d_M_entriesIn_25 : decode b_M_entriesIn 25 = .ok (.iaload, 1) := by decide +kernel
theorem d_M_entriesIn_26 : decode b_M_entriesIn 26 = .ok (.iconst 3, 1) := by decide +kernel
theorem d_M_entriesIn_27 : decode b_M_entriesIn 27 = .ok (.if_icmp .gt 19, 3) := by decide +kernel
theorem d_M_entriesIn_30 : decode b_M_entriesIn 30 = .ok (.aload_n 0, 1) := by decide +kernel
theorem d_M_entriesIn_31 : decode b_M_entriesIn 31 = .ok (.getfield 24, 3) := by decide +kernel
theorem d_M_entriesIn_34 : decode b_M_entriesIn 34 = .ok (.iload_n 3, 1) := by decide +kernel
theorem d_M_entriesIn_35 : decode b_M_entriesIn 35 = .ok (.iaload, 1) := by decide +kernel
theorem d_M_entriesIn_36 : decode b_M_entriesIn 36 = .ok (.iload_n 1, 1) := by decide +kernel
theorem d_M_entriesIn_37 : decode b_M_entriesIn 37 = .ok (.if_icmp .ne 9, 3) := by decide +kernel
theorem d_M_entriesIn_40 : decode b_M_entriesIn 40 = .ok (.iload_n 2, 1) := by decide +kernel
theorem d_M_entriesIn_41 : decode b_M_entriesIn 41 = .ok (.iconst 1, 1) := by decide +kernel
theorem d_M_entriesIn_42 : decode b_M_entriesIn 42 = .ok (.iadd, 1) := by decide +kernel
theorem d_M_entriesIn_43 : decode b_M_entriesIn 43 = .ok (.goto 4, 3) := by decide +kernel
theorem d_M_entriesIn_46 : decode b_M_entriesIn 46 = .ok (.iload_n 2, 1) := by decide +kernel
theorem d_M_entriesIn_47 : decode b_M_entriesIn 47 = .ok (.istore_n 2, 1) := by decide +kernel
theorem d_M_entriesIn_48 : decode b_M_entriesIn 48 = .ok (.iinc 3 1, 3) := by decide +kernel
theorem d_M_entriesIn_51 : decode b_M_entriesIn 51 = .ok (.goto (-47), 3) := by decide +kernel
theorem d_M_entriesIn_54 : decode b_M_entriesIn 54 = .ok (.iload_n 2, 1) := by decide +kernel
theorem d_M_entriesIn_55 : decode b_M_entriesIn 55 = .ok (.ireturn, 1) := by decide +kernel
theorem d_M_linksFor_0 : decode b_M_linksFor 0 = .ok (.iconst 0, 1) := by decide +kernel
theorem d_M_linksFor_1 : decode b_M_linksFor 1 = .ok (.istore_n 2, 1) := by decide +kernel
theorem d_M_linksFor_2 : decode b_M_linksFor 2 = .ok (.iconst 0, 1) := by decide +kernel
theorem d_M_linksFor_3 : decode b_M_linksFor 3 = .ok (.istore_n 3, 1) := by decide +kernel
theorem d_M_linksFor_4 : decode b_M_linksFor 4 = .ok (.iload_n 3, 1) := by decide +kernel
theorem d_M_linksFor_5 : decode b_M_linksFor 5 = .ok (.bipush 40, 2) := by decide +kernel
theorem d_M_linksFor_7 : decode b_M_linksFor 7 = .ok (.if_icmp .ge 37, 3) := by decide +kernel
theorem d_M_linksFor_10 : decode b_M_linksFor 10 = .ok (.aload_n 0, 1) := by decide +kernel
theorem d_M_linksFor_11 : decode b_M_linksFor 11 = .ok (.getfield 17, 3) := by decide +kernel
theorem d_M_linksFor_14 : decode b_M_linksFor 14 = .ok (.iload_n 3, 1) := by decide +kernel
theorem d_M_linksFor_15 : decode b_M_linksFor 15 = .ok (.iaload, 1) := by decide +kernel
theorem d_M_linksFor_16 : decode b_M_linksFor 16 = .ok (.iconst 3, 1) := by decide +kernel
theorem d_M_linksFor_17 : decode b_M_linksFor 17 = .ok (.if_icmp .ne 19, 3) := by decide +kernel
theorem d_M_linksFor_20 : decode b_M_linksFor 20 = .ok (.aload_n 0, 1) := by decide +kernel
theorem d_M_linksFor_21 : decode b_M_linksFor 21 = .ok (.getfield 30, 3) := by decide +kernel
theorem d_M_linksFor_24 : decode b_M_linksFor 24 = .ok (.iload_n 3, 1) := by decide +kernel
theorem d_M_linksFor_25 : decode b_M_linksFor 25 = .ok (.iaload, 1) := by decide +kernel
theorem d_M_linksFor_26 : decode b_M_linksFor 26 = .ok (.iload_n 1, 1) := by decide +kernel
theorem d_M_linksFor_27 : decode b_M_linksFor 27 = .ok (.if_icmp .ne 9, 3) := by decide +kernel
theorem d_M_linksFor_30 : decode b_M_linksFor 30 = .ok (.iload_n 2, 1) := by decide +kernel
theorem d_M_linksFor_31 : decode b_M_linksFor 31 = .ok (.iconst 1, 1) := by decide +kernel
theorem d_M_linksFor_32 : decode b_M_linksFor 32 = .ok (.iadd, 1) := by decide +kernel
theorem d_M_linksFor_33 : decode b_M_linksFor 33 = .ok (.goto 4, 3) := by decide +kernel
theorem d_M_linksFor_36 : decode b_M_linksFor 36 = .ok (.iload_n 2, 1) := by decide +kernel
theorem d_M_linksFor_37 : decode b_M_linksFor 37 = .ok (.istore_n 2, 1) := by decide +kernel
theorem d_M_linksFor_38 : decode b_M_linksFor 38 = .ok (.iinc 3 1, 3) := by decide +kernel
theorem d_M_linksFor_41 : decode b_M_linksFor 41 = .ok (.goto (-37), 3) := by decide +kernel
theorem d_M_linksFor_44 : decode b_M_linksFor 44 = .ok (.iload_n 2, 1) := by decide +kernel
theorem d_M_linksFor_45 : decode b_M_linksFor 45 = .ok (.ireturn, 1) := by decide +kernel
theorem d_M_move_0 : decode b_M_move 0 = .ok (.aload_n 0, 1) := by decide +kernel
theorem d_M_move_1 : decode b_M_move 1 = .ok (.getfield 7, 3) := by decide +kernel
theorem d_M_move_4 : decode b_M_move 4 = .ok (.ifCond .ne 5, 3) := by decide +kernel
theorem d_M_move_7 : decode b_M_move 7 = .ok (.iconst (-1), 1) := by decide +kernel
theorem d_M_move_8 : decode b_M_move 8 = .ok (.ireturn, 1) := by decide +kernel
theorem d_M_move_9 : decode b_M_move 9 = .ok (.iload_n 2, 1) := by decide +kernel
theorem d_M_move_10 : decode b_M_move 10 = .ok (.invokestatic 53, 3) := by decide +kernel
theorem d_M_move_13 : decode b_M_move 13 = .ok (.ifCond .ne 11, 3) := by decide +kernel
theorem d_M_move_16 : decode b_M_move 16 = .ok (.iload 4, 2) := by decide +kernel
theorem d_M_move_18 : decode b_M_move 18 = .ok (.invokestatic 53, 3) := by decide +kernel
theorem d_M_move_21 : decode b_M_move 21 = .ok (.ifCond .eq 6, 3) := by decide +kernel
theorem d_M_move_24 : decode b_M_move 24 = .ok (.bipush (-2), 2) := by decide +kernel
theorem d_M_move_26 : decode b_M_move 26 = .ok (.ireturn, 1) := by decide +kernel
theorem d_M_move_27 : decode b_M_move 27 = .ok (.aload_n 0, 1) := by decide +kernel
theorem d_M_move_28 : decode b_M_move 28 = .ok (.iload_n 1, 1) := by decide +kernel
theorem d_M_move_29 : decode b_M_move 29 = .ok (.iload_n 2, 1) := by decide +kernel
theorem d_M_move_30 : decode b_M_move 30 = .ok (.invokevirtual 60, 3) := by decide +kernel
theorem d_M_move_33 : decode b_M_move 33 = .ok (.istore 5, 2) := by decide +kernel
theorem d_M_move_35 : decode b_M_move 35 = .ok (.aload_n 0, 1) := by decide +kernel
theorem d_M_move_36 : decode b_M_move 36 = .ok (.iload_n 1, 1) := by decide +kernel
theorem d_M_move_37 : decode b_M_move 37 = .ok (.invokevirtual 57, 3) := by decide +kernel
theorem d_M_move_40 : decode b_M_move 40 = .ok (.ifCond .eq 16, 3) := by decide +kernel
theorem d_M_move_43 : decode b_M_move 43 = .ok (.iload 5, 2) := by decide +kernel
theorem d_M_move_45 : decode b_M_move 45 = .ok (.ifCond .lt 11, 3) := by decide +kernel
theorem d_M_move_48 : decode b_M_move 48 = .ok (.aload_n 0, 1) := by decide +kernel
theorem d_M_move_49 : decode b_M_move 49 = .ok (.iload_n 3, 1) := by decide +kernel
theorem d_M_move_50 : decode b_M_move 50 = .ok (.invokevirtual 57, 3) := by decide +kernel
theorem d_M_move_53 : decode b_M_move 53 = .ok (.ifCond .ne 6, 3) := by decide +kernel
theorem d_M_move_56 : decode b_M_move 56 = .ok (.bipush (-3), 2) := by decide +kernel
theorem d_M_move_58 : decode b_M_move 58 = .ok (.ireturn, 1) := by decide +kernel
theorem d_M_move_59 : decode b_M_move 59 = .ok (.aload_n 0, 1) := by decide +kernel
theorem d_M_move_60 : decode b_M_move 60 = .ok (.getfield 17, 3) := by decide +kernel
theorem d_M_move_63 : decode b_M_move 63 = .ok (.iload 5, 2) := by decide +kernel
theorem d_M_move_65 : decode b_M_move 65 = .ok (.iaload, 1) := by decide +kernel
theorem d_M_move_66 : decode b_M_move 66 = .ok (.iconst 1, 1) := by decide +kernel
theorem d_M_move_67 : decode b_M_move 67 = .ok (.if_icmp .ne 21, 3) := by decide +kernel
theorem d_M_move_70 : decode b_M_move 70 = .ok (.aload_n 0, 1) := by decide +kernel
theorem d_M_move_71 : decode b_M_move 71 = .ok (.iload_n 3, 1) := by decide +kernel
theorem d_M_move_72 : decode b_M_move 72 = .ok (.aload_n 0, 1) := by decide +kernel
theorem d_M_move_73 : decode b_M_move 73 = .ok (.getfield 21, 3) := by decide +kernel
theorem d_M_move_76 : decode b_M_move 76 = .ok (.iload 5, 2) := by decide +kernel
theorem d_M_move_78 : decode b_M_move 78 = .ok (.iaload, 1) := by decide +kernel
theorem d_M_move_79 : decode b_M_move 79 = .ok (.invokevirtual 78, 3) := by decide +kernel
theorem d_M_move_82 : decode b_M_move 82 = .ok (.ifCond .eq 6, 3) := by decide +kernel
theorem d_M_move_85 : decode b_M_move 85 = .ok (.bipush (-7), 2) := by decide +kernel
theorem d_M_move_87 : decode b_M_move 87 = .ok (.ireturn, 1) := by decide +kernel
theorem d_M_move_88 : decode b_M_move 88 = .ok (.iload_n 1, 1) := by decide +kernel
theorem d_M_move_89 : decode b_M_move 89 = .ok (.iload_n 3, 1) := by decide +kernel
theorem d_M_move_90 : decode b_M_move 90 = .ok (.if_icmp .ne 17, 3) := by decide +kernel
theorem d_M_move_93 : decode b_M_move 93 = .ok (.iload_n 2, 1) := by decide +kernel
theorem d_M_move_94 : decode b_M_move 94 = .ok (.iload 4, 2) := by decide +kernel
theorem d_M_move_96 : decode b_M_move 96 = .ok (.if_icmp .ne 11, 3) := by decide +kernel
theorem d_M_move_99 : decode b_M_move 99 = .ok (.aload_n 0, 1) := by decide +kernel
theorem d_M_move_100 : decode b_M_move 100 = .ok (.getfield 21, 3) := by decide +kernel
theorem d_M_move_103 : decode b_M_move 103 = .ok (.iload 5, 2) := by decide +kernel
theorem d_M_move_105 : decode b_M_move 105 = .ok (.iaload, 1) := by decide +kernel
theorem d_M_move_106 : decode b_M_move 106 = .ok (.ireturn, 1) := by decide +kernel
theorem d_M_move_107 : decode b_M_move 107 = .ok (.aload_n 0, 1) := by decide +kernel
theorem d_M_move_108 : decode b_M_move 108 = .ok (.iload_n 3, 1) := by decide +kernel
theorem d_M_move_109 : decode b_M_move 109 = .ok (.iload 4, 2) := by decide +kernel
theorem d_M_move_111 : decode b_M_move 111 = .ok (.invokevirtual 60, 3) := by decide +kernel
theorem d_M_move_114 : decode b_M_move 114 = .ok (.ifCond .lt 6, 3) := by decide +kernel
theorem d_M_move_117 : decode b_M_move 117 = .ok (.bipush (-4), 2) := by decide +kernel
theorem d_M_move_119 : decode b_M_move 119 = .ok (.ireturn, 1) := by decide +kernel
theorem d_M_move_120 : decode b_M_move 120 = .ok (.aload_n 0, 1) := by decide +kernel
theorem d_M_move_121 : decode b_M_move 121 = .ok (.getfield 24, 3) := by decide +kernel
theorem d_M_move_124 : decode b_M_move 124 = .ok (.iload 5, 2) := by decide +kernel
theorem d_M_move_126 : decode b_M_move 126 = .ok (.iload_n 3, 1) := by decide +kernel
theorem d_M_move_127 : decode b_M_move 127 = .ok (.iastore, 1) := by decide +kernel
theorem d_M_move_128 : decode b_M_move 128 = .ok (.aload_n 0, 1) := by decide +kernel
theorem d_M_move_129 : decode b_M_move 129 = .ok (.getfield 27, 3) := by decide +kernel
theorem d_M_move_132 : decode b_M_move 132 = .ok (.iload 5, 2) := by decide +kernel
theorem d_M_move_134 : decode b_M_move 134 = .ok (.iload 4, 2) := by decide +kernel
theorem d_M_move_136 : decode b_M_move 136 = .ok (.iastore, 1) := by decide +kernel
theorem d_M_move_137 : decode b_M_move 137 = .ok (.aload_n 0, 1) := by decide +kernel
theorem d_M_move_138 : decode b_M_move 138 = .ok (.getfield 21, 3) := by decide +kernel
theorem d_M_move_141 : decode b_M_move 141 = .ok (.iload 5, 2) := by decide +kernel
theorem d_M_move_143 : decode b_M_move 143 = .ok (.iaload, 1) := by decide +kernel
theorem d_M_move_144 : decode b_M_move 144 = .ok (.ireturn, 1) := by decide +kernel
theorem d_M_within_0 : decode b_M_within 0 = .ok (.iload_n 1, 1) := by decide +kernel
theorem d_M_within_1 : decode b_M_within 1 = .ok (.istore_n 3, 1) := by decide +kernel
theorem d_M_within_2 : decode b_M_within 2 = .ok (.iconst 0, 1) := by decide +kernel
theorem d_M_within_3 : decode b_M_within 3 = .ok (.istore 4, 2) := by decide +kernel
theorem d_M_within_5 : decode b_M_within 5 = .ok (.iload 4, 2) := by decide +kernel
theorem d_M_within_7 : decode b_M_within 7 = .ok (.bipush 22, 2) := by decide +kernel
theorem d_M_within_9 : decode b_M_within 9 = .ok (.if_icmp .ge 45, 3) := by decide +kernel
theorem d_M_within_12 : decode b_M_within 12 = .ok (.iload_n 3, 1) := by decide +kernel
theorem d_M_within_13 : decode b_M_within 13 = .ok (.iconst 2, 1) := by decide +kernel
theorem d_M_within_14 : decode b_M_within 14 = .ok (.if_icmp .eq 40, 3) := by decide +kernel
theorem d_M_within_17 : decode b_M_within 17 = .ok (.iload_n 3, 1) := by decide +kernel
theorem d_M_within_18 : decode b_M_within 18 = .ok (.iload_n 2, 1) := by decide +kernel
theorem d_M_within_19 : decode b_M_within 19 = .ok (.if_icmp .ne 5, 3) := by decide +kernel
theorem d_M_within_22 : decode b_M_within 22 = .ok (.iconst 1, 1) := by decide +kernel
theorem d_M_within_23 : decode b_M_within 23 = .ok (.ireturn, 1) := by decide +kernel
theorem d_M_within_24 : decode b_M_within 24 = .ok (.aload_n 0, 1) := by decide +kernel
theorem d_M_within_25 : decode b_M_within 25 = .ok (.iload_n 3, 1) := by decide +kernel
theorem d_M_within_26 : decode b_M_within 26 = .ok (.invokevirtual 49, 3) := by decide +kernel
theorem d_M_within_29 : decode b_M_within 29 = .ok (.istore 5, 2) := by decide +kernel
theorem d_M_within_31 : decode b_M_within 31 = .ok (.iload 5, 2) := by decide +kernel
theorem d_M_within_33 : decode b_M_within 33 = .ok (.ifCond .ge 7, 3) := by decide +kernel
theorem d_M_within_36 : decode b_M_within 36 = .ok (.iconst 2, 1) := by decide +kernel
theorem d_M_within_37 : decode b_M_within 37 = .ok (.goto 10, 3) := by decide +kernel
theorem d_M_within_40 : decode b_M_within 40 = .ok (.aload_n 0, 1) := by decide +kernel
theorem d_M_within_41 : decode b_M_within 41 = .ok (.getfield 24, 3) := by decide +kernel
theorem d_M_within_44 : decode b_M_within 44 = .ok (.iload 5, 2) := by decide +kernel
theorem d_M_within_46 : decode b_M_within 46 = .ok (.iaload, 1) := by decide +kernel
theorem d_M_within_47 : decode b_M_within 47 = .ok (.istore_n 3, 1) := by decide +kernel
theorem d_M_within_48 : decode b_M_within 48 = .ok (.iinc 4 1, 3) := by decide +kernel
theorem d_M_within_51 : decode b_M_within 51 = .ok (.goto (-46), 3) := by decide +kernel
theorem d_M_within_54 : decode b_M_within 54 = .ok (.iload_n 3, 1) := by decide +kernel
theorem d_M_within_55 : decode b_M_within 55 = .ok (.iload_n 2, 1) := by decide +kernel
theorem d_M_within_56 : decode b_M_within 56 = .ok (.if_icmp .ne 7, 3) := by decide +kernel
theorem d_M_within_59 : decode b_M_within 59 = .ok (.iconst 1, 1) := by decide +kernel
theorem d_M_within_60 : decode b_M_within 60 = .ok (.goto 4, 3) := by decide +kernel
theorem d_M_within_63 : decode b_M_within 63 = .ok (.iconst 0, 1) := by decide +kernel
theorem d_M_within_64 : decode b_M_within 64 = .ok (.ireturn, 1) := by decide +kernel
theorem d_M_find_0 : decode b_M_find 0 = .ok (.aload_n 0, 1) := by decide +kernel
theorem d_M_find_1 : decode b_M_find 1 = .ok (.getfield 7, 3) := by decide +kernel
theorem d_M_find_4 : decode b_M_find 4 = .ok (.ifCond .ne 5, 3) := by decide +kernel
theorem d_M_find_7 : decode b_M_find 7 = .ok (.iconst (-1), 1) := by decide +kernel
theorem d_M_find_8 : decode b_M_find 8 = .ok (.ireturn, 1) := by decide +kernel
theorem d_M_find_9 : decode b_M_find 9 = .ok (.iload_n 2, 1) := by decide +kernel
theorem d_M_find_10 : decode b_M_find 10 = .ok (.invokestatic 53, 3) := by decide +kernel
theorem d_M_find_13 : decode b_M_find 13 = .ok (.ifCond .eq 6, 3) := by decide +kernel
theorem d_M_find_16 : decode b_M_find 16 = .ok (.bipush (-2), 2) := by decide +kernel
theorem d_M_find_18 : decode b_M_find 18 = .ok (.ireturn, 1) := by decide +kernel
theorem d_M_find_19 : decode b_M_find 19 = .ok (.aload_n 0, 1) := by decide +kernel
theorem d_M_find_20 : decode b_M_find 20 = .ok (.iload_n 1, 1) := by decide +kernel
theorem d_M_find_21 : decode b_M_find 21 = .ok (.iload_n 2, 1) := by decide +kernel
theorem d_M_find_22 : decode b_M_find 22 = .ok (.invokevirtual 60, 3) := by decide +kernel
theorem d_M_find_25 : decode b_M_find 25 = .ok (.istore_n 3, 1) := by decide +kernel
theorem d_M_find_26 : decode b_M_find 26 = .ok (.aload_n 0, 1) := by decide +kernel
theorem d_M_find_27 : decode b_M_find 27 = .ok (.iload_n 1, 1) := by decide +kernel
theorem d_M_find_28 : decode b_M_find 28 = .ok (.invokevirtual 57, 3) := by decide +kernel
theorem d_M_find_31 : decode b_M_find 31 = .ok (.ifCond .eq 7, 3) := by decide +kernel
theorem d_M_find_34 : decode b_M_find 34 = .ok (.iload_n 3, 1) := by decide +kernel
theorem d_M_find_35 : decode b_M_find 35 = .ok (.ifCond .ge 8, 3) := by decide +kernel
theorem d_M_find_38 : decode b_M_find 38 = .ok (.bipush (-3), 2) := by decide +kernel
theorem d_M_find_40 : decode b_M_find 40 = .ok (.goto 9, 3) := by decide +kernel
theorem d_M_find_43 : decode b_M_find 43 = .ok (.aload_n 0, 1) := by decide +kernel
theorem d_M_find_44 : decode b_M_find 44 = .ok (.getfield 21, 3) := by decide +kernel
theorem d_M_find_47 : decode b_M_find 47 = .ok (.iload_n 3, 1) := by decide +kernel
theorem d_M_find_48 : decode b_M_find 48 = .ok (.iaload, 1) := by decide +kernel
theorem d_M_find_49 : decode b_M_find 49 = .ok (.ireturn, 1) := by decide +kernel
theorem d_M_grow_0 : decode b_M_grow 0 = .ok (.aload_n 0, 1) := by decide +kernel
theorem d_M_grow_1 : decode b_M_grow 1 = .ok (.getfield 7, 3) := by decide +kernel
theorem d_M_grow_4 : decode b_M_grow 4 = .ok (.ifCond .ne 5, 3) := by decide +kernel
theorem d_M_grow_7 : decode b_M_grow 7 = .ok (.iconst (-1), 1) := by decide +kernel
theorem d_M_grow_8 : decode b_M_grow 8 = .ok (.ireturn, 1) := by decide +kernel
theorem d_M_grow_9 : decode b_M_grow 9 = .ok (.iload_n 2, 1) := by decide +kernel
theorem d_M_grow_10 : decode b_M_grow 10 = .ok (.iconst 1, 1) := by decide +kernel
theorem d_M_grow_11 : decode b_M_grow 11 = .ok (.if_icmp .lt 9, 3) := by decide +kernel
theorem d_M_grow_14 : decode b_M_grow 14 = .ok (.iload_n 2, 1) := by decide +kernel
theorem d_M_grow_15 : decode b_M_grow 15 = .ok (.bipush 48, 2) := by decide +kernel
theorem d_M_grow_17 : decode b_M_grow 17 = .ok (.if_icmp .le 6, 3) := by decide +kernel
theorem d_M_grow_20 : decode b_M_grow 20 = .ok (.bipush (-2), 2) := by decide +kernel
theorem d_M_grow_22 : decode b_M_grow 22 = .ok (.ireturn, 1) := by decide +kernel
theorem d_M_grow_23 : decode b_M_grow 23 = .ok (.aload_n 0, 1) := by decide +kernel
theorem d_M_grow_24 : decode b_M_grow 24 = .ok (.iload_n 1, 1) := by decide +kernel
theorem d_M_grow_25 : decode b_M_grow 25 = .ok (.invokevirtual 88, 3) := by decide +kernel
theorem d_M_grow_28 : decode b_M_grow 28 = .ok (.istore_n 3, 1) := by decide +kernel
theorem d_M_grow_29 : decode b_M_grow 29 = .ok (.iload_n 3, 1) := by decide +kernel
theorem d_M_grow_30 : decode b_M_grow 30 = .ok (.ifCond .ge 6, 3) := by decide +kernel
theorem d_M_grow_33 : decode b_M_grow 33 = .ok (.bipush (-3), 2) := by decide +kernel
theorem d_M_grow_35 : decode b_M_grow 35 = .ok (.ireturn, 1) := by decide +kernel
theorem d_M_grow_36 : decode b_M_grow 36 = .ok (.aload_n 0, 1) := by decide +kernel
theorem d_M_grow_37 : decode b_M_grow 37 = .ok (.invokevirtual 91, 3) := by decide +kernel
theorem d_M_grow_40 : decode b_M_grow 40 = .ok (.iload_n 2, 1) := by decide +kernel
theorem d_M_grow_41 : decode b_M_grow 41 = .ok (.if_icmp .ge 6, 3) := by decide +kernel
theorem d_M_grow_44 : decode b_M_grow 44 = .ok (.bipush (-8), 2) := by decide +kernel
theorem d_M_grow_46 : decode b_M_grow 46 = .ok (.ireturn, 1) := by decide +kernel
theorem d_M_grow_47 : decode b_M_grow 47 = .ok (.iconst 0, 1) := by decide +kernel
theorem d_M_grow_48 : decode b_M_grow 48 = .ok (.istore 4, 2) := by decide +kernel
theorem d_M_grow_50 : decode b_M_grow 50 = .ok (.iload 4, 2) := by decide +kernel
theorem d_M_grow_52 : decode b_M_grow 52 = .ok (.iload_n 2, 1) := by decide +kernel
theorem d_M_grow_53 : decode b_M_grow 53 = .ok (.if_icmp .ge 44, 3) := by decide +kernel
theorem d_M_grow_56 : decode b_M_grow 56 = .ok (.aload_n 0, 1) := by decide +kernel
theorem d_M_grow_57 : decode b_M_grow 57 = .ok (.iload_n 3, 1) := by decide +kernel
theorem d_M_grow_58 : decode b_M_grow 58 = .ok (.invokevirtual 94, 3) := by decide +kernel
theorem d_M_grow_61 : decode b_M_grow 61 = .ok (.istore 5, 2) := by decide +kernel
theorem d_M_grow_63 : decode b_M_grow 63 = .ok (.aload_n 0, 1) := by decide +kernel
theorem d_M_grow_64 : decode b_M_grow 64 = .ok (.getfield 43, 3) := by decide +kernel
theorem d_M_grow_67 : decode b_M_grow 67 = .ok (.bipush 48, 2) := by decide +kernel
theorem d_M_grow_69 : decode b_M_grow 69 = .ok (.iload_n 3, 1) := by decide +kernel
theorem d_M_grow_70 : decode b_M_grow 70 = .ok (.imul, 1) := by decide +kernel
theorem d_M_grow_71 : decode b_M_grow 71 = .ok (.aload_n 0, 1) := by decide +kernel
theorem d_M_grow_72 : decode b_M_grow 72 = .ok (.getfield 40, 3) := by decide +kernel
theorem d_M_grow_75 : decode b_M_grow 75 = .ok (.iload_n 3, 1) := by decide +kernel
theorem d_M_grow_76 : decode b_M_grow 76 = .ok (.iaload, 1) := by decide +kernel
theorem d_M_grow_77 : decode b_M_grow 77 = .ok (.iadd, 1) := by decide +kernel
theorem d_M_grow_78 : decode b_M_grow 78 = .ok (.iload 5, 2) := by decide +kernel
theorem d_M_grow_80 : decode b_M_grow 80 = .ok (.iastore, 1) := by decide +kernel
theorem d_M_grow_81 : decode b_M_grow 81 = .ok (.aload_n 0, 1) := by decide +kernel
theorem d_M_grow_82 : decode b_M_grow 82 = .ok (.getfield 40, 3) := by decide +kernel
theorem d_M_grow_85 : decode b_M_grow 85 = .ok (.iload_n 3, 1) := by decide +kernel
theorem d_M_grow_86 : decode b_M_grow 86 = .ok (.dup2, 1) := by decide +kernel
theorem d_M_grow_87 : decode b_M_grow 87 = .ok (.iaload, 1) := by decide +kernel
theorem d_M_grow_88 : decode b_M_grow 88 = .ok (.iconst 1, 1) := by decide +kernel
theorem d_M_grow_89 : decode b_M_grow 89 = .ok (.iadd, 1) := by decide +kernel
theorem d_M_grow_90 : decode b_M_grow 90 = .ok (.iastore, 1) := by decide +kernel
theorem d_M_grow_91 : decode b_M_grow 91 = .ok (.iinc 4 1, 3) := by decide +kernel
theorem d_M_grow_94 : decode b_M_grow 94 = .ok (.goto (-44), 3) := by decide +kernel
theorem d_M_grow_97 : decode b_M_grow 97 = .ok (.aload_n 0, 1) := by decide +kernel
theorem d_M_grow_98 : decode b_M_grow 98 = .ok (.getfield 40, 3) := by decide +kernel
theorem d_M_grow_101 : decode b_M_grow 101 = .ok (.iload_n 3, 1) := by decide +kernel
theorem d_M_grow_102 : decode b_M_grow 102 = .ok (.iaload, 1) := by decide +kernel
theorem d_M_grow_103 : decode b_M_grow 103 = .ok (.ireturn, 1) := by decide +kernel
theorem d_M_fileOf_0 : decode b_M_fileOf 0 = .ok (.aload_n 0, 1) := by decide +kernel
theorem d_M_fileOf_1 : decode b_M_fileOf 1 = .ok (.iload_n 1, 1) := by decide +kernel
theorem d_M_fileOf_2 : decode b_M_fileOf 2 = .ok (.invokevirtual 49, 3) := by decide +kernel
theorem d_M_fileOf_5 : decode b_M_fileOf 5 = .ok (.istore_n 2, 1) := by decide +kernel
theorem d_M_fileOf_6 : decode b_M_fileOf 6 = .ok (.iload_n 2, 1) := by decide +kernel
theorem d_M_fileOf_7 : decode b_M_fileOf 7 = .ok (.ifCond .lt 24, 3) := by decide +kernel
theorem d_M_fileOf_10 : decode b_M_fileOf 10 = .ok (.aload_n 0, 1) := by decide +kernel
theorem d_M_fileOf_11 : decode b_M_fileOf 11 = .ok (.getfield 17, 3) := by decide +kernel
theorem d_M_fileOf_14 : decode b_M_fileOf 14 = .ok (.iload_n 2, 1) := by decide +kernel
theorem d_M_fileOf_15 : decode b_M_fileOf 15 = .ok (.iaload, 1) := by decide +kernel
theorem d_M_fileOf_16 : decode b_M_fileOf 16 = .ok (.iconst 3, 1) := by decide +kernel
theorem d_M_fileOf_17 : decode b_M_fileOf 17 = .ok (.if_icmp .ne 14, 3) := by decide +kernel
theorem d_M_fileOf_20 : decode b_M_fileOf 20 = .ok (.aload_n 0, 1) := by decide +kernel
theorem d_M_fileOf_21 : decode b_M_fileOf 21 = .ok (.aload_n 0, 1) := by decide +kernel
theorem d_M_fileOf_22 : decode b_M_fileOf 22 = .ok (.getfield 30, 3) := by decide +kernel
theorem d_M_fileOf_25 : decode b_M_fileOf 25 = .ok (.iload_n 2, 1) := by decide +kernel
theorem d_M_fileOf_26 : decode b_M_fileOf 26 = .ok (.iaload, 1) := by decide +kernel
theorem d_M_fileOf_27 : decode b_M_fileOf 27 = .ok (.invokevirtual 49, 3) := by decide +kernel
theorem d_M_fileOf_30 : decode b_M_fileOf 30 = .ok (.istore_n 2, 1) := by decide +kernel
theorem d_M_fileOf_31 : decode b_M_fileOf 31 = .ok (.iload_n 2, 1) := by decide +kernel
theorem d_M_fileOf_32 : decode b_M_fileOf 32 = .ok (.ifCond .lt 27, 3) := by decide +kernel
theorem d_M_fileOf_35 : decode b_M_fileOf 35 = .ok (.aload_n 0, 1) := by decide +kernel
theorem d_M_fileOf_36 : decode b_M_fileOf 36 = .ok (.getfield 17, 3) := by decide +kernel
theorem d_M_fileOf_39 : decode b_M_fileOf 39 = .ok (.iload_n 2, 1) := by decide +kernel
theorem d_M_fileOf_40 : decode b_M_fileOf 40 = .ok (.iaload, 1) := by decide +kernel
theorem d_M_fileOf_41 : decode b_M_fileOf 41 = .ok (.iconst 2, 1) := by decide +kernel
theorem d_M_fileOf_42 : decode b_M_fileOf 42 = .ok (.if_icmp .eq 13, 3) := by decide +kernel
theorem d_M_fileOf_45 : decode b_M_fileOf 45 = .ok (.aload_n 0, 1) := by decide +kernel
theorem d_M_fileOf_46 : decode b_M_fileOf 46 = .ok (.getfield 17, 3) := by decide +kernel
theorem d_M_fileOf_49 : decode b_M_fileOf 49 = .ok (.iload_n 2, 1) := by decide +kernel
theorem d_M_fileOf_50 : decode b_M_fileOf 50 = .ok (.iaload, 1) := by decide +kernel
theorem d_M_fileOf_51 : decode b_M_fileOf 51 = .ok (.iconst 4, 1) := by decide +kernel
theorem d_M_fileOf_52 : decode b_M_fileOf 52 = .ok (.if_icmp .ne 7, 3) := by decide +kernel
theorem d_M_fileOf_55 : decode b_M_fileOf 55 = .ok (.iload_n 2, 1) := by decide +kernel
theorem d_M_fileOf_56 : decode b_M_fileOf 56 = .ok (.goto 4, 3) := by decide +kernel
theorem d_M_fileOf_59 : decode b_M_fileOf 59 = .ok (.iconst (-1), 1) := by decide +kernel
theorem d_M_fileOf_60 : decode b_M_fileOf 60 = .ok (.ireturn, 1) := by decide +kernel
theorem d_M_freeBlocks_0 : decode b_M_freeBlocks 0 = .ok (.iconst 0, 1) := by decide +kernel
theorem d_M_freeBlocks_1 : decode b_M_freeBlocks 1 = .ok (.istore_n 1, 1) := by decide +kernel
theorem d_M_freeBlocks_2 : decode b_M_freeBlocks 2 = .ok (.iconst 0, 1) := by decide +kernel
theorem d_M_freeBlocks_3 : decode b_M_freeBlocks 3 = .ok (.istore_n 2, 1) := by decide +kernel
theorem d_M_freeBlocks_4 : decode b_M_freeBlocks 4 = .ok (.iload_n 2, 1) := by decide +kernel
theorem d_M_freeBlocks_5 : decode b_M_freeBlocks 5 = .ok (.bipush 48, 2) := by decide +kernel
theorem d_M_freeBlocks_7 : decode b_M_freeBlocks 7 = .ok (.if_icmp .ge 25, 3) := by decide +kernel
theorem d_M_freeBlocks_10 : decode b_M_freeBlocks 10 = .ok (.aload_n 0, 1) := by decide +kernel
theorem d_M_freeBlocks_11 : decode b_M_freeBlocks 11 = .ok (.iload_n 2, 1) := by decide +kernel
theorem d_M_freeBlocks_12 : decode b_M_freeBlocks 12 = .ok (.invokevirtual 85, 3) := by decide +kernel
theorem d_M_freeBlocks_15 : decode b_M_freeBlocks 15 = .ok (.ifCond .eq 7, 3) := by decide +kernel
theorem d_M_freeBlocks_18 : decode b_M_freeBlocks 18 = .ok (.iload_n 1, 1) := by decide +kernel
theorem d_M_freeBlocks_19 : decode b_M_freeBlocks 19 = .ok (.goto 6, 3) := by decide +kernel
theorem d_M_freeBlocks_22 : decode b_M_freeBlocks 22 = .ok (.iload_n 1, 1) := by decide +kernel
theorem d_M_freeBlocks_23 : decode b_M_freeBlocks 23 = .ok (.iconst 1, 1) := by decide +kernel
theorem d_M_freeBlocks_24 : decode b_M_freeBlocks 24 = .ok (.iadd, 1) := by decide +kernel
theorem d_M_freeBlocks_25 : decode b_M_freeBlocks 25 = .ok (.istore_n 1, 1) := by decide +kernel
theorem d_M_freeBlocks_26 : decode b_M_freeBlocks 26 = .ok (.iinc 2 1, 3) := by decide +kernel
theorem d_M_freeBlocks_29 : decode b_M_freeBlocks 29 = .ok (.goto (-25), 3) := by decide +kernel
theorem d_M_freeBlocks_32 : decode b_M_freeBlocks 32 = .ok (.iload_n 1, 1) := by decide +kernel
theorem d_M_freeBlocks_33 : decode b_M_freeBlocks 33 = .ok (.ireturn, 1) := by decide +kernel
theorem d_M_used_0 : decode b_M_used 0 = .ok (.aload_n 0, 1) := by decide +kernel
theorem d_M_used_1 : decode b_M_used 1 = .ok (.iload_n 1, 1) := by decide +kernel
theorem d_M_used_2 : decode b_M_used 2 = .ok (.invokevirtual 82, 3) := by decide +kernel
theorem d_M_used_5 : decode b_M_used 5 = .ok (.aload_n 0, 1) := by decide +kernel
theorem d_M_used_6 : decode b_M_used 6 = .ok (.getfield 46, 3) := by decide +kernel
theorem d_M_used_9 : decode b_M_used 9 = .ok (.iload_n 1, 1) := by decide +kernel
theorem d_M_used_10 : decode b_M_used 10 = .ok (.baload, 1) := by decide +kernel
theorem d_M_used_11 : decode b_M_used 11 = .ok (.if_icmp .eq 7, 3) := by decide +kernel
theorem d_M_used_14 : decode b_M_used 14 = .ok (.iconst 1, 1) := by decide +kernel
theorem d_M_used_15 : decode b_M_used 15 = .ok (.goto 4, 3) := by decide +kernel
theorem d_M_used_18 : decode b_M_used 18 = .ok (.iconst 0, 1) := by decide +kernel
theorem d_M_used_19 : decode b_M_used 19 = .ok (.ireturn, 1) := by decide +kernel
theorem d_M_listed_0 : decode b_M_listed 0 = .ok (.iconst 0, 1) := by decide +kernel
theorem d_M_listed_1 : decode b_M_listed 1 = .ok (.istore_n 2, 1) := by decide +kernel
theorem d_M_listed_2 : decode b_M_listed 2 = .ok (.iload_n 2, 1) := by decide +kernel
theorem d_M_listed_3 : decode b_M_listed 3 = .ok (.bipush 40, 2) := by decide +kernel
theorem d_M_listed_5 : decode b_M_listed 5 = .ok (.if_icmp .ge 64, 3) := by decide +kernel
theorem d_M_listed_8 : decode b_M_listed 8 = .ok (.aload_n 0, 1) := by decide +kernel
theorem d_M_listed_9 : decode b_M_listed 9 = .ok (.getfield 17, 3) := by decide +kernel
theorem d_M_listed_12 : decode b_M_listed 12 = .ok (.iload_n 2, 1) := by decide +kernel
theorem d_M_listed_13 : decode b_M_listed 13 = .ok (.iaload, 1) := by decide +kernel
theorem d_M_listed_14 : decode b_M_listed 14 = .ok (.iconst 2, 1) := by decide +kernel
theorem d_M_listed_15 : decode b_M_listed 15 = .ok (.if_icmp .eq 13, 3) := by decide +kernel
theorem d_M_listed_18 : decode b_M_listed 18 = .ok (.aload_n 0, 1) := by decide +kernel
theorem d_M_listed_19 : decode b_M_listed 19 = .ok (.getfield 17, 3) := by decide +kernel
theorem d_M_listed_22 : decode b_M_listed 22 = .ok (.iload_n 2, 1) := by decide +kernel
theorem d_M_listed_23 : decode b_M_listed 23 = .ok (.iaload, 1) := by decide +kernel
theorem d_M_listed_24 : decode b_M_listed 24 = .ok (.iconst 4, 1) := by decide +kernel
theorem d_M_listed_25 : decode b_M_listed 25 = .ok (.if_icmp .ne 38, 3) := by decide +kernel
theorem d_M_listed_28 : decode b_M_listed 28 = .ok (.iconst 0, 1) := by decide +kernel
theorem d_M_listed_29 : decode b_M_listed 29 = .ok (.istore_n 3, 1) := by decide +kernel
theorem d_M_listed_30 : decode b_M_listed 30 = .ok (.iload_n 3, 1) := by decide +kernel
theorem d_M_listed_31 : decode b_M_listed 31 = .ok (.aload_n 0, 1) := by decide +kernel
theorem d_M_listed_32 : decode b_M_listed 32 = .ok (.getfield 40, 3) := by decide +kernel
theorem d_M_listed_35 : decode b_M_listed 35 = .ok (.iload_n 2, 1) := by decide +kernel
theorem d_M_listed_36 : decode b_M_listed 36 = .ok (.iaload, 1) := by decide +kernel
theorem d_M_listed_37 : decode b_M_listed 37 = .ok (.if_icmp .ge 26, 3) := by decide +kernel
theorem d_M_listed_40 : decode b_M_listed 40 = .ok (.aload_n 0, 1) := by decide +kernel
theorem d_M_listed_41 : decode b_M_listed 41 = .ok (.getfield 43, 3) := by decide +kernel
theorem d_M_listed_44 : decode b_M_listed 44 = .ok (.bipush 48, 2) := by decide +kernel
theorem d_M_listed_46 : decode b_M_listed 46 = .ok (.iload_n 2, 1) := by decide +kernel
theorem d_M_listed_47 : decode b_M_listed 47 = .ok (.imul, 1) := by decide +kernel
theorem d_M_listed_48 : decode b_M_listed 48 = .ok (.iload_n 3, 1) := by decide +kernel
theorem d_M_listed_49 : decode b_M_listed 49 = .ok (.iadd, 1) := by decide +kernel
theorem d_M_listed_50 : decode b_M_listed 50 = .ok (.iaload, 1) := by decide +kernel
theorem d_M_listed_51 : decode b_M_listed 51 = .ok (.iload_n 1, 1) := by decide +kernel
theorem d_M_listed_52 : decode b_M_listed 52 = .ok (.if_icmp .ne 5, 3) := by decide +kernel
theorem d_M_listed_55 : decode b_M_listed 55 = .ok (.iconst 1, 1) := by decide +kernel
theorem d_M_listed_56 : decode b_M_listed 56 = .ok (.ireturn, 1) := by decide +kernel
theorem d_M_listed_57 : decode b_M_listed 57 = .ok (.iinc 3 1, 3) := by decide +kernel
theorem d_M_listed_60 : decode b_M_listed 60 = .ok (.goto (-30), 3) := by decide +kernel
theorem d_M_listed_63 : decode b_M_listed 63 = .ok (.iinc 2 1, 3) := by decide +kernel
theorem d_M_listed_66 : decode b_M_listed 66 = .ok (.goto (-64), 3) := by decide +kernel
theorem d_M_listed_69 : decode b_M_listed 69 = .ok (.iconst 0, 1) := by decide +kernel
theorem d_M_listed_70 : decode b_M_listed 70 = .ok (.ireturn, 1) := by decide +kernel
theorem d_M_nextBlock_0 : decode b_M_nextBlock 0 = .ok (.aload_n 0, 1) := by decide +kernel
theorem d_M_nextBlock_1 : decode b_M_nextBlock 1 = .ok (.getfield 40, 3) := by decide +kernel
theorem d_M_nextBlock_4 : decode b_M_nextBlock 4 = .ok (.iload_n 1, 1) := by decide +kernel
theorem d_M_nextBlock_5 : decode b_M_nextBlock 5 = .ok (.iaload, 1) := by decide +kernel
theorem d_M_nextBlock_6 : decode b_M_nextBlock 6 = .ok (.ifCond .ne 8, 3) := by decide +kernel
theorem d_M_nextBlock_9 : decode b_M_nextBlock 9 = .ok (.bipush 48, 2) := by decide +kernel
theorem d_M_nextBlock_11 : decode b_M_nextBlock 11 = .ok (.goto 23, 3) := by decide +kernel
theorem d_M_nextBlock_14 : decode b_M_nextBlock 14 = .ok (.aload_n 0, 1) := by decide +kernel
theorem d_M_nextBlock_15 : decode b_M_nextBlock 15 = .ok (.getfield 43, 3) := by decide +kernel
theorem d_M_nextBlock_18 : decode b_M_nextBlock 18 = .ok (.bipush 48, 2) := by decide +kernel
theorem d_M_nextBlock_20 : decode b_M_nextBlock 20 = .ok (.iload_n 1, 1) := by decide +kernel
theorem d_M_nextBlock_21 : decode b_M_nextBlock 21 = .ok (.imul, 1) := by decide +kernel
theorem d_M_nextBlock_22 : decode b_M_nextBlock 22 = .ok (.aload_n 0, 1) := by decide +kernel
theorem d_M_nextBlock_23 : decode b_M_nextBlock 23 = .ok (.getfield 40, 3) := by decide +kernel
theorem d_M_nextBlock_26 : decode b_M_nextBlock 26 = .ok (.iload_n 1, 1) := by decide +kernel
theorem d_M_nextBlock_27 : decode b_M_nextBlock 27 = .ok (.iaload, 1) := by decide +kernel
theorem d_M_nextBlock_28 : decode b_M_nextBlock 28 = .ok (.iadd, 1) := by decide +kernel
theorem d_M_nextBlock_29 : decode b_M_nextBlock 29 = .ok (.iconst 1, 1) := by decide +kernel
theorem d_M_nextBlock_30 : decode b_M_nextBlock 30 = .ok (.isub, 1) := by decide +kernel
theorem d_M_nextBlock_31 : decode b_M_nextBlock 31 = .ok (.iaload, 1) := by decide +kernel
theorem d_M_nextBlock_32 : decode b_M_nextBlock 32 = .ok (.iconst 1, 1) := by decide +kernel
theorem d_M_nextBlock_33 : decode b_M_nextBlock 33 = .ok (.iadd, 1) := by decide +kernel
theorem d_M_nextBlock_34 : decode b_M_nextBlock 34 = .ok (.istore_n 2, 1) := by decide +kernel
theorem d_M_nextBlock_35 : decode b_M_nextBlock 35 = .ok (.iload_n 2, 1) := by decide +kernel
theorem d_M_nextBlock_36 : decode b_M_nextBlock 36 = .ok (.bipush 48, 2) := by decide +kernel
theorem d_M_nextBlock_38 : decode b_M_nextBlock 38 = .ok (.if_icmp .ge 13, 3) := by decide +kernel
theorem d_M_nextBlock_41 : decode b_M_nextBlock 41 = .ok (.aload_n 0, 1) := by decide +kernel
theorem d_M_nextBlock_42 : decode b_M_nextBlock 42 = .ok (.iload_n 2, 1) := by decide +kernel
theorem d_M_nextBlock_43 : decode b_M_nextBlock 43 = .ok (.invokevirtual 85, 3) := by decide +kernel
theorem d_M_nextBlock_46 : decode b_M_nextBlock 46 = .ok (.ifCond .ne 5, 3) := by decide +kernel
theorem d_M_nextBlock_49 : decode b_M_nextBlock 49 = .ok (.iload_n 2, 1) := by decide +kernel
theorem d_M_nextBlock_50 : decode b_M_nextBlock 50 = .ok (.ireturn, 1) := by decide +kernel
theorem d_M_nextBlock_51 : decode b_M_nextBlock 51 = .ok (.iconst 0, 1) := by decide +kernel
theorem d_M_nextBlock_52 : decode b_M_nextBlock 52 = .ok (.istore_n 3, 1) := by decide +kernel
theorem d_M_nextBlock_53 : decode b_M_nextBlock 53 = .ok (.iload_n 3, 1) := by decide +kernel
theorem d_M_nextBlock_54 : decode b_M_nextBlock 54 = .ok (.bipush 47, 2) := by decide +kernel
theorem d_M_nextBlock_56 : decode b_M_nextBlock 56 = .ok (.if_icmp .ge 17, 3) := by decide +kernel
theorem d_M_nextBlock_59 : decode b_M_nextBlock 59 = .ok (.aload_n 0, 1) := by decide +kernel
theorem d_M_nextBlock_60 : decode b_M_nextBlock 60 = .ok (.iload_n 3, 1) := by decide +kernel
theorem d_M_nextBlock_61 : decode b_M_nextBlock 61 = .ok (.invokevirtual 85, 3) := by decide +kernel
theorem d_M_nextBlock_64 : decode b_M_nextBlock 64 = .ok (.ifCond .eq 9, 3) := by decide +kernel
theorem d_M_nextBlock_67 : decode b_M_nextBlock 67 = .ok (.iinc 3 1, 3) := by decide +kernel
theorem d_M_nextBlock_70 : decode b_M_nextBlock 70 = .ok (.goto (-17), 3) := by decide +kernel
theorem d_M_nextBlock_73 : decode b_M_nextBlock 73 = .ok (.iload_n 3, 1) := by decide +kernel
theorem d_M_nextBlock_74 : decode b_M_nextBlock 74 = .ok (.ireturn, 1) := by decide +kernel
theorem d_M_shrink_0 : decode b_M_shrink 0 = .ok (.aload_n 0, 1) := by decide +kernel
theorem d_M_shrink_1 : decode b_M_shrink 1 = .ok (.getfield 7, 3) := by decide +kernel
theorem d_M_shrink_4 : decode b_M_shrink 4 = .ok (.ifCond .ne 5, 3) := by decide +kernel
theorem d_M_shrink_7 : decode b_M_shrink 7 = .ok (.iconst (-1), 1) := by decide +kernel
theorem d_M_shrink_8 : decode b_M_shrink 8 = .ok (.ireturn, 1) := by decide +kernel
theorem d_M_shrink_9 : decode b_M_shrink 9 = .ok (.iload_n 2, 1) := by decide +kernel
theorem d_M_shrink_10 : decode b_M_shrink 10 = .ok (.iconst 1, 1) := by decide +kernel
theorem d_M_shrink_11 : decode b_M_shrink 11 = .ok (.if_icmp .lt 9, 3) := by decide +kernel
theorem d_M_shrink_14 : decode b_M_shrink 14 = .ok (.iload_n 2, 1) := by decide +kernel
theorem d_M_shrink_15 : decode b_M_shrink 15 = .ok (.bipush 48, 2) := by decide +kernel
theorem d_M_shrink_17 : decode b_M_shrink 17 = .ok (.if_icmp .le 6, 3) := by decide +kernel
theorem d_M_shrink_20 : decode b_M_shrink 20 = .ok (.bipush (-2), 2) := by decide +kernel
theorem d_M_shrink_22 : decode b_M_shrink 22 = .ok (.ireturn, 1) := by decide +kernel
theorem d_M_shrink_23 : decode b_M_shrink 23 = .ok (.aload_n 0, 1) := by decide +kernel
theorem d_M_shrink_24 : decode b_M_shrink 24 = .ok (.iload_n 1, 1) := by decide +kernel
theorem d_M_shrink_25 : decode b_M_shrink 25 = .ok (.invokevirtual 88, 3) := by decide +kernel
theorem d_M_shrink_28 : decode b_M_shrink 28 = .ok (.istore_n 3, 1) := by decide +kernel
theorem d_M_shrink_29 : decode b_M_shrink 29 = .ok (.iload_n 3, 1) := by decide +kernel
theorem d_M_shrink_30 : decode b_M_shrink 30 = .ok (.ifCond .ge 6, 3) := by decide +kernel
theorem d_M_shrink_33 : decode b_M_shrink 33 = .ok (.bipush (-3), 2) := by decide +kernel
theorem d_M_shrink_35 : decode b_M_shrink 35 = .ok (.ireturn, 1) := by decide +kernel
theorem d_M_shrink_36 : decode b_M_shrink 36 = .ok (.iload_n 2, 1) := by decide +kernel
theorem d_M_shrink_37 : decode b_M_shrink 37 = .ok (.aload_n 0, 1) := by decide +kernel
theorem d_M_shrink_38 : decode b_M_shrink 38 = .ok (.getfield 40, 3) := by decide +kernel
theorem d_M_shrink_41 : decode b_M_shrink 41 = .ok (.iload_n 3, 1) := by decide +kernel
theorem d_M_shrink_42 : decode b_M_shrink 42 = .ok (.iaload, 1) := by decide +kernel
theorem d_M_shrink_43 : decode b_M_shrink 43 = .ok (.if_icmp .le 6, 3) := by decide +kernel
theorem d_M_shrink_46 : decode b_M_shrink 46 = .ok (.bipush (-2), 2) := by decide +kernel
theorem d_M_shrink_48 : decode b_M_shrink 48 = .ok (.ireturn, 1) := by decide +kernel
theorem d_M_shrink_49 : decode b_M_shrink 49 = .ok (.aload_n 0, 1) := by decide +kernel
theorem d_M_shrink_50 : decode b_M_shrink 50 = .ok (.getfield 40, 3) := by decide +kernel
theorem d_M_shrink_53 : decode b_M_shrink 53 = .ok (.iload_n 3, 1) := by decide +kernel
theorem d_M_shrink_54 : decode b_M_shrink 54 = .ok (.aload_n 0, 1) := by decide +kernel
theorem d_M_shrink_55 : decode b_M_shrink 55 = .ok (.getfield 40, 3) := by decide +kernel
theorem d_M_shrink_58 : decode b_M_shrink 58 = .ok (.iload_n 3, 1) := by decide +kernel
theorem d_M_shrink_59 : decode b_M_shrink 59 = .ok (.iaload, 1) := by decide +kernel
theorem d_M_shrink_60 : decode b_M_shrink 60 = .ok (.iload_n 2, 1) := by decide +kernel
theorem d_M_shrink_61 : decode b_M_shrink 61 = .ok (.isub, 1) := by decide +kernel
theorem d_M_shrink_62 : decode b_M_shrink 62 = .ok (.iastore, 1) := by decide +kernel
theorem d_M_shrink_63 : decode b_M_shrink 63 = .ok (.aload_n 0, 1) := by decide +kernel
theorem d_M_shrink_64 : decode b_M_shrink 64 = .ok (.getfield 40, 3) := by decide +kernel
theorem d_M_shrink_67 : decode b_M_shrink 67 = .ok (.iload_n 3, 1) := by decide +kernel
theorem d_M_shrink_68 : decode b_M_shrink 68 = .ok (.iaload, 1) := by decide +kernel
theorem d_M_shrink_69 : decode b_M_shrink 69 = .ok (.ireturn, 1) := by decide +kernel
theorem d_M_size_0 : decode b_M_size 0 = .ok (.aload_n 0, 1) := by decide +kernel
theorem d_M_size_1 : decode b_M_size 1 = .ok (.getfield 7, 3) := by decide +kernel
theorem d_M_size_4 : decode b_M_size 4 = .ok (.ifCond .ne 5, 3) := by decide +kernel
theorem d_M_size_7 : decode b_M_size 7 = .ok (.iconst (-1), 1) := by decide +kernel
theorem d_M_size_8 : decode b_M_size 8 = .ok (.ireturn, 1) := by decide +kernel
theorem d_M_size_9 : decode b_M_size 9 = .ok (.aload_n 0, 1) := by decide +kernel
theorem d_M_size_10 : decode b_M_size 10 = .ok (.iload_n 1, 1) := by decide +kernel
theorem d_M_size_11 : decode b_M_size 11 = .ok (.invokevirtual 88, 3) := by decide +kernel
theorem d_M_size_14 : decode b_M_size 14 = .ok (.istore_n 2, 1) := by decide +kernel
theorem d_M_size_15 : decode b_M_size 15 = .ok (.iload_n 2, 1) := by decide +kernel
theorem d_M_size_16 : decode b_M_size 16 = .ok (.ifCond .ge 8, 3) := by decide +kernel
theorem d_M_size_19 : decode b_M_size 19 = .ok (.bipush (-3), 2) := by decide +kernel
theorem d_M_size_21 : decode b_M_size 21 = .ok (.goto 9, 3) := by decide +kernel
theorem d_M_size_24 : decode b_M_size 24 = .ok (.aload_n 0, 1) := by decide +kernel
theorem d_M_size_25 : decode b_M_size 25 = .ok (.getfield 40, 3) := by decide +kernel
theorem d_M_size_28 : decode b_M_size 28 = .ok (.iload_n 2, 1) := by decide +kernel
theorem d_M_size_29 : decode b_M_size 29 = .ok (.iaload, 1) := by decide +kernel
theorem d_M_size_30 : decode b_M_size 30 = .ok (.ireturn, 1) := by decide +kernel
theorem d_M_block_0 : decode b_M_block 0 = .ok (.aload_n 0, 1) := by decide +kernel
theorem d_M_block_1 : decode b_M_block 1 = .ok (.getfield 7, 3) := by decide +kernel
theorem d_M_block_4 : decode b_M_block 4 = .ok (.ifCond .ne 5, 3) := by decide +kernel
theorem d_M_block_7 : decode b_M_block 7 = .ok (.iconst (-1), 1) := by decide +kernel
theorem d_M_block_8 : decode b_M_block 8 = .ok (.ireturn, 1) := by decide +kernel
theorem d_M_block_9 : decode b_M_block 9 = .ok (.aload_n 0, 1) := by decide +kernel
theorem d_M_block_10 : decode b_M_block 10 = .ok (.iload_n 1, 1) := by decide +kernel
theorem d_M_block_11 : decode b_M_block 11 = .ok (.invokevirtual 88, 3) := by decide +kernel
theorem d_M_block_14 : decode b_M_block 14 = .ok (.istore_n 3, 1) := by decide +kernel
theorem d_M_block_15 : decode b_M_block 15 = .ok (.iload_n 3, 1) := by decide +kernel
theorem d_M_block_16 : decode b_M_block 16 = .ok (.ifCond .ge 8, 3) := by decide +kernel
theorem d_M_block_19 : decode b_M_block 19 = .ok (.bipush (-3), 2) := by decide +kernel
theorem d_M_block_21 : decode b_M_block 21 = .ok (.goto 33, 3) := by decide +kernel
theorem d_M_block_24 : decode b_M_block 24 = .ok (.iload_n 2, 1) := by decide +kernel
theorem d_M_block_25 : decode b_M_block 25 = .ok (.ifCond .lt 13, 3) := by decide +kernel
theorem d_M_block_28 : decode b_M_block 28 = .ok (.iload_n 2, 1) := by decide +kernel
theorem d_M_block_29 : decode b_M_block 29 = .ok (.aload_n 0, 1) := by decide +kernel
theorem d_M_block_30 : decode b_M_block 30 = .ok (.getfield 40, 3) := by decide +kernel
theorem d_M_block_33 : decode b_M_block 33 = .ok (.iload_n 3, 1) := by decide +kernel
theorem d_M_block_34 : decode b_M_block 34 = .ok (.iaload, 1) := by decide +kernel
theorem d_M_block_35 : decode b_M_block 35 = .ok (.if_icmp .lt 8, 3) := by decide +kernel
theorem d_M_block_38 : decode b_M_block 38 = .ok (.bipush (-2), 2) := by decide +kernel
theorem d_M_block_40 : decode b_M_block 40 = .ok (.goto 14, 3) := by decide +kernel
theorem d_M_block_43 : decode b_M_block 43 = .ok (.aload_n 0, 1) := by decide +kernel
theorem d_M_block_44 : decode b_M_block 44 = .ok (.getfield 43, 3) := by decide +kernel
theorem d_M_block_47 : decode b_M_block 47 = .ok (.bipush 48, 2) := by decide +kernel
theorem d_M_block_49 : decode b_M_block 49 = .ok (.iload_n 3, 1) := by decide +kernel
theorem d_M_block_50 : decode b_M_block 50 = .ok (.imul, 1) := by decide +kernel
theorem d_M_block_51 : decode b_M_block 51 = .ok (.iload_n 2, 1) := by decide +kernel
theorem d_M_block_52 : decode b_M_block 52 = .ok (.iadd, 1) := by decide +kernel
theorem d_M_block_53 : decode b_M_block 53 = .ok (.iaload, 1) := by decide +kernel
theorem d_M_block_54 : decode b_M_block 54 = .ok (.ireturn, 1) := by decide +kernel
theorem d_M_extents_0 : decode b_M_extents 0 = .ok (.aload_n 0, 1) := by decide +kernel
theorem d_M_extents_1 : decode b_M_extents 1 = .ok (.getfield 7, 3) := by decide +kernel
theorem d_M_extents_4 : decode b_M_extents 4 = .ok (.ifCond .ne 5, 3) := by decide +kernel
theorem d_M_extents_7 : decode b_M_extents 7 = .ok (.iconst (-1), 1) := by decide +kernel
theorem d_M_extents_8 : decode b_M_extents 8 = .ok (.ireturn, 1) := by decide +kernel
theorem d_M_extents_9 : decode b_M_extents 9 = .ok (.aload_n 0, 1) := by decide +kernel
theorem d_M_extents_10 : decode b_M_extents 10 = .ok (.iload_n 1, 1) := by decide +kernel
theorem d_M_extents_11 : decode b_M_extents 11 = .ok (.invokevirtual 88, 3) := by decide +kernel
theorem d_M_extents_14 : decode b_M_extents 14 = .ok (.istore_n 2, 1) := by decide +kernel
theorem d_M_extents_15 : decode b_M_extents 15 = .ok (.iload_n 2, 1) := by decide +kernel
theorem d_M_extents_16 : decode b_M_extents 16 = .ok (.ifCond .ge 8, 3) := by decide +kernel
theorem d_M_extents_19 : decode b_M_extents 19 = .ok (.bipush (-3), 2) := by decide +kernel
theorem d_M_extents_21 : decode b_M_extents 21 = .ok (.goto 8, 3) := by decide +kernel
theorem d_M_extents_24 : decode b_M_extents 24 = .ok (.aload_n 0, 1) := by decide +kernel
theorem d_M_extents_25 : decode b_M_extents 25 = .ok (.iload_n 2, 1) := by decide +kernel
theorem d_M_extents_26 : decode b_M_extents 26 = .ok (.invokevirtual 100, 3) := by decide +kernel
theorem d_M_extents_29 : decode b_M_extents 29 = .ok (.ireturn, 1) := by decide +kernel
theorem d_M_extentsOf_0 : decode b_M_extentsOf 0 = .ok (.iconst 0, 1) := by decide +kernel
theorem d_M_extentsOf_1 : decode b_M_extentsOf 1 = .ok (.istore_n 2, 1) := by decide +kernel
theorem d_M_extentsOf_2 : decode b_M_extentsOf 2 = .ok (.iconst 0, 1) := by decide +kernel
theorem d_M_extentsOf_3 : decode b_M_extentsOf 3 = .ok (.istore_n 3, 1) := by decide +kernel
theorem d_M_extentsOf_4 : decode b_M_extentsOf 4 = .ok (.iload_n 3, 1) := by decide +kernel
theorem d_M_extentsOf_5 : decode b_M_extentsOf 5 = .ok (.aload_n 0, 1) := by decide +kernel
theorem d_M_extentsOf_6 : decode b_M_extentsOf 6 = .ok (.getfield 40, 3) := by decide +kernel
theorem d_M_extentsOf_9 : decode b_M_extentsOf 9 = .ok (.iload_n 1, 1) := by decide +kernel
theorem d_M_extentsOf_10 : decode b_M_extentsOf 10 = .ok (.iaload, 1) := by decide +kernel
theorem d_M_extentsOf_11 : decode b_M_extentsOf 11 = .ok (.if_icmp .ge 26, 3) := by decide +kernel
theorem d_M_extentsOf_14 : decode b_M_extentsOf 14 = .ok (.aload_n 0, 1) := by decide +kernel
theorem d_M_extentsOf_15 : decode b_M_extentsOf 15 = .ok (.iload_n 1, 1) := by decide +kernel
theorem d_M_extentsOf_16 : decode b_M_extentsOf 16 = .ok (.iload_n 3, 1) := by decide +kernel
theorem d_M_extentsOf_17 : decode b_M_extentsOf 17 = .ok (.invokevirtual 97, 3) := by decide +kernel
theorem d_M_extentsOf_20 : decode b_M_extentsOf 20 = .ok (.ifCond .eq 9, 3) := by decide +kernel
theorem d_M_extentsOf_23 : decode b_M_extentsOf 23 = .ok (.iload_n 2, 1) := by decide +kernel
theorem d_M_extentsOf_24 : decode b_M_extentsOf 24 = .ok (.iconst 1, 1) := by decide +kernel
theorem d_M_extentsOf_25 : decode b_M_extentsOf 25 = .ok (.iadd, 1) := by decide +kernel
theorem d_M_extentsOf_26 : decode b_M_extentsOf 26 = .ok (.goto 4, 3) := by decide +kernel
theorem d_M_extentsOf_29 : decode b_M_extentsOf 29 = .ok (.iload_n 2, 1) := by decide +kernel
theorem d_M_extentsOf_30 : decode b_M_extentsOf 30 = .ok (.istore_n 2, 1) := by decide +kernel
theorem d_M_extentsOf_31 : decode b_M_extentsOf 31 = .ok (.iinc 3 1, 3) := by decide +kernel
theorem d_M_extentsOf_34 : decode b_M_extentsOf 34 = .ok (.goto (-30), 3) := by decide +kernel
theorem d_M_extentsOf_37 : decode b_M_extentsOf 37 = .ok (.iload_n 2, 1) := by decide +kernel
theorem d_M_extentsOf_38 : decode b_M_extentsOf 38 = .ok (.ireturn, 1) := by decide +kernel
theorem d_M_begins_0 : decode b_M_begins 0 = .ok (.iload_n 2, 1) := by decide +kernel
theorem d_M_begins_1 : decode b_M_begins 1 = .ok (.ifCond .eq 32, 3) := by decide +kernel
theorem d_M_begins_4 : decode b_M_begins 4 = .ok (.aload_n 0, 1) := by decide +kernel
theorem d_M_begins_5 : decode b_M_begins 5 = .ok (.getfield 43, 3) := by decide +kernel
theorem d_M_begins_8 : decode b_M_begins 8 = .ok (.bipush 48, 2) := by decide +kernel
theorem d_M_begins_10 : decode b_M_begins 10 = .ok (.iload_n 1, 1) := by decide +kernel
theorem d_M_begins_11 : decode b_M_begins 11 = .ok (.imul, 1) := by decide +kernel
theorem d_M_begins_12 : decode b_M_begins 12 = .ok (.iload_n 2, 1) := by decide +kernel
theorem d_M_begins_13 : decode b_M_begins 13 = .ok (.iadd, 1) := by decide +kernel
theorem d_M_begins_14 : decode b_M_begins 14 = .ok (.iaload, 1) := by decide +kernel
theorem d_M_begins_15 : decode b_M_begins 15 = .ok (.aload_n 0, 1) := by decide +kernel
theorem d_M_begins_16 : decode b_M_begins 16 = .ok (.getfield 43, 3) := by decide +kernel
theorem d_M_begins_19 : decode b_M_begins 19 = .ok (.bipush 48, 2) := by decide +kernel
theorem d_M_begins_21 : decode b_M_begins 21 = .ok (.iload_n 1, 1) := by decide +kernel
theorem d_M_begins_22 : decode b_M_begins 22 = .ok (.imul, 1) := by decide +kernel
theorem d_M_begins_23 : decode b_M_begins 23 = .ok (.iload_n 2, 1) := by decide +kernel
theorem d_M_begins_24 : decode b_M_begins 24 = .ok (.iadd, 1) := by decide +kernel
theorem d_M_begins_25 : decode b_M_begins 25 = .ok (.iconst 1, 1) := by decide +kernel
theorem d_M_begins_26 : decode b_M_begins 26 = .ok (.isub, 1) := by decide +kernel
theorem d_M_begins_27 : decode b_M_begins 27 = .ok (.iaload, 1) := by decide +kernel
theorem d_M_begins_28 : decode b_M_begins 28 = .ok (.iconst 1, 1) := by decide +kernel
theorem d_M_begins_29 : decode b_M_begins 29 = .ok (.iadd, 1) := by decide +kernel
theorem d_M_begins_30 : decode b_M_begins 30 = .ok (.if_icmp .eq 7, 3) := by decide +kernel
theorem d_M_begins_33 : decode b_M_begins 33 = .ok (.iconst 1, 1) := by decide +kernel
theorem d_M_begins_34 : decode b_M_begins 34 = .ok (.goto 4, 3) := by decide +kernel
theorem d_M_begins_37 : decode b_M_begins 37 = .ok (.iconst 0, 1) := by decide +kernel
theorem d_M_begins_38 : decode b_M_begins 38 = .ok (.ireturn, 1) := by decide +kernel
theorem d_M_valence_0 : decode b_M_valence 0 = .ok (.aload_n 0, 1) := by decide +kernel
theorem d_M_valence_1 : decode b_M_valence 1 = .ok (.getfield 7, 3) := by decide +kernel
theorem d_M_valence_4 : decode b_M_valence 4 = .ok (.ifCond .ne 5, 3) := by decide +kernel
theorem d_M_valence_7 : decode b_M_valence 7 = .ok (.iconst (-1), 1) := by decide +kernel
theorem d_M_valence_8 : decode b_M_valence 8 = .ok (.ireturn, 1) := by decide +kernel
theorem d_M_valence_9 : decode b_M_valence 9 = .ok (.aload_n 0, 1) := by decide +kernel
theorem d_M_valence_10 : decode b_M_valence 10 = .ok (.iload_n 1, 1) := by decide +kernel
theorem d_M_valence_11 : decode b_M_valence 11 = .ok (.invokevirtual 57, 3) := by decide +kernel
theorem d_M_valence_14 : decode b_M_valence 14 = .ok (.ifCond .eq 11, 3) := by decide +kernel
theorem d_M_valence_17 : decode b_M_valence 17 = .ok (.aload_n 0, 1) := by decide +kernel
theorem d_M_valence_18 : decode b_M_valence 18 = .ok (.iload_n 1, 1) := by decide +kernel
theorem d_M_valence_19 : decode b_M_valence 19 = .ok (.invokevirtual 106, 3) := by decide +kernel
theorem d_M_valence_22 : decode b_M_valence 22 = .ok (.goto 5, 3) := by decide +kernel
theorem d_M_valence_25 : decode b_M_valence 25 = .ok (.bipush (-3), 2) := by decide +kernel
theorem d_M_valence_27 : decode b_M_valence 27 = .ok (.ireturn, 1) := by decide +kernel
theorem d_M_keptValence_0 : decode b_M_keptValence 0 = .ok (.aload_n 0, 1) := by decide +kernel
theorem d_M_keptValence_1 : decode b_M_keptValence 1 = .ok (.iload_n 1, 1) := by decide +kernel
theorem d_M_keptValence_2 : decode b_M_keptValence 2 = .ok (.invokevirtual 49, 3) := by decide +kernel
theorem d_M_keptValence_5 : decode b_M_keptValence 5 = .ok (.istore_n 2, 1) := by decide +kernel
theorem d_M_keptValence_6 : decode b_M_keptValence 6 = .ok (.aload_n 0, 1) := by decide +kernel
theorem d_M_keptValence_7 : decode b_M_keptValence 7 = .ok (.iload_n 1, 1) := by decide +kernel
theorem d_M_keptValence_8 : decode b_M_keptValence 8 = .ok (.invokevirtual 72, 3) := by decide +kernel
theorem d_M_keptValence_11 : decode b_M_keptValence 11 = .ok (.iload_n 1, 1) := by decide +kernel
theorem d_M_keptValence_12 : decode b_M_keptValence 12 = .ok (.iconst 2, 1) := by decide +kernel
theorem d_M_keptValence_13 : decode b_M_keptValence 13 = .ok (.if_icmp .ne 10, 3) := by decide +kernel
theorem d_M_keptValence_16 : decode b_M_keptValence 16 = .ok (.aload_n 0, 1) := by decide +kernel
theorem d_M_keptValence_17 : decode b_M_keptValence 17 = .ok (.getfield 103, 3) := by decide +kernel
theorem d_M_keptValence_20 : decode b_M_keptValence 20 = .ok (.goto 9, 3) := by decide +kernel
theorem d_M_keptValence_23 : decode b_M_keptValence 23 = .ok (.aload_n 0, 1) := by decide +kernel
theorem d_M_keptValence_24 : decode b_M_keptValence 24 = .ok (.getfield 33, 3) := by decide +kernel
theorem d_M_keptValence_27 : decode b_M_keptValence 27 = .ok (.iload_n 2, 1) := by decide +kernel
theorem d_M_keptValence_28 : decode b_M_keptValence 28 = .ok (.iaload, 1) := by decide +kernel
theorem d_M_keptValence_29 : decode b_M_keptValence 29 = .ok (.iadd, 1) := by decide +kernel
theorem d_M_keptValence_30 : decode b_M_keptValence 30 = .ok (.ireturn, 1) := by decide +kernel
theorem d_M_records_0 : decode b_M_records 0 = .ok (.iconst 0, 1) := by decide +kernel
theorem d_M_records_1 : decode b_M_records 1 = .ok (.istore_n 1, 1) := by decide +kernel
theorem d_M_records_2 : decode b_M_records 2 = .ok (.iconst 0, 1) := by decide +kernel
theorem d_M_records_3 : decode b_M_records 3 = .ok (.istore_n 2, 1) := by decide +kernel
theorem d_M_records_4 : decode b_M_records 4 = .ok (.iload_n 2, 1) := by decide +kernel
theorem d_M_records_5 : decode b_M_records 5 = .ok (.bipush 80, 2) := by decide +kernel
theorem d_M_records_7 : decode b_M_records 7 = .ok (.if_icmp .ge 25, 3) := by decide +kernel
theorem d_M_records_10 : decode b_M_records 10 = .ok (.aload_n 0, 1) := by decide +kernel
theorem d_M_records_11 : decode b_M_records 11 = .ok (.iload_n 2, 1) := by decide +kernel
theorem d_M_records_12 : decode b_M_records 12 = .ok (.invokevirtual 109, 3) := by decide +kernel
theorem d_M_records_15 : decode b_M_records 15 = .ok (.ifCond .eq 9, 3) := by decide +kernel
theorem d_M_records_18 : decode b_M_records 18 = .ok (.iload_n 1, 1) := by decide +kernel
theorem d_M_records_19 : decode b_M_records 19 = .ok (.iconst 1, 1) := by decide +kernel
theorem d_M_records_20 : decode b_M_records 20 = .ok (.iadd, 1) := by decide +kernel
theorem d_M_records_21 : decode b_M_records 21 = .ok (.goto 4, 3) := by decide +kernel
theorem d_M_records_24 : decode b_M_records 24 = .ok (.iload_n 1, 1) := by decide +kernel
theorem d_M_records_25 : decode b_M_records 25 = .ok (.istore_n 1, 1) := by decide +kernel
theorem d_M_records_26 : decode b_M_records 26 = .ok (.iinc 2 1, 3) := by decide +kernel
theorem d_M_records_29 : decode b_M_records 29 = .ok (.goto (-25), 3) := by decide +kernel
theorem d_M_records_32 : decode b_M_records 32 = .ok (.iload_n 1, 1) := by decide +kernel
theorem d_M_records_33 : decode b_M_records 33 = .ok (.ireturn, 1) := by decide +kernel
theorem d_M_isRecord_0 : decode b_M_isRecord 0 = .ok (.aload_n 0, 1) := by decide +kernel
theorem d_M_isRecord_1 : decode b_M_isRecord 1 = .ok (.getfield 17, 3) := by decide +kernel
theorem d_M_isRecord_4 : decode b_M_isRecord 4 = .ok (.iload_n 1, 1) := by decide +kernel
theorem d_M_isRecord_5 : decode b_M_isRecord 5 = .ok (.iconst 2, 1) := by decide +kernel
theorem d_M_isRecord_6 : decode b_M_isRecord 6 = .ok (.idiv, 1) := by decide +kernel
theorem d_M_isRecord_7 : decode b_M_isRecord 7 = .ok (.iaload, 1) := by decide +kernel
theorem d_M_isRecord_8 : decode b_M_isRecord 8 = .ok (.ifCond .eq 24, 3) := by decide +kernel
theorem d_M_isRecord_11 : decode b_M_isRecord 11 = .ok (.iload_n 1, 1) := by decide +kernel
theorem d_M_isRecord_12 : decode b_M_isRecord 12 = .ok (.iconst 2, 1) := by decide +kernel
theorem d_M_isRecord_13 : decode b_M_isRecord 13 = .ok (.irem, 1) := by decide +kernel
theorem d_M_isRecord_14 : decode b_M_isRecord 14 = .ok (.ifCond .eq 14, 3) := by decide +kernel
theorem d_M_isRecord_17 : decode b_M_isRecord 17 = .ok (.aload_n 0, 1) := by decide +kernel
theorem d_M_isRecord_18 : decode b_M_isRecord 18 = .ok (.getfield 36, 3) := by decide +kernel
theorem d_M_isRecord_21 : decode b_M_isRecord 21 = .ok (.iload_n 1, 1) := by decide +kernel
theorem d_M_isRecord_22 : decode b_M_isRecord 22 = .ok (.iconst 2, 1) := by decide +kernel
theorem d_M_isRecord_23 : decode b_M_isRecord 23 = .ok (.idiv, 1) := by decide +kernel
theorem d_M_isRecord_24 : decode b_M_isRecord 24 = .ok (.baload, 1) := by decide +kernel
theorem d_M_isRecord_25 : decode b_M_isRecord 25 = .ok (.ifCond .ne 7, 3) := by decide +kernel
theorem d_M_isRecord_28 : decode b_M_isRecord 28 = .ok (.iconst 1, 1) := by decide +kernel
theorem d_M_isRecord_29 : decode b_M_isRecord 29 = .ok (.goto 4, 3) := by decide +kernel
theorem d_M_isRecord_32 : decode b_M_isRecord 32 = .ok (.iconst 0, 1) := by decide +kernel
theorem d_M_isRecord_33 : decode b_M_isRecord 33 = .ok (.ireturn, 1) := by decide +kernel
theorem d_M_row_0 : decode b_M_row 0 = .ok (.iload_n 1, 1) := by decide +kernel
theorem d_M_row_1 : decode b_M_row 1 = .ok (.ifCond .ge 7, 3) := by decide +kernel
theorem d_M_row_4 : decode b_M_row 4 = .ok (.iconst (-1), 1) := by decide +kernel
theorem d_M_row_5 : decode b_M_row 5 = .ok (.goto 8, 3) := by decide +kernel
theorem d_M_row_8 : decode b_M_row 8 = .ok (.aload_n 0, 1) := by decide +kernel
theorem d_M_row_9 : decode b_M_row 9 = .ok (.iload_n 1, 1) := by decide +kernel
theorem d_M_row_10 : decode b_M_row 10 = .ok (.invokevirtual 121, 3) := by decide +kernel
theorem d_M_row_13 : decode b_M_row 13 = .ok (.istore_n 3, 1) := by decide +kernel
theorem d_M_row_14 : decode b_M_row 14 = .ok (.iload_n 3, 1) := by decide +kernel
theorem d_M_row_15 : decode b_M_row 15 = .ok (.ifCond .lt 12, 3) := by decide +kernel
theorem d_M_row_18 : decode b_M_row 18 = .ok (.iload_n 2, 1) := by decide +kernel
theorem d_M_row_19 : decode b_M_row 19 = .ok (.ifCond .lt 8, 3) := by decide +kernel
theorem d_M_row_22 : decode b_M_row 22 = .ok (.iload_n 2, 1) := by decide +kernel
theorem d_M_row_23 : decode b_M_row 23 = .ok (.iconst 4, 1) := by decide +kernel
theorem d_M_row_24 : decode b_M_row 24 = .ok (.if_icmp .le 6, 3) := by decide +kernel
theorem d_M_row_27 : decode b_M_row 27 = .ok (.bipush (-2), 2) := by decide +kernel
theorem d_M_row_29 : decode b_M_row 29 = .ok (.ireturn, 1) := by decide +kernel
theorem d_M_row_30 : decode b_M_row 30 = .ok (.aload_n 0, 1) := by decide +kernel
theorem d_M_row_31 : decode b_M_row 31 = .ok (.getfield 17, 3) := by decide +kernel
theorem d_M_row_34 : decode b_M_row 34 = .ok (.iload_n 3, 1) := by decide +kernel
theorem d_M_row_35 : decode b_M_row 35 = .ok (.iconst 2, 1) := by decide +kernel
theorem d_M_row_36 : decode b_M_row 36 = .ok (.idiv, 1) := by decide +kernel
theorem d_M_row_37 : decode b_M_row 37 = .ok (.iaload, 1) := by decide +kernel
theorem d_M_row_38 : decode b_M_row 38 = .ok (.istore 4, 2) := by decide +kernel
theorem d_M_row_40 : decode b_M_row 40 = .ok (.iload 4, 2) := by decide +kernel
theorem d_M_row_42 : decode b_M_row 42 = .ok (.iconst 4, 1) := by decide +kernel
theorem d_M_row_43 : decode b_M_row 43 = .ok (.if_icmp .ne 7, 3) := by decide +kernel
theorem d_M_row_46 : decode b_M_row 46 = .ok (.iconst 2, 1) := by decide +kernel
theorem d_M_row_47 : decode b_M_row 47 = .ok (.goto 5, 3) := by decide +kernel
theorem d_M_row_50 : decode b_M_row 50 = .ok (.iload 4, 2) := by decide +kernel
theorem d_M_row_52 : decode b_M_row 52 = .ok (.istore 5, 2) := by decide +kernel
theorem d_M_row_54 : decode b_M_row 54 = .ok (.iload_n 2, 1) := by decide +kernel
theorem d_M_row_55 : decode b_M_row 55 = .ok (.tableswitch 70 0 3 #[29, 35, 41, 64], 29) := by decide +kernel
theorem d_M_row_84 : decode b_M_row 84 = .ok (.aload_n 0, 1) := by decide +kernel
theorem d_M_row_85 : decode b_M_row 85 = .ok (.iload_n 3, 1) := by decide +kernel
theorem d_M_row_86 : decode b_M_row 86 = .ok (.invokevirtual 112, 3) := by decide +kernel
theorem d_M_row_89 : decode b_M_row 89 = .ok (.ireturn, 1) := by decide +kernel
theorem d_M_row_90 : decode b_M_row 90 = .ok (.aload_n 0, 1) := by decide +kernel
theorem d_M_row_91 : decode b_M_row 91 = .ok (.iload_n 3, 1) := by decide +kernel
theorem d_M_row_92 : decode b_M_row 92 = .ok (.invokevirtual 115, 3) := by decide +kernel
theorem d_M_row_95 : decode b_M_row 95 = .ok (.ireturn, 1) := by decide +kernel
theorem d_M_row_96 : decode b_M_row 96 = .ok (.iload_n 3, 1) := by decide +kernel
theorem d_M_row_97 : decode b_M_row 97 = .ok (.iconst 2, 1) := by decide +kernel
theorem d_M_row_98 : decode b_M_row 98 = .ok (.irem, 1) := by decide +kernel
theorem d_M_row_99 : decode b_M_row 99 = .ok (.ifCond .ne 8, 3) := by decide +kernel
theorem d_M_row_102 : decode b_M_row 102 = .ok (.iload 5, 2) := by decide +kernel
theorem d_M_row_104 : decode b_M_row 104 = .ok (.goto 14, 3) := by decide +kernel
theorem d_M_row_107 : decode b_M_row 107 = .ok (.iload 4, 2) := by decide +kernel
theorem d_M_row_109 : decode b_M_row 109 = .ok (.iconst 1, 1) := by decide +kernel
theorem d_M_row_110 : decode b_M_row 110 = .ok (.if_icmp .ne 7, 3) := by decide +kernel
theorem d_M_row_113 : decode b_M_row 113 = .ok (.iconst 4, 1) := by decide +kernel
theorem d_M_row_114 : decode b_M_row 114 = .ok (.goto 4, 3) := by decide +kernel
theorem d_M_row_117 : decode b_M_row 117 = .ok (.iconst 5, 1) := by decide +kernel
theorem d_M_row_118 : decode b_M_row 118 = .ok (.ireturn, 1) := by decide +kernel
theorem d_M_row_119 : decode b_M_row 119 = .ok (.aload_n 0, 1) := by decide +kernel
theorem d_M_row_120 : decode b_M_row 120 = .ok (.iload_n 3, 1) := by decide +kernel
theorem d_M_row_121 : decode b_M_row 121 = .ok (.invokevirtual 124, 3) := by decide +kernel
theorem d_M_row_124 : decode b_M_row 124 = .ok (.ireturn, 1) := by decide +kernel
theorem d_M_row_125 : decode b_M_row 125 = .ok (.aload_n 0, 1) := by decide +kernel
theorem d_M_row_126 : decode b_M_row 126 = .ok (.iload_n 3, 1) := by decide +kernel
theorem d_M_row_127 : decode b_M_row 127 = .ok (.invokevirtual 127, 3) := by decide +kernel
theorem d_M_row_130 : decode b_M_row 130 = .ok (.ireturn, 1) := by decide +kernel
theorem d_M_ranked_0 : decode b_M_ranked 0 = .ok (.iconst 0, 1) := by decide +kernel
theorem d_M_ranked_1 : decode b_M_ranked 1 = .ok (.istore_n 2, 1) := by decide +kernel
theorem d_M_ranked_2 : decode b_M_ranked 2 = .ok (.iload_n 2, 1) := by decide +kernel
theorem d_M_ranked_3 : decode b_M_ranked 3 = .ok (.bipush 80, 2) := by decide +kernel
theorem d_M_ranked_5 : decode b_M_ranked 5 = .ok (.if_icmp .ge 69, 3) := by decide +kernel
theorem d_M_ranked_8 : decode b_M_ranked 8 = .ok (.aload_n 0, 1) := by decide +kernel
theorem d_M_ranked_9 : decode b_M_ranked 9 = .ok (.iload_n 2, 1) := by decide +kernel
theorem d_M_ranked_10 : decode b_M_ranked 10 = .ok (.invokevirtual 109, 3) := by decide +kernel
theorem d_M_ranked_13 : decode b_M_ranked 13 = .ok (.ifCond .eq 55, 3) := by decide +kernel
theorem d_M_ranked_16 : decode b_M_ranked 16 = .ok (.iconst 0, 1) := by decide +kernel
theorem d_M_ranked_17 : decode b_M_ranked 17 = .ok (.istore_n 3, 1) := by decide +kernel
theorem d_M_ranked_18 : decode b_M_ranked 18 = .ok (.iconst 0, 1) := by decide +kernel
theorem d_M_ranked_19 : decode b_M_ranked 19 = .ok (.istore 4, 2) := by decide +kernel
theorem d_M_ranked_21 : decode b_M_ranked 21 = .ok (.iload 4, 2) := by decide +kernel
theorem d_M_ranked_23 : decode b_M_ranked 23 = .ok (.bipush 80, 2) := by decide +kernel
theorem d_M_ranked_25 : decode b_M_ranked 25 = .ok (.if_icmp .ge 36, 3) := by decide +kernel
theorem d_M_ranked_28 : decode b_M_ranked 28 = .ok (.aload_n 0, 1) := by decide +kernel
theorem d_M_ranked_29 : decode b_M_ranked 29 = .ok (.iload 4, 2) := by decide +kernel
theorem d_M_ranked_31 : decode b_M_ranked 31 = .ok (.invokevirtual 109, 3) := by decide +kernel
theorem d_M_ranked_34 : decode b_M_ranked 34 = .ok (.ifCond .eq 19, 3) := by decide +kernel
theorem d_M_ranked_37 : decode b_M_ranked 37 = .ok (.aload_n 0, 1) := by decide +kernel
theorem d_M_ranked_38 : decode b_M_ranked 38 = .ok (.iload 4, 2) := by decide +kernel
theorem d_M_ranked_40 : decode b_M_ranked 40 = .ok (.iload_n 2, 1) := by decide +kernel
theorem d_M_ranked_41 : decode b_M_ranked 41 = .ok (.invokevirtual 118, 3) := by decide +kernel
theorem d_M_ranked_44 : decode b_M_ranked 44 = .ok (.ifCond .eq 9, 3) := by decide +kernel
theorem d_M_ranked_47 : decode b_M_ranked 47 = .ok (.iload_n 3, 1) := by decide +kernel
theorem d_M_ranked_48 : decode b_M_ranked 48 = .ok (.iconst 1, 1) := by decide +kernel
theorem d_M_ranked_49 : decode b_M_ranked 49 = .ok (.iadd, 1) := by decide +kernel
theorem d_M_ranked_50 : decode b_M_ranked 50 = .ok (.goto 4, 3) := by decide +kernel
theorem d_M_ranked_53 : decode b_M_ranked 53 = .ok (.iload_n 3, 1) := by decide +kernel
theorem d_M_ranked_54 : decode b_M_ranked 54 = .ok (.istore_n 3, 1) := by decide +kernel
theorem d_M_ranked_55 : decode b_M_ranked 55 = .ok (.iinc 4 1, 3) := by decide +kernel
theorem d_M_ranked_58 : decode b_M_ranked 58 = .ok (.goto (-37), 3) := by decide +kernel
theorem d_M_ranked_61 : decode b_M_ranked 61 = .ok (.iload_n 3, 1) := by decide +kernel
theorem d_M_ranked_62 : decode b_M_ranked 62 = .ok (.iload_n 1, 1) := by decide +kernel
theorem d_M_ranked_63 : decode b_M_ranked 63 = .ok (.if_icmp .ne 5, 3) := by decide +kernel
theorem d_M_ranked_66 : decode b_M_ranked 66 = .ok (.iload_n 2, 1) := by decide +kernel
theorem d_M_ranked_67 : decode b_M_ranked 67 = .ok (.ireturn, 1) := by decide +kernel
theorem d_M_ranked_68 : decode b_M_ranked 68 = .ok (.iinc 2 1, 3) := by decide +kernel
theorem d_M_ranked_71 : decode b_M_ranked 71 = .ok (.goto (-69), 3) := by decide +kernel
theorem d_M_ranked_74 : decode b_M_ranked 74 = .ok (.iconst (-1), 1) := by decide +kernel
theorem d_M_ranked_75 : decode b_M_ranked 75 = .ok (.ireturn, 1) := by decide +kernel
theorem d_M_before_0 : decode b_M_before 0 = .ok (.aload_n 0, 1) := by decide +kernel
theorem d_M_before_1 : decode b_M_before 1 = .ok (.iload_n 1, 1) := by decide +kernel
theorem d_M_before_2 : decode b_M_before 2 = .ok (.invokevirtual 112, 3) := by decide +kernel
theorem d_M_before_5 : decode b_M_before 5 = .ok (.aload_n 0, 1) := by decide +kernel
theorem d_M_before_6 : decode b_M_before 6 = .ok (.iload_n 2, 1) := by decide +kernel
theorem d_M_before_7 : decode b_M_before 7 = .ok (.invokevirtual 112, 3) := by decide +kernel
theorem d_M_before_10 : decode b_M_before 10 = .ok (.if_icmp .lt 29, 3) := by decide +kernel
theorem d_M_before_13 : decode b_M_before 13 = .ok (.aload_n 0, 1) := by decide +kernel
theorem d_M_before_14 : decode b_M_before 14 = .ok (.iload_n 1, 1) := by decide +kernel
theorem d_M_before_15 : decode b_M_before 15 = .ok (.invokevirtual 112, 3) := by decide +kernel
theorem d_M_before_18 : decode b_M_before 18 = .ok (.aload_n 0, 1) := by decide +kernel
theorem d_M_before_19 : decode b_M_before 19 = .ok (.iload_n 2, 1) := by decide +kernel
theorem d_M_before_20 : decode b_M_before 20 = .ok (.invokevirtual 112, 3) := by decide +kernel
theorem d_M_before_23 : decode b_M_before 23 = .ok (.if_icmp .ne 20, 3) := by decide +kernel
theorem d_M_before_26 : decode b_M_before 26 = .ok (.aload_n 0, 1) := by decide +kernel
theorem d_M_before_27 : decode b_M_before 27 = .ok (.iload_n 1, 1) := by decide +kernel
theorem d_M_before_28 : decode b_M_before 28 = .ok (.invokevirtual 115, 3) := by decide +kernel
theorem d_M_before_31 : decode b_M_before 31 = .ok (.aload_n 0, 1) := by decide +kernel
theorem d_M_before_32 : decode b_M_before 32 = .ok (.iload_n 2, 1) := by decide +kernel
theorem d_M_before_33 : decode b_M_before 33 = .ok (.invokevirtual 115, 3) := by decide +kernel
theorem d_M_before_36 : decode b_M_before 36 = .ok (.if_icmp .ge 7, 3) := by decide +kernel
theorem d_M_before_39 : decode b_M_before 39 = .ok (.iconst 1, 1) := by decide +kernel
theorem d_M_before_40 : decode b_M_before 40 = .ok (.goto 4, 3) := by decide +kernel
theorem d_M_before_43 : decode b_M_before 43 = .ok (.iconst 0, 1) := by decide +kernel
theorem d_M_before_44 : decode b_M_before 44 = .ok (.ireturn, 1) := by decide +kernel
theorem d_M_keyId_0 : decode b_M_keyId 0 = .ok (.iload_n 1, 1) := by decide +kernel
theorem d_M_keyId_1 : decode b_M_keyId 1 = .ok (.iconst 2, 1) := by decide +kernel
theorem d_M_keyId_2 : decode b_M_keyId 2 = .ok (.irem, 1) := by decide +kernel
theorem d_M_keyId_3 : decode b_M_keyId 3 = .ok (.ifCond .ne 14, 3) := by decide +kernel
theorem d_M_keyId_6 : decode b_M_keyId 6 = .ok (.aload_n 0, 1) := by decide +kernel
theorem d_M_keyId_7 : decode b_M_keyId 7 = .ok (.getfield 24, 3) := by decide +kernel
theorem d_M_keyId_10 : decode b_M_keyId 10 = .ok (.iload_n 1, 1) := by decide +kernel
theorem d_M_keyId_11 : decode b_M_keyId 11 = .ok (.iconst 2, 1) := by decide +kernel
theorem d_M_keyId_12 : decode b_M_keyId 12 = .ok (.idiv, 1) := by decide +kernel
theorem d_M_keyId_13 : decode b_M_keyId 13 = .ok (.iaload, 1) := by decide +kernel
theorem d_M_keyId_14 : decode b_M_keyId 14 = .ok (.goto 11, 3) := by decide +kernel
theorem d_M_keyId_17 : decode b_M_keyId 17 = .ok (.aload_n 0, 1) := by decide +kernel
theorem d_M_keyId_18 : decode b_M_keyId 18 = .ok (.getfield 21, 3) := by decide +kernel
theorem d_M_keyId_21 : decode b_M_keyId 21 = .ok (.iload_n 1, 1) := by decide +kernel
theorem d_M_keyId_22 : decode b_M_keyId 22 = .ok (.iconst 2, 1) := by decide +kernel
theorem d_M_keyId_23 : decode b_M_keyId 23 = .ok (.idiv, 1) := by decide +kernel
theorem d_M_keyId_24 : decode b_M_keyId 24 = .ok (.iaload, 1) := by decide +kernel
theorem d_M_keyId_25 : decode b_M_keyId 25 = .ok (.ireturn, 1) := by decide +kernel
theorem d_M_keyName_0 : decode b_M_keyName 0 = .ok (.iload_n 1, 1) := by decide +kernel
theorem d_M_keyName_1 : decode b_M_keyName 1 = .ok (.iconst 2, 1) := by decide +kernel
theorem d_M_keyName_2 : decode b_M_keyName 2 = .ok (.irem, 1) := by decide +kernel
theorem d_M_keyName_3 : decode b_M_keyName 3 = .ok (.ifCond .ne 14, 3) := by decide +kernel
theorem d_M_keyName_6 : decode b_M_keyName 6 = .ok (.aload_n 0, 1) := by decide +kernel
theorem d_M_keyName_7 : decode b_M_keyName 7 = .ok (.getfield 27, 3) := by decide +kernel
theorem d_M_keyName_10 : decode b_M_keyName 10 = .ok (.iload_n 1, 1) := by decide +kernel
theorem d_M_keyName_11 : decode b_M_keyName 11 = .ok (.iconst 2, 1) := by decide +kernel
theorem d_M_keyName_12 : decode b_M_keyName 12 = .ok (.idiv, 1) := by decide +kernel
theorem d_M_keyName_13 : decode b_M_keyName 13 = .ok (.iaload, 1) := by decide +kernel
theorem d_M_keyName_14 : decode b_M_keyName 14 = .ok (.goto 4, 3) := by decide +kernel
theorem d_M_keyName_17 : decode b_M_keyName 17 = .ok (.iconst (-1), 1) := by decide +kernel
theorem d_M_keyName_18 : decode b_M_keyName 18 = .ok (.ireturn, 1) := by decide +kernel
theorem d_M_valueOf_0 : decode b_M_valueOf 0 = .ok (.iload_n 1, 1) := by decide +kernel
theorem d_M_valueOf_1 : decode b_M_valueOf 1 = .ok (.iconst 2, 1) := by decide +kernel
theorem d_M_valueOf_2 : decode b_M_valueOf 2 = .ok (.irem, 1) := by decide +kernel
theorem d_M_valueOf_3 : decode b_M_valueOf 3 = .ok (.ifCond .ne 14, 3) := by decide +kernel
theorem d_M_valueOf_6 : decode b_M_valueOf 6 = .ok (.aload_n 0, 1) := by decide +kernel
theorem d_M_valueOf_7 : decode b_M_valueOf 7 = .ok (.getfield 21, 3) := by decide +kernel
theorem d_M_valueOf_10 : decode b_M_valueOf 10 = .ok (.iload_n 1, 1) := by decide +kernel
theorem d_M_valueOf_11 : decode b_M_valueOf 11 = .ok (.iconst 2, 1) := by decide +kernel
theorem d_M_valueOf_12 : decode b_M_valueOf 12 = .ok (.idiv, 1) := by decide +kernel
theorem d_M_valueOf_13 : decode b_M_valueOf 13 = .ok (.iaload, 1) := by decide +kernel
theorem d_M_valueOf_14 : decode b_M_valueOf 14 = .ok (.goto 11, 3) := by decide +kernel
theorem d_M_valueOf_17 : decode b_M_valueOf 17 = .ok (.aload_n 0, 1) := by decide +kernel
theorem d_M_valueOf_18 : decode b_M_valueOf 18 = .ok (.getfield 24, 3) := by decide +kernel
theorem d_M_valueOf_21 : decode b_M_valueOf 21 = .ok (.iload_n 1, 1) := by decide +kernel
theorem d_M_valueOf_22 : decode b_M_valueOf 22 = .ok (.iconst 2, 1) := by decide +kernel
theorem d_M_valueOf_23 : decode b_M_valueOf 23 = .ok (.idiv, 1) := by decide +kernel
theorem d_M_valueOf_24 : decode b_M_valueOf 24 = .ok (.iaload, 1) := by decide +kernel
theorem d_M_valueOf_25 : decode b_M_valueOf 25 = .ok (.ireturn, 1) := by decide +kernel
theorem d_M_moreOf_0 : decode b_M_moreOf 0 = .ok (.iload_n 1, 1) := by decide +kernel
theorem d_M_moreOf_1 : decode b_M_moreOf 1 = .ok (.iconst 2, 1) := by decide +kernel
theorem d_M_moreOf_2 : decode b_M_moreOf 2 = .ok (.idiv, 1) := by decide +kernel
theorem d_M_moreOf_3 : decode b_M_moreOf 3 = .ok (.istore_n 2, 1) := by decide +kernel
theorem d_M_moreOf_4 : decode b_M_moreOf 4 = .ok (.iload_n 1, 1) := by decide +kernel
theorem d_M_moreOf_5 : decode b_M_moreOf 5 = .ok (.iconst 2, 1) := by decide +kernel
theorem d_M_moreOf_6 : decode b_M_moreOf 6 = .ok (.irem, 1) := by decide +kernel
theorem d_M_moreOf_7 : decode b_M_moreOf 7 = .ok (.iconst 1, 1) := by decide +kernel
theorem d_M_moreOf_8 : decode b_M_moreOf 8 = .ok (.if_icmp .ne 10, 3) := by decide +kernel
theorem d_M_moreOf_11 : decode b_M_moreOf 11 = .ok (.aload_n 0, 1) := by decide +kernel
theorem d_M_moreOf_12 : decode b_M_moreOf 12 = .ok (.getfield 27, 3) := by decide +kernel
theorem d_M_moreOf_15 : decode b_M_moreOf 15 = .ok (.iload_n 2, 1) := by decide +kernel
theorem d_M_moreOf_16 : decode b_M_moreOf 16 = .ok (.iaload, 1) := by decide +kernel
theorem d_M_moreOf_17 : decode b_M_moreOf 17 = .ok (.ireturn, 1) := by decide +kernel
theorem d_M_moreOf_18 : decode b_M_moreOf 18 = .ok (.aload_n 0, 1) := by decide +kernel
theorem d_M_moreOf_19 : decode b_M_moreOf 19 = .ok (.getfield 17, 3) := by decide +kernel
theorem d_M_moreOf_22 : decode b_M_moreOf 22 = .ok (.iload_n 2, 1) := by decide +kernel
theorem d_M_moreOf_23 : decode b_M_moreOf 23 = .ok (.iaload, 1) := by decide +kernel
theorem d_M_moreOf_24 : decode b_M_moreOf 24 = .ok (.iconst 1, 1) := by decide +kernel
theorem d_M_moreOf_25 : decode b_M_moreOf 25 = .ok (.if_icmp .ne 16, 3) := by decide +kernel
theorem d_M_moreOf_28 : decode b_M_moreOf 28 = .ok (.aload_n 0, 1) := by decide +kernel
theorem d_M_moreOf_29 : decode b_M_moreOf 29 = .ok (.aload_n 0, 1) := by decide +kernel
theorem d_M_moreOf_30 : decode b_M_moreOf 30 = .ok (.getfield 21, 3) := by decide +kernel
theorem d_M_moreOf_33 : decode b_M_moreOf 33 = .ok (.iload_n 2, 1) := by decide +kernel
theorem d_M_moreOf_34 : decode b_M_moreOf 34 = .ok (.iaload, 1) := by decide +kernel
theorem d_M_moreOf_35 : decode b_M_moreOf 35 = .ok (.invokevirtual 106, 3) := by decide +kernel
theorem d_M_moreOf_38 : decode b_M_moreOf 38 = .ok (.goto 28, 3) := by decide +kernel
theorem d_M_moreOf_41 : decode b_M_moreOf 41 = .ok (.aload_n 0, 1) := by decide +kernel
theorem d_M_moreOf_42 : decode b_M_moreOf 42 = .ok (.getfield 17, 3) := by decide +kernel
theorem d_M_moreOf_45 : decode b_M_moreOf 45 = .ok (.iload_n 2, 1) := by decide +kernel
theorem d_M_moreOf_46 : decode b_M_moreOf 46 = .ok (.iaload, 1) := by decide +kernel
theorem d_M_moreOf_47 : decode b_M_moreOf 47 = .ok (.iconst 3, 1) := by decide +kernel
theorem d_M_moreOf_48 : decode b_M_moreOf 48 = .ok (.if_icmp .ne 12, 3) := by decide +kernel
theorem d_M_moreOf_51 : decode b_M_moreOf 51 = .ok (.aload_n 0, 1) := by decide +kernel
theorem d_M_moreOf_52 : decode b_M_moreOf 52 = .ok (.getfield 30, 3) := by decide +kernel
theorem d_M_moreOf_55 : decode b_M_moreOf 55 = .ok (.iload_n 2, 1) := by decide +kernel
theorem d_M_moreOf_56 : decode b_M_moreOf 56 = .ok (.iaload, 1) := by decide +kernel
theorem d_M_moreOf_57 : decode b_M_moreOf 57 = .ok (.goto 9, 3) := by decide +kernel
theorem d_M_moreOf_60 : decode b_M_moreOf 60 = .ok (.aload_n 0, 1) := by decide +kernel
theorem d_M_moreOf_61 : decode b_M_moreOf 61 = .ok (.getfield 40, 3) := by decide +kernel
theorem d_M_moreOf_64 : decode b_M_moreOf 64 = .ok (.iload_n 2, 1) := by decide +kernel
theorem d_M_moreOf_65 : decode b_M_moreOf 65 = .ok (.iaload, 1) := by decide +kernel
theorem d_M_moreOf_66 : decode b_M_moreOf 66 = .ok (.ireturn, 1) := by decide +kernel
theorem d_M_overflows_0 : decode b_M_overflows 0 = .ok (.iconst 0, 1) := by decide +kernel
theorem d_M_overflows_1 : decode b_M_overflows 1 = .ok (.istore_n 1, 1) := by decide +kernel
theorem d_M_overflows_2 : decode b_M_overflows 2 = .ok (.iconst 0, 1) := by decide +kernel
theorem d_M_overflows_3 : decode b_M_overflows 3 = .ok (.istore_n 2, 1) := by decide +kernel
theorem d_M_overflows_4 : decode b_M_overflows 4 = .ok (.iload_n 2, 1) := by decide +kernel
theorem d_M_overflows_5 : decode b_M_overflows 5 = .ok (.bipush 40, 2) := by decide +kernel
theorem d_M_overflows_7 : decode b_M_overflows 7 = .ok (.if_icmp .ge 67, 3) := by decide +kernel
theorem d_M_overflows_10 : decode b_M_overflows 10 = .ok (.aload_n 0, 1) := by decide +kernel
theorem d_M_overflows_11 : decode b_M_overflows 11 = .ok (.getfield 17, 3) := by decide +kernel
theorem d_M_overflows_14 : decode b_M_overflows 14 = .ok (.iload_n 2, 1) := by decide +kernel
theorem d_M_overflows_15 : decode b_M_overflows 15 = .ok (.iaload, 1) := by decide +kernel
theorem d_M_overflows_16 : decode b_M_overflows 16 = .ok (.iconst 2, 1) := by decide +kernel
theorem d_M_overflows_17 : decode b_M_overflows 17 = .ok (.if_icmp .eq 13, 3) := by decide +kernel
theorem d_M_overflows_20 : decode b_M_overflows 20 = .ok (.aload_n 0, 1) := by decide +kernel
theorem d_M_overflows_21 : decode b_M_overflows 21 = .ok (.getfield 17, 3) := by decide +kernel
theorem d_M_overflows_24 : decode b_M_overflows 24 = .ok (.iload_n 2, 1) := by decide +kernel
theorem d_M_overflows_25 : decode b_M_overflows 25 = .ok (.iaload, 1) := by decide +kernel
theorem d_M_overflows_26 : decode b_M_overflows 26 = .ok (.iconst 4, 1) := by decide +kernel
theorem d_M_overflows_27 : decode b_M_overflows 27 = .ok (.if_icmp .ne 7, 3) := by decide +kernel
theorem d_M_overflows_30 : decode b_M_overflows 30 = .ok (.iconst 1, 1) := by decide +kernel
theorem d_M_overflows_31 : decode b_M_overflows 31 = .ok (.goto 4, 3) := by decide +kernel
theorem d_M_overflows_34 : decode b_M_overflows 34 = .ok (.iconst 0, 1) := by decide +kernel
theorem d_M_overflows_35 : decode b_M_overflows 35 = .ok (.istore_n 3, 1) := by decide +kernel
theorem d_M_overflows_36 : decode b_M_overflows 36 = .ok (.iload_n 3, 1) := by decide +kernel
theorem d_M_overflows_37 : decode b_M_overflows 37 = .ok (.ifCond .eq 11, 3) := by decide +kernel
theorem d_M_overflows_40 : decode b_M_overflows 40 = .ok (.aload_n 0, 1) := by decide +kernel
theorem d_M_overflows_41 : decode b_M_overflows 41 = .ok (.iload_n 2, 1) := by decide +kernel
theorem d_M_overflows_42 : decode b_M_overflows 42 = .ok (.invokevirtual 100, 3) := by decide +kernel
theorem d_M_overflows_45 : decode b_M_overflows 45 = .ok (.goto 4, 3) := by decide +kernel
theorem d_M_overflows_48 : decode b_M_overflows 48 = .ok (.iconst 0, 1) := by decide +kernel
theorem d_M_overflows_49 : decode b_M_overflows 49 = .ok (.istore 4, 2) := by decide +kernel
theorem d_M_overflows_51 : decode b_M_overflows 51 = .ok (.iload 4, 2) := by decide +kernel
theorem d_M_overflows_53 : decode b_M_overflows 53 = .ok (.iconst 2, 1) := by decide +kernel
theorem d_M_overflows_54 : decode b_M_overflows 54 = .ok (.if_icmp .le 12, 3) := by decide +kernel
theorem d_M_overflows_57 : decode b_M_overflows 57 = .ok (.iload_n 1, 1) := by decide +kernel
theorem d_M_overflows_58 : decode b_M_overflows 58 = .ok (.iload 4, 2) := by decide +kernel
theorem d_M_overflows_60 : decode b_M_overflows 60 = .ok (.iadd, 1) := by decide +kernel
theorem d_M_overflows_61 : decode b_M_overflows 61 = .ok (.iconst 2, 1) := by decide +kernel
theorem d_M_overflows_62 : decode b_M_overflows 62 = .ok (.isub, 1) := by decide +kernel
theorem d_M_overflows_63 : decode b_M_overflows 63 = .ok (.goto 4, 3) := by decide +kernel
theorem d_M_overflows_66 : decode b_M_overflows 66 = .ok (.iload_n 1, 1) := by decide +kernel
theorem d_M_overflows_67 : decode b_M_overflows 67 = .ok (.istore_n 1, 1) := by decide +kernel
theorem d_M_overflows_68 : decode b_M_overflows 68 = .ok (.iinc 2 1, 3) := by decide +kernel
theorem d_M_overflows_71 : decode b_M_overflows 71 = .ok (.goto (-67), 3) := by decide +kernel
theorem d_M_overflows_74 : decode b_M_overflows 74 = .ok (.iload_n 1, 1) := by decide +kernel
theorem d_M_overflows_75 : decode b_M_overflows 75 = .ok (.ireturn, 1) := by decide +kernel
theorem d_M_overflow_0 : decode b_M_overflow 0 = .ok (.iload_n 1, 1) := by decide +kernel
theorem d_M_overflow_1 : decode b_M_overflow 1 = .ok (.ifCond .lt 12, 3) := by decide +kernel
theorem d_M_overflow_4 : decode b_M_overflow 4 = .ok (.iload_n 2, 1) := by decide +kernel
theorem d_M_overflow_5 : decode b_M_overflow 5 = .ok (.ifCond .lt 8, 3) := by decide +kernel
theorem d_M_overflow_8 : decode b_M_overflow 8 = .ok (.iload_n 2, 1) := by decide +kernel
theorem d_M_overflow_9 : decode b_M_overflow 9 = .ok (.iconst 3, 1) := by decide +kernel
theorem d_M_overflow_10 : decode b_M_overflow 10 = .ok (.if_icmp .le 6, 3) := by decide +kernel
theorem d_M_overflow_13 : decode b_M_overflow 13 = .ok (.bipush (-2), 2) := by decide +kernel
theorem d_M_overflow_15 : decode b_M_overflow 15 = .ok (.ireturn, 1) := by decide +kernel
theorem d_M_overflow_16 : decode b_M_overflow 16 = .ok (.iload_n 1, 1) := by decide +kernel
theorem d_M_overflow_17 : decode b_M_overflow 17 = .ok (.istore_n 3, 1) := by decide +kernel
theorem d_M_overflow_18 : decode b_M_overflow 18 = .ok (.aload_n 0, 1) := by decide +kernel
theorem d_M_overflow_19 : decode b_M_overflow 19 = .ok (.iconst 0, 1) := by decide +kernel
theorem d_M_overflow_20 : decode b_M_overflow 20 = .ok (.invokevirtual 130, 3) := by decide +kernel
theorem d_M_overflow_23 : decode b_M_overflow 23 = .ok (.istore 4, 2) := by decide +kernel
theorem d_M_overflow_25 : decode b_M_overflow 25 = .ok (.iconst 0, 1) := by decide +kernel
theorem d_M_overflow_26 : decode b_M_overflow 26 = .ok (.istore 5, 2) := by decide +kernel
theorem d_M_overflow_28 : decode b_M_overflow 28 = .ok (.iload 5, 2) := by decide +kernel
theorem d_M_overflow_30 : decode b_M_overflow 30 = .ok (.bipush 40, 2) := by decide +kernel
theorem d_M_overflow_32 : decode b_M_overflow 32 = .ok (.if_icmp .ge 99, 3) := by decide +kernel
theorem d_M_overflow_35 : decode b_M_overflow 35 = .ok (.iload 4, 2) := by decide +kernel
theorem d_M_overflow_37 : decode b_M_overflow 37 = .ok (.ifCond .lt 94, 3) := by decide +kernel
theorem d_M_overflow_40 : decode b_M_overflow 40 = .ok (.iconst 0, 1) := by decide +kernel
theorem d_M_overflow_41 : decode b_M_overflow 41 = .ok (.istore 6, 2) := by decide +kernel
theorem d_M_overflow_43 : decode b_M_overflow 43 = .ok (.iconst 0, 1) := by decide +kernel
theorem d_M_overflow_44 : decode b_M_overflow 44 = .ok (.istore 7, 2) := by decide +kernel
theorem d_M_overflow_46 : decode b_M_overflow 46 = .ok (.iload 7, 2) := by decide +kernel
theorem d_M_overflow_48 : decode b_M_overflow 48 = .ok (.aload_n 0, 1) := by decide +kernel
theorem d_M_overflow_49 : decode b_M_overflow 49 = .ok (.getfield 40, 3) := by decide +kernel
theorem d_M_overflow_52 : decode b_M_overflow 52 = .ok (.iload 4, 2) := by decide +kernel
theorem d_M_overflow_54 : decode b_M_overflow 54 = .ok (.iaload, 1) := by decide +kernel
theorem d_M_overflow_55 : decode b_M_overflow 55 = .ok (.if_icmp .ge 57, 3) := by decide +kernel
theorem d_M_overflow_58 : decode b_M_overflow 58 = .ok (.aload_n 0, 1) := by decide +kernel
theorem d_M_overflow_59 : decode b_M_overflow 59 = .ok (.iload 4, 2) := by decide +kernel
theorem d_M_overflow_61 : decode b_M_overflow 61 = .ok (.iload 7, 2) := by decide +kernel
theorem d_M_overflow_63 : decode b_M_overflow 63 = .ok (.invokevirtual 97, 3) := by decide +kernel
theorem d_M_overflow_66 : decode b_M_overflow 66 = .ok (.ifCond .eq 40, 3) := by decide +kernel
theorem d_M_overflow_69 : decode b_M_overflow 69 = .ok (.iinc 6 1, 3) := by decide +kernel
theorem d_M_overflow_72 : decode b_M_overflow 72 = .ok (.iload 6, 2) := by decide +kernel
theorem d_M_overflow_74 : decode b_M_overflow 74 = .ok (.iconst 2, 1) := by decide +kernel
theorem d_M_overflow_75 : decode b_M_overflow 75 = .ok (.if_icmp .le 17, 3) := by decide +kernel
theorem d_M_overflow_78 : decode b_M_overflow 78 = .ok (.iload_n 3, 1) := by decide +kernel
theorem d_M_overflow_79 : decode b_M_overflow 79 = .ok (.ifCond .ne 13, 3) := by decide +kernel
theorem d_M_overflow_82 : decode b_M_overflow 82 = .ok (.aload_n 0, 1) := by decide +kernel
theorem d_M_overflow_83 : decode b_M_overflow 83 = .ok (.iload 4, 2) := by decide +kernel
theorem d_M_overflow_85 : decode b_M_overflow 85 = .ok (.iload 7, 2) := by decide +kernel
theorem d_M_overflow_87 : decode b_M_overflow 87 = .ok (.iload_n 2, 1) := by decide +kernel
theorem d_M_overflow_88 : decode b_M_overflow 88 = .ok (.invokevirtual 133, 3) := by decide +kernel
theorem d_M_overflow_91 : decode b_M_overflow 91 = .ok (.ireturn, 1) := by decide +kernel
theorem d_M_overflow_92 : decode b_M_overflow 92 = .ok (.iload 6, 2) := by decide +kernel
theorem d_M_overflow_94 : decode b_M_overflow 94 = .ok (.iconst 2, 1) := by decide +kernel
theorem d_M_overflow_95 : decode b_M_overflow 95 = .ok (.if_icmp .le 9, 3) := by decide +kernel
theorem d_M_overflow_98 : decode b_M_overflow 98 = .ok (.iload_n 3, 1) := by decide +kernel
theorem d_M_overflow_99 : decode b_M_overflow 99 = .ok (.iconst 1, 1) := by decide +kernel
theorem d_M_overflow_100 : decode b_M_overflow 100 = .ok (.isub, 1) := by decide +kernel
theorem d_M_overflow_101 : decode b_M_overflow 101 = .ok (.goto 4, 3) := by decide +kernel
theorem d_M_overflow_104 : decode b_M_overflow 104 = .ok (.iload_n 3, 1) := by decide +kernel
theorem d_M_overflow_105 : decode b_M_overflow 105 = .ok (.istore_n 3, 1) := by decide +kernel
theorem d_M_overflow_106 : decode b_M_overflow 106 = .ok (.iinc 7 1, 3) := by decide +kernel
theorem d_M_overflow_109 : decode b_M_overflow 109 = .ok (.goto (-63), 3) := by decide +kernel
theorem d_M_overflow_112 : decode b_M_overflow 112 = .ok (.aload_n 0, 1) := by decide +kernel
theorem d_M_overflow_113 : decode b_M_overflow 113 = .ok (.aload_n 0, 1) := by decide +kernel
theorem d_M_overflow_114 : decode b_M_overflow 114 = .ok (.getfield 21, 3) := by decide +kernel
theorem d_M_overflow_117 : decode b_M_overflow 117 = .ok (.iload 4, 2) := by decide +kernel
theorem d_M_overflow_119 : decode b_M_overflow 119 = .ok (.iaload, 1) := by decide +kernel
theorem d_M_overflow_120 : decode b_M_overflow 120 = .ok (.invokevirtual 130, 3) := by decide +kernel
theorem d_M_overflow_123 : decode b_M_overflow 123 = .ok (.istore 4, 2) := by decide +kernel
theorem d_M_overflow_125 : decode b_M_overflow 125 = .ok (.iinc 5 1, 3) := by decide +kernel
theorem d_M_overflow_128 : decode b_M_overflow 128 = .ok (.goto (-100), 3) := by decide +kernel
theorem d_M_overflow_131 : decode b_M_overflow 131 = .ok (.bipush (-2), 2) := by decide +kernel
theorem d_M_overflow_133 : decode b_M_overflow 133 = .ok (.ireturn, 1) := by decide +kernel
theorem d_M_fileAfter_0 : decode b_M_fileAfter 0 = .ok (.iconst (-1), 1) := by decide +kernel
theorem d_M_fileAfter_1 : decode b_M_fileAfter 1 = .ok (.istore_n 2, 1) := by decide +kernel
theorem d_M_fileAfter_2 : decode b_M_fileAfter 2 = .ok (.iconst 0, 1) := by decide +kernel
theorem d_M_fileAfter_3 : decode b_M_fileAfter 3 = .ok (.istore_n 3, 1) := by decide +kernel
theorem d_M_fileAfter_4 : decode b_M_fileAfter 4 = .ok (.iload_n 3, 1) := by decide +kernel
theorem d_M_fileAfter_5 : decode b_M_fileAfter 5 = .ok (.bipush 40, 2) := by decide +kernel
theorem d_M_fileAfter_7 : decode b_M_fileAfter 7 = .ok (.if_icmp .ge 72, 3) := by decide +kernel
theorem d_M_fileAfter_10 : decode b_M_fileAfter 10 = .ok (.aload_n 0, 1) := by decide +kernel
theorem d_M_fileAfter_11 : decode b_M_fileAfter 11 = .ok (.getfield 17, 3) := by decide +kernel
theorem d_M_fileAfter_14 : decode b_M_fileAfter 14 = .ok (.iload_n 3, 1) := by decide +kernel
theorem d_M_fileAfter_15 : decode b_M_fileAfter 15 = .ok (.iaload, 1) := by decide +kernel
theorem d_M_fileAfter_16 : decode b_M_fileAfter 16 = .ok (.iconst 2, 1) := by decide +kernel
theorem d_M_fileAfter_17 : decode b_M_fileAfter 17 = .ok (.if_icmp .eq 13, 3) := by decide +kernel
theorem d_M_fileAfter_20 : decode b_M_fileAfter 20 = .ok (.aload_n 0, 1) := by decide +kernel
theorem d_M_fileAfter_21 : decode b_M_fileAfter 21 = .ok (.getfield 17, 3) := by decide +kernel
theorem d_M_fileAfter_24 : decode b_M_fileAfter 24 = .ok (.iload_n 3, 1) := by decide +kernel
theorem d_M_fileAfter_25 : decode b_M_fileAfter 25 = .ok (.iaload, 1) := by decide +kernel
theorem d_M_fileAfter_26 : decode b_M_fileAfter 26 = .ok (.iconst 4, 1) := by decide +kernel
theorem d_M_fileAfter_27 : decode b_M_fileAfter 27 = .ok (.if_icmp .ne 7, 3) := by decide +kernel
theorem d_M_fileAfter_30 : decode b_M_fileAfter 30 = .ok (.iconst 1, 1) := by decide +kernel
theorem d_M_fileAfter_31 : decode b_M_fileAfter 31 = .ok (.goto 4, 3) := by decide +kernel
theorem d_M_fileAfter_34 : decode b_M_fileAfter 34 = .ok (.iconst 0, 1) := by decide +kernel
theorem d_M_fileAfter_35 : decode b_M_fileAfter 35 = .ok (.istore 4, 2) := by decide +kernel
theorem d_M_fileAfter_37 : decode b_M_fileAfter 37 = .ok (.iload 4, 2) := by decide +kernel
theorem d_M_fileAfter_39 : decode b_M_fileAfter 39 = .ok (.ifCond .eq 34, 3) := by decide +kernel
theorem d_M_fileAfter_42 : decode b_M_fileAfter 42 = .ok (.aload_n 0, 1) := by decide +kernel
theorem d_M_fileAfter_43 : decode b_M_fileAfter 43 = .ok (.getfield 21, 3) := by decide +kernel
theorem d_M_fileAfter_46 : decode b_M_fileAfter 46 = .ok (.iload_n 3, 1) := by decide +kernel
theorem d_M_fileAfter_47 : decode b_M_fileAfter 47 = .ok (.iaload, 1) := by decide +kernel
theorem d_M_fileAfter_48 : decode b_M_fileAfter 48 = .ok (.iload_n 1, 1) := by decide +kernel
theorem d_M_fileAfter_49 : decode b_M_fileAfter 49 = .ok (.if_icmp .le 24, 3) := by decide +kernel
theorem d_M_fileAfter_52 : decode b_M_fileAfter 52 = .ok (.iload_n 2, 1) := by decide +kernel
theorem d_M_fileAfter_53 : decode b_M_fileAfter 53 = .ok (.ifCond .lt 18, 3) := by decide +kernel
theorem d_M_fileAfter_56 : decode b_M_fileAfter 56 = .ok (.aload_n 0, 1) := by decide +kernel
theorem d_M_fileAfter_57 : decode b_M_fileAfter 57 = .ok (.getfield 21, 3) := by decide +kernel
theorem d_M_fileAfter_60 : decode b_M_fileAfter 60 = .ok (.iload_n 3, 1) := by decide +kernel
theorem d_M_fileAfter_61 : decode b_M_fileAfter 61 = .ok (.iaload, 1) := by decide +kernel
theorem d_M_fileAfter_62 : decode b_M_fileAfter 62 = .ok (.aload_n 0, 1) := by decide +kernel
theorem d_M_fileAfter_63 : decode b_M_fileAfter 63 = .ok (.getfield 21, 3) := by decide +kernel
theorem d_M_fileAfter_66 : decode b_M_fileAfter 66 = .ok (.iload_n 2, 1) := by decide +kernel
theorem d_M_fileAfter_67 : decode b_M_fileAfter 67 = .ok (.iaload, 1) := by decide +kernel
theorem d_M_fileAfter_68 : decode b_M_fileAfter 68 = .ok (.if_icmp .ge 5, 3) := by decide +kernel
theorem d_M_fileAfter_71 : decode b_M_fileAfter 71 = .ok (.iload_n 3, 1) := by decide +kernel
theorem d_M_fileAfter_72 : decode b_M_fileAfter 72 = .ok (.istore_n 2, 1) := by decide +kernel
theorem d_M_fileAfter_73 : decode b_M_fileAfter 73 = .ok (.iinc 3 1, 3) := by decide +kernel
theorem d_M_fileAfter_76 : decode b_M_fileAfter 76 = .ok (.goto (-72), 3) := by decide +kernel
theorem d_M_fileAfter_79 : decode b_M_fileAfter 79 = .ok (.iload_n 2, 1) := by decide +kernel
theorem d_M_fileAfter_80 : decode b_M_fileAfter 80 = .ok (.ireturn, 1) := by decide +kernel
theorem d_M_told_0 : decode b_M_told 0 = .ok (.iconst 1, 1) := by decide +kernel
theorem d_M_told_1 : decode b_M_told 1 = .ok (.istore 4, 2) := by decide +kernel
theorem d_M_told_3 : decode b_M_told 3 = .ok (.iload_n 2, 1) := by decide +kernel
theorem d_M_told_4 : decode b_M_told 4 = .ok (.iload 4, 2) := by decide +kernel
theorem d_M_told_6 : decode b_M_told 6 = .ok (.iadd, 1) := by decide +kernel
theorem d_M_told_7 : decode b_M_told 7 = .ok (.aload_n 0, 1) := by decide +kernel
theorem d_M_told_8 : decode b_M_told 8 = .ok (.getfield 40, 3) := by decide +kernel
theorem d_M_told_11 : decode b_M_told 11 = .ok (.iload_n 1, 1) := by decide +kernel
theorem d_M_told_12 : decode b_M_told 12 = .ok (.iaload, 1) := by decide +kernel
theorem d_M_told_13 : decode b_M_told 13 = .ok (.if_icmp .ge 21, 3) := by decide +kernel
theorem d_M_told_16 : decode b_M_told 16 = .ok (.aload_n 0, 1) := by decide +kernel
theorem d_M_told_17 : decode b_M_told 17 = .ok (.iload_n 1, 1) := by decide +kernel
theorem d_M_told_18 : decode b_M_told 18 = .ok (.iload_n 2, 1) := by decide +kernel
theorem d_M_told_19 : decode b_M_told 19 = .ok (.iload 4, 2) := by decide +kernel
theorem d_M_told_21 : decode b_M_told 21 = .ok (.iadd, 1) := by decide +kernel
theorem d_M_told_22 : decode b_M_told 22 = .ok (.invokevirtual 97, 3) := by decide +kernel
theorem d_M_told_25 : decode b_M_told 25 = .ok (.ifCond .ne 9, 3) := by decide +kernel
theorem d_M_told_28 : decode b_M_told 28 = .ok (.iinc 4 1, 3) := by decide +kernel
theorem d_M_told_31 : decode b_M_told 31 = .ok (.goto (-28), 3) := by decide +kernel
theorem d_M_told_34 : decode b_M_told 34 = .ok (.iload_n 3, 1) := by decide +kernel
theorem d_M_told_35 : decode b_M_told 35 = .ok (.ifCond .ne 12, 3) := by decide +kernel
theorem d_M_told_38 : decode b_M_told 38 = .ok (.aload_n 0, 1) := by decide +kernel
theorem d_M_told_39 : decode b_M_told 39 = .ok (.getfield 21, 3) := by decide +kernel
theorem d_M_told_42 : decode b_M_told 42 = .ok (.iload_n 1, 1) := by decide +kernel
theorem d_M_told_43 : decode b_M_told 43 = .ok (.iaload, 1) := by decide +kernel
theorem d_M_told_44 : decode b_M_told 44 = .ok (.goto 33, 3) := by decide +kernel
theorem d_M_told_47 : decode b_M_told 47 = .ok (.iload_n 3, 1) := by decide +kernel
theorem d_M_told_48 : decode b_M_told 48 = .ok (.iconst 1, 1) := by decide +kernel
theorem d_M_told_49 : decode b_M_told 49 = .ok (.if_icmp .ne 7, 3) := by decide +kernel
theorem d_M_told_52 : decode b_M_told 52 = .ok (.iload_n 2, 1) := by decide +kernel
theorem d_M_told_53 : decode b_M_told 53 = .ok (.goto 24, 3) := by decide +kernel
theorem d_M_told_56 : decode b_M_told 56 = .ok (.iload_n 3, 1) := by decide +kernel
theorem d_M_told_57 : decode b_M_told 57 = .ok (.iconst 2, 1) := by decide +kernel
theorem d_M_told_58 : decode b_M_told 58 = .ok (.if_icmp .ne 17, 3) := by decide +kernel
theorem d_M_told_61 : decode b_M_told 61 = .ok (.aload_n 0, 1) := by decide +kernel
theorem d_M_told_62 : decode b_M_told 62 = .ok (.getfield 43, 3) := by decide +kernel
theorem d_M_told_65 : decode b_M_told 65 = .ok (.bipush 48, 2) := by decide +kernel
theorem d_M_told_67 : decode b_M_told 67 = .ok (.iload_n 1, 1) := by decide +kernel
theorem d_M_told_68 : decode b_M_told 68 = .ok (.imul, 1) := by decide +kernel
theorem d_M_told_69 : decode b_M_told 69 = .ok (.iload_n 2, 1) := by decide +kernel
theorem d_M_told_70 : decode b_M_told 70 = .ok (.iadd, 1) := by decide +kernel
theorem d_M_told_71 : decode b_M_told 71 = .ok (.iaload, 1) := by decide +kernel
theorem d_M_told_72 : decode b_M_told 72 = .ok (.goto 5, 3) := by decide +kernel
theorem d_M_told_75 : decode b_M_told 75 = .ok (.iload 4, 2) := by decide +kernel
theorem d_M_told_77 : decode b_M_told 77 = .ok (.ireturn, 1) := by decide +kernel
theorem d_M_unmount_0 : decode b_M_unmount 0 = .ok (.aload_n 0, 1) := by decide +kernel
theorem d_M_unmount_1 : decode b_M_unmount 1 = .ok (.getfield 7, 3) := by decide +kernel
theorem d_M_unmount_4 : decode b_M_unmount 4 = .ok (.istore_n 1, 1) := by decide +kernel
theorem d_M_unmount_5 : decode b_M_unmount 5 = .ok (.aload_n 0, 1) := by decide +kernel
theorem d_M_unmount_6 : decode b_M_unmount 6 = .ok (.iconst 0, 1) := by decide +kernel
theorem d_M_unmount_7 : decode b_M_unmount 7 = .ok (.putfield 7, 3) := by decide +kernel
theorem d_M_unmount_10 : decode b_M_unmount 10 = .ok (.iload_n 1, 1) := by decide +kernel
theorem d_M_unmount_11 : decode b_M_unmount 11 = .ok (.ireturn, 1) := by decide +kernel
theorem d_M_harm_0 : decode b_M_harm 0 = .ok (.aload_n 0, 1) := by decide +kernel
theorem d_M_harm_1 : decode b_M_harm 1 = .ok (.getfield 7, 3) := by decide +kernel
theorem d_M_harm_4 : decode b_M_harm 4 = .ok (.ifCond .ne 12, 3) := by decide +kernel
theorem d_M_harm_7 : decode b_M_harm 7 = .ok (.iload_n 1, 1) := by decide +kernel
theorem d_M_harm_8 : decode b_M_harm 8 = .ok (.ifCond .lt 8, 3) := by decide +kernel
theorem d_M_harm_11 : decode b_M_harm 11 = .ok (.iload_n 1, 1) := by decide +kernel
theorem d_M_harm_12 : decode b_M_harm 12 = .ok (.iconst 3, 1) := by decide +kernel
theorem d_M_harm_13 : decode b_M_harm 13 = .ok (.if_icmp .le 5, 3) := by decide +kernel
theorem d_M_harm_16 : decode b_M_harm 16 = .ok (.iconst 0, 1) := by decide +kernel
theorem d_M_harm_17 : decode b_M_harm 17 = .ok (.ireturn, 1) := by decide +kernel
theorem d_M_harm_18 : decode b_M_harm 18 = .ok (.aload_n 0, 1) := by decide +kernel
theorem d_M_harm_19 : decode b_M_harm 19 = .ok (.iload_n 2, 1) := by decide +kernel
theorem d_M_harm_20 : decode b_M_harm 20 = .ok (.invokevirtual 49, 3) := by decide +kernel
theorem d_M_harm_23 : decode b_M_harm 23 = .ok (.istore_n 3, 1) := by decide +kernel
theorem d_M_harm_24 : decode b_M_harm 24 = .ok (.iload_n 1, 1) := by decide +kernel
theorem d_M_harm_25 : decode b_M_harm 25 = .ok (.ifCond .ne 48, 3) := by decide +kernel
theorem d_M_harm_28 : decode b_M_harm 28 = .ok (.iload_n 2, 1) := by decide +kernel
theorem d_M_harm_29 : decode b_M_harm 29 = .ok (.iconst 2, 1) := by decide +kernel
theorem d_M_harm_30 : decode b_M_harm 30 = .ok (.if_icmp .ne 15, 3) := by decide +kernel
theorem d_M_harm_33 : decode b_M_harm 33 = .ok (.aload_n 0, 1) := by decide +kernel
theorem d_M_harm_34 : decode b_M_harm 34 = .ok (.dup, 1) := by decide +kernel
theorem d_M_harm_35 : decode b_M_harm 35 = .ok (.getfield 103, 3) := by decide +kernel
theorem d_M_harm_38 : decode b_M_harm 38 = .ok (.iconst 1, 1) := by decide +kernel
theorem d_M_harm_39 : decode b_M_harm 39 = .ok (.iadd, 1) := by decide +kernel
theorem d_M_harm_40 : decode b_M_harm 40 = .ok (.putfield 103, 3) := by decide +kernel
theorem d_M_harm_43 : decode b_M_harm 43 = .ok (.iconst 1, 1) := by decide +kernel
theorem d_M_harm_44 : decode b_M_harm 44 = .ok (.ireturn, 1) := by decide +kernel
theorem d_M_harm_45 : decode b_M_harm 45 = .ok (.iload_n 3, 1) := by decide +kernel
theorem d_M_harm_46 : decode b_M_harm 46 = .ok (.ifCond .lt 13, 3) := by decide +kernel
theorem d_M_harm_49 : decode b_M_harm 49 = .ok (.aload_n 0, 1) := by decide +kernel
theorem d_M_harm_50 : decode b_M_harm 50 = .ok (.getfield 17, 3) := by decide +kernel
theorem d_M_harm_53 : decode b_M_harm 53 = .ok (.iload_n 3, 1) := by decide +kernel
theorem d_M_harm_54 : decode b_M_harm 54 = .ok (.iaload, 1) := by decide +kernel
theorem d_M_harm_55 : decode b_M_harm 55 = .ok (.iconst 1, 1) := by decide +kernel
theorem d_M_harm_56 : decode b_M_harm 56 = .ok (.if_icmp .eq 5, 3) := by decide +kernel
theorem d_M_harm_59 : decode b_M_harm 59 = .ok (.iconst 0, 1) := by decide +kernel
theorem d_M_harm_60 : decode b_M_harm 60 = .ok (.ireturn, 1) := by decide +kernel
theorem d_M_harm_61 : decode b_M_harm 61 = .ok (.aload_n 0, 1) := by decide +kernel
theorem d_M_harm_62 : decode b_M_harm 62 = .ok (.getfield 33, 3) := by decide +kernel
theorem d_M_harm_65 : decode b_M_harm 65 = .ok (.iload_n 3, 1) := by decide +kernel
theorem d_M_harm_66 : decode b_M_harm 66 = .ok (.dup2, 1) := by decide +kernel
theorem d_M_harm_67 : decode b_M_harm 67 = .ok (.iaload, 1) := by decide +kernel
theorem d_M_harm_68 : decode b_M_harm 68 = .ok (.iconst 1, 1) := by decide +kernel
theorem d_M_harm_69 : decode b_M_harm 69 = .ok (.iadd, 1) := by decide +kernel
theorem d_M_harm_70 : decode b_M_harm 70 = .ok (.iastore, 1) := by decide +kernel
theorem d_M_harm_71 : decode b_M_harm 71 = .ok (.iconst 1, 1) := by decide +kernel
theorem d_M_harm_72 : decode b_M_harm 72 = .ok (.ireturn, 1) := by decide +kernel
theorem d_M_harm_73 : decode b_M_harm 73 = .ok (.iload_n 1, 1) := by decide +kernel
theorem d_M_harm_74 : decode b_M_harm 74 = .ok (.iconst 1, 1) := by decide +kernel
theorem d_M_harm_75 : decode b_M_harm 75 = .ok (.if_icmp .ne 37, 3) := by decide +kernel
theorem d_M_harm_78 : decode b_M_harm 78 = .ok (.iload_n 2, 1) := by decide +kernel
theorem d_M_harm_79 : decode b_M_harm 79 = .ok (.ifCond .lt 9, 3) := by decide +kernel
theorem d_M_harm_82 : decode b_M_harm 82 = .ok (.iload_n 2, 1) := by decide +kernel
theorem d_M_harm_83 : decode b_M_harm 83 = .ok (.bipush 47, 2) := by decide +kernel
theorem d_M_harm_85 : decode b_M_harm 85 = .ok (.if_icmp .le 5, 3) := by decide +kernel
theorem d_M_harm_88 : decode b_M_harm 88 = .ok (.iconst 0, 1) := by decide +kernel
theorem d_M_harm_89 : decode b_M_harm 89 = .ok (.ireturn, 1) := by decide +kernel
theorem d_M_harm_90 : decode b_M_harm 90 = .ok (.aload_n 0, 1) := by decide +kernel
theorem d_M_harm_91 : decode b_M_harm 91 = .ok (.getfield 46, 3) := by decide +kernel
theorem d_M_harm_94 : decode b_M_harm 94 = .ok (.iload_n 2, 1) := by decide +kernel
theorem d_M_harm_95 : decode b_M_harm 95 = .ok (.aload_n 0, 1) := by decide +kernel
theorem d_M_harm_96 : decode b_M_harm 96 = .ok (.getfield 46, 3) := by decide +kernel
theorem d_M_harm_99 : decode b_M_harm 99 = .ok (.iload_n 2, 1) := by decide +kernel
theorem d_M_harm_100 : decode b_M_harm 100 = .ok (.baload, 1) := by decide +kernel
theorem d_M_harm_101 : decode b_M_harm 101 = .ok (.ifCond .ne 7, 3) := by decide +kernel
theorem d_M_harm_104 : decode b_M_harm 104 = .ok (.iconst 1, 1) := by decide +kernel
theorem d_M_harm_105 : decode b_M_harm 105 = .ok (.goto 4, 3) := by decide +kernel
theorem d_M_harm_108 : decode b_M_harm 108 = .ok (.iconst 0, 1) := by decide +kernel
theorem d_M_harm_109 : decode b_M_harm 109 = .ok (.bastore, 1) := by decide +kernel
theorem d_M_harm_110 : decode b_M_harm 110 = .ok (.iconst 1, 1) := by decide +kernel
theorem d_M_harm_111 : decode b_M_harm 111 = .ok (.ireturn, 1) := by decide +kernel
theorem d_M_harm_112 : decode b_M_harm 112 = .ok (.iload_n 1, 1) := by decide +kernel
theorem d_M_harm_113 : decode b_M_harm 113 = .ok (.iconst 2, 1) := by decide +kernel
theorem d_M_harm_114 : decode b_M_harm 114 = .ok (.if_icmp .ne 38, 3) := by decide +kernel
theorem d_M_harm_117 : decode b_M_harm 117 = .ok (.iload_n 3, 1) := by decide +kernel
theorem d_M_harm_118 : decode b_M_harm 118 = .ok (.ifCond .lt 16, 3) := by decide +kernel
theorem d_M_harm_121 : decode b_M_harm 121 = .ok (.aload_n 0, 1) := by decide +kernel
theorem d_M_harm_122 : decode b_M_harm 122 = .ok (.getfield 36, 3) := by decide +kernel
theorem d_M_harm_125 : decode b_M_harm 125 = .ok (.iload_n 3, 1) := by decide +kernel
theorem d_M_harm_126 : decode b_M_harm 126 = .ok (.baload, 1) := by decide +kernel
theorem d_M_harm_127 : decode b_M_harm 127 = .ok (.ifCond .ne 7, 3) := by decide +kernel
theorem d_M_harm_130 : decode b_M_harm 130 = .ok (.iconst 1, 1) := by decide +kernel
theorem d_M_harm_131 : decode b_M_harm 131 = .ok (.goto 4, 3) := by decide +kernel
theorem d_M_harm_134 : decode b_M_harm 134 = .ok (.iconst 0, 1) := by decide +kernel
theorem d_M_harm_135 : decode b_M_harm 135 = .ok (.istore 4, 2) := by decide +kernel
theorem d_M_harm_137 : decode b_M_harm 137 = .ok (.iload 4, 2) := by decide +kernel
theorem d_M_harm_139 : decode b_M_harm 139 = .ok (.ifCond .eq 10, 3) := by decide +kernel
theorem d_M_harm_142 : decode b_M_harm 142 = .ok (.aload_n 0, 1) := by decide +kernel
theorem d_M_harm_143 : decode b_M_harm 143 = .ok (.getfield 36, 3) := by decide +kernel
theorem d_M_harm_146 : decode b_M_harm 146 = .ok (.iload_n 3, 1) := by decide +kernel
theorem d_M_harm_147 : decode b_M_harm 147 = .ok (.iconst 1, 1) := by decide +kernel
theorem d_M_harm_148 : decode b_M_harm 148 = .ok (.bastore, 1) := by decide +kernel
theorem d_M_harm_149 : decode b_M_harm 149 = .ok (.iload 4, 2) := by decide +kernel
theorem d_M_harm_151 : decode b_M_harm 151 = .ok (.ireturn, 1) := by decide +kernel
theorem d_M_harm_152 : decode b_M_harm 152 = .ok (.iload_n 3, 1) := by decide +kernel
theorem d_M_harm_153 : decode b_M_harm 153 = .ok (.ifCond .lt 13, 3) := by decide +kernel
theorem d_M_harm_156 : decode b_M_harm 156 = .ok (.aload_n 0, 1) := by decide +kernel
theorem d_M_harm_157 : decode b_M_harm 157 = .ok (.getfield 17, 3) := by decide +kernel
theorem d_M_harm_160 : decode b_M_harm 160 = .ok (.iload_n 3, 1) := by decide +kernel
theorem d_M_harm_161 : decode b_M_harm 161 = .ok (.iaload, 1) := by decide +kernel
theorem d_M_harm_162 : decode b_M_harm 162 = .ok (.iconst 4, 1) := by decide +kernel
theorem d_M_harm_163 : decode b_M_harm 163 = .ok (.if_icmp .eq 5, 3) := by decide +kernel
theorem d_M_harm_166 : decode b_M_harm 166 = .ok (.iconst 0, 1) := by decide +kernel
theorem d_M_harm_167 : decode b_M_harm 167 = .ok (.ireturn, 1) := by decide +kernel
theorem d_M_harm_168 : decode b_M_harm 168 = .ok (.aload_n 0, 1) := by decide +kernel
theorem d_M_harm_169 : decode b_M_harm 169 = .ok (.getfield 33, 3) := by decide +kernel
theorem d_M_harm_172 : decode b_M_harm 172 = .ok (.iload_n 3, 1) := by decide +kernel
theorem d_M_harm_173 : decode b_M_harm 173 = .ok (.dup2, 1) := by decide +kernel
theorem d_M_harm_174 : decode b_M_harm 174 = .ok (.iaload, 1) := by decide +kernel
theorem d_M_harm_175 : decode b_M_harm 175 = .ok (.iconst 1, 1) := by decide +kernel
theorem d_M_harm_176 : decode b_M_harm 176 = .ok (.iadd, 1) := by decide +kernel
theorem d_M_harm_177 : decode b_M_harm 177 = .ok (.iastore, 1) := by decide +kernel
theorem d_M_harm_178 : decode b_M_harm 178 = .ok (.iconst 1, 1) := by decide +kernel
theorem d_M_harm_179 : decode b_M_harm 179 = .ok (.ireturn, 1) := by decide +kernel
theorem d_M_check_0 : decode b_M_check 0 = .ok (.aload_n 0, 1) := by decide +kernel
theorem d_M_check_1 : decode b_M_check 1 = .ok (.getfield 103, 3) := by decide +kernel
theorem d_M_check_4 : decode b_M_check 4 = .ok (.ifCond .le 7, 3) := by decide +kernel
theorem d_M_check_7 : decode b_M_check 7 = .ok (.iconst 1, 1) := by decide +kernel
theorem d_M_check_8 : decode b_M_check 8 = .ok (.goto 4, 3) := by decide +kernel
theorem d_M_check_11 : decode b_M_check 11 = .ok (.iconst 0, 1) := by decide +kernel
theorem d_M_check_12 : decode b_M_check 12 = .ok (.istore_n 1, 1) := by decide +kernel
theorem d_M_check_13 : decode b_M_check 13 = .ok (.iconst 0, 1) := by decide +kernel
theorem d_M_check_14 : decode b_M_check 14 = .ok (.istore_n 2, 1) := by decide +kernel
theorem d_M_check_15 : decode b_M_check 15 = .ok (.iconst 0, 1) := by decide +kernel
theorem d_M_check_16 : decode b_M_check 16 = .ok (.istore_n 3, 1) := by decide +kernel
theorem d_M_check_17 : decode b_M_check 17 = .ok (.iconst 0, 1) := by decide +kernel
theorem d_M_check_18 : decode b_M_check 18 = .ok (.istore 4, 2) := by decide +kernel
theorem d_M_check_20 : decode b_M_check 20 = .ok (.iconst 0, 1) := by decide +kernel
theorem d_M_check_21 : decode b_M_check 21 = .ok (.istore 5, 2) := by decide +kernel
theorem d_M_check_23 : decode b_M_check 23 = .ok (.iload 5, 2) := by decide +kernel
theorem d_M_check_25 : decode b_M_check 25 = .ok (.bipush 40, 2) := by decide +kernel
theorem d_M_check_27 : decode b_M_check 27 = .ok (.if_icmp .ge 91, 3) := by decide +kernel
theorem d_M_check_30 : decode b_M_check 30 = .ok (.aload_n 0, 1) := by decide +kernel
theorem d_M_check_31 : decode b_M_check 31 = .ok (.getfield 17, 3) := by decide +kernel
theorem d_M_check_34 : decode b_M_check 34 = .ok (.iload 5, 2) := by decide +kernel
theorem d_M_check_36 : decode b_M_check 36 = .ok (.iaload, 1) := by decide +kernel
theorem d_M_check_37 : decode b_M_check 37 = .ok (.iconst 1, 1) := by decide +kernel
theorem d_M_check_38 : decode b_M_check 38 = .ok (.if_icmp .ne 17, 3) := by decide +kernel
theorem d_M_check_41 : decode b_M_check 41 = .ok (.aload_n 0, 1) := by decide +kernel
theorem d_M_check_42 : decode b_M_check 42 = .ok (.getfield 33, 3) := by decide +kernel
theorem d_M_check_45 : decode b_M_check 45 = .ok (.iload 5, 2) := by decide +kernel
theorem d_M_check_47 : decode b_M_check 47 = .ok (.iaload, 1) := by decide +kernel
theorem d_M_check_48 : decode b_M_check 48 = .ok (.ifCond .le 7, 3) := by decide +kernel
theorem d_M_check_51 : decode b_M_check 51 = .ok (.iconst 1, 1) := by decide +kernel
theorem d_M_check_52 : decode b_M_check 52 = .ok (.goto 4, 3) := by decide +kernel
theorem d_M_check_55 : decode b_M_check 55 = .ok (.iload_n 1, 1) := by decide +kernel
theorem d_M_check_56 : decode b_M_check 56 = .ok (.istore_n 1, 1) := by decide +kernel
theorem d_M_check_57 : decode b_M_check 57 = .ok (.aload_n 0, 1) := by decide +kernel
theorem d_M_check_58 : decode b_M_check 58 = .ok (.getfield 17, 3) := by decide +kernel
theorem d_M_check_61 : decode b_M_check 61 = .ok (.iload 5, 2) := by decide +kernel
theorem d_M_check_63 : decode b_M_check 63 = .ok (.iaload, 1) := by decide +kernel
theorem d_M_check_64 : decode b_M_check 64 = .ok (.iconst 4, 1) := by decide +kernel
theorem d_M_check_65 : decode b_M_check 65 = .ok (.if_icmp .ne 18, 3) := by decide +kernel
theorem d_M_check_68 : decode b_M_check 68 = .ok (.aload_n 0, 1) := by decide +kernel
theorem d_M_check_69 : decode b_M_check 69 = .ok (.getfield 33, 3) := by decide +kernel
theorem d_M_check_72 : decode b_M_check 72 = .ok (.iload 5, 2) := by decide +kernel
theorem d_M_check_74 : decode b_M_check 74 = .ok (.iaload, 1) := by decide +kernel
theorem d_M_check_75 : decode b_M_check 75 = .ok (.ifCond .le 8, 3) := by decide +kernel
theorem d_M_check_78 : decode b_M_check 78 = .ok (.bipush 16, 2) := by decide +kernel
theorem d_M_check_80 : decode b_M_check 80 = .ok (.goto 4, 3) := by decide +kernel
theorem d_M_check_83 : decode b_M_check 83 = .ok (.iload_n 3, 1) := by decide +kernel
theorem d_M_check_84 : decode b_M_check 84 = .ok (.istore_n 3, 1) := by decide +kernel
theorem d_M_check_85 : decode b_M_check 85 = .ok (.aload_n 0, 1) := by decide +kernel
theorem d_M_check_86 : decode b_M_check 86 = .ok (.getfield 17, 3) := by decide +kernel
theorem d_M_check_89 : decode b_M_check 89 = .ok (.iload 5, 2) := by decide +kernel
theorem d_M_check_91 : decode b_M_check 91 = .ok (.iaload, 1) := by decide +kernel
theorem d_M_check_92 : decode b_M_check 92 = .ok (.ifCond .eq 18, 3) := by decide +kernel
theorem d_M_check_95 : decode b_M_check 95 = .ok (.aload_n 0, 1) := by decide +kernel
theorem d_M_check_96 : decode b_M_check 96 = .ok (.getfield 36, 3) := by decide +kernel
theorem d_M_check_99 : decode b_M_check 99 = .ok (.iload 5, 2) := by decide +kernel
theorem d_M_check_101 : decode b_M_check 101 = .ok (.baload, 1) := by decide +kernel
theorem d_M_check_102 : decode b_M_check 102 = .ok (.ifCond .eq 8, 3) := by decide +kernel
theorem d_M_check_105 : decode b_M_check 105 = .ok (.bipush 8, 2) := by decide +kernel
theorem d_M_check_107 : decode b_M_check 107 = .ok (.goto 4, 3) := by decide +kernel
theorem d_M_check_110 : decode b_M_check 110 = .ok (.iload_n 2, 1) := by decide +kernel
theorem d_M_check_111 : decode b_M_check 111 = .ok (.istore_n 2, 1) := by decide +kernel
theorem d_M_check_112 : decode b_M_check 112 = .ok (.iinc 5 1, 3) := by decide +kernel
theorem d_M_check_115 : decode b_M_check 115 = .ok (.goto (-92), 3) := by decide +kernel
theorem d_M_check_118 : decode b_M_check 118 = .ok (.iconst 0, 1) := by decide +kernel
theorem d_M_check_119 : decode b_M_check 119 = .ok (.istore 5, 2) := by decide +kernel
theorem d_M_check_121 : decode b_M_check 121 = .ok (.iload 5, 2) := by decide +kernel
theorem d_M_check_123 : decode b_M_check 123 = .ok (.bipush 48, 2) := by decide +kernel
theorem d_M_check_125 : decode b_M_check 125 = .ok (.if_icmp .ge 46, 3) := by decide +kernel
theorem d_M_check_128 : decode b_M_check 128 = .ok (.aload_n 0, 1) := by decide +kernel
theorem d_M_check_129 : decode b_M_check 129 = .ok (.getfield 46, 3) := by decide +kernel
theorem d_M_check_132 : decode b_M_check 132 = .ok (.iload 5, 2) := by decide +kernel
theorem d_M_check_134 : decode b_M_check 134 = .ok (.baload, 1) := by decide +kernel
theorem d_M_check_135 : decode b_M_check 135 = .ok (.ifCond .ne 7, 3) := by decide +kernel
theorem d_M_check_138 : decode b_M_check 138 = .ok (.iconst 0, 1) := by decide +kernel
theorem d_M_check_139 : decode b_M_check 139 = .ok (.goto 17, 3) := by decide +kernel
theorem d_M_check_142 : decode b_M_check 142 = .ok (.aload_n 0, 1) := by decide +kernel
theorem d_M_check_143 : decode b_M_check 143 = .ok (.iload 5, 2) := by decide +kernel
theorem d_M_check_145 : decode b_M_check 145 = .ok (.invokevirtual 82, 3) := by decide +kernel
theorem d_M_check_148 : decode b_M_check 148 = .ok (.ifCond .eq 7, 3) := by decide +kernel
theorem d_M_check_151 : decode b_M_check 151 = .ok (.iconst 2, 1) := by decide +kernel
theorem d_M_check_152 : decode b_M_check 152 = .ok (.goto 4, 3) := by decide +kernel
theorem d_M_check_155 : decode b_M_check 155 = .ok (.iconst 4, 1) := by decide +kernel
theorem d_M_check_156 : decode b_M_check 156 = .ok (.istore 6, 2) := by decide +kernel
theorem d_M_check_158 : decode b_M_check 158 = .ok (.iload 4, 2) := by decide +kernel
theorem d_M_check_160 : decode b_M_check 160 = .ok (.iload 6, 2) := by decide +kernel
theorem d_M_check_162 : decode b_M_check 162 = .ok (.ior, 1) := by decide +kernel
theorem d_M_check_163 : decode b_M_check 163 = .ok (.istore 4, 2) := by decide +kernel
theorem d_M_check_165 : decode b_M_check 165 = .ok (.iinc 5 1, 3) := by decide +kernel
theorem d_M_check_168 : decode b_M_check 168 = .ok (.goto (-47), 3) := by decide +kernel
theorem d_M_check_171 : decode b_M_check 171 = .ok (.iload_n 1, 1) := by decide +kernel
theorem d_M_check_172 : decode b_M_check 172 = .ok (.iload 4, 2) := by decide +kernel
theorem d_M_check_174 : decode b_M_check 174 = .ok (.iadd, 1) := by decide +kernel
theorem d_M_check_175 : decode b_M_check 175 = .ok (.iload_n 2, 1) := by decide +kernel
theorem d_M_check_176 : decode b_M_check 176 = .ok (.iadd, 1) := by decide +kernel
theorem d_M_check_177 : decode b_M_check 177 = .ok (.iload_n 3, 1) := by decide +kernel
theorem d_M_check_178 : decode b_M_check 178 = .ok (.iadd, 1) := by decide +kernel
theorem d_M_check_179 : decode b_M_check 179 = .ok (.ireturn, 1) := by decide +kernel
theorem d_M_mount_0 : decode b_M_mount 0 = .ok (.aload_n 0, 1) := by decide +kernel
theorem d_M_mount_1 : decode b_M_mount 1 = .ok (.getfield 7, 3) := by decide +kernel
theorem d_M_mount_4 : decode b_M_mount 4 = .ok (.ifCond .ne 10, 3) := by decide +kernel
theorem d_M_mount_7 : decode b_M_mount 7 = .ok (.aload_n 0, 1) := by decide +kernel
theorem d_M_mount_8 : decode b_M_mount 8 = .ok (.invokevirtual 137, 3) := by decide +kernel
theorem d_M_mount_11 : decode b_M_mount 11 = .ok (.ifCond .eq 5, 3) := by decide +kernel
theorem d_M_mount_14 : decode b_M_mount 14 = .ok (.iconst 0, 1) := by decide +kernel
theorem d_M_mount_15 : decode b_M_mount 15 = .ok (.ireturn, 1) := by decide +kernel
theorem d_M_mount_16 : decode b_M_mount 16 = .ok (.aload_n 0, 1) := by decide +kernel
theorem d_M_mount_17 : decode b_M_mount 17 = .ok (.iconst 1, 1) := by decide +kernel
theorem d_M_mount_18 : decode b_M_mount 18 = .ok (.putfield 7, 3) := by decide +kernel
theorem d_M_mount_21 : decode b_M_mount 21 = .ok (.iconst 1, 1) := by decide +kernel
theorem d_M_mount_22 : decode b_M_mount 22 = .ok (.ireturn, 1) := by decide +kernel
theorem d_M_mend_0 : decode b_M_mend 0 = .ok (.aload_n 0, 1) := by decide +kernel
theorem d_M_mend_1 : decode b_M_mend 1 = .ok (.getfield 7, 3) := by decide +kernel
theorem d_M_mend_4 : decode b_M_mend 4 = .ok (.ifCond .eq 5, 3) := by decide +kernel
theorem d_M_mend_7 : decode b_M_mend 7 = .ok (.iconst (-1), 1) := by decide +kernel
theorem d_M_mend_8 : decode b_M_mend 8 = .ok (.ireturn, 1) := by decide +kernel
theorem d_M_mend_9 : decode b_M_mend 9 = .ok (.aload_n 0, 1) := by decide +kernel
theorem d_M_mend_10 : decode b_M_mend 10 = .ok (.getfield 103, 3) := by decide +kernel
theorem d_M_mend_13 : decode b_M_mend 13 = .ok (.ifCond .le 7, 3) := by decide +kernel
theorem d_M_mend_16 : decode b_M_mend 16 = .ok (.iconst 1, 1) := by decide +kernel
theorem d_M_mend_17 : decode b_M_mend 17 = .ok (.goto 4, 3) := by decide +kernel
theorem d_M_mend_20 : decode b_M_mend 20 = .ok (.iconst 0, 1) := by decide +kernel
theorem d_M_mend_21 : decode b_M_mend 21 = .ok (.istore_n 1, 1) := by decide +kernel
theorem d_M_mend_22 : decode b_M_mend 22 = .ok (.aload_n 0, 1) := by decide +kernel
theorem d_M_mend_23 : decode b_M_mend 23 = .ok (.iconst 0, 1) := by decide +kernel
theorem d_M_mend_24 : decode b_M_mend 24 = .ok (.putfield 103, 3) := by decide +kernel
theorem d_M_mend_27 : decode b_M_mend 27 = .ok (.iconst 0, 1) := by decide +kernel
theorem d_M_mend_28 : decode b_M_mend 28 = .ok (.istore_n 2, 1) := by decide +kernel
theorem d_M_mend_29 : decode b_M_mend 29 = .ok (.iload_n 2, 1) := by decide +kernel
theorem d_M_mend_30 : decode b_M_mend 30 = .ok (.bipush 40, 2) := by decide +kernel
theorem d_M_mend_32 : decode b_M_mend 32 = .ok (.if_icmp .ge 66, 3) := by decide +kernel
theorem d_M_mend_35 : decode b_M_mend 35 = .ok (.aload_n 0, 1) := by decide +kernel
theorem d_M_mend_36 : decode b_M_mend 36 = .ok (.getfield 17, 3) := by decide +kernel
theorem d_M_mend_39 : decode b_M_mend 39 = .ok (.iload_n 2, 1) := by decide +kernel
theorem d_M_mend_40 : decode b_M_mend 40 = .ok (.iaload, 1) := by decide +kernel
theorem d_M_mend_41 : decode b_M_mend 41 = .ok (.ifCond .eq 51, 3) := by decide +kernel
theorem d_M_mend_44 : decode b_M_mend 44 = .ok (.aload_n 0, 1) := by decide +kernel
theorem d_M_mend_45 : decode b_M_mend 45 = .ok (.getfield 33, 3) := by decide +kernel
theorem d_M_mend_48 : decode b_M_mend 48 = .ok (.iload_n 2, 1) := by decide +kernel
theorem d_M_mend_49 : decode b_M_mend 49 = .ok (.iaload, 1) := by decide +kernel
theorem d_M_mend_50 : decode b_M_mend 50 = .ok (.ifCond .le 9, 3) := by decide +kernel
theorem d_M_mend_53 : decode b_M_mend 53 = .ok (.iload_n 1, 1) := by decide +kernel
theorem d_M_mend_54 : decode b_M_mend 54 = .ok (.iconst 1, 1) := by decide +kernel
theorem d_M_mend_55 : decode b_M_mend 55 = .ok (.iadd, 1) := by decide +kernel
theorem d_M_mend_56 : decode b_M_mend 56 = .ok (.goto 4, 3) := by decide +kernel
theorem d_M_mend_59 : decode b_M_mend 59 = .ok (.iload_n 1, 1) := by decide +kernel
theorem d_M_mend_60 : decode b_M_mend 60 = .ok (.istore_n 1, 1) := by decide +kernel
theorem d_M_mend_61 : decode b_M_mend 61 = .ok (.aload_n 0, 1) := by decide +kernel
theorem d_M_mend_62 : decode b_M_mend 62 = .ok (.getfield 36, 3) := by decide +kernel
theorem d_M_mend_65 : decode b_M_mend 65 = .ok (.iload_n 2, 1) := by decide +kernel
theorem d_M_mend_66 : decode b_M_mend 66 = .ok (.baload, 1) := by decide +kernel
theorem d_M_mend_67 : decode b_M_mend 67 = .ok (.ifCond .eq 9, 3) := by decide +kernel
theorem d_M_mend_70 : decode b_M_mend 70 = .ok (.iload_n 1, 1) := by decide +kernel
theorem d_M_mend_71 : decode b_M_mend 71 = .ok (.iconst 1, 1) := by decide +kernel
theorem d_M_mend_72 : decode b_M_mend 72 = .ok (.iadd, 1) := by decide +kernel
theorem d_M_mend_73 : decode b_M_mend 73 = .ok (.goto 4, 3) := by decide +kernel
theorem d_M_mend_76 : decode b_M_mend 76 = .ok (.iload_n 1, 1) := by decide +kernel
theorem d_M_mend_77 : decode b_M_mend 77 = .ok (.istore_n 1, 1) := by decide +kernel
theorem d_M_mend_78 : decode b_M_mend 78 = .ok (.aload_n 0, 1) := by decide +kernel
theorem d_M_mend_79 : decode b_M_mend 79 = .ok (.getfield 33, 3) := by decide +kernel
theorem d_M_mend_82 : decode b_M_mend 82 = .ok (.iload_n 2, 1) := by decide +kernel
theorem d_M_mend_83 : decode b_M_mend 83 = .ok (.iconst 0, 1) := by decide +kernel
theorem d_M_mend_84 : decode b_M_mend 84 = .ok (.iastore, 1) := by decide +kernel
theorem d_M_mend_85 : decode b_M_mend 85 = .ok (.aload_n 0, 1) := by decide +kernel
theorem d_M_mend_86 : decode b_M_mend 86 = .ok (.getfield 36, 3) := by decide +kernel
theorem d_M_mend_89 : decode b_M_mend 89 = .ok (.iload_n 2, 1) := by decide +kernel
theorem d_M_mend_90 : decode b_M_mend 90 = .ok (.iconst 0, 1) := by decide +kernel
theorem d_M_mend_91 : decode b_M_mend 91 = .ok (.bastore, 1) := by decide +kernel
theorem d_M_mend_92 : decode b_M_mend 92 = .ok (.iinc 2 1, 3) := by decide +kernel
theorem d_M_mend_95 : decode b_M_mend 95 = .ok (.goto (-66), 3) := by decide +kernel
theorem d_M_mend_98 : decode b_M_mend 98 = .ok (.iconst 0, 1) := by decide +kernel
theorem d_M_mend_99 : decode b_M_mend 99 = .ok (.istore_n 2, 1) := by decide +kernel
theorem d_M_mend_100 : decode b_M_mend 100 = .ok (.iload_n 2, 1) := by decide +kernel
theorem d_M_mend_101 : decode b_M_mend 101 = .ok (.bipush 48, 2) := by decide +kernel
theorem d_M_mend_103 : decode b_M_mend 103 = .ok (.if_icmp .ge 33, 3) := by decide +kernel
theorem d_M_mend_106 : decode b_M_mend 106 = .ok (.aload_n 0, 1) := by decide +kernel
theorem d_M_mend_107 : decode b_M_mend 107 = .ok (.getfield 46, 3) := by decide +kernel
theorem d_M_mend_110 : decode b_M_mend 110 = .ok (.iload_n 2, 1) := by decide +kernel
theorem d_M_mend_111 : decode b_M_mend 111 = .ok (.baload, 1) := by decide +kernel
theorem d_M_mend_112 : decode b_M_mend 112 = .ok (.ifCond .eq 9, 3) := by decide +kernel
theorem d_M_mend_115 : decode b_M_mend 115 = .ok (.iload_n 1, 1) := by decide +kernel
theorem d_M_mend_116 : decode b_M_mend 116 = .ok (.iconst 1, 1) := by decide +kernel
theorem d_M_mend_117 : decode b_M_mend 117 = .ok (.iadd, 1) := by decide +kernel
theorem d_M_mend_118 : decode b_M_mend 118 = .ok (.goto 4, 3) := by decide +kernel
theorem d_M_mend_121 : decode b_M_mend 121 = .ok (.iload_n 1, 1) := by decide +kernel
theorem d_M_mend_122 : decode b_M_mend 122 = .ok (.istore_n 1, 1) := by decide +kernel
theorem d_M_mend_123 : decode b_M_mend 123 = .ok (.aload_n 0, 1) := by decide +kernel
theorem d_M_mend_124 : decode b_M_mend 124 = .ok (.getfield 46, 3) := by decide +kernel
theorem d_M_mend_127 : decode b_M_mend 127 = .ok (.iload_n 2, 1) := by decide +kernel
theorem d_M_mend_128 : decode b_M_mend 128 = .ok (.iconst 0, 1) := by decide +kernel
theorem d_M_mend_129 : decode b_M_mend 129 = .ok (.bastore, 1) := by decide +kernel
theorem d_M_mend_130 : decode b_M_mend 130 = .ok (.iinc 2 1, 3) := by decide +kernel
theorem d_M_mend_133 : decode b_M_mend 133 = .ok (.goto (-33), 3) := by decide +kernel
theorem d_M_mend_136 : decode b_M_mend 136 = .ok (.iload_n 1, 1) := by decide +kernel
theorem d_M_mend_137 : decode b_M_mend 137 = .ok (.ireturn, 1) := by decide +kernel

