theorem d_V_init_0 : decode b_V_init 0 = .ok (.aload_n 0, 1) := by decide +kernel
theorem d_V_init_1 : decode b_V_init 1 = .ok (.invokespecial 1, 3) := by decide +kernel
theorem d_V_init_4 : decode b_V_init 4 = .ok (.aload_n 0, 1) := by decide +kernel
theorem d_V_init_5 : decode b_V_init 5 = .ok (.new 7, 3) := by decide +kernel
theorem d_V_init_8 : decode b_V_init 8 = .ok (.dup, 1) := by decide +kernel
theorem d_V_init_9 : decode b_V_init 9 = .ok (.iconst 2, 1) := by decide +kernel
theorem d_V_init_10 : decode b_V_init 10 = .ok (.iconst (-1), 1) := by decide +kernel
theorem d_V_init_11 : decode b_V_init 11 = .ok (.iconst (-1), 1) := by decide +kernel
theorem d_V_init_12 : decode b_V_init 12 = .ok (.invokespecial 11, 3) := by decide +kernel
theorem d_V_init_15 : decode b_V_init 15 = .ok (.putfield 14, 3) := by decide +kernel
theorem d_V_init_18 : decode b_V_init 18 = .ok (.aload_n 0, 1) := by decide +kernel
theorem d_V_init_19 : decode b_V_init 19 = .ok (.new 18, 3) := by decide +kernel
theorem d_V_init_22 : decode b_V_init 22 = .ok (.dup, 1) := by decide +kernel
theorem d_V_init_23 : decode b_V_init 23 = .ok (.invokespecial 20, 3) := by decide +kernel
theorem d_V_init_26 : decode b_V_init 26 = .ok (.putfield 21, 3) := by decide +kernel
theorem d_V_init_29 : decode b_V_init 29 = .ok (.aload_n 0, 1) := by decide +kernel
theorem d_V_init_30 : decode b_V_init 30 = .ok (.new 25, 3) := by decide +kernel
theorem d_V_init_33 : decode b_V_init 33 = .ok (.dup, 1) := by decide +kernel
theorem d_V_init_34 : decode b_V_init 34 = .ok (.invokespecial 27, 3) := by decide +kernel
theorem d_V_init_37 : decode b_V_init 37 = .ok (.putfield 28, 3) := by decide +kernel
theorem d_V_init_40 : decode b_V_init 40 = .ok (.aload_n 0, 1) := by decide +kernel
theorem d_V_init_41 : decode b_V_init 41 = .ok (.new 32, 3) := by decide +kernel
theorem d_V_init_44 : decode b_V_init 44 = .ok (.dup, 1) := by decide +kernel
theorem d_V_init_45 : decode b_V_init 45 = .ok (.invokespecial 34, 3) := by decide +kernel
theorem d_V_init_48 : decode b_V_init 48 = .ok (.putfield 35, 3) := by decide +kernel
theorem d_V_init_51 : decode b_V_init 51 = .ok (.aload_n 0, 1) := by decide +kernel
theorem d_V_init_52 : decode b_V_init 52 = .ok (.iconst 1, 1) := by decide +kernel
theorem d_V_init_53 : decode b_V_init 53 = .ok (.putfield 39, 3) := by decide +kernel
theorem d_V_init_56 : decode b_V_init 56 = .ok (.aload_n 0, 1) := by decide +kernel
theorem d_V_init_57 : decode b_V_init 57 = .ok (.bipush 16, 2) := by decide +kernel
theorem d_V_init_59 : decode b_V_init 59 = .ok (.putfield 43, 3) := by decide +kernel
theorem d_V_init_62 : decode b_V_init 62 = .ok (.return_, 1) := by decide +kernel
theorem d_V_make_0 : decode b_V_make 0 = .ok (.aload_n 0, 1) := by decide +kernel
theorem d_V_make_1 : decode b_V_make 1 = .ok (.getfield 39, 3) := by decide +kernel
theorem d_V_make_4 : decode b_V_make 4 = .ok (.ifCond .ne 5, 3) := by decide +kernel
theorem d_V_make_7 : decode b_V_make 7 = .ok (.iconst (-1), 1) := by decide +kernel
theorem d_V_make_8 : decode b_V_make 8 = .ok (.ireturn, 1) := by decide +kernel
theorem d_V_make_9 : decode b_V_make 9 = .ok (.iload_n 2, 1) := by decide +kernel
theorem d_V_make_10 : decode b_V_make 10 = .ok (.invokestatic 47, 3) := by decide +kernel
theorem d_V_make_13 : decode b_V_make 13 = .ok (.ifCond .ne 6, 3) := by decide +kernel
theorem d_V_make_16 : decode b_V_make 16 = .ok (.bipush (-2), 2) := by decide +kernel
theorem d_V_make_18 : decode b_V_make 18 = .ok (.ireturn, 1) := by decide +kernel
theorem d_V_make_19 : decode b_V_make 19 = .ok (.aload_n 0, 1) := by decide +kernel
theorem d_V_make_20 : decode b_V_make 20 = .ok (.iload_n 1, 1) := by decide +kernel
theorem d_V_make_21 : decode b_V_make 21 = .ok (.invokevirtual 51, 3) := by decide +kernel
theorem d_V_make_24 : decode b_V_make 24 = .ok (.astore 4, 2) := by decide +kernel
theorem d_V_make_26 : decode b_V_make 26 = .ok (.aload 4, 2) := by decide +kernel
theorem d_V_make_28 : decode b_V_make 28 = .ok (.ifnonnull 6, 3) := by decide +kernel
theorem d_V_make_31 : decode b_V_make 31 = .ok (.bipush (-3), 2) := by decide +kernel
theorem d_V_make_33 : decode b_V_make 33 = .ok (.ireturn, 1) := by decide +kernel
theorem d_V_make_34 : decode b_V_make 34 = .ok (.aload_n 0, 1) := by decide +kernel
theorem d_V_make_35 : decode b_V_make 35 = .ok (.iload_n 1, 1) := by decide +kernel
theorem d_V_make_36 : decode b_V_make 36 = .ok (.iload_n 2, 1) := by decide +kernel
theorem d_V_make_37 : decode b_V_make 37 = .ok (.invokevirtual 55, 3) := by decide +kernel
theorem d_V_make_40 : decode b_V_make 40 = .ok (.ifnull 6, 3) := by decide +kernel
theorem d_V_make_43 : decode b_V_make 43 = .ok (.bipush (-4), 2) := by decide +kernel
theorem d_V_make_45 : decode b_V_make 45 = .ok (.ireturn, 1) := by decide +kernel
theorem d_V_make_46 : decode b_V_make 46 = .ok (.aload_n 0, 1) := by decide +kernel
theorem d_V_make_47 : decode b_V_make 47 = .ok (.invokevirtual 59, 3) := by decide +kernel
theorem d_V_make_50 : decode b_V_make 50 = .ok (.bipush 20, 2) := by decide +kernel
theorem d_V_make_52 : decode b_V_make 52 = .ok (.if_icmp .lt 6, 3) := by decide +kernel
theorem d_V_make_55 : decode b_V_make 55 = .ok (.bipush (-5), 2) := by decide +kernel
theorem d_V_make_57 : decode b_V_make 57 = .ok (.ireturn, 1) := by decide +kernel
theorem d_V_make_58 : decode b_V_make 58 = .ok (.aload_n 0, 1) := by decide +kernel
theorem d_V_make_59 : decode b_V_make 59 = .ok (.invokevirtual 63, 3) := by decide +kernel
theorem d_V_make_62 : decode b_V_make 62 = .ok (.istore 5, 2) := by decide +kernel
theorem d_V_make_64 : decode b_V_make 64 = .ok (.aload_n 0, 1) := by decide +kernel
theorem d_V_make_65 : decode b_V_make 65 = .ok (.iload_n 3, 1) := by decide +kernel
theorem d_V_make_66 : decode b_V_make 66 = .ok (.ifCond .eq 17, 3) := by decide +kernel
theorem d_V_make_69 : decode b_V_make 69 = .ok (.new 7, 3) := by decide +kernel
theorem d_V_make_72 : decode b_V_make 72 = .ok (.dup, 1) := by decide +kernel
theorem d_V_make_73 : decode b_V_make 73 = .ok (.iload 5, 2) := by decide +kernel
theorem d_V_make_75 : decode b_V_make 75 = .ok (.iload_n 1, 1) := by decide +kernel
theorem d_V_make_76 : decode b_V_make 76 = .ok (.iload_n 2, 1) := by decide +kernel
theorem d_V_make_77 : decode b_V_make 77 = .ok (.invokespecial 11, 3) := by decide +kernel
theorem d_V_make_80 : decode b_V_make 80 = .ok (.goto 14, 3) := by decide +kernel
theorem d_V_make_83 : decode b_V_make 83 = .ok (.new 66, 3) := by decide +kernel
theorem d_V_make_86 : decode b_V_make 86 = .ok (.dup, 1) := by decide +kernel
theorem d_V_make_87 : decode b_V_make 87 = .ok (.iload 5, 2) := by decide +kernel
theorem d_V_make_89 : decode b_V_make 89 = .ok (.iload_n 1, 1) := by decide +kernel
theorem d_V_make_90 : decode b_V_make 90 = .ok (.iload_n 2, 1) := by decide +kernel
theorem d_V_make_91 : decode b_V_make 91 = .ok (.invokespecial 68, 3) := by decide +kernel
theorem d_V_make_94 : decode b_V_make 94 = .ok (.invokevirtual 69, 3) := by decide +kernel
theorem d_V_make_97 : decode b_V_make 97 = .ok (.aload 4, 2) := by decide +kernel
theorem d_V_make_99 : decode b_V_make 99 = .ok (.dup, 1) := by decide +kernel
theorem d_V_make_100 : decode b_V_make 100 = .ok (.getfield 73, 3) := by decide +kernel
theorem d_V_make_103 : decode b_V_make 103 = .ok (.iconst 1, 1) := by decide +kernel
theorem d_V_make_104 : decode b_V_make 104 = .ok (.iadd, 1) := by decide +kernel
theorem d_V_make_105 : decode b_V_make 105 = .ok (.putfield 73, 3) := by decide +kernel
theorem d_V_make_108 : decode b_V_make 108 = .ok (.iload 5, 2) := by decide +kernel
theorem d_V_make_110 : decode b_V_make 110 = .ok (.ireturn, 1) := by decide +kernel
theorem d_V_isName_0 : decode b_V_isName 0 = .ok (.iload_n 0, 1) := by decide +kernel
theorem d_V_isName_1 : decode b_V_isName 1 = .ok (.ifCond .lt 13, 3) := by decide +kernel
theorem d_V_isName_4 : decode b_V_isName 4 = .ok (.iload_n 0, 1) := by decide +kernel
theorem d_V_isName_5 : decode b_V_isName 5 = .ok (.bipush 100, 2) := by decide +kernel
theorem d_V_isName_7 : decode b_V_isName 7 = .ok (.if_icmp .ge 7, 3) := by decide +kernel
theorem d_V_isName_10 : decode b_V_isName 10 = .ok (.iconst 1, 1) := by decide +kernel
theorem d_V_isName_11 : decode b_V_isName 11 = .ok (.goto 4, 3) := by decide +kernel
theorem d_V_isName_14 : decode b_V_isName 14 = .ok (.iconst 0, 1) := by decide +kernel
theorem d_V_isName_15 : decode b_V_isName 15 = .ok (.ireturn, 1) := by decide +kernel
theorem d_V_folderOf_0 : decode b_V_folderOf 0 = .ok (.iload_n 1, 1) := by decide +kernel
theorem d_V_folderOf_1 : decode b_V_folderOf 1 = .ok (.iconst 2, 1) := by decide +kernel
theorem d_V_folderOf_2 : decode b_V_folderOf 2 = .ok (.if_icmp .ne 8, 3) := by decide +kernel
theorem d_V_folderOf_5 : decode b_V_folderOf 5 = .ok (.aload_n 0, 1) := by decide +kernel
theorem d_V_folderOf_6 : decode b_V_folderOf 6 = .ok (.getfield 14, 3) := by decide +kernel
theorem d_V_folderOf_9 : decode b_V_folderOf 9 = .ok (.areturn, 1) := by decide +kernel
theorem d_V_folderOf_10 : decode b_V_folderOf 10 = .ok (.aload_n 0, 1) := by decide +kernel
theorem d_V_folderOf_11 : decode b_V_folderOf 11 = .ok (.iload_n 1, 1) := by decide +kernel
theorem d_V_folderOf_12 : decode b_V_folderOf 12 = .ok (.invokevirtual 219, 3) := by decide +kernel
theorem d_V_folderOf_15 : decode b_V_folderOf 15 = .ok (.astore_n 2, 1) := by decide +kernel
theorem d_V_folderOf_16 : decode b_V_folderOf 16 = .ok (.aload_n 2, 1) := by decide +kernel
theorem d_V_folderOf_17 : decode b_V_folderOf 17 = .ok (.instanceof 7, 3) := by decide +kernel
theorem d_V_folderOf_20 : decode b_V_folderOf 20 = .ok (.ifCond .eq 12, 3) := by decide +kernel
theorem d_V_folderOf_23 : decode b_V_folderOf 23 = .ok (.aload_n 2, 1) := by decide +kernel
theorem d_V_folderOf_24 : decode b_V_folderOf 24 = .ok (.checkcast 7, 3) := by decide +kernel
theorem d_V_folderOf_27 : decode b_V_folderOf 27 = .ok (.astore_n 3, 1) := by decide +kernel
theorem d_V_folderOf_28 : decode b_V_folderOf 28 = .ok (.aload_n 3, 1) := by decide +kernel
theorem d_V_folderOf_29 : decode b_V_folderOf 29 = .ok (.goto 4, 3) := by decide +kernel
theorem d_V_folderOf_32 : decode b_V_folderOf 32 = .ok (.aconst_null, 1) := by decide +kernel
theorem d_V_folderOf_33 : decode b_V_folderOf 33 = .ok (.areturn, 1) := by decide +kernel
theorem d_V_itemOf_0 : decode b_V_itemOf 0 = .ok (.iconst 0, 1) := by decide +kernel
theorem d_V_itemOf_1 : decode b_V_itemOf 1 = .ok (.istore_n 2, 1) := by decide +kernel
theorem d_V_itemOf_2 : decode b_V_itemOf 2 = .ok (.iload_n 2, 1) := by decide +kernel
theorem d_V_itemOf_3 : decode b_V_itemOf 3 = .ok (.aload_n 0, 1) := by decide +kernel
theorem d_V_itemOf_4 : decode b_V_itemOf 4 = .ok (.getfield 21, 3) := by decide +kernel
theorem d_V_itemOf_7 : decode b_V_itemOf 7 = .ok (.invokevirtual 159, 3) := by decide +kernel
theorem d_V_itemOf_10 : decode b_V_itemOf 10 = .ok (.if_icmp .ge 31, 3) := by decide +kernel
theorem d_V_itemOf_13 : decode b_V_itemOf 13 = .ok (.aload_n 0, 1) := by decide +kernel
theorem d_V_itemOf_14 : decode b_V_itemOf 14 = .ok (.getfield 21, 3) := by decide +kernel
theorem d_V_itemOf_17 : decode b_V_itemOf 17 = .ok (.iload_n 2, 1) := by decide +kernel
theorem d_V_itemOf_18 : decode b_V_itemOf 18 = .ok (.invokevirtual 162, 3) := by decide +kernel
theorem d_V_itemOf_21 : decode b_V_itemOf 21 = .ok (.checkcast 93, 3) := by decide +kernel
theorem d_V_itemOf_24 : decode b_V_itemOf 24 = .ok (.astore_n 3, 1) := by decide +kernel
theorem d_V_itemOf_25 : decode b_V_itemOf 25 = .ok (.aload_n 3, 1) := by decide +kernel
theorem d_V_itemOf_26 : decode b_V_itemOf 26 = .ok (.getfield 92, 3) := by decide +kernel
theorem d_V_itemOf_29 : decode b_V_itemOf 29 = .ok (.iload_n 1, 1) := by decide +kernel
theorem d_V_itemOf_30 : decode b_V_itemOf 30 = .ok (.if_icmp .ne 5, 3) := by decide +kernel
theorem d_V_itemOf_33 : decode b_V_itemOf 33 = .ok (.aload_n 3, 1) := by decide +kernel
theorem d_V_itemOf_34 : decode b_V_itemOf 34 = .ok (.areturn, 1) := by decide +kernel
theorem d_V_itemOf_35 : decode b_V_itemOf 35 = .ok (.iinc 2 1, 3) := by decide +kernel
theorem d_V_itemOf_38 : decode b_V_itemOf 38 = .ok (.goto (-36), 3) := by decide +kernel
theorem d_V_itemOf_41 : decode b_V_itemOf 41 = .ok (.aconst_null, 1) := by decide +kernel
theorem d_V_itemOf_42 : decode b_V_itemOf 42 = .ok (.areturn, 1) := by decide +kernel
theorem d_V_entryAt_0 : decode b_V_entryAt 0 = .ok (.iconst 0, 1) := by decide +kernel
theorem d_V_entryAt_1 : decode b_V_entryAt 1 = .ok (.istore_n 3, 1) := by decide +kernel
theorem d_V_entryAt_2 : decode b_V_entryAt 2 = .ok (.iload_n 3, 1) := by decide +kernel
theorem d_V_entryAt_3 : decode b_V_entryAt 3 = .ok (.aload_n 0, 1) := by decide +kernel
theorem d_V_entryAt_4 : decode b_V_entryAt 4 = .ok (.getfield 21, 3) := by decide +kernel
theorem d_V_entryAt_7 : decode b_V_entryAt 7 = .ok (.invokevirtual 159, 3) := by decide +kernel
theorem d_V_entryAt_10 : decode b_V_entryAt 10 = .ok (.if_icmp .ge 51, 3) := by decide +kernel
theorem d_V_entryAt_13 : decode b_V_entryAt 13 = .ok (.aload_n 0, 1) := by decide +kernel
theorem d_V_entryAt_14 : decode b_V_entryAt 14 = .ok (.getfield 21, 3) := by decide +kernel
theorem d_V_entryAt_17 : decode b_V_entryAt 17 = .ok (.iload_n 3, 1) := by decide +kernel
theorem d_V_entryAt_18 : decode b_V_entryAt 18 = .ok (.invokevirtual 162, 3) := by decide +kernel
theorem d_V_entryAt_21 : decode b_V_entryAt 21 = .ok (.checkcast 93, 3) := by decide +kernel
theorem d_V_entryAt_24 : decode b_V_entryAt 24 = .ok (.astore 4, 2) := by decide +kernel
theorem d_V_entryAt_26 : decode b_V_entryAt 26 = .ok (.aload 4, 2) := by decide +kernel
theorem d_V_entryAt_28 : decode b_V_entryAt 28 = .ok (.invokevirtual 223, 3) := by decide +kernel
theorem d_V_entryAt_31 : decode b_V_entryAt 31 = .ok (.ifCond .ne 24, 3) := by decide +kernel
theorem d_V_entryAt_34 : decode b_V_entryAt 34 = .ok (.aload 4, 2) := by decide +kernel
theorem d_V_entryAt_36 : decode b_V_entryAt 36 = .ok (.getfield 224, 3) := by decide +kernel
theorem d_V_entryAt_39 : decode b_V_entryAt 39 = .ok (.iload_n 1, 1) := by decide +kernel
theorem d_V_entryAt_40 : decode b_V_entryAt 40 = .ok (.if_icmp .ne 15, 3) := by decide +kernel
theorem d_V_entryAt_43 : decode b_V_entryAt 43 = .ok (.aload 4, 2) := by decide +kernel
theorem d_V_entryAt_45 : decode b_V_entryAt 45 = .ok (.getfield 227, 3) := by decide +kernel
theorem d_V_entryAt_48 : decode b_V_entryAt 48 = .ok (.iload_n 2, 1) := by decide +kernel
theorem d_V_entryAt_49 : decode b_V_entryAt 49 = .ok (.if_icmp .ne 6, 3) := by decide +kernel
theorem d_V_entryAt_52 : decode b_V_entryAt 52 = .ok (.aload 4, 2) := by decide +kernel
theorem d_V_entryAt_54 : decode b_V_entryAt 54 = .ok (.areturn, 1) := by decide +kernel
theorem d_V_entryAt_55 : decode b_V_entryAt 55 = .ok (.iinc 3 1, 3) := by decide +kernel
theorem d_V_entryAt_58 : decode b_V_entryAt 58 = .ok (.goto (-56), 3) := by decide +kernel
theorem d_V_entryAt_61 : decode b_V_entryAt 61 = .ok (.aconst_null, 1) := by decide +kernel
theorem d_V_entryAt_62 : decode b_V_entryAt 62 = .ok (.areturn, 1) := by decide +kernel
theorem d_V_entryCount_0 : decode b_V_entryCount 0 = .ok (.iconst 0, 1) := by decide +kernel
theorem d_V_entryCount_1 : decode b_V_entryCount 1 = .ok (.istore_n 1, 1) := by decide +kernel
theorem d_V_entryCount_2 : decode b_V_entryCount 2 = .ok (.iconst 0, 1) := by decide +kernel
theorem d_V_entryCount_3 : decode b_V_entryCount 3 = .ok (.istore_n 2, 1) := by decide +kernel
theorem d_V_entryCount_4 : decode b_V_entryCount 4 = .ok (.iload_n 2, 1) := by decide +kernel
theorem d_V_entryCount_5 : decode b_V_entryCount 5 = .ok (.aload_n 0, 1) := by decide +kernel
theorem d_V_entryCount_6 : decode b_V_entryCount 6 = .ok (.getfield 21, 3) := by decide +kernel
theorem d_V_entryCount_9 : decode b_V_entryCount 9 = .ok (.invokevirtual 159, 3) := by decide +kernel
theorem d_V_entryCount_12 : decode b_V_entryCount 12 = .ok (.if_icmp .ge 29, 3) := by decide +kernel
theorem d_V_entryCount_15 : decode b_V_entryCount 15 = .ok (.aload_n 0, 1) := by decide +kernel
theorem d_V_entryCount_16 : decode b_V_entryCount 16 = .ok (.getfield 21, 3) := by decide +kernel
theorem d_V_entryCount_19 : decode b_V_entryCount 19 = .ok (.iload_n 2, 1) := by decide +kernel
theorem d_V_entryCount_20 : decode b_V_entryCount 20 = .ok (.invokevirtual 162, 3) := by decide +kernel
theorem d_V_entryCount_23 : decode b_V_entryCount 23 = .ok (.checkcast 93, 3) := by decide +kernel
theorem d_V_entryCount_26 : decode b_V_entryCount 26 = .ok (.invokevirtual 223, 3) := by decide +kernel
theorem d_V_entryCount_29 : decode b_V_entryCount 29 = .ok (.ifCond .ne 6, 3) := by decide +kernel
theorem d_V_entryCount_32 : decode b_V_entryCount 32 = .ok (.iinc 1 1, 3) := by decide +kernel
theorem d_V_entryCount_35 : decode b_V_entryCount 35 = .ok (.iinc 2 1, 3) := by decide +kernel
theorem d_V_entryCount_38 : decode b_V_entryCount 38 = .ok (.goto (-34), 3) := by decide +kernel
theorem d_V_entryCount_41 : decode b_V_entryCount 41 = .ok (.iload_n 1, 1) := by decide +kernel
theorem d_V_entryCount_42 : decode b_V_entryCount 42 = .ok (.ireturn, 1) := by decide +kernel
theorem d_V_takeNextId_0 : decode b_V_takeNextId 0 = .ok (.aload_n 0, 1) := by decide +kernel
theorem d_V_takeNextId_1 : decode b_V_takeNextId 1 = .ok (.getfield 43, 3) := by decide +kernel
theorem d_V_takeNextId_4 : decode b_V_takeNextId 4 = .ok (.istore_n 1, 1) := by decide +kernel
theorem d_V_takeNextId_5 : decode b_V_takeNextId 5 = .ok (.aload_n 0, 1) := by decide +kernel
theorem d_V_takeNextId_6 : decode b_V_takeNextId 6 = .ok (.dup, 1) := by decide +kernel
theorem d_V_takeNextId_7 : decode b_V_takeNextId 7 = .ok (.getfield 43, 3) := by decide +kernel
theorem d_V_takeNextId_10 : decode b_V_takeNextId 10 = .ok (.iconst 1, 1) := by decide +kernel
theorem d_V_takeNextId_11 : decode b_V_takeNextId 11 = .ok (.iadd, 1) := by decide +kernel
theorem d_V_takeNextId_12 : decode b_V_takeNextId 12 = .ok (.putfield 43, 3) := by decide +kernel
theorem d_V_takeNextId_15 : decode b_V_takeNextId 15 = .ok (.iload_n 1, 1) := by decide +kernel
theorem d_V_takeNextId_16 : decode b_V_takeNextId 16 = .ok (.ireturn, 1) := by decide +kernel
theorem d_V_add_0 : decode b_V_add 0 = .ok (.aload_n 0, 1) := by decide +kernel
theorem d_V_add_1 : decode b_V_add 1 = .ok (.getfield 21, 3) := by decide +kernel
theorem d_V_add_4 : decode b_V_add 4 = .ok (.aload_n 1, 1) := by decide +kernel
theorem d_V_add_5 : decode b_V_add 5 = .ok (.invokevirtual 232, 3) := by decide +kernel
theorem d_V_add_8 : decode b_V_add 8 = .ok (.pop, 1) := by decide +kernel
theorem d_V_add_9 : decode b_V_add 9 = .ok (.aload_n 0, 1) := by decide +kernel
theorem d_V_add_10 : decode b_V_add 10 = .ok (.getfield 28, 3) := by decide +kernel
theorem d_V_add_13 : decode b_V_add 13 = .ok (.new 166, 3) := by decide +kernel
theorem d_V_add_16 : decode b_V_add 16 = .ok (.dup, 1) := by decide +kernel
theorem d_V_add_17 : decode b_V_add 17 = .ok (.aload_n 1, 1) := by decide +kernel
theorem d_V_add_18 : decode b_V_add 18 = .ok (.iconst 0, 1) := by decide +kernel
theorem d_V_add_19 : decode b_V_add 19 = .ok (.invokespecial 235, 3) := by decide +kernel
theorem d_V_add_22 : decode b_V_add 22 = .ok (.invokevirtual 238, 3) := by decide +kernel
theorem d_V_add_25 : decode b_V_add 25 = .ok (.aload_n 0, 1) := by decide +kernel
theorem d_V_add_26 : decode b_V_add 26 = .ok (.getfield 28, 3) := by decide +kernel
theorem d_V_add_29 : decode b_V_add 29 = .ok (.new 166, 3) := by decide +kernel
theorem d_V_add_32 : decode b_V_add 32 = .ok (.dup, 1) := by decide +kernel
theorem d_V_add_33 : decode b_V_add 33 = .ok (.aload_n 1, 1) := by decide +kernel
theorem d_V_add_34 : decode b_V_add 34 = .ok (.iconst 1, 1) := by decide +kernel
theorem d_V_add_35 : decode b_V_add 35 = .ok (.invokespecial 235, 3) := by decide +kernel
theorem d_V_add_38 : decode b_V_add 38 = .ok (.invokevirtual 238, 3) := by decide +kernel
theorem d_V_add_41 : decode b_V_add 41 = .ok (.return_, 1) := by decide +kernel
theorem d_V_link_0 : decode b_V_link 0 = .ok (.aload_n 0, 1) := by decide +kernel
theorem d_V_link_1 : decode b_V_link 1 = .ok (.getfield 39, 3) := by decide +kernel
theorem d_V_link_4 : decode b_V_link 4 = .ok (.ifCond .ne 5, 3) := by decide +kernel
theorem d_V_link_7 : decode b_V_link 7 = .ok (.iconst (-1), 1) := by decide +kernel
theorem d_V_link_8 : decode b_V_link 8 = .ok (.ireturn, 1) := by decide +kernel
theorem d_V_link_9 : decode b_V_link 9 = .ok (.iload_n 2, 1) := by decide +kernel
theorem d_V_link_10 : decode b_V_link 10 = .ok (.invokestatic 47, 3) := by decide +kernel
theorem d_V_link_13 : decode b_V_link 13 = .ok (.ifCond .eq 11, 3) := by decide +kernel
theorem d_V_link_16 : decode b_V_link 16 = .ok (.iload 4, 2) := by decide +kernel
theorem d_V_link_18 : decode b_V_link 18 = .ok (.invokestatic 47, 3) := by decide +kernel
theorem d_V_link_21 : decode b_V_link 21 = .ok (.ifCond .ne 6, 3) := by decide +kernel
theorem d_V_link_24 : decode b_V_link 24 = .ok (.bipush (-2), 2) := by decide +kernel
theorem d_V_link_26 : decode b_V_link 26 = .ok (.ireturn, 1) := by decide +kernel
theorem d_V_link_27 : decode b_V_link 27 = .ok (.aload_n 0, 1) := by decide +kernel
theorem d_V_link_28 : decode b_V_link 28 = .ok (.iload_n 3, 1) := by decide +kernel
theorem d_V_link_29 : decode b_V_link 29 = .ok (.invokevirtual 51, 3) := by decide +kernel
theorem d_V_link_32 : decode b_V_link 32 = .ok (.astore 5, 2) := by decide +kernel
theorem d_V_link_34 : decode b_V_link 34 = .ok (.aload_n 0, 1) := by decide +kernel
theorem d_V_link_35 : decode b_V_link 35 = .ok (.iload_n 1, 1) := by decide +kernel
theorem d_V_link_36 : decode b_V_link 36 = .ok (.iload_n 2, 1) := by decide +kernel
theorem d_V_link_37 : decode b_V_link 37 = .ok (.invokevirtual 55, 3) := by decide +kernel
theorem d_V_link_40 : decode b_V_link 40 = .ok (.invokestatic 76, 3) := by decide +kernel
theorem d_V_link_43 : decode b_V_link 43 = .ok (.astore 6, 2) := by decide +kernel
theorem d_V_link_45 : decode b_V_link 45 = .ok (.aload 5, 2) := by decide +kernel
theorem d_V_link_47 : decode b_V_link 47 = .ok (.ifnull 8, 3) := by decide +kernel
theorem d_V_link_50 : decode b_V_link 50 = .ok (.aload 6, 2) := by decide +kernel
theorem d_V_link_52 : decode b_V_link 52 = .ok (.ifnonnull 6, 3) := by decide +kernel
theorem d_V_link_55 : decode b_V_link 55 = .ok (.bipush (-3), 2) := by decide +kernel
theorem d_V_link_57 : decode b_V_link 57 = .ok (.ireturn, 1) := by decide +kernel
theorem d_V_link_58 : decode b_V_link 58 = .ok (.aload_n 0, 1) := by decide +kernel
theorem d_V_link_59 : decode b_V_link 59 = .ok (.iload_n 3, 1) := by decide +kernel
theorem d_V_link_60 : decode b_V_link 60 = .ok (.iload 4, 2) := by decide +kernel
theorem d_V_link_62 : decode b_V_link 62 = .ok (.invokevirtual 55, 3) := by decide +kernel
theorem d_V_link_65 : decode b_V_link 65 = .ok (.ifnull 6, 3) := by decide +kernel
theorem d_V_link_68 : decode b_V_link 68 = .ok (.bipush (-4), 2) := by decide +kernel
theorem d_V_link_70 : decode b_V_link 70 = .ok (.ireturn, 1) := by decide +kernel
theorem d_V_link_71 : decode b_V_link 71 = .ok (.aload_n 0, 1) := by decide +kernel
theorem d_V_link_72 : decode b_V_link 72 = .ok (.invokevirtual 59, 3) := by decide +kernel
theorem d_V_link_75 : decode b_V_link 75 = .ok (.bipush 20, 2) := by decide +kernel
theorem d_V_link_77 : decode b_V_link 77 = .ok (.if_icmp .lt 6, 3) := by decide +kernel
theorem d_V_link_80 : decode b_V_link 80 = .ok (.bipush (-5), 2) := by decide +kernel
theorem d_V_link_82 : decode b_V_link 82 = .ok (.ireturn, 1) := by decide +kernel
theorem d_V_link_83 : decode b_V_link 83 = .ok (.aload 6, 2) := by decide +kernel
theorem d_V_link_85 : decode b_V_link 85 = .ok (.invokevirtual 80, 3) := by decide +kernel
theorem d_V_link_88 : decode b_V_link 88 = .ok (.ifCond .ne 9, 3) := by decide +kernel
theorem d_V_link_91 : decode b_V_link 91 = .ok (.aload_n 0, 1) := by decide +kernel
theorem d_V_link_92 : decode b_V_link 92 = .ok (.aload 6, 2) := by decide +kernel
theorem d_V_link_94 : decode b_V_link 94 = .ok (.invokevirtual 84, 3) := by decide +kernel
theorem d_V_link_97 : decode b_V_link 97 = .ok (.aload 5, 2) := by decide +kernel
theorem d_V_link_99 : decode b_V_link 99 = .ok (.dup, 1) := by decide +kernel
theorem d_V_link_100 : decode b_V_link 100 = .ok (.getfield 73, 3) := by decide +kernel
theorem d_V_link_103 : decode b_V_link 103 = .ok (.iconst 1, 1) := by decide +kernel
theorem d_V_link_104 : decode b_V_link 104 = .ok (.iadd, 1) := by decide +kernel
theorem d_V_link_105 : decode b_V_link 105 = .ok (.putfield 73, 3) := by decide +kernel
theorem d_V_link_108 : decode b_V_link 108 = .ok (.aload_n 0, 1) := by decide +kernel
theorem d_V_link_109 : decode b_V_link 109 = .ok (.aload 6, 2) := by decide +kernel
theorem d_V_link_111 : decode b_V_link 111 = .ok (.iload_n 3, 1) := by decide +kernel
theorem d_V_link_112 : decode b_V_link 112 = .ok (.iload 4, 2) := by decide +kernel
theorem d_V_link_114 : decode b_V_link 114 = .ok (.invokevirtual 88, 3) := by decide +kernel
theorem d_V_link_117 : decode b_V_link 117 = .ok (.ireturn, 1) := by decide +kernel
theorem d_V_fileBehind_0 : decode b_V_fileBehind 0 = .ok (.aload_n 0, 1) := by decide +kernel
theorem d_V_fileBehind_1 : decode b_V_fileBehind 1 = .ok (.instanceof 108, 3) := by decide +kernel
theorem d_V_fileBehind_4 : decode b_V_fileBehind 4 = .ok (.ifCond .eq 13, 3) := by decide +kernel
theorem d_V_fileBehind_7 : decode b_V_fileBehind 7 = .ok (.aload_n 0, 1) := by decide +kernel
theorem d_V_fileBehind_8 : decode b_V_fileBehind 8 = .ok (.checkcast 108, 3) := by decide +kernel
theorem d_V_fileBehind_11 : decode b_V_fileBehind 11 = .ok (.astore_n 1, 1) := by decide +kernel
theorem d_V_fileBehind_12 : decode b_V_fileBehind 12 = .ok (.aload_n 1, 1) := by decide +kernel
theorem d_V_fileBehind_13 : decode b_V_fileBehind 13 = .ok (.getfield 110, 3) := by decide +kernel
theorem d_V_fileBehind_16 : decode b_V_fileBehind 16 = .ok (.areturn, 1) := by decide +kernel
theorem d_V_fileBehind_17 : decode b_V_fileBehind 17 = .ok (.aload_n 0, 1) := by decide +kernel
theorem d_V_fileBehind_18 : decode b_V_fileBehind 18 = .ok (.instanceof 66, 3) := by decide +kernel
theorem d_V_fileBehind_21 : decode b_V_fileBehind 21 = .ok (.ifCond .eq 12, 3) := by decide +kernel
theorem d_V_fileBehind_24 : decode b_V_fileBehind 24 = .ok (.aload_n 0, 1) := by decide +kernel
theorem d_V_fileBehind_25 : decode b_V_fileBehind 25 = .ok (.checkcast 66, 3) := by decide +kernel
theorem d_V_fileBehind_28 : decode b_V_fileBehind 28 = .ok (.astore_n 1, 1) := by decide +kernel
theorem d_V_fileBehind_29 : decode b_V_fileBehind 29 = .ok (.aload_n 1, 1) := by decide +kernel
theorem d_V_fileBehind_30 : decode b_V_fileBehind 30 = .ok (.goto 4, 3) := by decide +kernel
theorem d_V_fileBehind_33 : decode b_V_fileBehind 33 = .ok (.aconst_null, 1) := by decide +kernel
theorem d_V_fileBehind_34 : decode b_V_fileBehind 34 = .ok (.areturn, 1) := by decide +kernel
theorem d_V_hide_0 : decode b_V_hide 0 = .ok (.aload_n 1, 1) := by decide +kernel
theorem d_V_hide_1 : decode b_V_hide 1 = .ok (.getfield 255, 3) := by decide +kernel
theorem d_V_hide_4 : decode b_V_hide 4 = .ok (.istore_n 2, 1) := by decide +kernel
theorem d_V_hide_5 : decode b_V_hide 5 = .ok (.aload_n 1, 1) := by decide +kernel
theorem d_V_hide_6 : decode b_V_hide 6 = .ok (.getfield 256, 3) := by decide +kernel
theorem d_V_hide_9 : decode b_V_hide 9 = .ok (.istore_n 3, 1) := by decide +kernel
theorem d_V_hide_10 : decode b_V_hide 10 = .ok (.aload_n 0, 1) := by decide +kernel
theorem d_V_hide_11 : decode b_V_hide 11 = .ok (.aload_n 1, 1) := by decide +kernel
theorem d_V_hide_12 : decode b_V_hide 12 = .ok (.iconst 3, 1) := by decide +kernel
theorem d_V_hide_13 : decode b_V_hide 13 = .ok (.aload_n 1, 1) := by decide +kernel
theorem d_V_hide_14 : decode b_V_hide 14 = .ok (.getfield 257, 3) := by decide +kernel
theorem d_V_hide_17 : decode b_V_hide 17 = .ok (.invokevirtual 121, 3) := by decide +kernel
theorem d_V_hide_20 : decode b_V_hide 20 = .ok (.aload_n 0, 1) := by decide +kernel
theorem d_V_hide_21 : decode b_V_hide 21 = .ok (.aload_n 1, 1) := by decide +kernel
theorem d_V_hide_22 : decode b_V_hide 22 = .ok (.iload_n 2, 1) := by decide +kernel
theorem d_V_hide_23 : decode b_V_hide 23 = .ok (.iload_n 3, 1) := by decide +kernel
theorem d_V_hide_24 : decode b_V_hide 24 = .ok (.invokevirtual 88, 3) := by decide +kernel
theorem d_V_hide_27 : decode b_V_hide 27 = .ok (.pop, 1) := by decide +kernel
theorem d_V_hide_28 : decode b_V_hide 28 = .ok (.return_, 1) := by decide +kernel
theorem d_V_relocate_0 : decode b_V_relocate 0 = .ok (.aload_n 0, 1) := by decide +kernel
theorem d_V_relocate_1 : decode b_V_relocate 1 = .ok (.getfield 28, 3) := by decide +kernel
theorem d_V_relocate_4 : decode b_V_relocate 4 = .ok (.aload_n 1, 1) := by decide +kernel
theorem d_V_relocate_5 : decode b_V_relocate 5 = .ok (.iconst 0, 1) := by decide +kernel
theorem d_V_relocate_6 : decode b_V_relocate 6 = .ok (.invokevirtual 248, 3) := by decide +kernel
theorem d_V_relocate_9 : decode b_V_relocate 9 = .ok (.pop, 1) := by decide +kernel
theorem d_V_relocate_10 : decode b_V_relocate 10 = .ok (.aload_n 1, 1) := by decide +kernel
theorem d_V_relocate_11 : decode b_V_relocate 11 = .ok (.iload_n 2, 1) := by decide +kernel
theorem d_V_relocate_12 : decode b_V_relocate 12 = .ok (.putfield 224, 3) := by decide +kernel
theorem d_V_relocate_15 : decode b_V_relocate 15 = .ok (.aload_n 1, 1) := by decide +kernel
theorem d_V_relocate_16 : decode b_V_relocate 16 = .ok (.iload_n 3, 1) := by decide +kernel
theorem d_V_relocate_17 : decode b_V_relocate 17 = .ok (.putfield 227, 3) := by decide +kernel
theorem d_V_relocate_20 : decode b_V_relocate 20 = .ok (.aload_n 0, 1) := by decide +kernel
theorem d_V_relocate_21 : decode b_V_relocate 21 = .ok (.getfield 28, 3) := by decide +kernel
theorem d_V_relocate_24 : decode b_V_relocate 24 = .ok (.new 166, 3) := by decide +kernel
theorem d_V_relocate_27 : decode b_V_relocate 27 = .ok (.dup, 1) := by decide +kernel
theorem d_V_relocate_28 : decode b_V_relocate 28 = .ok (.aload_n 1, 1) := by decide +kernel
theorem d_V_relocate_29 : decode b_V_relocate 29 = .ok (.iconst 0, 1) := by decide +kernel
theorem d_V_relocate_30 : decode b_V_relocate 30 = .ok (.invokespecial 235, 3) := by decide +kernel
theorem d_V_relocate_33 : decode b_V_relocate 33 = .ok (.invokevirtual 238, 3) := by decide +kernel
theorem d_V_relocate_36 : decode b_V_relocate 36 = .ok (.return_, 1) := by decide +kernel
theorem d_V_addLink_0 : decode b_V_addLink 0 = .ok (.aload_n 0, 1) := by decide +kernel
theorem d_V_addLink_1 : decode b_V_addLink 1 = .ok (.invokevirtual 63, 3) := by decide +kernel
theorem d_V_addLink_4 : decode b_V_addLink 4 = .ok (.istore 4, 2) := by decide +kernel
theorem d_V_addLink_6 : decode b_V_addLink 6 = .ok (.aload_n 0, 1) := by decide +kernel
theorem d_V_addLink_7 : decode b_V_addLink 7 = .ok (.new 108, 3) := by decide +kernel
theorem d_V_addLink_10 : decode b_V_addLink 10 = .ok (.dup, 1) := by decide +kernel
theorem d_V_addLink_11 : decode b_V_addLink 11 = .ok (.iload 4, 2) := by decide +kernel
theorem d_V_addLink_13 : decode b_V_addLink 13 = .ok (.iload_n 2, 1) := by decide +kernel
theorem d_V_addLink_14 : decode b_V_addLink 14 = .ok (.iload_n 3, 1) := by decide +kernel
theorem d_V_addLink_15 : decode b_V_addLink 15 = .ok (.aload_n 1, 1) := by decide +kernel
theorem d_V_addLink_16 : decode b_V_addLink 16 = .ok (.invokespecial 242, 3) := by decide +kernel
theorem d_V_addLink_19 : decode b_V_addLink 19 = .ok (.invokevirtual 69, 3) := by decide +kernel
theorem d_V_addLink_22 : decode b_V_addLink 22 = .ok (.aload_n 1, 1) := by decide +kernel
theorem d_V_addLink_23 : decode b_V_addLink 23 = .ok (.dup, 1) := by decide +kernel
theorem d_V_addLink_24 : decode b_V_addLink 24 = .ok (.getfield 245, 3) := by decide +kernel
theorem d_V_addLink_27 : decode b_V_addLink 27 = .ok (.iconst 1, 1) := by decide +kernel
theorem d_V_addLink_28 : decode b_V_addLink 28 = .ok (.iadd, 1) := by decide +kernel
theorem d_V_addLink_29 : decode b_V_addLink 29 = .ok (.putfield 245, 3) := by decide +kernel
theorem d_V_addLink_32 : decode b_V_addLink 32 = .ok (.iload 4, 2) := by decide +kernel
theorem d_V_addLink_34 : decode b_V_addLink 34 = .ok (.ireturn, 1) := by decide +kernel
theorem d_V_remove_0 : decode b_V_remove 0 = .ok (.aload_n 0, 1) := by decide +kernel
theorem d_V_remove_1 : decode b_V_remove 1 = .ok (.getfield 39, 3) := by decide +kernel
theorem d_V_remove_4 : decode b_V_remove 4 = .ok (.ifCond .ne 5, 3) := by decide +kernel
theorem d_V_remove_7 : decode b_V_remove 7 = .ok (.iconst (-1), 1) := by decide +kernel
theorem d_V_remove_8 : decode b_V_remove 8 = .ok (.ireturn, 1) := by decide +kernel
theorem d_V_remove_9 : decode b_V_remove 9 = .ok (.iload_n 2, 1) := by decide +kernel
theorem d_V_remove_10 : decode b_V_remove 10 = .ok (.invokestatic 47, 3) := by decide +kernel
theorem d_V_remove_13 : decode b_V_remove 13 = .ok (.ifCond .ne 6, 3) := by decide +kernel
theorem d_V_remove_16 : decode b_V_remove 16 = .ok (.bipush (-2), 2) := by decide +kernel
theorem d_V_remove_18 : decode b_V_remove 18 = .ok (.ireturn, 1) := by decide +kernel
theorem d_V_remove_19 : decode b_V_remove 19 = .ok (.aload_n 0, 1) := by decide +kernel
theorem d_V_remove_20 : decode b_V_remove 20 = .ok (.iload_n 1, 1) := by decide +kernel
theorem d_V_remove_21 : decode b_V_remove 21 = .ok (.invokevirtual 51, 3) := by decide +kernel
theorem d_V_remove_24 : decode b_V_remove 24 = .ok (.astore_n 3, 1) := by decide +kernel
theorem d_V_remove_25 : decode b_V_remove 25 = .ok (.aload_n 0, 1) := by decide +kernel
theorem d_V_remove_26 : decode b_V_remove 26 = .ok (.iload_n 1, 1) := by decide +kernel
theorem d_V_remove_27 : decode b_V_remove 27 = .ok (.iload_n 2, 1) := by decide +kernel
theorem d_V_remove_28 : decode b_V_remove 28 = .ok (.invokevirtual 55, 3) := by decide +kernel
theorem d_V_remove_31 : decode b_V_remove 31 = .ok (.astore 4, 2) := by decide +kernel
theorem d_V_remove_33 : decode b_V_remove 33 = .ok (.aload_n 3, 1) := by decide +kernel
theorem d_V_remove_34 : decode b_V_remove 34 = .ok (.ifnull 8, 3) := by decide +kernel
theorem d_V_remove_37 : decode b_V_remove 37 = .ok (.aload 4, 2) := by decide +kernel
theorem d_V_remove_39 : decode b_V_remove 39 = .ok (.ifnonnull 6, 3) := by decide +kernel
theorem d_V_remove_42 : decode b_V_remove 42 = .ok (.bipush (-3), 2) := by decide +kernel
theorem d_V_remove_44 : decode b_V_remove 44 = .ok (.ireturn, 1) := by decide +kernel
theorem d_V_remove_45 : decode b_V_remove 45 = .ok (.aload 4, 2) := by decide +kernel
theorem d_V_remove_47 : decode b_V_remove 47 = .ok (.instanceof 7, 3) := by decide +kernel
theorem d_V_remove_50 : decode b_V_remove 50 = .ok (.ifCond .eq 18, 3) := by decide +kernel
theorem d_V_remove_53 : decode b_V_remove 53 = .ok (.aload_n 0, 1) := by decide +kernel
theorem d_V_remove_54 : decode b_V_remove 54 = .ok (.aload 4, 2) := by decide +kernel
theorem d_V_remove_56 : decode b_V_remove 56 = .ok (.getfield 92, 3) := by decide +kernel
theorem d_V_remove_59 : decode b_V_remove 59 = .ok (.invokevirtual 97, 3) := by decide +kernel
theorem d_V_remove_62 : decode b_V_remove 62 = .ok (.ifCond .le 6, 3) := by decide +kernel
theorem d_V_remove_65 : decode b_V_remove 65 = .ok (.bipush (-6), 2) := by decide +kernel
theorem d_V_remove_67 : decode b_V_remove 67 = .ok (.ireturn, 1) := by decide +kernel
theorem d_V_remove_68 : decode b_V_remove 68 = .ok (.aload_n 0, 1) := by decide +kernel
theorem d_V_remove_69 : decode b_V_remove 69 = .ok (.aload 4, 2) := by decide +kernel
theorem d_V_remove_71 : decode b_V_remove 71 = .ok (.invokevirtual 101, 3) := by decide +kernel
theorem d_V_remove_74 : decode b_V_remove 74 = .ok (.aload_n 3, 1) := by decide +kernel
theorem d_V_remove_75 : decode b_V_remove 75 = .ok (.dup, 1) := by decide +kernel
theorem d_V_remove_76 : decode b_V_remove 76 = .ok (.getfield 73, 3) := by decide +kernel
theorem d_V_remove_79 : decode b_V_remove 79 = .ok (.iconst 1, 1) := by decide +kernel
theorem d_V_remove_80 : decode b_V_remove 80 = .ok (.isub, 1) := by decide +kernel
theorem d_V_remove_81 : decode b_V_remove 81 = .ok (.putfield 73, 3) := by decide +kernel
theorem d_V_remove_84 : decode b_V_remove 84 = .ok (.aload 4, 2) := by decide +kernel
theorem d_V_remove_86 : decode b_V_remove 86 = .ok (.instanceof 66, 3) := by decide +kernel
theorem d_V_remove_89 : decode b_V_remove 89 = .ok (.ifCond .eq 20, 3) := by decide +kernel
theorem d_V_remove_92 : decode b_V_remove 92 = .ok (.aload 4, 2) := by decide +kernel
theorem d_V_remove_94 : decode b_V_remove 94 = .ok (.checkcast 66, 3) := by decide +kernel
theorem d_V_remove_97 : decode b_V_remove 97 = .ok (.astore 5, 2) := by decide +kernel
theorem d_V_remove_99 : decode b_V_remove 99 = .ok (.aload_n 0, 1) := by decide +kernel
theorem d_V_remove_100 : decode b_V_remove 100 = .ok (.aload 5, 2) := by decide +kernel
theorem d_V_remove_102 : decode b_V_remove 102 = .ok (.iconst 0, 1) := by decide +kernel
theorem d_V_remove_103 : decode b_V_remove 103 = .ok (.invokevirtual 104, 3) := by decide +kernel
theorem d_V_remove_106 : decode b_V_remove 106 = .ok (.goto 27, 3) := by decide +kernel
theorem d_V_remove_109 : decode b_V_remove 109 = .ok (.aload 4, 2) := by decide +kernel
theorem d_V_remove_111 : decode b_V_remove 111 = .ok (.instanceof 108, 3) := by decide +kernel
theorem d_V_remove_114 : decode b_V_remove 114 = .ok (.ifCond .eq 19, 3) := by decide +kernel
theorem d_V_remove_117 : decode b_V_remove 117 = .ok (.aload 4, 2) := by decide +kernel
theorem d_V_remove_119 : decode b_V_remove 119 = .ok (.checkcast 108, 3) := by decide +kernel
theorem d_V_remove_122 : decode b_V_remove 122 = .ok (.astore 6, 2) := by decide +kernel
theorem d_V_remove_124 : decode b_V_remove 124 = .ok (.aload_n 0, 1) := by decide +kernel
theorem d_V_remove_125 : decode b_V_remove 125 = .ok (.aload 6, 2) := by decide +kernel
theorem d_V_remove_127 : decode b_V_remove 127 = .ok (.getfield 110, 3) := by decide +kernel
theorem d_V_remove_130 : decode b_V_remove 130 = .ok (.invokevirtual 114, 3) := by decide +kernel
theorem d_V_remove_133 : decode b_V_remove 133 = .ok (.aload 4, 2) := by decide +kernel
theorem d_V_remove_135 : decode b_V_remove 135 = .ok (.getfield 92, 3) := by decide +kernel
theorem d_V_remove_138 : decode b_V_remove 138 = .ok (.ireturn, 1) := by decide +kernel
theorem d_V_entriesIn_0 : decode b_V_entriesIn 0 = .ok (.iconst 0, 1) := by decide +kernel
theorem d_V_entriesIn_1 : decode b_V_entriesIn 1 = .ok (.istore_n 2, 1) := by decide +kernel
theorem d_V_entriesIn_2 : decode b_V_entriesIn 2 = .ok (.iconst 0, 1) := by decide +kernel
theorem d_V_entriesIn_3 : decode b_V_entriesIn 3 = .ok (.istore_n 3, 1) := by decide +kernel
theorem d_V_entriesIn_4 : decode b_V_entriesIn 4 = .ok (.iload_n 3, 1) := by decide +kernel
theorem d_V_entriesIn_5 : decode b_V_entriesIn 5 = .ok (.aload_n 0, 1) := by decide +kernel
theorem d_V_entriesIn_6 : decode b_V_entriesIn 6 = .ok (.getfield 21, 3) := by decide +kernel
theorem d_V_entriesIn_9 : decode b_V_entriesIn 9 = .ok (.invokevirtual 159, 3) := by decide +kernel
theorem d_V_entriesIn_12 : decode b_V_entriesIn 12 = .ok (.if_icmp .ge 30, 3) := by decide +kernel
theorem d_V_entriesIn_15 : decode b_V_entriesIn 15 = .ok (.aload_n 0, 1) := by decide +kernel
theorem d_V_entriesIn_16 : decode b_V_entriesIn 16 = .ok (.getfield 21, 3) := by decide +kernel
theorem d_V_entriesIn_19 : decode b_V_entriesIn 19 = .ok (.iload_n 3, 1) := by decide +kernel
theorem d_V_entriesIn_20 : decode b_V_entriesIn 20 = .ok (.invokevirtual 162, 3) := by decide +kernel
theorem d_V_entriesIn_23 : decode b_V_entriesIn 23 = .ok (.checkcast 93, 3) := by decide +kernel
theorem d_V_entriesIn_26 : decode b_V_entriesIn 26 = .ok (.getfield 224, 3) := by decide +kernel
theorem d_V_entriesIn_29 : decode b_V_entriesIn 29 = .ok (.iload_n 1, 1) := by decide +kernel
theorem d_V_entriesIn_30 : decode b_V_entriesIn 30 = .ok (.if_icmp .ne 6, 3) := by decide +kernel
theorem d_V_entriesIn_33 : decode b_V_entriesIn 33 = .ok (.iinc 2 1, 3) := by decide +kernel
theorem d_V_entriesIn_36 : decode b_V_entriesIn 36 = .ok (.iinc 3 1, 3) := by decide +kernel
theorem d_V_entriesIn_39 : decode b_V_entriesIn 39 = .ok (.goto (-35), 3) := by decide +kernel
theorem d_V_entriesIn_42 : decode b_V_entriesIn 42 = .ok (.iload_n 2, 1) := by decide +kernel
theorem d_V_entriesIn_43 : decode b_V_entriesIn 43 = .ok (.ireturn, 1) := by decide +kernel
theorem d_V_drop_0 : decode b_V_drop 0 = .ok (.aload_n 0, 1) := by decide +kernel
theorem d_V_drop_1 : decode b_V_drop 1 = .ok (.getfield 28, 3) := by decide +kernel
theorem d_V_drop_4 : decode b_V_drop 4 = .ok (.aload_n 1, 1) := by decide +kernel
theorem d_V_drop_5 : decode b_V_drop 5 = .ok (.iconst 0, 1) := by decide +kernel
theorem d_V_drop_6 : decode b_V_drop 6 = .ok (.invokevirtual 248, 3) := by decide +kernel
theorem d_V_drop_9 : decode b_V_drop 9 = .ok (.pop, 1) := by decide +kernel
theorem d_V_drop_10 : decode b_V_drop 10 = .ok (.aload_n 0, 1) := by decide +kernel
theorem d_V_drop_11 : decode b_V_drop 11 = .ok (.getfield 28, 3) := by decide +kernel
theorem d_V_drop_14 : decode b_V_drop 14 = .ok (.aload_n 1, 1) := by decide +kernel
theorem d_V_drop_15 : decode b_V_drop 15 = .ok (.iconst 1, 1) := by decide +kernel
theorem d_V_drop_16 : decode b_V_drop 16 = .ok (.invokevirtual 248, 3) := by decide +kernel
theorem d_V_drop_19 : decode b_V_drop 19 = .ok (.pop, 1) := by decide +kernel
theorem d_V_drop_20 : decode b_V_drop 20 = .ok (.iconst 0, 1) := by decide +kernel
theorem d_V_drop_21 : decode b_V_drop 21 = .ok (.istore_n 2, 1) := by decide +kernel
theorem d_V_drop_22 : decode b_V_drop 22 = .ok (.iload_n 2, 1) := by decide +kernel
theorem d_V_drop_23 : decode b_V_drop 23 = .ok (.aload_n 0, 1) := by decide +kernel
theorem d_V_drop_24 : decode b_V_drop 24 = .ok (.getfield 21, 3) := by decide +kernel
theorem d_V_drop_27 : decode b_V_drop 27 = .ok (.invokevirtual 159, 3) := by decide +kernel
theorem d_V_drop_30 : decode b_V_drop 30 = .ok (.if_icmp .ge 31, 3) := by decide +kernel
theorem d_V_drop_33 : decode b_V_drop 33 = .ok (.aload_n 0, 1) := by decide +kernel
theorem d_V_drop_34 : decode b_V_drop 34 = .ok (.getfield 21, 3) := by decide +kernel
theorem d_V_drop_37 : decode b_V_drop 37 = .ok (.iload_n 2, 1) := by decide +kernel
theorem d_V_drop_38 : decode b_V_drop 38 = .ok (.invokevirtual 162, 3) := by decide +kernel
theorem d_V_drop_41 : decode b_V_drop 41 = .ok (.aload_n 1, 1) := by decide +kernel
theorem d_V_drop_42 : decode b_V_drop 42 = .ok (.if_acmp .ne 13, 3) := by decide +kernel
theorem d_V_drop_45 : decode b_V_drop 45 = .ok (.aload_n 0, 1) := by decide +kernel
theorem d_V_drop_46 : decode b_V_drop 46 = .ok (.getfield 21, 3) := by decide +kernel
theorem d_V_drop_49 : decode b_V_drop 49 = .ok (.iload_n 2, 1) := by decide +kernel
theorem d_V_drop_50 : decode b_V_drop 50 = .ok (.invokevirtual 252, 3) := by decide +kernel
theorem d_V_drop_53 : decode b_V_drop 53 = .ok (.pop, 1) := by decide +kernel
theorem d_V_drop_54 : decode b_V_drop 54 = .ok (.return_, 1) := by decide +kernel
theorem d_V_drop_55 : decode b_V_drop 55 = .ok (.iinc 2 1, 3) := by decide +kernel
theorem d_V_drop_58 : decode b_V_drop 58 = .ok (.goto (-36), 3) := by decide +kernel
theorem d_V_drop_61 : decode b_V_drop 61 = .ok (.return_, 1) := by decide +kernel
theorem d_V_cutTo_0 : decode b_V_cutTo 0 = .ok (.iload_n 2, 1) := by decide +kernel
theorem d_V_cutTo_1 : decode b_V_cutTo 1 = .ok (.istore_n 3, 1) := by decide +kernel
theorem d_V_cutTo_2 : decode b_V_cutTo 2 = .ok (.iload_n 3, 1) := by decide +kernel
theorem d_V_cutTo_3 : decode b_V_cutTo 3 = .ok (.aload_n 1, 1) := by decide +kernel
theorem d_V_cutTo_4 : decode b_V_cutTo 4 = .ok (.getfield 146, 3) := by decide +kernel
theorem d_V_cutTo_7 : decode b_V_cutTo 7 = .ok (.if_icmp .ge 23, 3) := by decide +kernel
theorem d_V_cutTo_10 : decode b_V_cutTo 10 = .ok (.aload_n 0, 1) := by decide +kernel
theorem d_V_cutTo_11 : decode b_V_cutTo 11 = .ok (.getfield 35, 3) := by decide +kernel
theorem d_V_cutTo_14 : decode b_V_cutTo 14 = .ok (.aload_n 1, 1) := by decide +kernel
theorem d_V_cutTo_15 : decode b_V_cutTo 15 = .ok (.getfield 149, 3) := by decide +kernel
theorem d_V_cutTo_18 : decode b_V_cutTo 18 = .ok (.iload_n 3, 1) := by decide +kernel
theorem d_V_cutTo_19 : decode b_V_cutTo 19 = .ok (.iaload, 1) := by decide +kernel
theorem d_V_cutTo_20 : decode b_V_cutTo 20 = .ok (.iconst 0, 1) := by decide +kernel
theorem d_V_cutTo_21 : decode b_V_cutTo 21 = .ok (.invokevirtual 138, 3) := by decide +kernel
theorem d_V_cutTo_24 : decode b_V_cutTo 24 = .ok (.iinc 3 1, 3) := by decide +kernel
theorem d_V_cutTo_27 : decode b_V_cutTo 27 = .ok (.goto (-25), 3) := by decide +kernel
theorem d_V_cutTo_30 : decode b_V_cutTo 30 = .ok (.aload_n 1, 1) := by decide +kernel
theorem d_V_cutTo_31 : decode b_V_cutTo 31 = .ok (.iload_n 2, 1) := by decide +kernel
theorem d_V_cutTo_32 : decode b_V_cutTo 32 = .ok (.putfield 146, 3) := by decide +kernel
theorem d_V_cutTo_35 : decode b_V_cutTo 35 = .ok (.return_, 1) := by decide +kernel
theorem d_V_unlink_0 : decode b_V_unlink 0 = .ok (.aload_n 1, 1) := by decide +kernel
theorem d_V_unlink_1 : decode b_V_unlink 1 = .ok (.dup, 1) := by decide +kernel
theorem d_V_unlink_2 : decode b_V_unlink 2 = .ok (.getfield 245, 3) := by decide +kernel
theorem d_V_unlink_5 : decode b_V_unlink 5 = .ok (.iconst 1, 1) := by decide +kernel
theorem d_V_unlink_6 : decode b_V_unlink 6 = .ok (.isub, 1) := by decide +kernel
theorem d_V_unlink_7 : decode b_V_unlink 7 = .ok (.putfield 245, 3) := by decide +kernel
theorem d_V_unlink_10 : decode b_V_unlink 10 = .ok (.aload_n 1, 1) := by decide +kernel
theorem d_V_unlink_11 : decode b_V_unlink 11 = .ok (.getfield 245, 3) := by decide +kernel
theorem d_V_unlink_14 : decode b_V_unlink 14 = .ok (.ifCond .gt 14, 3) := by decide +kernel
theorem d_V_unlink_17 : decode b_V_unlink 17 = .ok (.aload_n 0, 1) := by decide +kernel
theorem d_V_unlink_18 : decode b_V_unlink 18 = .ok (.aload_n 1, 1) := by decide +kernel
theorem d_V_unlink_19 : decode b_V_unlink 19 = .ok (.invokevirtual 101, 3) := by decide +kernel
theorem d_V_unlink_22 : decode b_V_unlink 22 = .ok (.aload_n 0, 1) := by decide +kernel
theorem d_V_unlink_23 : decode b_V_unlink 23 = .ok (.aload_n 1, 1) := by decide +kernel
theorem d_V_unlink_24 : decode b_V_unlink 24 = .ok (.iconst 0, 1) := by decide +kernel
theorem d_V_unlink_25 : decode b_V_unlink 25 = .ok (.invokevirtual 104, 3) := by decide +kernel
theorem d_V_unlink_28 : decode b_V_unlink 28 = .ok (.return_, 1) := by decide +kernel
theorem d_V_move_0 : decode b_V_move 0 = .ok (.aload_n 0, 1) := by decide +kernel
theorem d_V_move_1 : decode b_V_move 1 = .ok (.getfield 39, 3) := by decide +kernel
theorem d_V_move_4 : decode b_V_move 4 = .ok (.ifCond .ne 5, 3) := by decide +kernel
theorem d_V_move_7 : decode b_V_move 7 = .ok (.iconst (-1), 1) := by decide +kernel
theorem d_V_move_8 : decode b_V_move 8 = .ok (.ireturn, 1) := by decide +kernel
theorem d_V_move_9 : decode b_V_move 9 = .ok (.iload_n 2, 1) := by decide +kernel
theorem d_V_move_10 : decode b_V_move 10 = .ok (.invokestatic 47, 3) := by decide +kernel
theorem d_V_move_13 : decode b_V_move 13 = .ok (.ifCond .eq 11, 3) := by decide +kernel
theorem d_V_move_16 : decode b_V_move 16 = .ok (.iload 4, 2) := by decide +kernel
theorem d_V_move_18 : decode b_V_move 18 = .ok (.invokestatic 47, 3) := by decide +kernel
theorem d_V_move_21 : decode b_V_move 21 = .ok (.ifCond .ne 6, 3) := by decide +kernel
theorem d_V_move_24 : decode b_V_move 24 = .ok (.bipush (-2), 2) := by decide +kernel
theorem d_V_move_26 : decode b_V_move 26 = .ok (.ireturn, 1) := by decide +kernel
theorem d_V_move_27 : decode b_V_move 27 = .ok (.aload_n 0, 1) := by decide +kernel
theorem d_V_move_28 : decode b_V_move 28 = .ok (.iload_n 1, 1) := by decide +kernel
theorem d_V_move_29 : decode b_V_move 29 = .ok (.invokevirtual 51, 3) := by decide +kernel
theorem d_V_move_32 : decode b_V_move 32 = .ok (.astore 5, 2) := by decide +kernel
theorem d_V_move_34 : decode b_V_move 34 = .ok (.aload_n 0, 1) := by decide +kernel
theorem d_V_move_35 : decode b_V_move 35 = .ok (.iload_n 3, 1) := by decide +kernel
theorem d_V_move_36 : decode b_V_move 36 = .ok (.invokevirtual 51, 3) := by decide +kernel
theorem d_V_move_39 : decode b_V_move 39 = .ok (.astore 6, 2) := by decide +kernel
theorem d_V_move_41 : decode b_V_move 41 = .ok (.aload_n 0, 1) := by decide +kernel
theorem d_V_move_42 : decode b_V_move 42 = .ok (.iload_n 1, 1) := by decide +kernel
theorem d_V_move_43 : decode b_V_move 43 = .ok (.iload_n 2, 1) := by decide +kernel
theorem d_V_move_44 : decode b_V_move 44 = .ok (.invokevirtual 55, 3) := by decide +kernel
theorem d_V_move_47 : decode b_V_move 47 = .ok (.astore 7, 2) := by decide +kernel
theorem d_V_move_49 : decode b_V_move 49 = .ok (.aload 5, 2) := by decide +kernel
theorem d_V_move_51 : decode b_V_move 51 = .ok (.ifnull 13, 3) := by decide +kernel
theorem d_V_move_54 : decode b_V_move 54 = .ok (.aload 6, 2) := by decide +kernel
theorem d_V_move_56 : decode b_V_move 56 = .ok (.ifnull 8, 3) := by decide +kernel
theorem d_V_move_59 : decode b_V_move 59 = .ok (.aload 7, 2) := by decide +kernel
theorem d_V_move_61 : decode b_V_move 61 = .ok (.ifnonnull 6, 3) := by decide +kernel
theorem d_V_move_64 : decode b_V_move 64 = .ok (.bipush (-3), 2) := by decide +kernel
theorem d_V_move_66 : decode b_V_move 66 = .ok (.ireturn, 1) := by decide +kernel
theorem d_V_move_67 : decode b_V_move 67 = .ok (.aload 7, 2) := by decide +kernel
theorem d_V_move_69 : decode b_V_move 69 = .ok (.instanceof 7, 3) := by decide +kernel
theorem d_V_move_72 : decode b_V_move 72 = .ok (.ifCond .eq 20, 3) := by decide +kernel
theorem d_V_move_75 : decode b_V_move 75 = .ok (.aload_n 0, 1) := by decide +kernel
theorem d_V_move_76 : decode b_V_move 76 = .ok (.aload 6, 2) := by decide +kernel
theorem d_V_move_78 : decode b_V_move 78 = .ok (.aload 7, 2) := by decide +kernel
theorem d_V_move_80 : decode b_V_move 80 = .ok (.getfield 92, 3) := by decide +kernel
theorem d_V_move_83 : decode b_V_move 83 = .ok (.invokevirtual 117, 3) := by decide +kernel
theorem d_V_move_86 : decode b_V_move 86 = .ok (.ifCond .eq 6, 3) := by decide +kernel
theorem d_V_move_89 : decode b_V_move 89 = .ok (.bipush (-7), 2) := by decide +kernel
theorem d_V_move_91 : decode b_V_move 91 = .ok (.ireturn, 1) := by decide +kernel
theorem d_V_move_92 : decode b_V_move 92 = .ok (.iload_n 1, 1) := by decide +kernel
theorem d_V_move_93 : decode b_V_move 93 = .ok (.iload_n 3, 1) := by decide +kernel
theorem d_V_move_94 : decode b_V_move 94 = .ok (.if_icmp .ne 15, 3) := by decide +kernel
theorem d_V_move_97 : decode b_V_move 97 = .ok (.iload_n 2, 1) := by decide +kernel
theorem d_V_move_98 : decode b_V_move 98 = .ok (.iload 4, 2) := by decide +kernel
theorem d_V_move_100 : decode b_V_move 100 = .ok (.if_icmp .ne 9, 3) := by decide +kernel
theorem d_V_move_103 : decode b_V_move 103 = .ok (.aload 7, 2) := by decide +kernel
theorem d_V_move_105 : decode b_V_move 105 = .ok (.getfield 92, 3) := by decide +kernel
theorem d_V_move_108 : decode b_V_move 108 = .ok (.ireturn, 1) := by decide +kernel
theorem d_V_move_109 : decode b_V_move 109 = .ok (.aload_n 0, 1) := by decide +kernel
theorem d_V_move_110 : decode b_V_move 110 = .ok (.iload_n 3, 1) := by decide +kernel
theorem d_V_move_111 : decode b_V_move 111 = .ok (.iload 4, 2) := by decide +kernel
theorem d_V_move_113 : decode b_V_move 113 = .ok (.invokevirtual 55, 3) := by decide +kernel
theorem d_V_move_116 : decode b_V_move 116 = .ok (.ifnull 6, 3) := by decide +kernel
theorem d_V_move_119 : decode b_V_move 119 = .ok (.bipush (-4), 2) := by decide +kernel
theorem d_V_move_121 : decode b_V_move 121 = .ok (.ireturn, 1) := by decide +kernel
theorem d_V_move_122 : decode b_V_move 122 = .ok (.aload_n 0, 1) := by decide +kernel
theorem d_V_move_123 : decode b_V_move 123 = .ok (.aload 7, 2) := by decide +kernel
theorem d_V_move_125 : decode b_V_move 125 = .ok (.iload_n 3, 1) := by decide +kernel
theorem d_V_move_126 : decode b_V_move 126 = .ok (.iload 4, 2) := by decide +kernel
theorem d_V_move_128 : decode b_V_move 128 = .ok (.invokevirtual 121, 3) := by decide +kernel
theorem d_V_move_131 : decode b_V_move 131 = .ok (.aload 5, 2) := by decide +kernel
theorem d_V_move_133 : decode b_V_move 133 = .ok (.dup, 1) := by decide +kernel
theorem d_V_move_134 : decode b_V_move 134 = .ok (.getfield 73, 3) := by decide +kernel
theorem d_V_move_137 : decode b_V_move 137 = .ok (.iconst 1, 1) := by decide +kernel
theorem d_V_move_138 : decode b_V_move 138 = .ok (.isub, 1) := by decide +kernel
theorem d_V_move_139 : decode b_V_move 139 = .ok (.putfield 73, 3) := by decide +kernel
theorem d_V_move_142 : decode b_V_move 142 = .ok (.aload 6, 2) := by decide +kernel
theorem d_V_move_144 : decode b_V_move 144 = .ok (.dup, 1) := by decide +kernel
theorem d_V_move_145 : decode b_V_move 145 = .ok (.getfield 73, 3) := by decide +kernel
theorem d_V_move_148 : decode b_V_move 148 = .ok (.iconst 1, 1) := by decide +kernel
theorem d_V_move_149 : decode b_V_move 149 = .ok (.iadd, 1) := by decide +kernel
theorem d_V_move_150 : decode b_V_move 150 = .ok (.putfield 73, 3) := by decide +kernel
theorem d_V_move_153 : decode b_V_move 153 = .ok (.aload 7, 2) := by decide +kernel
theorem d_V_move_155 : decode b_V_move 155 = .ok (.getfield 92, 3) := by decide +kernel
theorem d_V_move_158 : decode b_V_move 158 = .ok (.ireturn, 1) := by decide +kernel
theorem d_V_liesWithin_0 : decode b_V_liesWithin 0 = .ok (.aload_n 1, 1) := by decide +kernel
theorem d_V_liesWithin_1 : decode b_V_liesWithin 1 = .ok (.astore_n 3, 1) := by decide +kernel
theorem d_V_liesWithin_2 : decode b_V_liesWithin 2 = .ok (.iconst 0, 1) := by decide +kernel
theorem d_V_liesWithin_3 : decode b_V_liesWithin 3 = .ok (.istore 4, 2) := by decide +kernel
theorem d_V_liesWithin_5 : decode b_V_liesWithin 5 = .ok (.iload 4, 2) := by decide +kernel
theorem d_V_liesWithin_7 : decode b_V_liesWithin 7 = .ok (.bipush 20, 2) := by decide +kernel
theorem d_V_liesWithin_9 : decode b_V_liesWithin 9 = .ok (.if_icmp .gt 44, 3) := by decide +kernel
theorem d_V_liesWithin_12 : decode b_V_liesWithin 12 = .ok (.aload_n 3, 1) := by decide +kernel
theorem d_V_liesWithin_13 : decode b_V_liesWithin 13 = .ok (.ifnull 40, 3) := by decide +kernel
theorem d_V_liesWithin_16 : decode b_V_liesWithin 16 = .ok (.aload_n 3, 1) := by decide +kernel
theorem d_V_liesWithin_17 : decode b_V_liesWithin 17 = .ok (.getfield 230, 3) := by decide +kernel
theorem d_V_liesWithin_20 : decode b_V_liesWithin 20 = .ok (.iload_n 2, 1) := by decide +kernel
theorem d_V_liesWithin_21 : decode b_V_liesWithin 21 = .ok (.if_icmp .ne 5, 3) := by decide +kernel
theorem d_V_liesWithin_24 : decode b_V_liesWithin 24 = .ok (.iconst 1, 1) := by decide +kernel
theorem d_V_liesWithin_25 : decode b_V_liesWithin 25 = .ok (.ireturn, 1) := by decide +kernel
theorem d_V_liesWithin_26 : decode b_V_liesWithin 26 = .ok (.aload_n 3, 1) := by decide +kernel
theorem d_V_liesWithin_27 : decode b_V_liesWithin 27 = .ok (.getfield 230, 3) := by decide +kernel
theorem d_V_liesWithin_30 : decode b_V_liesWithin 30 = .ok (.iconst 2, 1) := by decide +kernel
theorem d_V_liesWithin_31 : decode b_V_liesWithin 31 = .ok (.if_icmp .ne 7, 3) := by decide +kernel
theorem d_V_liesWithin_34 : decode b_V_liesWithin 34 = .ok (.aconst_null, 1) := by decide +kernel
theorem d_V_liesWithin_35 : decode b_V_liesWithin 35 = .ok (.goto 11, 3) := by decide +kernel
theorem d_V_liesWithin_38 : decode b_V_liesWithin 38 = .ok (.aload_n 0, 1) := by decide +kernel
theorem d_V_liesWithin_39 : decode b_V_liesWithin 39 = .ok (.aload_n 3, 1) := by decide +kernel
theorem d_V_liesWithin_40 : decode b_V_liesWithin 40 = .ok (.getfield 231, 3) := by decide +kernel
theorem d_V_liesWithin_43 : decode b_V_liesWithin 43 = .ok (.invokevirtual 51, 3) := by decide +kernel
theorem d_V_liesWithin_46 : decode b_V_liesWithin 46 = .ok (.astore_n 3, 1) := by decide +kernel
theorem d_V_liesWithin_47 : decode b_V_liesWithin 47 = .ok (.iinc 4 1, 3) := by decide +kernel
theorem d_V_liesWithin_50 : decode b_V_liesWithin 50 = .ok (.goto (-45), 3) := by decide +kernel
theorem d_V_liesWithin_53 : decode b_V_liesWithin 53 = .ok (.iconst 0, 1) := by decide +kernel
theorem d_V_liesWithin_54 : decode b_V_liesWithin 54 = .ok (.ireturn, 1) := by decide +kernel
theorem d_V_find_0 : decode b_V_find 0 = .ok (.aload_n 0, 1) := by decide +kernel
theorem d_V_find_1 : decode b_V_find 1 = .ok (.getfield 39, 3) := by decide +kernel
theorem d_V_find_4 : decode b_V_find 4 = .ok (.ifCond .ne 5, 3) := by decide +kernel
theorem d_V_find_7 : decode b_V_find 7 = .ok (.iconst (-1), 1) := by decide +kernel
theorem d_V_find_8 : decode b_V_find 8 = .ok (.ireturn, 1) := by decide +kernel
theorem d_V_find_9 : decode b_V_find 9 = .ok (.iload_n 2, 1) := by decide +kernel
theorem d_V_find_10 : decode b_V_find 10 = .ok (.invokestatic 47, 3) := by decide +kernel
theorem d_V_find_13 : decode b_V_find 13 = .ok (.ifCond .ne 6, 3) := by decide +kernel
theorem d_V_find_16 : decode b_V_find 16 = .ok (.bipush (-2), 2) := by decide +kernel
theorem d_V_find_18 : decode b_V_find 18 = .ok (.ireturn, 1) := by decide +kernel
theorem d_V_find_19 : decode b_V_find 19 = .ok (.aload_n 0, 1) := by decide +kernel
theorem d_V_find_20 : decode b_V_find 20 = .ok (.iload_n 1, 1) := by decide +kernel
theorem d_V_find_21 : decode b_V_find 21 = .ok (.iload_n 2, 1) := by decide +kernel
theorem d_V_find_22 : decode b_V_find 22 = .ok (.invokevirtual 55, 3) := by decide +kernel
theorem d_V_find_25 : decode b_V_find 25 = .ok (.astore_n 3, 1) := by decide +kernel
theorem d_V_find_26 : decode b_V_find 26 = .ok (.aload_n 3, 1) := by decide +kernel
theorem d_V_find_27 : decode b_V_find 27 = .ok (.ifnonnull 8, 3) := by decide +kernel
theorem d_V_find_30 : decode b_V_find 30 = .ok (.bipush (-3), 2) := by decide +kernel
theorem d_V_find_32 : decode b_V_find 32 = .ok (.goto 7, 3) := by decide +kernel
theorem d_V_find_35 : decode b_V_find 35 = .ok (.aload_n 3, 1) := by decide +kernel
theorem d_V_find_36 : decode b_V_find 36 = .ok (.getfield 92, 3) := by decide +kernel
theorem d_V_find_39 : decode b_V_find 39 = .ok (.ireturn, 1) := by decide +kernel
theorem d_V_grow_0 : decode b_V_grow 0 = .ok (.aload_n 0, 1) := by decide +kernel
theorem d_V_grow_1 : decode b_V_grow 1 = .ok (.getfield 39, 3) := by decide +kernel
theorem d_V_grow_4 : decode b_V_grow 4 = .ok (.ifCond .ne 5, 3) := by decide +kernel
theorem d_V_grow_7 : decode b_V_grow 7 = .ok (.iconst (-1), 1) := by decide +kernel
theorem d_V_grow_8 : decode b_V_grow 8 = .ok (.ireturn, 1) := by decide +kernel
theorem d_V_grow_9 : decode b_V_grow 9 = .ok (.iload_n 2, 1) := by decide +kernel
theorem d_V_grow_10 : decode b_V_grow 10 = .ok (.iconst 1, 1) := by decide +kernel
theorem d_V_grow_11 : decode b_V_grow 11 = .ok (.if_icmp .lt 9, 3) := by decide +kernel
theorem d_V_grow_14 : decode b_V_grow 14 = .ok (.iload_n 2, 1) := by decide +kernel
theorem d_V_grow_15 : decode b_V_grow 15 = .ok (.bipush 48, 2) := by decide +kernel
theorem d_V_grow_17 : decode b_V_grow 17 = .ok (.if_icmp .le 6, 3) := by decide +kernel
theorem d_V_grow_20 : decode b_V_grow 20 = .ok (.bipush (-2), 2) := by decide +kernel
theorem d_V_grow_22 : decode b_V_grow 22 = .ok (.ireturn, 1) := by decide +kernel
theorem d_V_grow_23 : decode b_V_grow 23 = .ok (.aload_n 0, 1) := by decide +kernel
theorem d_V_grow_24 : decode b_V_grow 24 = .ok (.iload_n 1, 1) := by decide +kernel
theorem d_V_grow_25 : decode b_V_grow 25 = .ok (.invokevirtual 125, 3) := by decide +kernel
theorem d_V_grow_28 : decode b_V_grow 28 = .ok (.astore_n 3, 1) := by decide +kernel
theorem d_V_grow_29 : decode b_V_grow 29 = .ok (.aload_n 3, 1) := by decide +kernel
theorem d_V_grow_30 : decode b_V_grow 30 = .ok (.ifnonnull 6, 3) := by decide +kernel
theorem d_V_grow_33 : decode b_V_grow 33 = .ok (.bipush (-3), 2) := by decide +kernel
theorem d_V_grow_35 : decode b_V_grow 35 = .ok (.ireturn, 1) := by decide +kernel
theorem d_V_grow_36 : decode b_V_grow 36 = .ok (.aload_n 0, 1) := by decide +kernel
theorem d_V_grow_37 : decode b_V_grow 37 = .ok (.getfield 35, 3) := by decide +kernel
theorem d_V_grow_40 : decode b_V_grow 40 = .ok (.invokevirtual 129, 3) := by decide +kernel
theorem d_V_grow_43 : decode b_V_grow 43 = .ok (.iload_n 2, 1) := by decide +kernel
theorem d_V_grow_44 : decode b_V_grow 44 = .ok (.if_icmp .ge 6, 3) := by decide +kernel
theorem d_V_grow_47 : decode b_V_grow 47 = .ok (.bipush (-8), 2) := by decide +kernel
theorem d_V_grow_49 : decode b_V_grow 49 = .ok (.ireturn, 1) := by decide +kernel
theorem d_V_grow_50 : decode b_V_grow 50 = .ok (.iconst 0, 1) := by decide +kernel
theorem d_V_grow_51 : decode b_V_grow 51 = .ok (.istore 4, 2) := by decide +kernel
theorem d_V_grow_53 : decode b_V_grow 53 = .ok (.iload 4, 2) := by decide +kernel
theorem d_V_grow_55 : decode b_V_grow 55 = .ok (.iload_n 2, 1) := by decide +kernel
theorem d_V_grow_56 : decode b_V_grow 56 = .ok (.if_icmp .ge 38, 3) := by decide +kernel
theorem d_V_grow_59 : decode b_V_grow 59 = .ok (.aload_n 0, 1) := by decide +kernel
theorem d_V_grow_60 : decode b_V_grow 60 = .ok (.getfield 35, 3) := by decide +kernel
theorem d_V_grow_63 : decode b_V_grow 63 = .ok (.aload_n 3, 1) := by decide +kernel
theorem d_V_grow_64 : decode b_V_grow 64 = .ok (.invokevirtual 132, 3) := by decide +kernel
theorem d_V_grow_67 : decode b_V_grow 67 = .ok (.invokevirtual 135, 3) := by decide +kernel
theorem d_V_grow_70 : decode b_V_grow 70 = .ok (.istore 5, 2) := by decide +kernel
theorem d_V_grow_72 : decode b_V_grow 72 = .ok (.aload_n 0, 1) := by decide +kernel
theorem d_V_grow_73 : decode b_V_grow 73 = .ok (.getfield 35, 3) := by decide +kernel
theorem d_V_grow_76 : decode b_V_grow 76 = .ok (.iload 5, 2) := by decide +kernel
theorem d_V_grow_78 : decode b_V_grow 78 = .ok (.iconst 1, 1) := by decide +kernel
theorem d_V_grow_79 : decode b_V_grow 79 = .ok (.invokevirtual 138, 3) := by decide +kernel
theorem d_V_grow_82 : decode b_V_grow 82 = .ok (.aload_n 3, 1) := by decide +kernel
theorem d_V_grow_83 : decode b_V_grow 83 = .ok (.iload 5, 2) := by decide +kernel
theorem d_V_grow_85 : decode b_V_grow 85 = .ok (.invokevirtual 142, 3) := by decide +kernel
theorem d_V_grow_88 : decode b_V_grow 88 = .ok (.iinc 4 1, 3) := by decide +kernel
theorem d_V_grow_91 : decode b_V_grow 91 = .ok (.goto (-38), 3) := by decide +kernel
theorem d_V_grow_94 : decode b_V_grow 94 = .ok (.aload_n 3, 1) := by decide +kernel
theorem d_V_grow_95 : decode b_V_grow 95 = .ok (.getfield 146, 3) := by decide +kernel
theorem d_V_grow_98 : decode b_V_grow 98 = .ok (.ireturn, 1) := by decide +kernel
theorem d_V_fileOf_0 : decode b_V_fileOf 0 = .ok (.aload_n 0, 1) := by decide +kernel
theorem d_V_fileOf_1 : decode b_V_fileOf 1 = .ok (.iload_n 1, 1) := by decide +kernel
theorem d_V_fileOf_2 : decode b_V_fileOf 2 = .ok (.invokevirtual 219, 3) := by decide +kernel
theorem d_V_fileOf_5 : decode b_V_fileOf 5 = .ok (.invokestatic 76, 3) := by decide +kernel
theorem d_V_fileOf_8 : decode b_V_fileOf 8 = .ok (.areturn, 1) := by decide +kernel
theorem d_V_shrink_0 : decode b_V_shrink 0 = .ok (.aload_n 0, 1) := by decide +kernel
theorem d_V_shrink_1 : decode b_V_shrink 1 = .ok (.getfield 39, 3) := by decide +kernel
theorem d_V_shrink_4 : decode b_V_shrink 4 = .ok (.ifCond .ne 5, 3) := by decide +kernel
theorem d_V_shrink_7 : decode b_V_shrink 7 = .ok (.iconst (-1), 1) := by decide +kernel
theorem d_V_shrink_8 : decode b_V_shrink 8 = .ok (.ireturn, 1) := by decide +kernel
theorem d_V_shrink_9 : decode b_V_shrink 9 = .ok (.iload_n 2, 1) := by decide +kernel
theorem d_V_shrink_10 : decode b_V_shrink 10 = .ok (.iconst 1, 1) := by decide +kernel
theorem d_V_shrink_11 : decode b_V_shrink 11 = .ok (.if_icmp .lt 9, 3) := by decide +kernel
theorem d_V_shrink_14 : decode b_V_shrink 14 = .ok (.iload_n 2, 1) := by decide +kernel
theorem d_V_shrink_15 : decode b_V_shrink 15 = .ok (.bipush 48, 2) := by decide +kernel
theorem d_V_shrink_17 : decode b_V_shrink 17 = .ok (.if_icmp .le 6, 3) := by decide +kernel
theorem d_V_shrink_20 : decode b_V_shrink 20 = .ok (.bipush (-2), 2) := by decide +kernel
theorem d_V_shrink_22 : decode b_V_shrink 22 = .ok (.ireturn, 1) := by decide +kernel
theorem d_V_shrink_23 : decode b_V_shrink 23 = .ok (.aload_n 0, 1) := by decide +kernel
theorem d_V_shrink_24 : decode b_V_shrink 24 = .ok (.iload_n 1, 1) := by decide +kernel
theorem d_V_shrink_25 : decode b_V_shrink 25 = .ok (.invokevirtual 125, 3) := by decide +kernel
theorem d_V_shrink_28 : decode b_V_shrink 28 = .ok (.astore_n 3, 1) := by decide +kernel
theorem d_V_shrink_29 : decode b_V_shrink 29 = .ok (.aload_n 3, 1) := by decide +kernel
theorem d_V_shrink_30 : decode b_V_shrink 30 = .ok (.ifnonnull 6, 3) := by decide +kernel
theorem d_V_shrink_33 : decode b_V_shrink 33 = .ok (.bipush (-3), 2) := by decide +kernel
theorem d_V_shrink_35 : decode b_V_shrink 35 = .ok (.ireturn, 1) := by decide +kernel
theorem d_V_shrink_36 : decode b_V_shrink 36 = .ok (.iload_n 2, 1) := by decide +kernel
theorem d_V_shrink_37 : decode b_V_shrink 37 = .ok (.aload_n 3, 1) := by decide +kernel
theorem d_V_shrink_38 : decode b_V_shrink 38 = .ok (.getfield 146, 3) := by decide +kernel
theorem d_V_shrink_41 : decode b_V_shrink 41 = .ok (.if_icmp .le 6, 3) := by decide +kernel
theorem d_V_shrink_44 : decode b_V_shrink 44 = .ok (.bipush (-2), 2) := by decide +kernel
theorem d_V_shrink_46 : decode b_V_shrink 46 = .ok (.ireturn, 1) := by decide +kernel
theorem d_V_shrink_47 : decode b_V_shrink 47 = .ok (.aload_n 0, 1) := by decide +kernel
theorem d_V_shrink_48 : decode b_V_shrink 48 = .ok (.aload_n 3, 1) := by decide +kernel
theorem d_V_shrink_49 : decode b_V_shrink 49 = .ok (.aload_n 3, 1) := by decide +kernel
theorem d_V_shrink_50 : decode b_V_shrink 50 = .ok (.getfield 146, 3) := by decide +kernel
theorem d_V_shrink_53 : decode b_V_shrink 53 = .ok (.iload_n 2, 1) := by decide +kernel
theorem d_V_shrink_54 : decode b_V_shrink 54 = .ok (.isub, 1) := by decide +kernel
theorem d_V_shrink_55 : decode b_V_shrink 55 = .ok (.invokevirtual 104, 3) := by decide +kernel
theorem d_V_shrink_58 : decode b_V_shrink 58 = .ok (.aload_n 3, 1) := by decide +kernel
theorem d_V_shrink_59 : decode b_V_shrink 59 = .ok (.getfield 146, 3) := by decide +kernel
theorem d_V_shrink_62 : decode b_V_shrink 62 = .ok (.ireturn, 1) := by decide +kernel
theorem d_V_size_0 : decode b_V_size 0 = .ok (.aload_n 0, 1) := by decide +kernel
theorem d_V_size_1 : decode b_V_size 1 = .ok (.getfield 39, 3) := by decide +kernel
theorem d_V_size_4 : decode b_V_size 4 = .ok (.ifCond .ne 5, 3) := by decide +kernel
theorem d_V_size_7 : decode b_V_size 7 = .ok (.iconst (-1), 1) := by decide +kernel
theorem d_V_size_8 : decode b_V_size 8 = .ok (.ireturn, 1) := by decide +kernel
theorem d_V_size_9 : decode b_V_size 9 = .ok (.aload_n 0, 1) := by decide +kernel
theorem d_V_size_10 : decode b_V_size 10 = .ok (.iload_n 1, 1) := by decide +kernel
theorem d_V_size_11 : decode b_V_size 11 = .ok (.invokevirtual 125, 3) := by decide +kernel
theorem d_V_size_14 : decode b_V_size 14 = .ok (.astore_n 2, 1) := by decide +kernel
theorem d_V_size_15 : decode b_V_size 15 = .ok (.aload_n 2, 1) := by decide +kernel
theorem d_V_size_16 : decode b_V_size 16 = .ok (.ifnonnull 8, 3) := by decide +kernel
theorem d_V_size_19 : decode b_V_size 19 = .ok (.bipush (-3), 2) := by decide +kernel
theorem d_V_size_21 : decode b_V_size 21 = .ok (.goto 7, 3) := by decide +kernel
theorem d_V_size_24 : decode b_V_size 24 = .ok (.aload_n 2, 1) := by decide +kernel
theorem d_V_size_25 : decode b_V_size 25 = .ok (.getfield 146, 3) := by decide +kernel
theorem d_V_size_28 : decode b_V_size 28 = .ok (.ireturn, 1) := by decide +kernel
theorem d_V_block_0 : decode b_V_block 0 = .ok (.aload_n 0, 1) := by decide +kernel
theorem d_V_block_1 : decode b_V_block 1 = .ok (.getfield 39, 3) := by decide +kernel
theorem d_V_block_4 : decode b_V_block 4 = .ok (.ifCond .ne 5, 3) := by decide +kernel
theorem d_V_block_7 : decode b_V_block 7 = .ok (.iconst (-1), 1) := by decide +kernel
theorem d_V_block_8 : decode b_V_block 8 = .ok (.ireturn, 1) := by decide +kernel
theorem d_V_block_9 : decode b_V_block 9 = .ok (.aload_n 0, 1) := by decide +kernel
theorem d_V_block_10 : decode b_V_block 10 = .ok (.iload_n 1, 1) := by decide +kernel
theorem d_V_block_11 : decode b_V_block 11 = .ok (.invokevirtual 125, 3) := by decide +kernel
theorem d_V_block_14 : decode b_V_block 14 = .ok (.astore_n 3, 1) := by decide +kernel
theorem d_V_block_15 : decode b_V_block 15 = .ok (.aload_n 3, 1) := by decide +kernel
theorem d_V_block_16 : decode b_V_block 16 = .ok (.ifnonnull 6, 3) := by decide +kernel
theorem d_V_block_19 : decode b_V_block 19 = .ok (.bipush (-3), 2) := by decide +kernel
theorem d_V_block_21 : decode b_V_block 21 = .ok (.ireturn, 1) := by decide +kernel
theorem d_V_block_22 : decode b_V_block 22 = .ok (.iload_n 2, 1) := by decide +kernel
theorem d_V_block_23 : decode b_V_block 23 = .ok (.ifCond .lt 11, 3) := by decide +kernel
theorem d_V_block_26 : decode b_V_block 26 = .ok (.iload_n 2, 1) := by decide +kernel
theorem d_V_block_27 : decode b_V_block 27 = .ok (.aload_n 3, 1) := by decide +kernel
theorem d_V_block_28 : decode b_V_block 28 = .ok (.getfield 146, 3) := by decide +kernel
theorem d_V_block_31 : decode b_V_block 31 = .ok (.if_icmp .lt 6, 3) := by decide +kernel
theorem d_V_block_34 : decode b_V_block 34 = .ok (.bipush (-2), 2) := by decide +kernel
theorem d_V_block_36 : decode b_V_block 36 = .ok (.ireturn, 1) := by decide +kernel
theorem d_V_block_37 : decode b_V_block 37 = .ok (.aload_n 3, 1) := by decide +kernel
theorem d_V_block_38 : decode b_V_block 38 = .ok (.getfield 149, 3) := by decide +kernel
theorem d_V_block_41 : decode b_V_block 41 = .ok (.iload_n 2, 1) := by decide +kernel
theorem d_V_block_42 : decode b_V_block 42 = .ok (.iaload, 1) := by decide +kernel
theorem d_V_block_43 : decode b_V_block 43 = .ok (.ireturn, 1) := by decide +kernel
theorem d_V_extents_0 : decode b_V_extents 0 = .ok (.aload_n 0, 1) := by decide +kernel
theorem d_V_extents_1 : decode b_V_extents 1 = .ok (.getfield 39, 3) := by decide +kernel
theorem d_V_extents_4 : decode b_V_extents 4 = .ok (.ifCond .ne 5, 3) := by decide +kernel
theorem d_V_extents_7 : decode b_V_extents 7 = .ok (.iconst (-1), 1) := by decide +kernel
theorem d_V_extents_8 : decode b_V_extents 8 = .ok (.ireturn, 1) := by decide +kernel
theorem d_V_extents_9 : decode b_V_extents 9 = .ok (.aload_n 0, 1) := by decide +kernel
theorem d_V_extents_10 : decode b_V_extents 10 = .ok (.iload_n 1, 1) := by decide +kernel
theorem d_V_extents_11 : decode b_V_extents 11 = .ok (.invokevirtual 125, 3) := by decide +kernel
theorem d_V_extents_14 : decode b_V_extents 14 = .ok (.astore_n 2, 1) := by decide +kernel
theorem d_V_extents_15 : decode b_V_extents 15 = .ok (.aload_n 2, 1) := by decide +kernel
theorem d_V_extents_16 : decode b_V_extents 16 = .ok (.ifnonnull 8, 3) := by decide +kernel
theorem d_V_extents_19 : decode b_V_extents 19 = .ok (.bipush (-3), 2) := by decide +kernel
theorem d_V_extents_21 : decode b_V_extents 21 = .ok (.goto 7, 3) := by decide +kernel
theorem d_V_extents_24 : decode b_V_extents 24 = .ok (.aload_n 2, 1) := by decide +kernel
theorem d_V_extents_25 : decode b_V_extents 25 = .ok (.invokevirtual 153, 3) := by decide +kernel
theorem d_V_extents_28 : decode b_V_extents 28 = .ok (.ireturn, 1) := by decide +kernel
theorem d_V_valence_0 : decode b_V_valence 0 = .ok (.aload_n 0, 1) := by decide +kernel
theorem d_V_valence_1 : decode b_V_valence 1 = .ok (.getfield 39, 3) := by decide +kernel
theorem d_V_valence_4 : decode b_V_valence 4 = .ok (.ifCond .ne 5, 3) := by decide +kernel
theorem d_V_valence_7 : decode b_V_valence 7 = .ok (.iconst (-1), 1) := by decide +kernel
theorem d_V_valence_8 : decode b_V_valence 8 = .ok (.ireturn, 1) := by decide +kernel
theorem d_V_valence_9 : decode b_V_valence 9 = .ok (.aload_n 0, 1) := by decide +kernel
theorem d_V_valence_10 : decode b_V_valence 10 = .ok (.iload_n 1, 1) := by decide +kernel
theorem d_V_valence_11 : decode b_V_valence 11 = .ok (.invokevirtual 51, 3) := by decide +kernel
theorem d_V_valence_14 : decode b_V_valence 14 = .ok (.astore_n 2, 1) := by decide +kernel
theorem d_V_valence_15 : decode b_V_valence 15 = .ok (.aload_n 2, 1) := by decide +kernel
theorem d_V_valence_16 : decode b_V_valence 16 = .ok (.ifnonnull 8, 3) := by decide +kernel
theorem d_V_valence_19 : decode b_V_valence 19 = .ok (.bipush (-3), 2) := by decide +kernel
theorem d_V_valence_21 : decode b_V_valence 21 = .ok (.goto 7, 3) := by decide +kernel
theorem d_V_valence_24 : decode b_V_valence 24 = .ok (.aload_n 2, 1) := by decide +kernel
theorem d_V_valence_25 : decode b_V_valence 25 = .ok (.getfield 73, 3) := by decide +kernel
theorem d_V_valence_28 : decode b_V_valence 28 = .ok (.ireturn, 1) := by decide +kernel
theorem d_V_records_0 : decode b_V_records 0 = .ok (.aload_n 0, 1) := by decide +kernel
theorem d_V_records_1 : decode b_V_records 1 = .ok (.getfield 28, 3) := by decide +kernel
theorem d_V_records_4 : decode b_V_records 4 = .ok (.getfield 156, 3) := by decide +kernel
theorem d_V_records_7 : decode b_V_records 7 = .ok (.invokevirtual 159, 3) := by decide +kernel
theorem d_V_records_10 : decode b_V_records 10 = .ok (.ireturn, 1) := by decide +kernel
theorem d_V_row_0 : decode b_V_row 0 = .ok (.iload_n 1, 1) := by decide +kernel
theorem d_V_row_1 : decode b_V_row 1 = .ok (.ifCond .lt 17, 3) := by decide +kernel
theorem d_V_row_4 : decode b_V_row 4 = .ok (.iload_n 1, 1) := by decide +kernel
theorem d_V_row_5 : decode b_V_row 5 = .ok (.aload_n 0, 1) := by decide +kernel
theorem d_V_row_6 : decode b_V_row 6 = .ok (.getfield 28, 3) := by decide +kernel
theorem d_V_row_9 : decode b_V_row 9 = .ok (.getfield 156, 3) := by decide +kernel
theorem d_V_row_12 : decode b_V_row 12 = .ok (.invokevirtual 159, 3) := by decide +kernel
theorem d_V_row_15 : decode b_V_row 15 = .ok (.if_icmp .lt 6, 3) := by decide +kernel
theorem d_V_row_18 : decode b_V_row 18 = .ok (.bipush (-2), 2) := by decide +kernel
theorem d_V_row_20 : decode b_V_row 20 = .ok (.ireturn, 1) := by decide +kernel
theorem d_V_row_21 : decode b_V_row 21 = .ok (.aload_n 0, 1) := by decide +kernel
theorem d_V_row_22 : decode b_V_row 22 = .ok (.getfield 28, 3) := by decide +kernel
theorem d_V_row_25 : decode b_V_row 25 = .ok (.getfield 156, 3) := by decide +kernel
theorem d_V_row_28 : decode b_V_row 28 = .ok (.iload_n 1, 1) := by decide +kernel
theorem d_V_row_29 : decode b_V_row 29 = .ok (.invokevirtual 162, 3) := by decide +kernel
theorem d_V_row_32 : decode b_V_row 32 = .ok (.checkcast 166, 3) := by decide +kernel
theorem d_V_row_35 : decode b_V_row 35 = .ok (.astore_n 3, 1) := by decide +kernel
theorem d_V_row_36 : decode b_V_row 36 = .ok (.iload_n 2, 1) := by decide +kernel
theorem d_V_row_37 : decode b_V_row 37 = .ok (.tableswitch 60 0 4 #[35, 40, 45, 50, 55], 35) := by decide +kernel
theorem d_V_row_72 : decode b_V_row 72 = .ok (.aload_n 3, 1) := by decide +kernel
theorem d_V_row_73 : decode b_V_row 73 = .ok (.invokevirtual 168, 3) := by decide +kernel
theorem d_V_row_76 : decode b_V_row 76 = .ok (.ireturn, 1) := by decide +kernel
theorem d_V_row_77 : decode b_V_row 77 = .ok (.aload_n 3, 1) := by decide +kernel
theorem d_V_row_78 : decode b_V_row 78 = .ok (.invokevirtual 171, 3) := by decide +kernel
theorem d_V_row_81 : decode b_V_row 81 = .ok (.ireturn, 1) := by decide +kernel
theorem d_V_row_82 : decode b_V_row 82 = .ok (.aload_n 3, 1) := by decide +kernel
theorem d_V_row_83 : decode b_V_row 83 = .ok (.invokevirtual 174, 3) := by decide +kernel
theorem d_V_row_86 : decode b_V_row 86 = .ok (.ireturn, 1) := by decide +kernel
theorem d_V_row_87 : decode b_V_row 87 = .ok (.aload_n 3, 1) := by decide +kernel
theorem d_V_row_88 : decode b_V_row 88 = .ok (.invokevirtual 177, 3) := by decide +kernel
theorem d_V_row_91 : decode b_V_row 91 = .ok (.ireturn, 1) := by decide +kernel
theorem d_V_row_92 : decode b_V_row 92 = .ok (.aload_n 3, 1) := by decide +kernel
theorem d_V_row_93 : decode b_V_row 93 = .ok (.invokevirtual 180, 3) := by decide +kernel
theorem d_V_row_96 : decode b_V_row 96 = .ok (.ireturn, 1) := by decide +kernel
theorem d_V_row_97 : decode b_V_row 97 = .ok (.bipush (-2), 2) := by decide +kernel
theorem d_V_row_99 : decode b_V_row 99 = .ok (.ireturn, 1) := by decide +kernel
theorem d_V_overflows_0 : decode b_V_overflows 0 = .ok (.iconst 0, 1) := by decide +kernel
theorem d_V_overflows_1 : decode b_V_overflows 1 = .ok (.istore_n 1, 1) := by decide +kernel
theorem d_V_overflows_2 : decode b_V_overflows 2 = .ok (.iconst 0, 1) := by decide +kernel
theorem d_V_overflows_3 : decode b_V_overflows 3 = .ok (.istore_n 2, 1) := by decide +kernel
theorem d_V_overflows_4 : decode b_V_overflows 4 = .ok (.iload_n 2, 1) := by decide +kernel
theorem d_V_overflows_5 : decode b_V_overflows 5 = .ok (.aload_n 0, 1) := by decide +kernel
theorem d_V_overflows_6 : decode b_V_overflows 6 = .ok (.getfield 21, 3) := by decide +kernel
theorem d_V_overflows_9 : decode b_V_overflows 9 = .ok (.invokevirtual 159, 3) := by decide +kernel
theorem d_V_overflows_12 : decode b_V_overflows 12 = .ok (.if_icmp .ge 26, 3) := by decide +kernel
theorem d_V_overflows_15 : decode b_V_overflows 15 = .ok (.iload_n 1, 1) := by decide +kernel
theorem d_V_overflows_16 : decode b_V_overflows 16 = .ok (.aload_n 0, 1) := by decide +kernel
theorem d_V_overflows_17 : decode b_V_overflows 17 = .ok (.getfield 21, 3) := by decide +kernel
theorem d_V_overflows_20 : decode b_V_overflows 20 = .ok (.iload_n 2, 1) := by decide +kernel
theorem d_V_overflows_21 : decode b_V_overflows 21 = .ok (.invokevirtual 162, 3) := by decide +kernel
theorem d_V_overflows_24 : decode b_V_overflows 24 = .ok (.checkcast 93, 3) := by decide +kernel
theorem d_V_overflows_27 : decode b_V_overflows 27 = .ok (.invokestatic 183, 3) := by decide +kernel
theorem d_V_overflows_30 : decode b_V_overflows 30 = .ok (.iadd, 1) := by decide +kernel
theorem d_V_overflows_31 : decode b_V_overflows 31 = .ok (.istore_n 1, 1) := by decide +kernel
theorem d_V_overflows_32 : decode b_V_overflows 32 = .ok (.iinc 2 1, 3) := by decide +kernel
theorem d_V_overflows_35 : decode b_V_overflows 35 = .ok (.goto (-31), 3) := by decide +kernel
theorem d_V_overflows_38 : decode b_V_overflows 38 = .ok (.iload_n 1, 1) := by decide +kernel
theorem d_V_overflows_39 : decode b_V_overflows 39 = .ok (.ireturn, 1) := by decide +kernel
theorem d_V_overflowsOf_0 : decode b_V_overflowsOf 0 = .ok (.aload_n 0, 1) := by decide +kernel
theorem d_V_overflowsOf_1 : decode b_V_overflowsOf 1 = .ok (.instanceof 66, 3) := by decide +kernel
theorem d_V_overflowsOf_4 : decode b_V_overflowsOf 4 = .ok (.ifCond .eq 21, 3) := by decide +kernel
theorem d_V_overflowsOf_7 : decode b_V_overflowsOf 7 = .ok (.aload_n 0, 1) := by decide +kernel
theorem d_V_overflowsOf_8 : decode b_V_overflowsOf 8 = .ok (.checkcast 66, 3) := by decide +kernel
theorem d_V_overflowsOf_11 : decode b_V_overflowsOf 11 = .ok (.astore_n 1, 1) := by decide +kernel
theorem d_V_overflowsOf_12 : decode b_V_overflowsOf 12 = .ok (.iconst 0, 1) := by decide +kernel
theorem d_V_overflowsOf_13 : decode b_V_overflowsOf 13 = .ok (.aload_n 1, 1) := by decide +kernel
theorem d_V_overflowsOf_14 : decode b_V_overflowsOf 14 = .ok (.invokevirtual 153, 3) := by decide +kernel
theorem d_V_overflowsOf_17 : decode b_V_overflowsOf 17 = .ok (.iconst 2, 1) := by decide +kernel
theorem d_V_overflowsOf_18 : decode b_V_overflowsOf 18 = .ok (.isub, 1) := by decide +kernel
theorem d_V_overflowsOf_19 : decode b_V_overflowsOf 19 = .ok (.invokestatic 258, 3) := by decide +kernel
theorem d_V_overflowsOf_22 : decode b_V_overflowsOf 22 = .ok (.goto 4, 3) := by decide +kernel
theorem d_V_overflowsOf_25 : decode b_V_overflowsOf 25 = .ok (.iconst 0, 1) := by decide +kernel
theorem d_V_overflowsOf_26 : decode b_V_overflowsOf 26 = .ok (.ireturn, 1) := by decide +kernel
theorem d_V_overflow_0 : decode b_V_overflow 0 = .ok (.iload_n 1, 1) := by decide +kernel
theorem d_V_overflow_1 : decode b_V_overflow 1 = .ok (.ifCond .ge 6, 3) := by decide +kernel
theorem d_V_overflow_4 : decode b_V_overflow 4 = .ok (.bipush (-2), 2) := by decide +kernel
theorem d_V_overflow_6 : decode b_V_overflow 6 = .ok (.ireturn, 1) := by decide +kernel
theorem d_V_overflow_7 : decode b_V_overflow 7 = .ok (.iload_n 1, 1) := by decide +kernel
theorem d_V_overflow_8 : decode b_V_overflow 8 = .ok (.istore_n 3, 1) := by decide +kernel
theorem d_V_overflow_9 : decode b_V_overflow 9 = .ok (.iconst 0, 1) := by decide +kernel
theorem d_V_overflow_10 : decode b_V_overflow 10 = .ok (.istore 4, 2) := by decide +kernel
theorem d_V_overflow_12 : decode b_V_overflow 12 = .ok (.iload 4, 2) := by decide +kernel
theorem d_V_overflow_14 : decode b_V_overflow 14 = .ok (.aload_n 0, 1) := by decide +kernel
theorem d_V_overflow_15 : decode b_V_overflow 15 = .ok (.getfield 21, 3) := by decide +kernel
theorem d_V_overflow_18 : decode b_V_overflow 18 = .ok (.invokevirtual 159, 3) := by decide +kernel
theorem d_V_overflow_21 : decode b_V_overflow 21 = .ok (.if_icmp .ge 66, 3) := by decide +kernel
theorem d_V_overflow_24 : decode b_V_overflow 24 = .ok (.aload_n 0, 1) := by decide +kernel
theorem d_V_overflow_25 : decode b_V_overflow 25 = .ok (.getfield 21, 3) := by decide +kernel
theorem d_V_overflow_28 : decode b_V_overflow 28 = .ok (.iload 4, 2) := by decide +kernel
theorem d_V_overflow_30 : decode b_V_overflow 30 = .ok (.invokevirtual 162, 3) := by decide +kernel
theorem d_V_overflow_33 : decode b_V_overflow 33 = .ok (.checkcast 93, 3) := by decide +kernel
theorem d_V_overflow_36 : decode b_V_overflow 36 = .ok (.astore 5, 2) := by decide +kernel
theorem d_V_overflow_38 : decode b_V_overflow 38 = .ok (.aload 5, 2) := by decide +kernel
theorem d_V_overflow_40 : decode b_V_overflow 40 = .ok (.invokestatic 183, 3) := by decide +kernel
theorem d_V_overflow_43 : decode b_V_overflow 43 = .ok (.istore 6, 2) := by decide +kernel
theorem d_V_overflow_45 : decode b_V_overflow 45 = .ok (.iload_n 3, 1) := by decide +kernel
theorem d_V_overflow_46 : decode b_V_overflow 46 = .ok (.iload 6, 2) := by decide +kernel
theorem d_V_overflow_48 : decode b_V_overflow 48 = .ok (.if_icmp .ge 28, 3) := by decide +kernel
theorem d_V_overflow_51 : decode b_V_overflow 51 = .ok (.aload 5, 2) := by decide +kernel
theorem d_V_overflow_53 : decode b_V_overflow 53 = .ok (.instanceof 66, 3) := by decide +kernel
theorem d_V_overflow_56 : decode b_V_overflow 56 = .ok (.ifCond .eq 20, 3) := by decide +kernel
theorem d_V_overflow_59 : decode b_V_overflow 59 = .ok (.aload 5, 2) := by decide +kernel
theorem d_V_overflow_61 : decode b_V_overflow 61 = .ok (.checkcast 66, 3) := by decide +kernel
theorem d_V_overflow_64 : decode b_V_overflow 64 = .ok (.astore 7, 2) := by decide +kernel
theorem d_V_overflow_66 : decode b_V_overflow 66 = .ok (.aload 7, 2) := by decide +kernel
theorem d_V_overflow_68 : decode b_V_overflow 68 = .ok (.iconst 2, 1) := by decide +kernel
theorem d_V_overflow_69 : decode b_V_overflow 69 = .ok (.iload_n 3, 1) := by decide +kernel
theorem d_V_overflow_70 : decode b_V_overflow 70 = .ok (.iadd, 1) := by decide +kernel
theorem d_V_overflow_71 : decode b_V_overflow 71 = .ok (.iload_n 2, 1) := by decide +kernel
theorem d_V_overflow_72 : decode b_V_overflow 72 = .ok (.invokestatic 187, 3) := by decide +kernel
theorem d_V_overflow_75 : decode b_V_overflow 75 = .ok (.ireturn, 1) := by decide +kernel
theorem d_V_overflow_76 : decode b_V_overflow 76 = .ok (.iload_n 3, 1) := by decide +kernel
theorem d_V_overflow_77 : decode b_V_overflow 77 = .ok (.iload 6, 2) := by decide +kernel
theorem d_V_overflow_79 : decode b_V_overflow 79 = .ok (.isub, 1) := by decide +kernel
theorem d_V_overflow_80 : decode b_V_overflow 80 = .ok (.istore_n 3, 1) := by decide +kernel
theorem d_V_overflow_81 : decode b_V_overflow 81 = .ok (.iinc 4 1, 3) := by decide +kernel
theorem d_V_overflow_84 : decode b_V_overflow 84 = .ok (.goto (-72), 3) := by decide +kernel
theorem d_V_overflow_87 : decode b_V_overflow 87 = .ok (.bipush (-2), 2) := by decide +kernel
theorem d_V_overflow_89 : decode b_V_overflow 89 = .ok (.ireturn, 1) := by decide +kernel
theorem d_V_overflowField_0 : decode b_V_overflowField 0 = .ok (.aload_n 0, 1) := by decide +kernel
theorem d_V_overflowField_1 : decode b_V_overflowField 1 = .ok (.iload_n 1, 1) := by decide +kernel
theorem d_V_overflowField_2 : decode b_V_overflowField 2 = .ok (.invokevirtual 264, 3) := by decide +kernel
theorem d_V_overflowField_5 : decode b_V_overflowField 5 = .ok (.istore_n 3, 1) := by decide +kernel
theorem d_V_overflowField_6 : decode b_V_overflowField 6 = .ok (.iload_n 3, 1) := by decide +kernel
theorem d_V_overflowField_7 : decode b_V_overflowField 7 = .ok (.aload_n 0, 1) := by decide +kernel
theorem d_V_overflowField_8 : decode b_V_overflowField 8 = .ok (.getfield 146, 3) := by decide +kernel
theorem d_V_overflowField_11 : decode b_V_overflowField 11 = .ok (.if_icmp .lt 6, 3) := by decide +kernel
theorem d_V_overflowField_14 : decode b_V_overflowField 14 = .ok (.bipush (-2), 2) := by decide +kernel
theorem d_V_overflowField_16 : decode b_V_overflowField 16 = .ok (.ireturn, 1) := by decide +kernel
theorem d_V_overflowField_17 : decode b_V_overflowField 17 = .ok (.iload_n 2, 1) := by decide +kernel
theorem d_V_overflowField_18 : decode b_V_overflowField 18 = .ok (.tableswitch 54 0 3 #[30, 35, 37, 44], 30) := by decide +kernel
theorem d_V_overflowField_48 : decode b_V_overflowField 48 = .ok (.aload_n 0, 1) := by decide +kernel
theorem d_V_overflowField_49 : decode b_V_overflowField 49 = .ok (.getfield 257, 3) := by decide +kernel
theorem d_V_overflowField_52 : decode b_V_overflowField 52 = .ok (.ireturn, 1) := by decide +kernel
theorem d_V_overflowField_53 : decode b_V_overflowField 53 = .ok (.iload_n 3, 1) := by decide +kernel
theorem d_V_overflowField_54 : decode b_V_overflowField 54 = .ok (.ireturn, 1) := by decide +kernel
theorem d_V_overflowField_55 : decode b_V_overflowField 55 = .ok (.aload_n 0, 1) := by decide +kernel
theorem d_V_overflowField_56 : decode b_V_overflowField 56 = .ok (.getfield 149, 3) := by decide +kernel
theorem d_V_overflowField_59 : decode b_V_overflowField 59 = .ok (.iload_n 3, 1) := by decide +kernel
theorem d_V_overflowField_60 : decode b_V_overflowField 60 = .ok (.iaload, 1) := by decide +kernel
theorem d_V_overflowField_61 : decode b_V_overflowField 61 = .ok (.ireturn, 1) := by decide +kernel
theorem d_V_overflowField_62 : decode b_V_overflowField 62 = .ok (.aload_n 0, 1) := by decide +kernel
theorem d_V_overflowField_63 : decode b_V_overflowField 63 = .ok (.iload_n 1, 1) := by decide +kernel
theorem d_V_overflowField_64 : decode b_V_overflowField 64 = .ok (.iconst 1, 1) := by decide +kernel
theorem d_V_overflowField_65 : decode b_V_overflowField 65 = .ok (.iadd, 1) := by decide +kernel
theorem d_V_overflowField_66 : decode b_V_overflowField 66 = .ok (.invokevirtual 264, 3) := by decide +kernel
theorem d_V_overflowField_69 : decode b_V_overflowField 69 = .ok (.iload_n 3, 1) := by decide +kernel
theorem d_V_overflowField_70 : decode b_V_overflowField 70 = .ok (.isub, 1) := by decide +kernel
theorem d_V_overflowField_71 : decode b_V_overflowField 71 = .ok (.ireturn, 1) := by decide +kernel
theorem d_V_overflowField_72 : decode b_V_overflowField 72 = .ok (.bipush (-2), 2) := by decide +kernel
theorem d_V_overflowField_74 : decode b_V_overflowField 74 = .ok (.ireturn, 1) := by decide +kernel
theorem d_V_unmount_0 : decode b_V_unmount 0 = .ok (.aload_n 0, 1) := by decide +kernel
theorem d_V_unmount_1 : decode b_V_unmount 1 = .ok (.getfield 39, 3) := by decide +kernel
theorem d_V_unmount_4 : decode b_V_unmount 4 = .ok (.istore_n 1, 1) := by decide +kernel
theorem d_V_unmount_5 : decode b_V_unmount 5 = .ok (.aload_n 0, 1) := by decide +kernel
theorem d_V_unmount_6 : decode b_V_unmount 6 = .ok (.iconst 0, 1) := by decide +kernel
theorem d_V_unmount_7 : decode b_V_unmount 7 = .ok (.putfield 39, 3) := by decide +kernel
theorem d_V_unmount_10 : decode b_V_unmount 10 = .ok (.iload_n 1, 1) := by decide +kernel
theorem d_V_unmount_11 : decode b_V_unmount 11 = .ok (.ireturn, 1) := by decide +kernel
theorem d_V_harm_0 : decode b_V_harm 0 = .ok (.aload_n 0, 1) := by decide +kernel
theorem d_V_harm_1 : decode b_V_harm 1 = .ok (.getfield 39, 3) := by decide +kernel
theorem d_V_harm_4 : decode b_V_harm 4 = .ok (.ifCond .eq 5, 3) := by decide +kernel
theorem d_V_harm_7 : decode b_V_harm 7 = .ok (.iconst 0, 1) := by decide +kernel
theorem d_V_harm_8 : decode b_V_harm 8 = .ok (.ireturn, 1) := by decide +kernel
theorem d_V_harm_9 : decode b_V_harm 9 = .ok (.iload_n 1, 1) := by decide +kernel
theorem d_V_harm_10 : decode b_V_harm 10 = .ok (.tableswitch 57 0 3 #[30, 36, 45, 51], 30) := by decide +kernel
theorem d_V_harm_40 : decode b_V_harm 40 = .ok (.aload_n 0, 1) := by decide +kernel
theorem d_V_harm_41 : decode b_V_harm 41 = .ok (.iload_n 2, 1) := by decide +kernel
theorem d_V_harm_42 : decode b_V_harm 42 = .ok (.invokevirtual 190, 3) := by decide +kernel
theorem d_V_harm_45 : decode b_V_harm 45 = .ok (.ireturn, 1) := by decide +kernel
theorem d_V_harm_46 : decode b_V_harm 46 = .ok (.aload_n 0, 1) := by decide +kernel
theorem d_V_harm_47 : decode b_V_harm 47 = .ok (.getfield 35, 3) := by decide +kernel
theorem d_V_harm_50 : decode b_V_harm 50 = .ok (.iload_n 2, 1) := by decide +kernel
theorem d_V_harm_51 : decode b_V_harm 51 = .ok (.invokevirtual 193, 3) := by decide +kernel
theorem d_V_harm_54 : decode b_V_harm 54 = .ok (.ireturn, 1) := by decide +kernel
theorem d_V_harm_55 : decode b_V_harm 55 = .ok (.aload_n 0, 1) := by decide +kernel
theorem d_V_harm_56 : decode b_V_harm 56 = .ok (.iload_n 2, 1) := by decide +kernel
theorem d_V_harm_57 : decode b_V_harm 57 = .ok (.invokevirtual 196, 3) := by decide +kernel
theorem d_V_harm_60 : decode b_V_harm 60 = .ok (.ireturn, 1) := by decide +kernel
theorem d_V_harm_61 : decode b_V_harm 61 = .ok (.aload_n 0, 1) := by decide +kernel
theorem d_V_harm_62 : decode b_V_harm 62 = .ok (.iload_n 2, 1) := by decide +kernel
theorem d_V_harm_63 : decode b_V_harm 63 = .ok (.invokevirtual 199, 3) := by decide +kernel
theorem d_V_harm_66 : decode b_V_harm 66 = .ok (.ireturn, 1) := by decide +kernel
theorem d_V_harm_67 : decode b_V_harm 67 = .ok (.iconst 0, 1) := by decide +kernel
theorem d_V_harm_68 : decode b_V_harm 68 = .ok (.ireturn, 1) := by decide +kernel
theorem d_V_harmValence_0 : decode b_V_harmValence 0 = .ok (.aload_n 0, 1) := by decide +kernel
theorem d_V_harmValence_1 : decode b_V_harmValence 1 = .ok (.iload_n 1, 1) := by decide +kernel
theorem d_V_harmValence_2 : decode b_V_harmValence 2 = .ok (.invokevirtual 51, 3) := by decide +kernel
theorem d_V_harmValence_5 : decode b_V_harmValence 5 = .ok (.astore_n 2, 1) := by decide +kernel
theorem d_V_harmValence_6 : decode b_V_harmValence 6 = .ok (.aload_n 2, 1) := by decide +kernel
theorem d_V_harmValence_7 : decode b_V_harmValence 7 = .ok (.ifnonnull 5, 3) := by decide +kernel
theorem d_V_harmValence_10 : decode b_V_harmValence 10 = .ok (.iconst 0, 1) := by decide +kernel
theorem d_V_harmValence_11 : decode b_V_harmValence 11 = .ok (.ireturn, 1) := by decide +kernel
theorem d_V_harmValence_12 : decode b_V_harmValence 12 = .ok (.aload_n 2, 1) := by decide +kernel
theorem d_V_harmValence_13 : decode b_V_harmValence 13 = .ok (.dup, 1) := by decide +kernel
theorem d_V_harmValence_14 : decode b_V_harmValence 14 = .ok (.getfield 73, 3) := by decide +kernel
theorem d_V_harmValence_17 : decode b_V_harmValence 17 = .ok (.iconst 1, 1) := by decide +kernel
theorem d_V_harmValence_18 : decode b_V_harmValence 18 = .ok (.iadd, 1) := by decide +kernel
theorem d_V_harmValence_19 : decode b_V_harmValence 19 = .ok (.putfield 73, 3) := by decide +kernel
theorem d_V_harmValence_22 : decode b_V_harmValence 22 = .ok (.iconst 1, 1) := by decide +kernel
theorem d_V_harmValence_23 : decode b_V_harmValence 23 = .ok (.ireturn, 1) := by decide +kernel
theorem d_V_harmThread_0 : decode b_V_harmThread 0 = .ok (.aload_n 0, 1) := by decide +kernel
theorem d_V_harmThread_1 : decode b_V_harmThread 1 = .ok (.iload_n 1, 1) := by decide +kernel
theorem d_V_harmThread_2 : decode b_V_harmThread 2 = .ok (.invokevirtual 219, 3) := by decide +kernel
theorem d_V_harmThread_5 : decode b_V_harmThread 5 = .ok (.astore_n 2, 1) := by decide +kernel
theorem d_V_harmThread_6 : decode b_V_harmThread 6 = .ok (.aload_n 2, 1) := by decide +kernel
theorem d_V_harmThread_7 : decode b_V_harmThread 7 = .ok (.ifnull 19, 3) := by decide +kernel
theorem d_V_harmThread_10 : decode b_V_harmThread 10 = .ok (.aload_n 0, 1) := by decide +kernel
theorem d_V_harmThread_11 : decode b_V_harmThread 11 = .ok (.getfield 28, 3) := by decide +kernel
theorem d_V_harmThread_14 : decode b_V_harmThread 14 = .ok (.aload_n 2, 1) := by decide +kernel
theorem d_V_harmThread_15 : decode b_V_harmThread 15 = .ok (.iconst 1, 1) := by decide +kernel
theorem d_V_harmThread_16 : decode b_V_harmThread 16 = .ok (.invokevirtual 248, 3) := by decide +kernel
theorem d_V_harmThread_19 : decode b_V_harmThread 19 = .ok (.ifCond .eq 7, 3) := by decide +kernel
theorem d_V_harmThread_22 : decode b_V_harmThread 22 = .ok (.iconst 1, 1) := by decide +kernel
theorem d_V_harmThread_23 : decode b_V_harmThread 23 = .ok (.goto 4, 3) := by decide +kernel
theorem d_V_harmThread_26 : decode b_V_harmThread 26 = .ok (.iconst 0, 1) := by decide +kernel
theorem d_V_harmThread_27 : decode b_V_harmThread 27 = .ok (.ireturn, 1) := by decide +kernel
theorem d_V_harmLinkCount_0 : decode b_V_harmLinkCount 0 = .ok (.aload_n 0, 1) := by decide +kernel
theorem d_V_harmLinkCount_1 : decode b_V_harmLinkCount 1 = .ok (.iload_n 1, 1) := by decide +kernel
theorem d_V_harmLinkCount_2 : decode b_V_harmLinkCount 2 = .ok (.invokevirtual 219, 3) := by decide +kernel
theorem d_V_harmLinkCount_5 : decode b_V_harmLinkCount 5 = .ok (.astore_n 3, 1) := by decide +kernel
theorem d_V_harmLinkCount_6 : decode b_V_harmLinkCount 6 = .ok (.aload_n 3, 1) := by decide +kernel
theorem d_V_harmLinkCount_7 : decode b_V_harmLinkCount 7 = .ok (.instanceof 66, 3) := by decide +kernel
theorem d_V_harmLinkCount_10 : decode b_V_harmLinkCount 10 = .ok (.ifCond .eq 27, 3) := by decide +kernel
theorem d_V_harmLinkCount_13 : decode b_V_harmLinkCount 13 = .ok (.aload_n 3, 1) := by decide +kernel
theorem d_V_harmLinkCount_14 : decode b_V_harmLinkCount 14 = .ok (.checkcast 66, 3) := by decide +kernel
theorem d_V_harmLinkCount_17 : decode b_V_harmLinkCount 17 = .ok (.astore_n 2, 1) := by decide +kernel
theorem d_V_harmLinkCount_18 : decode b_V_harmLinkCount 18 = .ok (.aload_n 2, 1) := by decide +kernel
theorem d_V_harmLinkCount_19 : decode b_V_harmLinkCount 19 = .ok (.invokevirtual 80, 3) := by decide +kernel
theorem d_V_harmLinkCount_22 : decode b_V_harmLinkCount 22 = .ok (.ifCond .eq 15, 3) := by decide +kernel
theorem d_V_harmLinkCount_25 : decode b_V_harmLinkCount 25 = .ok (.aload_n 2, 1) := by decide +kernel
theorem d_V_harmLinkCount_26 : decode b_V_harmLinkCount 26 = .ok (.dup, 1) := by decide +kernel
theorem d_V_harmLinkCount_27 : decode b_V_harmLinkCount 27 = .ok (.getfield 245, 3) := by decide +kernel
theorem d_V_harmLinkCount_30 : decode b_V_harmLinkCount 30 = .ok (.iconst 1, 1) := by decide +kernel
theorem d_V_harmLinkCount_31 : decode b_V_harmLinkCount 31 = .ok (.iadd, 1) := by decide +kernel
theorem d_V_harmLinkCount_32 : decode b_V_harmLinkCount 32 = .ok (.putfield 245, 3) := by decide +kernel
theorem d_V_harmLinkCount_35 : decode b_V_harmLinkCount 35 = .ok (.iconst 1, 1) := by decide +kernel
theorem d_V_harmLinkCount_36 : decode b_V_harmLinkCount 36 = .ok (.ireturn, 1) := by decide +kernel
theorem d_V_harmLinkCount_37 : decode b_V_harmLinkCount 37 = .ok (.iconst 0, 1) := by decide +kernel
theorem d_V_harmLinkCount_38 : decode b_V_harmLinkCount 38 = .ok (.ireturn, 1) := by decide +kernel
theorem d_V_check_0 : decode b_V_check 0 = .ok (.iconst 0, 1) := by decide +kernel
theorem d_V_check_1 : decode b_V_check 1 = .ok (.istore_n 1, 1) := by decide +kernel
theorem d_V_check_2 : decode b_V_check 2 = .ok (.aload_n 0, 1) := by decide +kernel
theorem d_V_check_3 : decode b_V_check 3 = .ok (.iconst 0, 1) := by decide +kernel
theorem d_V_check_4 : decode b_V_check 4 = .ok (.invokevirtual 202, 3) := by decide +kernel
theorem d_V_check_7 : decode b_V_check 7 = .ok (.ifCond .le 6, 3) := by decide +kernel
theorem d_V_check_10 : decode b_V_check 10 = .ok (.iinc 1 1, 3) := by decide +kernel
theorem d_V_check_13 : decode b_V_check 13 = .ok (.aload_n 0, 1) := by decide +kernel
theorem d_V_check_14 : decode b_V_check 14 = .ok (.iconst 1, 1) := by decide +kernel
theorem d_V_check_15 : decode b_V_check 15 = .ok (.iconst 0, 1) := by decide +kernel
theorem d_V_check_16 : decode b_V_check 16 = .ok (.invokevirtual 206, 3) := by decide +kernel
theorem d_V_check_19 : decode b_V_check 19 = .ok (.ifCond .le 6, 3) := by decide +kernel
theorem d_V_check_22 : decode b_V_check 22 = .ok (.iinc 1 2, 3) := by decide +kernel
theorem d_V_check_25 : decode b_V_check 25 = .ok (.aload_n 0, 1) := by decide +kernel
theorem d_V_check_26 : decode b_V_check 26 = .ok (.iconst 0, 1) := by decide +kernel
theorem d_V_check_27 : decode b_V_check 27 = .ok (.iconst 0, 1) := by decide +kernel
theorem d_V_check_28 : decode b_V_check 28 = .ok (.invokevirtual 206, 3) := by decide +kernel
theorem d_V_check_31 : decode b_V_check 31 = .ok (.ifCond .le 6, 3) := by decide +kernel
theorem d_V_check_34 : decode b_V_check 34 = .ok (.iinc 1 4, 3) := by decide +kernel
theorem d_V_check_37 : decode b_V_check 37 = .ok (.aload_n 0, 1) := by decide +kernel
theorem d_V_check_38 : decode b_V_check 38 = .ok (.iconst 0, 1) := by decide +kernel
theorem d_V_check_39 : decode b_V_check 39 = .ok (.invokevirtual 210, 3) := by decide +kernel
theorem d_V_check_42 : decode b_V_check 42 = .ok (.ifCond .le 6, 3) := by decide +kernel
theorem d_V_check_45 : decode b_V_check 45 = .ok (.iinc 1 8, 3) := by decide +kernel
theorem d_V_check_48 : decode b_V_check 48 = .ok (.aload_n 0, 1) := by decide +kernel
theorem d_V_check_49 : decode b_V_check 49 = .ok (.iconst 0, 1) := by decide +kernel
theorem d_V_check_50 : decode b_V_check 50 = .ok (.invokevirtual 213, 3) := by decide +kernel
theorem d_V_check_53 : decode b_V_check 53 = .ok (.ifCond .le 6, 3) := by decide +kernel
theorem d_V_check_56 : decode b_V_check 56 = .ok (.iinc 1 16, 3) := by decide +kernel
theorem d_V_check_59 : decode b_V_check 59 = .ok (.iload_n 1, 1) := by decide +kernel
theorem d_V_check_60 : decode b_V_check 60 = .ok (.ireturn, 1) := by decide +kernel
theorem d_V_wrongValences_0 : decode b_V_wrongValences 0 = .ok (.aload_n 0, 1) := by decide +kernel
theorem d_V_wrongValences_1 : decode b_V_wrongValences 1 = .ok (.aload_n 0, 1) := by decide +kernel
theorem d_V_wrongValences_2 : decode b_V_wrongValences 2 = .ok (.getfield 14, 3) := by decide +kernel
theorem d_V_wrongValences_5 : decode b_V_wrongValences 5 = .ok (.iload_n 1, 1) := by decide +kernel
theorem d_V_wrongValences_6 : decode b_V_wrongValences 6 = .ok (.invokevirtual 267, 3) := by decide +kernel
theorem d_V_wrongValences_9 : decode b_V_wrongValences 9 = .ok (.istore_n 2, 1) := by decide +kernel
theorem d_V_wrongValences_10 : decode b_V_wrongValences 10 = .ok (.iconst 0, 1) := by decide +kernel
theorem d_V_wrongValences_11 : decode b_V_wrongValences 11 = .ok (.istore_n 3, 1) := by decide +kernel
theorem d_V_wrongValences_12 : decode b_V_wrongValences 12 = .ok (.iload_n 3, 1) := by decide +kernel
theorem d_V_wrongValences_13 : decode b_V_wrongValences 13 = .ok (.aload_n 0, 1) := by decide +kernel
theorem d_V_wrongValences_14 : decode b_V_wrongValences 14 = .ok (.getfield 21, 3) := by decide +kernel
theorem d_V_wrongValences_17 : decode b_V_wrongValences 17 = .ok (.invokevirtual 159, 3) := by decide +kernel
theorem d_V_wrongValences_20 : decode b_V_wrongValences 20 = .ok (.if_icmp .ge 44, 3) := by decide +kernel
theorem d_V_wrongValences_23 : decode b_V_wrongValences 23 = .ok (.aload_n 0, 1) := by decide +kernel
theorem d_V_wrongValences_24 : decode b_V_wrongValences 24 = .ok (.getfield 21, 3) := by decide +kernel
theorem d_V_wrongValences_27 : decode b_V_wrongValences 27 = .ok (.iload_n 3, 1) := by decide +kernel
theorem d_V_wrongValences_28 : decode b_V_wrongValences 28 = .ok (.invokevirtual 162, 3) := by decide +kernel
theorem d_V_wrongValences_31 : decode b_V_wrongValences 31 = .ok (.astore 5, 2) := by decide +kernel
theorem d_V_wrongValences_33 : decode b_V_wrongValences 33 = .ok (.aload 5, 2) := by decide +kernel
theorem d_V_wrongValences_35 : decode b_V_wrongValences 35 = .ok (.instanceof 7, 3) := by decide +kernel
theorem d_V_wrongValences_38 : decode b_V_wrongValences 38 = .ok (.ifCond .eq 20, 3) := by decide +kernel
theorem d_V_wrongValences_41 : decode b_V_wrongValences 41 = .ok (.aload 5, 2) := by decide +kernel
theorem d_V_wrongValences_43 : decode b_V_wrongValences 43 = .ok (.checkcast 7, 3) := by decide +kernel
theorem d_V_wrongValences_46 : decode b_V_wrongValences 46 = .ok (.astore 4, 2) := by decide +kernel
theorem d_V_wrongValences_48 : decode b_V_wrongValences 48 = .ok (.iload_n 2, 1) := by decide +kernel
theorem d_V_wrongValences_49 : decode b_V_wrongValences 49 = .ok (.aload_n 0, 1) := by decide +kernel
theorem d_V_wrongValences_50 : decode b_V_wrongValences 50 = .ok (.aload 4, 2) := by decide +kernel
theorem d_V_wrongValences_52 : decode b_V_wrongValences 52 = .ok (.iload_n 1, 1) := by decide +kernel
theorem d_V_wrongValences_53 : decode b_V_wrongValences 53 = .ok (.invokevirtual 267, 3) := by decide +kernel
theorem d_V_wrongValences_56 : decode b_V_wrongValences 56 = .ok (.iadd, 1) := by decide +kernel
theorem d_V_wrongValences_57 : decode b_V_wrongValences 57 = .ok (.istore_n 2, 1) := by decide +kernel
theorem d_V_wrongValences_58 : decode b_V_wrongValences 58 = .ok (.iinc 3 1, 3) := by decide +kernel
theorem d_V_wrongValences_61 : decode b_V_wrongValences 61 = .ok (.goto (-49), 3) := by decide +kernel
theorem d_V_wrongValences_64 : decode b_V_wrongValences 64 = .ok (.iload_n 2, 1) := by decide +kernel
theorem d_V_wrongValences_65 : decode b_V_wrongValences 65 = .ok (.ireturn, 1) := by decide +kernel
theorem d_V_wrongValence_0 : decode b_V_wrongValence 0 = .ok (.aload_n 0, 1) := by decide +kernel
theorem d_V_wrongValence_1 : decode b_V_wrongValence 1 = .ok (.aload_n 1, 1) := by decide +kernel
theorem d_V_wrongValence_2 : decode b_V_wrongValence 2 = .ok (.getfield 230, 3) := by decide +kernel
theorem d_V_wrongValence_5 : decode b_V_wrongValence 5 = .ok (.invokevirtual 97, 3) := by decide +kernel
theorem d_V_wrongValence_8 : decode b_V_wrongValence 8 = .ok (.istore_n 3, 1) := by decide +kernel
theorem d_V_wrongValence_9 : decode b_V_wrongValence 9 = .ok (.aload_n 1, 1) := by decide +kernel
theorem d_V_wrongValence_10 : decode b_V_wrongValence 10 = .ok (.getfield 73, 3) := by decide +kernel
theorem d_V_wrongValence_13 : decode b_V_wrongValence 13 = .ok (.iload_n 3, 1) := by decide +kernel
theorem d_V_wrongValence_14 : decode b_V_wrongValence 14 = .ok (.if_icmp .ne 5, 3) := by decide +kernel
theorem d_V_wrongValence_17 : decode b_V_wrongValence 17 = .ok (.iconst 0, 1) := by decide +kernel
theorem d_V_wrongValence_18 : decode b_V_wrongValence 18 = .ok (.ireturn, 1) := by decide +kernel
theorem d_V_wrongValence_19 : decode b_V_wrongValence 19 = .ok (.iload_n 2, 1) := by decide +kernel
theorem d_V_wrongValence_20 : decode b_V_wrongValence 20 = .ok (.ifCond .eq 8, 3) := by decide +kernel
theorem d_V_wrongValence_23 : decode b_V_wrongValence 23 = .ok (.aload_n 1, 1) := by decide +kernel
theorem d_V_wrongValence_24 : decode b_V_wrongValence 24 = .ok (.iload_n 3, 1) := by decide +kernel
theorem d_V_wrongValence_25 : decode b_V_wrongValence 25 = .ok (.putfield 73, 3) := by decide +kernel
theorem d_V_wrongValence_28 : decode b_V_wrongValence 28 = .ok (.iconst 1, 1) := by decide +kernel
theorem d_V_wrongValence_29 : decode b_V_wrongValence 29 = .ok (.ireturn, 1) := by decide +kernel
theorem d_V_wrongWords_0 : decode b_V_wrongWords 0 = .ok (.iconst 0, 1) := by decide +kernel
theorem d_V_wrongWords_1 : decode b_V_wrongWords 1 = .ok (.istore_n 3, 1) := by decide +kernel
theorem d_V_wrongWords_2 : decode b_V_wrongWords 2 = .ok (.iconst 0, 1) := by decide +kernel
theorem d_V_wrongWords_3 : decode b_V_wrongWords 3 = .ok (.istore 4, 2) := by decide +kernel
theorem d_V_wrongWords_5 : decode b_V_wrongWords 5 = .ok (.iload 4, 2) := by decide +kernel
theorem d_V_wrongWords_7 : decode b_V_wrongWords 7 = .ok (.bipush 48, 2) := by decide +kernel
theorem d_V_wrongWords_9 : decode b_V_wrongWords 9 = .ok (.if_icmp .ge 49, 3) := by decide +kernel
theorem d_V_wrongWords_12 : decode b_V_wrongWords 12 = .ok (.aload_n 0, 1) := by decide +kernel
theorem d_V_wrongWords_13 : decode b_V_wrongWords 13 = .ok (.iload 4, 2) := by decide +kernel
theorem d_V_wrongWords_15 : decode b_V_wrongWords 15 = .ok (.invokevirtual 271, 3) := by decide +kernel
theorem d_V_wrongWords_18 : decode b_V_wrongWords 18 = .ok (.iload_n 1, 1) := by decide +kernel
theorem d_V_wrongWords_19 : decode b_V_wrongWords 19 = .ok (.if_icmp .ne 33, 3) := by decide +kernel
theorem d_V_wrongWords_22 : decode b_V_wrongWords 22 = .ok (.aload_n 0, 1) := by decide +kernel
theorem d_V_wrongWords_23 : decode b_V_wrongWords 23 = .ok (.getfield 35, 3) := by decide +kernel
theorem d_V_wrongWords_26 : decode b_V_wrongWords 26 = .ok (.iload 4, 2) := by decide +kernel
theorem d_V_wrongWords_28 : decode b_V_wrongWords 28 = .ok (.invokevirtual 274, 3) := by decide +kernel
theorem d_V_wrongWords_31 : decode b_V_wrongWords 31 = .ok (.iload_n 1, 1) := by decide +kernel
theorem d_V_wrongWords_32 : decode b_V_wrongWords 32 = .ok (.if_icmp .eq 20, 3) := by decide +kernel
theorem d_V_wrongWords_35 : decode b_V_wrongWords 35 = .ok (.iinc 3 1, 3) := by decide +kernel
theorem d_V_wrongWords_38 : decode b_V_wrongWords 38 = .ok (.iload_n 2, 1) := by decide +kernel
theorem d_V_wrongWords_39 : decode b_V_wrongWords 39 = .ok (.ifCond .eq 13, 3) := by decide +kernel
theorem d_V_wrongWords_42 : decode b_V_wrongWords 42 = .ok (.aload_n 0, 1) := by decide +kernel
theorem d_V_wrongWords_43 : decode b_V_wrongWords 43 = .ok (.getfield 35, 3) := by decide +kernel
theorem d_V_wrongWords_46 : decode b_V_wrongWords 46 = .ok (.iload 4, 2) := by decide +kernel
theorem d_V_wrongWords_48 : decode b_V_wrongWords 48 = .ok (.iload_n 1, 1) := by decide +kernel
theorem d_V_wrongWords_49 : decode b_V_wrongWords 49 = .ok (.invokevirtual 138, 3) := by decide +kernel
theorem d_V_wrongWords_52 : decode b_V_wrongWords 52 = .ok (.iinc 4 1, 3) := by decide +kernel
theorem d_V_wrongWords_55 : decode b_V_wrongWords 55 = .ok (.goto (-50), 3) := by decide +kernel
theorem d_V_wrongWords_58 : decode b_V_wrongWords 58 = .ok (.iload_n 3, 1) := by decide +kernel
theorem d_V_wrongWords_59 : decode b_V_wrongWords 59 = .ok (.ireturn, 1) := by decide +kernel
theorem d_V_isListed_0 : decode b_V_isListed 0 = .ok (.iconst 0, 1) := by decide +kernel
theorem d_V_isListed_1 : decode b_V_isListed 1 = .ok (.istore_n 2, 1) := by decide +kernel
theorem d_V_isListed_2 : decode b_V_isListed 2 = .ok (.iload_n 2, 1) := by decide +kernel
theorem d_V_isListed_3 : decode b_V_isListed 3 = .ok (.aload_n 0, 1) := by decide +kernel
theorem d_V_isListed_4 : decode b_V_isListed 4 = .ok (.getfield 21, 3) := by decide +kernel
theorem d_V_isListed_7 : decode b_V_isListed 7 = .ok (.invokevirtual 159, 3) := by decide +kernel
theorem d_V_isListed_10 : decode b_V_isListed 10 = .ok (.if_icmp .ge 43, 3) := by decide +kernel
theorem d_V_isListed_13 : decode b_V_isListed 13 = .ok (.aload_n 0, 1) := by decide +kernel
theorem d_V_isListed_14 : decode b_V_isListed 14 = .ok (.getfield 21, 3) := by decide +kernel
theorem d_V_isListed_17 : decode b_V_isListed 17 = .ok (.iload_n 2, 1) := by decide +kernel
theorem d_V_isListed_18 : decode b_V_isListed 18 = .ok (.invokevirtual 162, 3) := by decide +kernel
theorem d_V_isListed_21 : decode b_V_isListed 21 = .ok (.astore 4, 2) := by decide +kernel
theorem d_V_isListed_23 : decode b_V_isListed 23 = .ok (.aload 4, 2) := by decide +kernel
theorem d_V_isListed_25 : decode b_V_isListed 25 = .ok (.instanceof 66, 3) := by decide +kernel
theorem d_V_isListed_28 : decode b_V_isListed 28 = .ok (.ifCond .eq 19, 3) := by decide +kernel
theorem d_V_isListed_31 : decode b_V_isListed 31 = .ok (.aload 4, 2) := by decide +kernel
theorem d_V_isListed_33 : decode b_V_isListed 33 = .ok (.checkcast 66, 3) := by decide +kernel
theorem d_V_isListed_36 : decode b_V_isListed 36 = .ok (.astore_n 3, 1) := by decide +kernel
theorem d_V_isListed_37 : decode b_V_isListed 37 = .ok (.aload_n 3, 1) := by decide +kernel
theorem d_V_isListed_38 : decode b_V_isListed 38 = .ok (.iload_n 1, 1) := by decide +kernel
theorem d_V_isListed_39 : decode b_V_isListed 39 = .ok (.invokevirtual 277, 3) := by decide +kernel
theorem d_V_isListed_42 : decode b_V_isListed 42 = .ok (.ifCond .eq 5, 3) := by decide +kernel
theorem d_V_isListed_45 : decode b_V_isListed 45 = .ok (.iconst 1, 1) := by decide +kernel
theorem d_V_isListed_46 : decode b_V_isListed 46 = .ok (.ireturn, 1) := by decide +kernel
theorem d_V_isListed_47 : decode b_V_isListed 47 = .ok (.iinc 2 1, 3) := by decide +kernel
theorem d_V_isListed_50 : decode b_V_isListed 50 = .ok (.goto (-48), 3) := by decide +kernel
theorem d_V_isListed_53 : decode b_V_isListed 53 = .ok (.iconst 0, 1) := by decide +kernel
theorem d_V_isListed_54 : decode b_V_isListed 54 = .ok (.ireturn, 1) := by decide +kernel
theorem d_V_missingThreads_0 : decode b_V_missingThreads 0 = .ok (.iconst 0, 1) := by decide +kernel
theorem d_V_missingThreads_1 : decode b_V_missingThreads 1 = .ok (.istore_n 2, 1) := by decide +kernel
theorem d_V_missingThreads_2 : decode b_V_missingThreads 2 = .ok (.iconst 0, 1) := by decide +kernel
theorem d_V_missingThreads_3 : decode b_V_missingThreads 3 = .ok (.istore_n 3, 1) := by decide +kernel
theorem d_V_missingThreads_4 : decode b_V_missingThreads 4 = .ok (.iload_n 3, 1) := by decide +kernel
theorem d_V_missingThreads_5 : decode b_V_missingThreads 5 = .ok (.aload_n 0, 1) := by decide +kernel
theorem d_V_missingThreads_6 : decode b_V_missingThreads 6 = .ok (.getfield 21, 3) := by decide +kernel
theorem d_V_missingThreads_9 : decode b_V_missingThreads 9 = .ok (.invokevirtual 159, 3) := by decide +kernel
theorem d_V_missingThreads_12 : decode b_V_missingThreads 12 = .ok (.if_icmp .ge 60, 3) := by decide +kernel
theorem d_V_missingThreads_15 : decode b_V_missingThreads 15 = .ok (.aload_n 0, 1) := by decide +kernel
theorem d_V_missingThreads_16 : decode b_V_missingThreads 16 = .ok (.getfield 21, 3) := by decide +kernel
theorem d_V_missingThreads_19 : decode b_V_missingThreads 19 = .ok (.iload_n 3, 1) := by decide +kernel
theorem d_V_missingThreads_20 : decode b_V_missingThreads 20 = .ok (.invokevirtual 162, 3) := by decide +kernel
theorem d_V_missingThreads_23 : decode b_V_missingThreads 23 = .ok (.checkcast 93, 3) := by decide +kernel
theorem d_V_missingThreads_26 : decode b_V_missingThreads 26 = .ok (.astore 4, 2) := by decide +kernel
theorem d_V_missingThreads_28 : decode b_V_missingThreads 28 = .ok (.aload_n 0, 1) := by decide +kernel
theorem d_V_missingThreads_29 : decode b_V_missingThreads 29 = .ok (.getfield 28, 3) := by decide +kernel
theorem d_V_missingThreads_32 : decode b_V_missingThreads 32 = .ok (.aload 4, 2) := by decide +kernel
theorem d_V_missingThreads_34 : decode b_V_missingThreads 34 = .ok (.iconst 1, 1) := by decide +kernel
theorem d_V_missingThreads_35 : decode b_V_missingThreads 35 = .ok (.invokevirtual 280, 3) := by decide +kernel
theorem d_V_missingThreads_38 : decode b_V_missingThreads 38 = .ok (.iconst (-1), 1) := by decide +kernel
theorem d_V_missingThreads_39 : decode b_V_missingThreads 39 = .ok (.if_icmp .ne 27, 3) := by decide +kernel
theorem d_V_missingThreads_42 : decode b_V_missingThreads 42 = .ok (.iinc 2 1, 3) := by decide +kernel
theorem d_V_missingThreads_45 : decode b_V_missingThreads 45 = .ok (.iload_n 1, 1) := by decide +kernel
theorem d_V_missingThreads_46 : decode b_V_missingThreads 46 = .ok (.ifCond .eq 20, 3) := by decide +kernel
theorem d_V_missingThreads_49 : decode b_V_missingThreads 49 = .ok (.aload_n 0, 1) := by decide +kernel
theorem d_V_missingThreads_50 : decode b_V_missingThreads 50 = .ok (.getfield 28, 3) := by decide +kernel
theorem d_V_missingThreads_53 : decode b_V_missingThreads 53 = .ok (.new 166, 3) := by decide +kernel
theorem d_V_missingThreads_56 : decode b_V_missingThreads 56 = .ok (.dup, 1) := by decide +kernel
theorem d_V_missingThreads_57 : decode b_V_missingThreads 57 = .ok (.aload 4, 2) := by decide +kernel
theorem d_V_missingThreads_59 : decode b_V_missingThreads 59 = .ok (.iconst 1, 1) := by decide +kernel
theorem d_V_missingThreads_60 : decode b_V_missingThreads 60 = .ok (.invokespecial 235, 3) := by decide +kernel
theorem d_V_missingThreads_63 : decode b_V_missingThreads 63 = .ok (.invokevirtual 238, 3) := by decide +kernel
theorem d_V_missingThreads_66 : decode b_V_missingThreads 66 = .ok (.iinc 3 1, 3) := by decide +kernel
theorem d_V_missingThreads_69 : decode b_V_missingThreads 69 = .ok (.goto (-65), 3) := by decide +kernel
theorem d_V_missingThreads_72 : decode b_V_missingThreads 72 = .ok (.iload_n 2, 1) := by decide +kernel
theorem d_V_missingThreads_73 : decode b_V_missingThreads 73 = .ok (.ireturn, 1) := by decide +kernel
theorem d_V_wrongLinkCounts_0 : decode b_V_wrongLinkCounts 0 = .ok (.iconst 0, 1) := by decide +kernel
theorem d_V_wrongLinkCounts_1 : decode b_V_wrongLinkCounts 1 = .ok (.istore_n 2, 1) := by decide +kernel
theorem d_V_wrongLinkCounts_2 : decode b_V_wrongLinkCounts 2 = .ok (.iconst 0, 1) := by decide +kernel
theorem d_V_wrongLinkCounts_3 : decode b_V_wrongLinkCounts 3 = .ok (.istore_n 3, 1) := by decide +kernel
theorem d_V_wrongLinkCounts_4 : decode b_V_wrongLinkCounts 4 = .ok (.iload_n 3, 1) := by decide +kernel
theorem d_V_wrongLinkCounts_5 : decode b_V_wrongLinkCounts 5 = .ok (.aload_n 0, 1) := by decide +kernel
theorem d_V_wrongLinkCounts_6 : decode b_V_wrongLinkCounts 6 = .ok (.getfield 21, 3) := by decide +kernel
theorem d_V_wrongLinkCounts_9 : decode b_V_wrongLinkCounts 9 = .ok (.invokevirtual 159, 3) := by decide +kernel
theorem d_V_wrongLinkCounts_12 : decode b_V_wrongLinkCounts 12 = .ok (.if_icmp .ge 52, 3) := by decide +kernel
theorem d_V_wrongLinkCounts_15 : decode b_V_wrongLinkCounts 15 = .ok (.aload_n 0, 1) := by decide +kernel
theorem d_V_wrongLinkCounts_16 : decode b_V_wrongLinkCounts 16 = .ok (.getfield 21, 3) := by decide +kernel
theorem d_V_wrongLinkCounts_19 : decode b_V_wrongLinkCounts 19 = .ok (.iload_n 3, 1) := by decide +kernel
theorem d_V_wrongLinkCounts_20 : decode b_V_wrongLinkCounts 20 = .ok (.invokevirtual 162, 3) := by decide +kernel
theorem d_V_wrongLinkCounts_23 : decode b_V_wrongLinkCounts 23 = .ok (.astore 5, 2) := by decide +kernel
theorem d_V_wrongLinkCounts_25 : decode b_V_wrongLinkCounts 25 = .ok (.aload 5, 2) := by decide +kernel
theorem d_V_wrongLinkCounts_27 : decode b_V_wrongLinkCounts 27 = .ok (.instanceof 66, 3) := by decide +kernel
theorem d_V_wrongLinkCounts_30 : decode b_V_wrongLinkCounts 30 = .ok (.ifCond .eq 28, 3) := by decide +kernel
theorem d_V_wrongLinkCounts_33 : decode b_V_wrongLinkCounts 33 = .ok (.aload 5, 2) := by decide +kernel
theorem d_V_wrongLinkCounts_35 : decode b_V_wrongLinkCounts 35 = .ok (.checkcast 66, 3) := by decide +kernel
theorem d_V_wrongLinkCounts_38 : decode b_V_wrongLinkCounts 38 = .ok (.astore 4, 2) := by decide +kernel
theorem d_V_wrongLinkCounts_40 : decode b_V_wrongLinkCounts 40 = .ok (.aload 4, 2) := by decide +kernel
theorem d_V_wrongLinkCounts_42 : decode b_V_wrongLinkCounts 42 = .ok (.invokevirtual 80, 3) := by decide +kernel
theorem d_V_wrongLinkCounts_45 : decode b_V_wrongLinkCounts 45 = .ok (.ifCond .eq 13, 3) := by decide +kernel
theorem d_V_wrongLinkCounts_48 : decode b_V_wrongLinkCounts 48 = .ok (.iload_n 2, 1) := by decide +kernel
theorem d_V_wrongLinkCounts_49 : decode b_V_wrongLinkCounts 49 = .ok (.aload_n 0, 1) := by decide +kernel
theorem d_V_wrongLinkCounts_50 : decode b_V_wrongLinkCounts 50 = .ok (.aload 4, 2) := by decide +kernel
theorem d_V_wrongLinkCounts_52 : decode b_V_wrongLinkCounts 52 = .ok (.iload_n 1, 1) := by decide +kernel
theorem d_V_wrongLinkCounts_53 : decode b_V_wrongLinkCounts 53 = .ok (.invokevirtual 284, 3) := by decide +kernel
theorem d_V_wrongLinkCounts_56 : decode b_V_wrongLinkCounts 56 = .ok (.iadd, 1) := by decide +kernel
theorem d_V_wrongLinkCounts_57 : decode b_V_wrongLinkCounts 57 = .ok (.istore_n 2, 1) := by decide +kernel
theorem d_V_wrongLinkCounts_58 : decode b_V_wrongLinkCounts 58 = .ok (.iinc 3 1, 3) := by decide +kernel
theorem d_V_wrongLinkCounts_61 : decode b_V_wrongLinkCounts 61 = .ok (.goto (-57), 3) := by decide +kernel
theorem d_V_wrongLinkCounts_64 : decode b_V_wrongLinkCounts 64 = .ok (.iload_n 2, 1) := by decide +kernel
theorem d_V_wrongLinkCounts_65 : decode b_V_wrongLinkCounts 65 = .ok (.ireturn, 1) := by decide +kernel
theorem d_V_wrongLinkCount_0 : decode b_V_wrongLinkCount 0 = .ok (.aload_n 0, 1) := by decide +kernel
theorem d_V_wrongLinkCount_1 : decode b_V_wrongLinkCount 1 = .ok (.aload_n 1, 1) := by decide +kernel
theorem d_V_wrongLinkCount_2 : decode b_V_wrongLinkCount 2 = .ok (.invokevirtual 288, 3) := by decide +kernel
theorem d_V_wrongLinkCount_5 : decode b_V_wrongLinkCount 5 = .ok (.istore_n 3, 1) := by decide +kernel
theorem d_V_wrongLinkCount_6 : decode b_V_wrongLinkCount 6 = .ok (.aload_n 1, 1) := by decide +kernel
theorem d_V_wrongLinkCount_7 : decode b_V_wrongLinkCount 7 = .ok (.getfield 245, 3) := by decide +kernel
theorem d_V_wrongLinkCount_10 : decode b_V_wrongLinkCount 10 = .ok (.iload_n 3, 1) := by decide +kernel
theorem d_V_wrongLinkCount_11 : decode b_V_wrongLinkCount 11 = .ok (.if_icmp .ne 5, 3) := by decide +kernel
theorem d_V_wrongLinkCount_14 : decode b_V_wrongLinkCount 14 = .ok (.iconst 0, 1) := by decide +kernel
theorem d_V_wrongLinkCount_15 : decode b_V_wrongLinkCount 15 = .ok (.ireturn, 1) := by decide +kernel
theorem d_V_wrongLinkCount_16 : decode b_V_wrongLinkCount 16 = .ok (.iload_n 2, 1) := by decide +kernel
theorem d_V_wrongLinkCount_17 : decode b_V_wrongLinkCount 17 = .ok (.ifCond .eq 8, 3) := by decide +kernel
theorem d_V_wrongLinkCount_20 : decode b_V_wrongLinkCount 20 = .ok (.aload_n 1, 1) := by decide +kernel
theorem d_V_wrongLinkCount_21 : decode b_V_wrongLinkCount 21 = .ok (.iload_n 3, 1) := by decide +kernel
theorem d_V_wrongLinkCount_22 : decode b_V_wrongLinkCount 22 = .ok (.putfield 245, 3) := by decide +kernel
theorem d_V_wrongLinkCount_25 : decode b_V_wrongLinkCount 25 = .ok (.iconst 1, 1) := by decide +kernel
theorem d_V_wrongLinkCount_26 : decode b_V_wrongLinkCount 26 = .ok (.ireturn, 1) := by decide +kernel
theorem d_V_linksFor_0 : decode b_V_linksFor 0 = .ok (.iconst 0, 1) := by decide +kernel
theorem d_V_linksFor_1 : decode b_V_linksFor 1 = .ok (.istore_n 2, 1) := by decide +kernel
theorem d_V_linksFor_2 : decode b_V_linksFor 2 = .ok (.iconst 0, 1) := by decide +kernel
theorem d_V_linksFor_3 : decode b_V_linksFor 3 = .ok (.istore_n 3, 1) := by decide +kernel
theorem d_V_linksFor_4 : decode b_V_linksFor 4 = .ok (.iload_n 3, 1) := by decide +kernel
theorem d_V_linksFor_5 : decode b_V_linksFor 5 = .ok (.aload_n 0, 1) := by decide +kernel
theorem d_V_linksFor_6 : decode b_V_linksFor 6 = .ok (.getfield 21, 3) := by decide +kernel
theorem d_V_linksFor_9 : decode b_V_linksFor 9 = .ok (.invokevirtual 159, 3) := by decide +kernel
theorem d_V_linksFor_12 : decode b_V_linksFor 12 = .ok (.if_icmp .ge 46, 3) := by decide +kernel
theorem d_V_linksFor_15 : decode b_V_linksFor 15 = .ok (.aload_n 0, 1) := by decide +kernel
theorem d_V_linksFor_16 : decode b_V_linksFor 16 = .ok (.getfield 21, 3) := by decide +kernel
theorem d_V_linksFor_19 : decode b_V_linksFor 19 = .ok (.iload_n 3, 1) := by decide +kernel
theorem d_V_linksFor_20 : decode b_V_linksFor 20 = .ok (.invokevirtual 162, 3) := by decide +kernel
theorem d_V_linksFor_23 : decode b_V_linksFor 23 = .ok (.astore 5, 2) := by decide +kernel
theorem d_V_linksFor_25 : decode b_V_linksFor 25 = .ok (.aload 5, 2) := by decide +kernel
theorem d_V_linksFor_27 : decode b_V_linksFor 27 = .ok (.instanceof 108, 3) := by decide +kernel
theorem d_V_linksFor_30 : decode b_V_linksFor 30 = .ok (.ifCond .eq 22, 3) := by decide +kernel
theorem d_V_linksFor_33 : decode b_V_linksFor 33 = .ok (.aload 5, 2) := by decide +kernel
theorem d_V_linksFor_35 : decode b_V_linksFor 35 = .ok (.checkcast 108, 3) := by decide +kernel
theorem d_V_linksFor_38 : decode b_V_linksFor 38 = .ok (.astore 4, 2) := by decide +kernel
theorem d_V_linksFor_40 : decode b_V_linksFor 40 = .ok (.aload 4, 2) := by decide +kernel
theorem d_V_linksFor_42 : decode b_V_linksFor 42 = .ok (.getfield 110, 3) := by decide +kernel
theorem d_V_linksFor_45 : decode b_V_linksFor 45 = .ok (.aload_n 1, 1) := by decide +kernel
theorem d_V_linksFor_46 : decode b_V_linksFor 46 = .ok (.if_acmp .ne 6, 3) := by decide +kernel
theorem d_V_linksFor_49 : decode b_V_linksFor 49 = .ok (.iinc 2 1, 3) := by decide +kernel
theorem d_V_linksFor_52 : decode b_V_linksFor 52 = .ok (.iinc 3 1, 3) := by decide +kernel
theorem d_V_linksFor_55 : decode b_V_linksFor 55 = .ok (.goto (-51), 3) := by decide +kernel
theorem d_V_linksFor_58 : decode b_V_linksFor 58 = .ok (.iload_n 2, 1) := by decide +kernel
theorem d_V_linksFor_59 : decode b_V_linksFor 59 = .ok (.ireturn, 1) := by decide +kernel
theorem d_V_mount_0 : decode b_V_mount 0 = .ok (.aload_n 0, 1) := by decide +kernel
theorem d_V_mount_1 : decode b_V_mount 1 = .ok (.getfield 39, 3) := by decide +kernel
theorem d_V_mount_4 : decode b_V_mount 4 = .ok (.ifCond .ne 10, 3) := by decide +kernel
theorem d_V_mount_7 : decode b_V_mount 7 = .ok (.aload_n 0, 1) := by decide +kernel
theorem d_V_mount_8 : decode b_V_mount 8 = .ok (.invokevirtual 216, 3) := by decide +kernel
theorem d_V_mount_11 : decode b_V_mount 11 = .ok (.ifCond .eq 5, 3) := by decide +kernel
theorem d_V_mount_14 : decode b_V_mount 14 = .ok (.iconst 0, 1) := by decide +kernel
theorem d_V_mount_15 : decode b_V_mount 15 = .ok (.ireturn, 1) := by decide +kernel
theorem d_V_mount_16 : decode b_V_mount 16 = .ok (.aload_n 0, 1) := by decide +kernel
theorem d_V_mount_17 : decode b_V_mount 17 = .ok (.iconst 1, 1) := by decide +kernel
theorem d_V_mount_18 : decode b_V_mount 18 = .ok (.putfield 39, 3) := by decide +kernel
theorem d_V_mount_21 : decode b_V_mount 21 = .ok (.iconst 1, 1) := by decide +kernel
theorem d_V_mount_22 : decode b_V_mount 22 = .ok (.ireturn, 1) := by decide +kernel
theorem d_V_mend_0 : decode b_V_mend 0 = .ok (.aload_n 0, 1) := by decide +kernel
theorem d_V_mend_1 : decode b_V_mend 1 = .ok (.getfield 39, 3) := by decide +kernel
theorem d_V_mend_4 : decode b_V_mend 4 = .ok (.ifCond .eq 5, 3) := by decide +kernel
theorem d_V_mend_7 : decode b_V_mend 7 = .ok (.iconst (-1), 1) := by decide +kernel
theorem d_V_mend_8 : decode b_V_mend 8 = .ok (.ireturn, 1) := by decide +kernel
theorem d_V_mend_9 : decode b_V_mend 9 = .ok (.aload_n 0, 1) := by decide +kernel
theorem d_V_mend_10 : decode b_V_mend 10 = .ok (.iconst 1, 1) := by decide +kernel
theorem d_V_mend_11 : decode b_V_mend 11 = .ok (.invokevirtual 202, 3) := by decide +kernel
theorem d_V_mend_14 : decode b_V_mend 14 = .ok (.aload_n 0, 1) := by decide +kernel
theorem d_V_mend_15 : decode b_V_mend 15 = .ok (.iconst 1, 1) := by decide +kernel
theorem d_V_mend_16 : decode b_V_mend 16 = .ok (.iconst 1, 1) := by decide +kernel
theorem d_V_mend_17 : decode b_V_mend 17 = .ok (.invokevirtual 206, 3) := by decide +kernel
theorem d_V_mend_20 : decode b_V_mend 20 = .ok (.iadd, 1) := by decide +kernel
theorem d_V_mend_21 : decode b_V_mend 21 = .ok (.aload_n 0, 1) := by decide +kernel
theorem d_V_mend_22 : decode b_V_mend 22 = .ok (.iconst 0, 1) := by decide +kernel
theorem d_V_mend_23 : decode b_V_mend 23 = .ok (.iconst 1, 1) := by decide +kernel
theorem d_V_mend_24 : decode b_V_mend 24 = .ok (.invokevirtual 206, 3) := by decide +kernel
theorem d_V_mend_27 : decode b_V_mend 27 = .ok (.iadd, 1) := by decide +kernel
theorem d_V_mend_28 : decode b_V_mend 28 = .ok (.aload_n 0, 1) := by decide +kernel
theorem d_V_mend_29 : decode b_V_mend 29 = .ok (.iconst 1, 1) := by decide +kernel
theorem d_V_mend_30 : decode b_V_mend 30 = .ok (.invokevirtual 210, 3) := by decide +kernel
theorem d_V_mend_33 : decode b_V_mend 33 = .ok (.iadd, 1) := by decide +kernel
theorem d_V_mend_34 : decode b_V_mend 34 = .ok (.aload_n 0, 1) := by decide +kernel
theorem d_V_mend_35 : decode b_V_mend 35 = .ok (.iconst 1, 1) := by decide +kernel
theorem d_V_mend_36 : decode b_V_mend 36 = .ok (.invokevirtual 213, 3) := by decide +kernel
theorem d_V_mend_39 : decode b_V_mend 39 = .ok (.iadd, 1) := by decide +kernel
theorem d_V_mend_40 : decode b_V_mend 40 = .ok (.ireturn, 1) := by decide +kernel

