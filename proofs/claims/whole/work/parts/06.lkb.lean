theorem k156_40 : look (codL 156) 40 = some (.iaload, 1, 0, 0, 0) := by decide +kernel
theorem k156_41 : look (codL 156) 41 = some (.if_icmp .ge 34, 3, 0, 0, 0) := by decide +kernel
theorem k156_44 : look (codL 156) 44 = some (.aload_n 0, 1, 0, 0, 0) := by decide +kernel
theorem k156_45 : look (codL 156) 45 = some (.getfield 28, 3, 10, 9, 0) := by decide +kernel
theorem k156_48 : look (codL 156) 48 = some (.bipush 6, 2, 0, 0, 0) := by decide +kernel
theorem k156_50 : look (codL 156) 50 = some (.iload 4, 2, 0, 0, 0) := by decide +kernel
theorem k156_52 : look (codL 156) 52 = some (.imul, 1, 0, 0, 0) := by decide +kernel
theorem k156_53 : look (codL 156) 53 = some (.iload 5, 2, 0, 0, 0) := by decide +kernel
theorem k156_55 : look (codL 156) 55 = some (.iadd, 1, 0, 0, 0) := by decide +kernel
theorem k156_56 : look (codL 156) 56 = some (.aload_n 0, 1, 0, 0, 0) := by decide +kernel
theorem k156_57 : look (codL 156) 57 = some (.getfield 16, 3, 10, 5, 0) := by decide +kernel
theorem k156_60 : look (codL 156) 60 = some (.bipush 6, 2, 0, 0, 0) := by decide +kernel
theorem k156_62 : look (codL 156) 62 = some (.iload_n 2, 1, 0, 0, 0) := by decide +kernel
theorem k156_63 : look (codL 156) 63 = some (.imul, 1, 0, 0, 0) := by decide +kernel
theorem k156_64 : look (codL 156) 64 = some (.iload 5, 2, 0, 0, 0) := by decide +kernel
theorem k156_66 : look (codL 156) 66 = some (.iadd, 1, 0, 0, 0) := by decide +kernel
theorem k156_67 : look (codL 156) 67 = some (.iaload, 1, 0, 0, 0) := by decide +kernel
theorem k156_68 : look (codL 156) 68 = some (.iastore, 1, 0, 0, 0) := by decide +kernel
theorem k156_69 : look (codL 156) 69 = some (.iinc 5 1, 3, 0, 0, 0) := by decide +kernel
theorem k156_72 : look (codL 156) 72 = some (.goto (-39), 3, 0, 0, 0) := by decide +kernel
theorem k156_75 : look (codL 156) 75 = some (.aload_n 0, 1, 0, 0, 0) := by decide +kernel
theorem k156_76 : look (codL 156) 76 = some (.dup, 1, 0, 0, 0) := by decide +kernel
theorem k156_77 : look (codL 156) 77 = some (.getfield 94, 3, 10, 2, 0) := by decide +kernel
theorem k156_80 : look (codL 156) 80 = some (.iconst 1, 1, 0, 0, 0) := by decide +kernel
theorem k156_81 : look (codL 156) 81 = some (.iadd, 1, 0, 0, 0) := by decide +kernel
theorem k156_82 : look (codL 156) 82 = some (.putfield 94, 3, 10, 2, 0) := by decide +kernel
theorem k156_85 : look (codL 156) 85 = some (.iload 4, 2, 0, 0, 0) := by decide +kernel
theorem k156_87 : look (codL 156) 87 = some (.ireturn, 1, 0, 0, 0) := by decide +kernel
theorem k157_0 : look (codL 157) 0 = some (.aload_n 0, 1, 0, 0, 0) := by decide +kernel
theorem k157_1 : look (codL 157) 1 = some (.iload_n 1, 1, 0, 0, 0) := by decide +kernel
theorem k157_2 : look (codL 157) 2 = some (.invokevirtual 104, 3, 145, 2, 0) := by decide +kernel
theorem k157_5 : look (codL 157) 5 = some (.ifCond .eq 21, 3, 0, 0, 0) := by decide +kernel
theorem k157_8 : look (codL 157) 8 = some (.aload_n 0, 1, 0, 0, 0) := by decide +kernel
theorem k157_9 : look (codL 157) 9 = some (.iload_n 2, 1, 0, 0, 0) := by decide +kernel
theorem k157_10 : look (codL 157) 10 = some (.invokevirtual 104, 3, 145, 2, 0) := by decide +kernel
theorem k157_13 : look (codL 157) 13 = some (.ifCond .eq 13, 3, 0, 0, 0) := by decide +kernel
theorem k157_16 : look (codL 157) 16 = some (.iload_n 3, 1, 0, 0, 0) := by decide +kernel
theorem k157_17 : look (codL 157) 17 = some (.iconst 0, 1, 0, 0, 0) := by decide +kernel
theorem k157_18 : look (codL 157) 18 = some (.bipush 99, 2, 0, 0, 0) := by decide +kernel
theorem k157_20 : look (codL 157) 20 = some (.invokestatic 90, 3, 138, 3, 0) := by decide +kernel
theorem k157_23 : look (codL 157) 23 = some (.ifCond .ne 8, 3, 0, 0, 0) := by decide +kernel
theorem k157_26 : look (codL 157) 26 = some (.aload_n 0, 1, 0, 0, 0) := by decide +kernel
theorem k157_27 : look (codL 157) 27 = some (.invokevirtual 110, 3, 135, 1, 0) := by decide +kernel
theorem k157_30 : look (codL 157) 30 = some (.ireturn, 1, 0, 0, 0) := by decide +kernel
theorem k157_31 : look (codL 157) 31 = some (.aload_n 0, 1, 0, 0, 0) := by decide +kernel
theorem k157_32 : look (codL 157) 32 = some (.getfield 94, 3, 10, 2, 0) := by decide +kernel
theorem k157_35 : look (codL 157) 35 = some (.bipush 16, 2, 0, 0, 0) := by decide +kernel
theorem k157_37 : look (codL 157) 37 = some (.if_icmp .ne 10, 3, 0, 0, 0) := by decide +kernel
theorem k157_40 : look (codL 157) 40 = some (.aload_n 0, 1, 0, 0, 0) := by decide +kernel
theorem k157_41 : look (codL 157) 41 = some (.invokevirtual 97, 3, 137, 1, 0) := by decide +kernel
theorem k157_44 : look (codL 157) 44 = some (.goto 10, 3, 0, 0, 0) := by decide +kernel
theorem k157_47 : look (codL 157) 47 = some (.aload_n 0, 1, 0, 0, 0) := by decide +kernel
theorem k157_48 : look (codL 157) 48 = some (.iload_n 1, 1, 0, 0, 0) := by decide +kernel
theorem k157_49 : look (codL 157) 49 = some (.iload_n 2, 1, 0, 0, 0) := by decide +kernel
theorem k157_50 : look (codL 157) 50 = some (.iload_n 3, 1, 0, 0, 0) := by decide +kernel
theorem k157_51 : look (codL 157) 51 = some (.invokevirtual 123, 3, 156, 4, 0) := by decide +kernel
theorem k157_54 : look (codL 157) 54 = some (.ireturn, 1, 0, 0, 0) := by decide +kernel
theorem k158_0 : look (codL 158) 0 = some (.iload_n 3, 1, 0, 0, 0) := by decide +kernel
theorem k158_1 : look (codL 158) 1 = some (.ifCond .ge 17, 3, 0, 0, 0) := by decide +kernel
theorem k158_4 : look (codL 158) 4 = some (.iload_n 3, 1, 0, 0, 0) := by decide +kernel
theorem k158_5 : look (codL 158) 5 = some (.bipush (-100), 2, 0, 0, 0) := by decide +kernel
theorem k158_7 : look (codL 158) 7 = some (.if_icmp .lt 7, 3, 0, 0, 0) := by decide +kernel
theorem k158_10 : look (codL 158) 10 = some (.iconst 1, 1, 0, 0, 0) := by decide +kernel
theorem k158_11 : look (codL 158) 11 = some (.goto 35, 3, 0, 0, 0) := by decide +kernel
theorem k158_14 : look (codL 158) 14 = some (.iconst 0, 1, 0, 0, 0) := by decide +kernel
theorem k158_15 : look (codL 158) 15 = some (.goto 31, 3, 0, 0, 0) := by decide +kernel
theorem k158_18 : look (codL 158) 18 = some (.iload_n 3, 1, 0, 0, 0) := by decide +kernel
theorem k158_19 : look (codL 158) 19 = some (.invokestatic 107, 3, 142, 1, 0) := by decide +kernel
theorem k158_22 : look (codL 158) 22 = some (.ifCond .eq 23, 3, 0, 0, 0) := by decide +kernel
theorem k158_25 : look (codL 158) 25 = some (.iload_n 3, 1, 0, 0, 0) := by decide +kernel
theorem k158_26 : look (codL 158) 26 = some (.invokestatic 71, 3, 139, 1, 0) := by decide +kernel
theorem k158_29 : look (codL 158) 29 = some (.aload_n 0, 1, 0, 0, 0) := by decide +kernel
theorem k158_30 : look (codL 158) 30 = some (.iload_n 1, 1, 0, 0, 0) := by decide +kernel
theorem k158_31 : look (codL 158) 31 = some (.iload_n 2, 1, 0, 0, 0) := by decide +kernel
theorem k158_32 : look (codL 158) 32 = some (.invokevirtual 127, 3, 147, 3, 0) := by decide +kernel
theorem k158_35 : look (codL 158) 35 = some (.invokestatic 71, 3, 139, 1, 0) := by decide +kernel
theorem k158_38 : look (codL 158) 38 = some (.if_icmp .ne 7, 3, 0, 0, 0) := by decide +kernel
theorem k158_41 : look (codL 158) 41 = some (.iconst 1, 1, 0, 0, 0) := by decide +kernel
theorem k158_42 : look (codL 158) 42 = some (.goto 4, 3, 0, 0, 0) := by decide +kernel
theorem k158_45 : look (codL 158) 45 = some (.iconst 0, 1, 0, 0, 0) := by decide +kernel
theorem k158_46 : look (codL 158) 46 = some (.ireturn, 1, 0, 0, 0) := by decide +kernel
theorem k159_0 : look (codL 159) 0 = some (.aload_n 0, 1, 0, 0, 0) := by decide +kernel
theorem k159_1 : look (codL 159) 1 = some (.iload_n 1, 1, 0, 0, 0) := by decide +kernel
theorem k159_2 : look (codL 159) 2 = some (.invokevirtual 130, 3, 146, 2, 0) := by decide +kernel
theorem k159_5 : look (codL 159) 5 = some (.ifCond .eq 28, 3, 0, 0, 0) := by decide +kernel
theorem k159_8 : look (codL 159) 8 = some (.iload_n 2, 1, 0, 0, 0) := by decide +kernel
theorem k159_9 : look (codL 159) 9 = some (.iconst 0, 1, 0, 0, 0) := by decide +kernel
theorem k159_10 : look (codL 159) 10 = some (.aload_n 0, 1, 0, 0, 0) := by decide +kernel
theorem k159_11 : look (codL 159) 11 = some (.iload_n 1, 1, 0, 0, 0) := by decide +kernel
theorem k159_12 : look (codL 159) 12 = some (.invokevirtual 133, 3, 148, 2, 0) := by decide +kernel
theorem k159_15 : look (codL 159) 15 = some (.iconst 1, 1, 0, 0, 0) := by decide +kernel
theorem k159_16 : look (codL 159) 16 = some (.isub, 1, 0, 0, 0) := by decide +kernel
theorem k159_17 : look (codL 159) 17 = some (.invokestatic 90, 3, 138, 3, 0) := by decide +kernel
theorem k159_20 : look (codL 159) 20 = some (.ifCond .eq 13, 3, 0, 0, 0) := by decide +kernel
theorem k159_23 : look (codL 159) 23 = some (.aload_n 0, 1, 0, 0, 0) := by decide +kernel
theorem k159_24 : look (codL 159) 24 = some (.iload_n 1, 1, 0, 0, 0) := by decide +kernel
theorem k159_25 : look (codL 159) 25 = some (.iload_n 2, 1, 0, 0, 0) := by decide +kernel
theorem k159_26 : look (codL 159) 26 = some (.iload_n 3, 1, 0, 0, 0) := by decide +kernel
theorem k159_27 : look (codL 159) 27 = some (.invokevirtual 136, 3, 158, 4, 0) := by decide +kernel
theorem k159_30 : look (codL 159) 30 = some (.ifCond .ne 8, 3, 0, 0, 0) := by decide +kernel
theorem k159_33 : look (codL 159) 33 = some (.aload_n 0, 1, 0, 0, 0) := by decide +kernel
theorem k159_34 : look (codL 159) 34 = some (.invokevirtual 110, 3, 135, 1, 0) := by decide +kernel
theorem k159_37 : look (codL 159) 37 = some (.ireturn, 1, 0, 0, 0) := by decide +kernel
theorem k159_38 : look (codL 159) 38 = some (.aload_n 0, 1, 0, 0, 0) := by decide +kernel
theorem k159_39 : look (codL 159) 39 = some (.iload_n 1, 1, 0, 0, 0) := by decide +kernel
theorem k159_40 : look (codL 159) 40 = some (.iload_n 2, 1, 0, 0, 0) := by decide +kernel
theorem k159_41 : look (codL 159) 41 = some (.invokevirtual 139, 3, 149, 3, 0) := by decide +kernel
theorem k159_44 : look (codL 159) 44 = some (.istore 4, 2, 0, 0, 0) := by decide +kernel
theorem k159_46 : look (codL 159) 46 = some (.aload_n 0, 1, 0, 0, 0) := by decide +kernel
theorem k159_47 : look (codL 159) 47 = some (.getfield 28, 3, 10, 9, 0) := by decide +kernel
theorem k159_50 : look (codL 159) 50 = some (.bipush 6, 2, 0, 0, 0) := by decide +kernel
theorem k159_52 : look (codL 159) 52 = some (.iload_n 1, 1, 0, 0, 0) := by decide +kernel
theorem k159_53 : look (codL 159) 53 = some (.imul, 1, 0, 0, 0) := by decide +kernel
theorem k159_54 : look (codL 159) 54 = some (.iload_n 2, 1, 0, 0, 0) := by decide +kernel
theorem k159_55 : look (codL 159) 55 = some (.iadd, 1, 0, 0, 0) := by decide +kernel
theorem k159_56 : look (codL 159) 56 = some (.iload_n 3, 1, 0, 0, 0) := by decide +kernel
theorem k159_57 : look (codL 159) 57 = some (.iastore, 1, 0, 0, 0) := by decide +kernel
theorem k159_58 : look (codL 159) 58 = some (.iload 4, 2, 0, 0, 0) := by decide +kernel
theorem k159_60 : look (codL 159) 60 = some (.ireturn, 1, 0, 0, 0) := by decide +kernel
theorem k160_0 : look (codL 160) 0 = some (.aload_n 0, 1, 0, 0, 0) := by decide +kernel
theorem k160_1 : look (codL 160) 1 = some (.iload_n 1, 1, 0, 0, 0) := by decide +kernel
theorem k160_2 : look (codL 160) 2 = some (.invokevirtual 130, 3, 146, 2, 0) := by decide +kernel
theorem k160_5 : look (codL 160) 5 = some (.ifCond .eq 13, 3, 0, 0, 0) := by decide +kernel
theorem k160_8 : look (codL 160) 8 = some (.iload_n 2, 1, 0, 0, 0) := by decide +kernel
theorem k160_9 : look (codL 160) 9 = some (.iconst 0, 1, 0, 0, 0) := by decide +kernel
theorem k160_10 : look (codL 160) 10 = some (.bipush 99, 2, 0, 0, 0) := by decide +kernel
theorem k160_12 : look (codL 160) 12 = some (.invokestatic 90, 3, 138, 3, 0) := by decide +kernel
theorem k160_15 : look (codL 160) 15 = some (.ifCond .ne 8, 3, 0, 0, 0) := by decide +kernel
theorem k160_18 : look (codL 160) 18 = some (.aload_n 0, 1, 0, 0, 0) := by decide +kernel
theorem k160_19 : look (codL 160) 19 = some (.invokevirtual 110, 3, 135, 1, 0) := by decide +kernel
theorem k160_22 : look (codL 160) 22 = some (.ireturn, 1, 0, 0, 0) := by decide +kernel
theorem k160_23 : look (codL 160) 23 = some (.aload_n 0, 1, 0, 0, 0) := by decide +kernel
theorem k160_24 : look (codL 160) 24 = some (.getfield 25, 3, 10, 8, 0) := by decide +kernel
theorem k160_27 : look (codL 160) 27 = some (.iload_n 1, 1, 0, 0, 0) := by decide +kernel
theorem k160_28 : look (codL 160) 28 = some (.iaload, 1, 0, 0, 0) := by decide +kernel
theorem k160_29 : look (codL 160) 29 = some (.istore_n 3, 1, 0, 0, 0) := by decide +kernel
theorem k160_30 : look (codL 160) 30 = some (.aload_n 0, 1, 0, 0, 0) := by decide +kernel
theorem k160_31 : look (codL 160) 31 = some (.getfield 25, 3, 10, 8, 0) := by decide +kernel
theorem k160_34 : look (codL 160) 34 = some (.iload_n 1, 1, 0, 0, 0) := by decide +kernel
theorem k160_35 : look (codL 160) 35 = some (.iload_n 2, 1, 0, 0, 0) := by decide +kernel
theorem k160_36 : look (codL 160) 36 = some (.iastore, 1, 0, 0, 0) := by decide +kernel
theorem k160_37 : look (codL 160) 37 = some (.iload_n 3, 1, 0, 0, 0) := by decide +kernel
theorem k160_38 : look (codL 160) 38 = some (.ireturn, 1, 0, 0, 0) := by decide +kernel
theorem k161_0 : look (codL 161) 0 = some (.iload_n 1, 1, 0, 0, 0) := by decide +kernel
theorem k161_1 : look (codL 161) 1 = some (.iconst 0, 1, 0, 0, 0) := by decide +kernel
theorem k161_2 : look (codL 161) 2 = some (.iconst 4, 1, 0, 0, 0) := by decide +kernel
theorem k161_3 : look (codL 161) 3 = some (.invokestatic 90, 3, 138, 3, 0) := by decide +kernel
theorem k161_6 : look (codL 161) 6 = some (.ifCond .ne 8, 3, 0, 0, 0) := by decide +kernel
theorem k161_9 : look (codL 161) 9 = some (.aload_n 0, 1, 0, 0, 0) := by decide +kernel
theorem k161_10 : look (codL 161) 10 = some (.invokevirtual 110, 3, 135, 1, 0) := by decide +kernel
theorem k161_13 : look (codL 161) 13 = some (.ireturn, 1, 0, 0, 0) := by decide +kernel
theorem k161_14 : look (codL 161) 14 = some (.aload_n 0, 1, 0, 0, 0) := by decide +kernel
theorem k161_15 : look (codL 161) 15 = some (.getfield 142, 3, 10, 3, 0) := by decide +kernel
theorem k161_18 : look (codL 161) 18 = some (.istore_n 2, 1, 0, 0, 0) := by decide +kernel
theorem k161_19 : look (codL 161) 19 = some (.aload_n 0, 1, 0, 0, 0) := by decide +kernel
theorem k161_20 : look (codL 161) 20 = some (.iload_n 1, 1, 0, 0, 0) := by decide +kernel
theorem k161_21 : look (codL 161) 21 = some (.putfield 142, 3, 10, 3, 0) := by decide +kernel
theorem k161_24 : look (codL 161) 24 = some (.iload_n 2, 1, 0, 0, 0) := by decide +kernel
theorem k161_25 : look (codL 161) 25 = some (.ireturn, 1, 0, 0, 0) := by decide +kernel
theorem k162_0 : look (codL 162) 0 = some (.iconst 0, 1, 0, 0, 0) := by decide +kernel
theorem k162_1 : look (codL 162) 1 = some (.istore_n 2, 1, 0, 0, 0) := by decide +kernel
theorem k162_2 : look (codL 162) 2 = some (.iconst 0, 1, 0, 0, 0) := by decide +kernel
theorem k162_3 : look (codL 162) 3 = some (.istore_n 3, 1, 0, 0, 0) := by decide +kernel
theorem k162_4 : look (codL 162) 4 = some (.iload_n 3, 1, 0, 0, 0) := by decide +kernel
theorem k162_5 : look (codL 162) 5 = some (.aload_n 0, 1, 0, 0, 0) := by decide +kernel
theorem k162_6 : look (codL 162) 6 = some (.getfield 94, 3, 10, 2, 0) := by decide +kernel
theorem k162_9 : look (codL 162) 9 = some (.if_icmp .ge 27, 3, 0, 0, 0) := by decide +kernel
theorem k162_12 : look (codL 162) 12 = some (.iload_n 2, 1, 0, 0, 0) := by decide +kernel
theorem k162_13 : look (codL 162) 13 = some (.aload_n 0, 1, 0, 0, 0) := by decide +kernel
theorem k162_14 : look (codL 162) 14 = some (.getfield 19, 3, 10, 6, 0) := by decide +kernel
theorem k162_17 : look (codL 162) 17 = some (.iload_n 3, 1, 0, 0, 0) := by decide +kernel
theorem k162_18 : look (codL 162) 18 = some (.iaload, 1, 0, 0, 0) := by decide +kernel
theorem k162_19 : look (codL 162) 19 = some (.iload_n 1, 1, 0, 0, 0) := by decide +kernel
theorem k162_20 : look (codL 162) 20 = some (.if_icmp .ne 7, 3, 0, 0, 0) := by decide +kernel
theorem k162_23 : look (codL 162) 23 = some (.iconst 1, 1, 0, 0, 0) := by decide +kernel
theorem k162_24 : look (codL 162) 24 = some (.goto 4, 3, 0, 0, 0) := by decide +kernel
theorem k162_27 : look (codL 162) 27 = some (.iconst 0, 1, 0, 0, 0) := by decide +kernel
theorem k162_28 : look (codL 162) 28 = some (.iadd, 1, 0, 0, 0) := by decide +kernel
theorem k162_29 : look (codL 162) 29 = some (.istore_n 2, 1, 0, 0, 0) := by decide +kernel
theorem k162_30 : look (codL 162) 30 = some (.iinc 3 1, 3, 0, 0, 0) := by decide +kernel
theorem k162_33 : look (codL 162) 33 = some (.goto (-29), 3, 0, 0, 0) := by decide +kernel
theorem k162_36 : look (codL 162) 36 = some (.iload_n 2, 1, 0, 0, 0) := by decide +kernel
theorem k162_37 : look (codL 162) 37 = some (.ireturn, 1, 0, 0, 0) := by decide +kernel
theorem k163_0 : look (codL 163) 0 = some (.iconst 0, 1, 0, 0, 0) := by decide +kernel
theorem k163_1 : look (codL 163) 1 = some (.istore_n 2, 1, 0, 0, 0) := by decide +kernel
theorem k163_2 : look (codL 163) 2 = some (.iconst 0, 1, 0, 0, 0) := by decide +kernel
theorem k163_3 : look (codL 163) 3 = some (.istore_n 3, 1, 0, 0, 0) := by decide +kernel
theorem k163_4 : look (codL 163) 4 = some (.iload_n 3, 1, 0, 0, 0) := by decide +kernel
theorem k163_5 : look (codL 163) 5 = some (.aload_n 0, 1, 0, 0, 0) := by decide +kernel
theorem k163_6 : look (codL 163) 6 = some (.getfield 94, 3, 10, 2, 0) := by decide +kernel
theorem k163_9 : look (codL 163) 9 = some (.if_icmp .ge 27, 3, 0, 0, 0) := by decide +kernel
theorem k163_12 : look (codL 163) 12 = some (.iload_n 2, 1, 0, 0, 0) := by decide +kernel
theorem k163_13 : look (codL 163) 13 = some (.aload_n 0, 1, 0, 0, 0) := by decide +kernel
theorem k163_14 : look (codL 163) 14 = some (.getfield 22, 3, 10, 7, 0) := by decide +kernel
theorem k163_17 : look (codL 163) 17 = some (.iload_n 3, 1, 0, 0, 0) := by decide +kernel
theorem k163_18 : look (codL 163) 18 = some (.iaload, 1, 0, 0, 0) := by decide +kernel
theorem k163_19 : look (codL 163) 19 = some (.iload_n 1, 1, 0, 0, 0) := by decide +kernel
theorem k163_20 : look (codL 163) 20 = some (.if_icmp .ne 7, 3, 0, 0, 0) := by decide +kernel
theorem k163_23 : look (codL 163) 23 = some (.iconst 1, 1, 0, 0, 0) := by decide +kernel
theorem k163_24 : look (codL 163) 24 = some (.goto 4, 3, 0, 0, 0) := by decide +kernel
theorem k163_27 : look (codL 163) 27 = some (.iconst 0, 1, 0, 0, 0) := by decide +kernel
theorem k163_28 : look (codL 163) 28 = some (.iadd, 1, 0, 0, 0) := by decide +kernel
theorem k163_29 : look (codL 163) 29 = some (.istore_n 2, 1, 0, 0, 0) := by decide +kernel
theorem k163_30 : look (codL 163) 30 = some (.iinc 3 1, 3, 0, 0, 0) := by decide +kernel
theorem k163_33 : look (codL 163) 33 = some (.goto (-29), 3, 0, 0, 0) := by decide +kernel
theorem k163_36 : look (codL 163) 36 = some (.iload_n 2, 1, 0, 0, 0) := by decide +kernel
theorem k163_37 : look (codL 163) 37 = some (.ireturn, 1, 0, 0, 0) := by decide +kernel
theorem k164_0 : look (codL 164) 0 = some (.aload_n 0, 1, 0, 0, 0) := by decide +kernel
theorem k164_1 : look (codL 164) 1 = some (.aload_n 0, 1, 0, 0, 0) := by decide +kernel
theorem k164_2 : look (codL 164) 2 = some (.getfield 19, 3, 10, 6, 0) := by decide +kernel
theorem k164_5 : look (codL 164) 5 = some (.iload_n 1, 1, 0, 0, 0) := by decide +kernel
theorem k164_6 : look (codL 164) 6 = some (.iaload, 1, 0, 0, 0) := by decide +kernel
theorem k164_7 : look (codL 164) 7 = some (.invokevirtual 145, 3, 162, 2, 0) := by decide +kernel
theorem k164_10 : look (codL 164) 10 = some (.iconst 1, 1, 0, 0, 0) := by decide +kernel
theorem k164_11 : look (codL 164) 11 = some (.if_icmp .ne 7, 3, 0, 0, 0) := by decide +kernel
theorem k164_14 : look (codL 164) 14 = some (.iconst 0, 1, 0, 0, 0) := by decide +kernel
theorem k164_15 : look (codL 164) 15 = some (.goto 22, 3, 0, 0, 0) := by decide +kernel
theorem k164_18 : look (codL 164) 18 = some (.aload_n 0, 1, 0, 0, 0) := by decide +kernel
theorem k164_19 : look (codL 164) 19 = some (.aload_n 0, 1, 0, 0, 0) := by decide +kernel
theorem k164_20 : look (codL 164) 20 = some (.getfield 22, 3, 10, 7, 0) := by decide +kernel
theorem k164_23 : look (codL 164) 23 = some (.iload_n 1, 1, 0, 0, 0) := by decide +kernel
theorem k164_24 : look (codL 164) 24 = some (.iaload, 1, 0, 0, 0) := by decide +kernel
theorem k164_25 : look (codL 164) 25 = some (.invokevirtual 148, 3, 163, 2, 0) := by decide +kernel
theorem k164_28 : look (codL 164) 28 = some (.iconst 1, 1, 0, 0, 0) := by decide +kernel
theorem k164_29 : look (codL 164) 29 = some (.if_icmp .ne 7, 3, 0, 0, 0) := by decide +kernel
theorem k164_32 : look (codL 164) 32 = some (.iconst 1, 1, 0, 0, 0) := by decide +kernel
theorem k164_33 : look (codL 164) 33 = some (.goto 4, 3, 0, 0, 0) := by decide +kernel
theorem k164_36 : look (codL 164) 36 = some (.iconst 2, 1, 0, 0, 0) := by decide +kernel
theorem k164_37 : look (codL 164) 37 = some (.ireturn, 1, 0, 0, 0) := by decide +kernel
theorem k165_0 : look (codL 165) 0 = some (.aload_n 0, 1, 0, 0, 0) := by decide +kernel
theorem k165_1 : look (codL 165) 1 = some (.iload_n 1, 1, 0, 0, 0) := by decide +kernel
theorem k165_2 : look (codL 165) 2 = some (.iload_n 2, 1, 0, 0, 0) := by decide +kernel
theorem k165_3 : look (codL 165) 3 = some (.invokevirtual 139, 3, 149, 3, 0) := by decide +kernel
theorem k165_6 : look (codL 165) 6 = some (.aload_n 0, 1, 0, 0, 0) := by decide +kernel
theorem k165_7 : look (codL 165) 7 = some (.iload_n 1, 1, 0, 0, 0) := by decide +kernel
theorem k165_8 : look (codL 165) 8 = some (.iload_n 2, 1, 0, 0, 0) := by decide +kernel
theorem k165_9 : look (codL 165) 9 = some (.invokevirtual 127, 3, 147, 3, 0) := by decide +kernel
theorem k165_12 : look (codL 165) 12 = some (.if_icmp .eq 7, 3, 0, 0, 0) := by decide +kernel
theorem k165_15 : look (codL 165) 15 = some (.iconst 1, 1, 0, 0, 0) := by decide +kernel
theorem k165_16 : look (codL 165) 16 = some (.goto 4, 3, 0, 0, 0) := by decide +kernel
theorem k165_19 : look (codL 165) 19 = some (.iconst 0, 1, 0, 0, 0) := by decide +kernel
theorem k165_20 : look (codL 165) 20 = some (.ireturn, 1, 0, 0, 0) := by decide +kernel
theorem k166_0 : look (codL 166) 0 = some (.iconst 0, 1, 0, 0, 0) := by decide +kernel
theorem k166_1 : look (codL 166) 1 = some (.istore_n 3, 1, 0, 0, 0) := by decide +kernel
theorem k166_2 : look (codL 166) 2 = some (.iconst 0, 1, 0, 0, 0) := by decide +kernel
theorem k166_3 : look (codL 166) 3 = some (.istore 4, 2, 0, 0, 0) := by decide +kernel
theorem k166_5 : look (codL 166) 5 = some (.iload 4, 2, 0, 0, 0) := by decide +kernel
theorem k166_7 : look (codL 166) 7 = some (.aload_n 0, 1, 0, 0, 0) := by decide +kernel
theorem k166_8 : look (codL 166) 8 = some (.iload_n 1, 1, 0, 0, 0) := by decide +kernel
theorem k166_9 : look (codL 166) 9 = some (.invokevirtual 133, 3, 148, 2, 0) := by decide +kernel
theorem k166_12 : look (codL 166) 12 = some (.if_icmp .ge 79, 3, 0, 0, 0) := by decide +kernel
theorem k166_15 : look (codL 166) 15 = some (.aload_n 0, 1, 0, 0, 0) := by decide +kernel
theorem k166_16 : look (codL 166) 16 = some (.iload_n 1, 1, 0, 0, 0) := by decide +kernel
theorem k166_17 : look (codL 166) 17 = some (.iload 4, 2, 0, 0, 0) := by decide +kernel
theorem k166_19 : look (codL 166) 19 = some (.invokevirtual 127, 3, 147, 3, 0) := by decide +kernel
theorem k166_22 : look (codL 166) 22 = some (.iload_n 2, 1, 0, 0, 0) := by decide +kernel
theorem k166_23 : look (codL 166) 23 = some (.invokestatic 151, 3, 144, 2, 0) := by decide +kernel
theorem k166_26 : look (codL 166) 26 = some (.ifCond .ne 27, 3, 0, 0, 0) := by decide +kernel
theorem k166_29 : look (codL 166) 29 = some (.aload_n 0, 1, 0, 0, 0) := by decide +kernel
theorem k166_30 : look (codL 166) 30 = some (.iload_n 1, 1, 0, 0, 0) := by decide +kernel
theorem k166_31 : look (codL 166) 31 = some (.iload 4, 2, 0, 0, 0) := by decide +kernel
theorem k166_33 : look (codL 166) 33 = some (.invokevirtual 139, 3, 149, 3, 0) := by decide +kernel
theorem k166_36 : look (codL 166) 36 = some (.ifCond .le 21, 3, 0, 0, 0) := by decide +kernel
theorem k166_39 : look (codL 166) 39 = some (.aload_n 0, 1, 0, 0, 0) := by decide +kernel
theorem k166_40 : look (codL 166) 40 = some (.iload_n 1, 1, 0, 0, 0) := by decide +kernel
theorem k166_41 : look (codL 166) 41 = some (.iload 4, 2, 0, 0, 0) := by decide +kernel
theorem k166_43 : look (codL 166) 43 = some (.invokevirtual 139, 3, 149, 3, 0) := by decide +kernel
theorem k166_46 : look (codL 166) 46 = some (.iload_n 2, 1, 0, 0, 0) := by decide +kernel
theorem k166_47 : look (codL 166) 47 = some (.invokestatic 151, 3, 144, 2, 0) := by decide +kernel
theorem k166_50 : look (codL 166) 50 = some (.ifCond .eq 7, 3, 0, 0, 0) := by decide +kernel
theorem k166_53 : look (codL 166) 53 = some (.iconst 1, 1, 0, 0, 0) := by decide +kernel
theorem k166_54 : look (codL 166) 54 = some (.goto 4, 3, 0, 0, 0) := by decide +kernel
theorem k166_57 : look (codL 166) 57 = some (.iconst 0, 1, 0, 0, 0) := by decide +kernel
theorem k166_58 : look (codL 166) 58 = some (.istore 5, 2, 0, 0, 0) := by decide +kernel
theorem k166_60 : look (codL 166) 60 = some (.iload_n 3, 1, 0, 0, 0) := by decide +kernel
theorem k166_61 : look (codL 166) 61 = some (.ifCond .ne 18, 3, 0, 0, 0) := by decide +kernel
theorem k166_64 : look (codL 166) 64 = some (.aload_n 0, 1, 0, 0, 0) := by decide +kernel
theorem k166_65 : look (codL 166) 65 = some (.iload_n 1, 1, 0, 0, 0) := by decide +kernel
theorem k166_66 : look (codL 166) 66 = some (.iload 4, 2, 0, 0, 0) := by decide +kernel
theorem k166_68 : look (codL 166) 68 = some (.invokevirtual 154, 3, 165, 3, 0) := by decide +kernel
theorem k166_71 : look (codL 166) 71 = some (.ifCond .eq 12, 3, 0, 0, 0) := by decide +kernel
theorem k166_74 : look (codL 166) 74 = some (.iload 5, 2, 0, 0, 0) := by decide +kernel
theorem k166_76 : look (codL 166) 76 = some (.ifCond .eq 7, 3, 0, 0, 0) := by decide +kernel
theorem k166_79 : look (codL 166) 79 = some (.iconst 1, 1, 0, 0, 0) := by decide +kernel
theorem k166_80 : look (codL 166) 80 = some (.goto 4, 3, 0, 0, 0) := by decide +kernel
theorem k166_83 : look (codL 166) 83 = some (.iconst 0, 1, 0, 0, 0) := by decide +kernel
theorem k166_84 : look (codL 166) 84 = some (.istore_n 3, 1, 0, 0, 0) := by decide +kernel
theorem k166_85 : look (codL 166) 85 = some (.iinc 4 1, 3, 0, 0, 0) := by decide +kernel
theorem k166_88 : look (codL 166) 88 = some (.goto (-83), 3, 0, 0, 0) := by decide +kernel
theorem k166_91 : look (codL 166) 91 = some (.iload_n 3, 1, 0, 0, 0) := by decide +kernel
theorem k166_92 : look (codL 166) 92 = some (.ireturn, 1, 0, 0, 0) := by decide +kernel
theorem k167_0 : look (codL 167) 0 = some (.iconst 1, 1, 0, 0, 0) := by decide +kernel
theorem k167_1 : look (codL 167) 1 = some (.istore_n 2, 1, 0, 0, 0) := by decide +kernel
theorem k167_2 : look (codL 167) 2 = some (.iconst 0, 1, 0, 0, 0) := by decide +kernel
theorem k167_3 : look (codL 167) 3 = some (.istore_n 3, 1, 0, 0, 0) := by decide +kernel
theorem k167_4 : look (codL 167) 4 = some (.iload_n 3, 1, 0, 0, 0) := by decide +kernel
theorem k167_5 : look (codL 167) 5 = some (.aload_n 0, 1, 0, 0, 0) := by decide +kernel
theorem k167_6 : look (codL 167) 6 = some (.iload_n 1, 1, 0, 0, 0) := by decide +kernel
theorem k167_7 : look (codL 167) 7 = some (.invokevirtual 133, 3, 148, 2, 0) := by decide +kernel
theorem k167_10 : look (codL 167) 10 = some (.if_icmp .ge 65, 3, 0, 0, 0) := by decide +kernel
theorem k167_13 : look (codL 167) 13 = some (.aload_n 0, 1, 0, 0, 0) := by decide +kernel
theorem k167_14 : look (codL 167) 14 = some (.iload_n 1, 1, 0, 0, 0) := by decide +kernel
theorem k167_15 : look (codL 167) 15 = some (.iload_n 3, 1, 0, 0, 0) := by decide +kernel
theorem k167_16 : look (codL 167) 16 = some (.invokevirtual 154, 3, 165, 3, 0) := by decide +kernel
theorem k167_19 : look (codL 167) 19 = some (.ifCond .eq 50, 3, 0, 0, 0) := by decide +kernel
theorem k167_22 : look (codL 167) 22 = some (.iload_n 2, 1, 0, 0, 0) := by decide +kernel
theorem k167_23 : look (codL 167) 23 = some (.ifCond .eq 44, 3, 0, 0, 0) := by decide +kernel
theorem k167_26 : look (codL 167) 26 = some (.aload_n 0, 1, 0, 0, 0) := by decide +kernel
theorem k167_27 : look (codL 167) 27 = some (.iload_n 1, 1, 0, 0, 0) := by decide +kernel
theorem k167_28 : look (codL 167) 28 = some (.aload_n 0, 1, 0, 0, 0) := by decide +kernel
theorem k167_29 : look (codL 167) 29 = some (.iload_n 1, 1, 0, 0, 0) := by decide +kernel
theorem k167_30 : look (codL 167) 30 = some (.iload_n 3, 1, 0, 0, 0) := by decide +kernel
theorem k167_31 : look (codL 167) 31 = some (.invokevirtual 127, 3, 147, 3, 0) := by decide +kernel
theorem k167_34 : look (codL 167) 34 = some (.invokevirtual 157, 3, 166, 3, 0) := by decide +kernel
theorem k167_37 : look (codL 167) 37 = some (.ifCond .ne 30, 3, 0, 0, 0) := by decide +kernel
theorem k167_40 : look (codL 167) 40 = some (.aload_n 0, 1, 0, 0, 0) := by decide +kernel
theorem k167_41 : look (codL 167) 41 = some (.iload_n 1, 1, 0, 0, 0) := by decide +kernel
theorem k167_42 : look (codL 167) 42 = some (.iload_n 3, 1, 0, 0, 0) := by decide +kernel
theorem k167_43 : look (codL 167) 43 = some (.invokevirtual 139, 3, 149, 3, 0) := by decide +kernel
theorem k167_46 : look (codL 167) 46 = some (.ifCond .lt 17, 3, 0, 0, 0) := by decide +kernel
theorem k167_49 : look (codL 167) 49 = some (.aload_n 0, 1, 0, 0, 0) := by decide +kernel
theorem k167_50 : look (codL 167) 50 = some (.iload_n 1, 1, 0, 0, 0) := by decide +kernel
theorem k167_51 : look (codL 167) 51 = some (.aload_n 0, 1, 0, 0, 0) := by decide +kernel
theorem k167_52 : look (codL 167) 52 = some (.iload_n 1, 1, 0, 0, 0) := by decide +kernel
theorem k167_53 : look (codL 167) 53 = some (.iload_n 3, 1, 0, 0, 0) := by decide +kernel
theorem k167_54 : look (codL 167) 54 = some (.invokevirtual 139, 3, 149, 3, 0) := by decide +kernel
theorem k167_57 : look (codL 167) 57 = some (.invokevirtual 157, 3, 166, 3, 0) := by decide +kernel
theorem k167_60 : look (codL 167) 60 = some (.ifCond .ne 7, 3, 0, 0, 0) := by decide +kernel
theorem k167_63 : look (codL 167) 63 = some (.iconst 1, 1, 0, 0, 0) := by decide +kernel
theorem k167_64 : look (codL 167) 64 = some (.goto 4, 3, 0, 0, 0) := by decide +kernel
theorem k167_67 : look (codL 167) 67 = some (.iconst 0, 1, 0, 0, 0) := by decide +kernel
theorem k167_68 : look (codL 167) 68 = some (.istore_n 2, 1, 0, 0, 0) := by decide +kernel
theorem k167_69 : look (codL 167) 69 = some (.iinc 3 1, 3, 0, 0, 0) := by decide +kernel
theorem k167_72 : look (codL 167) 72 = some (.goto (-68), 3, 0, 0, 0) := by decide +kernel
theorem k167_75 : look (codL 167) 75 = some (.iload_n 2, 1, 0, 0, 0) := by decide +kernel
theorem k167_76 : look (codL 167) 76 = some (.ireturn, 1, 0, 0, 0) := by decide +kernel
theorem k168_0 : look (codL 168) 0 = some (.aload_n 0, 1, 0, 0, 0) := by decide +kernel
theorem k168_1 : look (codL 168) 1 = some (.iload_n 1, 1, 0, 0, 0) := by decide +kernel
theorem k168_2 : look (codL 168) 2 = some (.invokevirtual 130, 3, 146, 2, 0) := by decide +kernel
theorem k168_5 : look (codL 168) 5 = some (.ifCond .eq 12, 3, 0, 0, 0) := by decide +kernel
theorem k168_8 : look (codL 168) 8 = some (.iload_n 2, 1, 0, 0, 0) := by decide +kernel
theorem k168_9 : look (codL 168) 9 = some (.iconst 0, 1, 0, 0, 0) := by decide +kernel
theorem k168_10 : look (codL 168) 10 = some (.iconst 4, 1, 0, 0, 0) := by decide +kernel
theorem k168_11 : look (codL 168) 11 = some (.invokestatic 90, 3, 138, 3, 0) := by decide +kernel
theorem k168_14 : look (codL 168) 14 = some (.ifCond .ne 8, 3, 0, 0, 0) := by decide +kernel
theorem k168_17 : look (codL 168) 17 = some (.aload_n 0, 1, 0, 0, 0) := by decide +kernel
theorem k168_18 : look (codL 168) 18 = some (.invokevirtual 110, 3, 135, 1, 0) := by decide +kernel
theorem k168_21 : look (codL 168) 21 = some (.ireturn, 1, 0, 0, 0) := by decide +kernel
theorem k168_22 : look (codL 168) 22 = some (.iload_n 2, 1, 0, 0, 0) := by decide +kernel
theorem k168_23 : look (codL 168) 23 = some (.tableswitch 64 0 3 #[29, 36, 43, 50], 29, 0, 0, 0) := by decide +kernel
theorem k168_52 : look (codL 168) 52 = some (.aload_n 0, 1, 0, 0, 0) := by decide +kernel
theorem k168_53 : look (codL 168) 53 = some (.getfield 19, 3, 10, 6, 0) := by decide +kernel
theorem k168_56 : look (codL 168) 56 = some (.iload_n 1, 1, 0, 0, 0) := by decide +kernel
theorem k168_57 : look (codL 168) 57 = some (.iaload, 1, 0, 0, 0) := by decide +kernel
theorem k168_58 : look (codL 168) 58 = some (.ireturn, 1, 0, 0, 0) := by decide +kernel
theorem k168_59 : look (codL 168) 59 = some (.aload_n 0, 1, 0, 0, 0) := by decide +kernel
theorem k168_60 : look (codL 168) 60 = some (.getfield 22, 3, 10, 7, 0) := by decide +kernel
theorem k168_63 : look (codL 168) 63 = some (.iload_n 1, 1, 0, 0, 0) := by decide +kernel
theorem k168_64 : look (codL 168) 64 = some (.iaload, 1, 0, 0, 0) := by decide +kernel
theorem k168_65 : look (codL 168) 65 = some (.ireturn, 1, 0, 0, 0) := by decide +kernel
theorem k168_66 : look (codL 168) 66 = some (.aload_n 0, 1, 0, 0, 0) := by decide +kernel
theorem k168_67 : look (codL 168) 67 = some (.getfield 25, 3, 10, 8, 0) := by decide +kernel
theorem k168_70 : look (codL 168) 70 = some (.iload_n 1, 1, 0, 0, 0) := by decide +kernel
theorem k168_71 : look (codL 168) 71 = some (.iaload, 1, 0, 0, 0) := by decide +kernel
theorem k168_72 : look (codL 168) 72 = some (.ireturn, 1, 0, 0, 0) := by decide +kernel
theorem k168_73 : look (codL 168) 73 = some (.aload_n 0, 1, 0, 0, 0) := by decide +kernel
theorem k168_74 : look (codL 168) 74 = some (.iload_n 1, 1, 0, 0, 0) := by decide +kernel
theorem k168_75 : look (codL 168) 75 = some (.invokevirtual 160, 3, 167, 2, 0) := by decide +kernel
theorem k168_78 : look (codL 168) 78 = some (.ifCond .eq 7, 3, 0, 0, 0) := by decide +kernel
theorem k168_81 : look (codL 168) 81 = some (.iconst 1, 1, 0, 0, 0) := by decide +kernel
theorem k168_82 : look (codL 168) 82 = some (.goto 4, 3, 0, 0, 0) := by decide +kernel
theorem k168_85 : look (codL 168) 85 = some (.iconst 0, 1, 0, 0, 0) := by decide +kernel
theorem k168_86 : look (codL 168) 86 = some (.ireturn, 1, 0, 0, 0) := by decide +kernel
theorem k168_87 : look (codL 168) 87 = some (.aload_n 0, 1, 0, 0, 0) := by decide +kernel
theorem k168_88 : look (codL 168) 88 = some (.iload_n 1, 1, 0, 0, 0) := by decide +kernel
theorem k168_89 : look (codL 168) 89 = some (.invokevirtual 163, 3, 164, 2, 0) := by decide +kernel
theorem k168_92 : look (codL 168) 92 = some (.ireturn, 1, 0, 0, 0) := by decide +kernel
theorem k169_0 : look (codL 169) 0 = some (.aload_n 0, 1, 0, 0, 0) := by decide +kernel
theorem k169_1 : look (codL 169) 1 = some (.iload_n 1, 1, 0, 0, 0) := by decide +kernel
theorem k169_2 : look (codL 169) 2 = some (.invokevirtual 104, 3, 145, 2, 0) := by decide +kernel
theorem k169_5 : look (codL 169) 5 = some (.ifCond .eq 12, 3, 0, 0, 0) := by decide +kernel
theorem k169_8 : look (codL 169) 8 = some (.iload_n 2, 1, 0, 0, 0) := by decide +kernel
theorem k169_9 : look (codL 169) 9 = some (.iconst 0, 1, 0, 0, 0) := by decide +kernel
theorem k169_10 : look (codL 169) 10 = some (.iconst 2, 1, 0, 0, 0) := by decide +kernel
theorem k169_11 : look (codL 169) 11 = some (.invokestatic 90, 3, 138, 3, 0) := by decide +kernel
theorem k169_14 : look (codL 169) 14 = some (.ifCond .ne 8, 3, 0, 0, 0) := by decide +kernel
theorem k169_17 : look (codL 169) 17 = some (.aload_n 0, 1, 0, 0, 0) := by decide +kernel
theorem k169_18 : look (codL 169) 18 = some (.invokevirtual 110, 3, 135, 1, 0) := by decide +kernel
theorem k169_21 : look (codL 169) 21 = some (.ireturn, 1, 0, 0, 0) := by decide +kernel
theorem k169_22 : look (codL 169) 22 = some (.iload_n 2, 1, 0, 0, 0) := by decide +kernel
theorem k169_23 : look (codL 169) 23 = some (.ifCond .ne 12, 3, 0, 0, 0) := by decide +kernel
theorem k169_26 : look (codL 169) 26 = some (.aload_n 0, 1, 0, 0, 0) := by decide +kernel
theorem k169_27 : look (codL 169) 27 = some (.getfield 13, 3, 10, 4, 0) := by decide +kernel
theorem k169_30 : look (codL 169) 30 = some (.iload_n 1, 1, 0, 0, 0) := by decide +kernel
theorem k169_31 : look (codL 169) 31 = some (.iaload, 1, 0, 0, 0) := by decide +kernel
theorem k169_32 : look (codL 169) 32 = some (.goto 21, 3, 0, 0, 0) := by decide +kernel
theorem k169_35 : look (codL 169) 35 = some (.iload_n 2, 1, 0, 0, 0) := by decide +kernel
theorem k169_36 : look (codL 169) 36 = some (.iconst 1, 1, 0, 0, 0) := by decide +kernel
theorem k169_37 : look (codL 169) 37 = some (.if_icmp .ne 11, 3, 0, 0, 0) := by decide +kernel
theorem k169_40 : look (codL 169) 40 = some (.aload_n 0, 1, 0, 0, 0) := by decide +kernel
theorem k169_41 : look (codL 169) 41 = some (.iload_n 1, 1, 0, 0, 0) := by decide +kernel
theorem k169_42 : look (codL 169) 42 = some (.invokevirtual 145, 3, 162, 2, 0) := by decide +kernel
theorem k169_45 : look (codL 169) 45 = some (.goto 8, 3, 0, 0, 0) := by decide +kernel
theorem k169_48 : look (codL 169) 48 = some (.aload_n 0, 1, 0, 0, 0) := by decide +kernel
theorem k169_49 : look (codL 169) 49 = some (.iload_n 1, 1, 0, 0, 0) := by decide +kernel
theorem k169_50 : look (codL 169) 50 = some (.invokevirtual 148, 3, 163, 2, 0) := by decide +kernel
theorem k169_53 : look (codL 169) 53 = some (.ireturn, 1, 0, 0, 0) := by decide +kernel
theorem k170_0 : look (codL 170) 0 = some (.aload_n 0, 1, 0, 0, 0) := by decide +kernel
theorem k170_1 : look (codL 170) 1 = some (.iload_n 1, 1, 0, 0, 0) := by decide +kernel
theorem k170_2 : look (codL 170) 2 = some (.invokevirtual 104, 3, 145, 2, 0) := by decide +kernel
theorem k170_5 : look (codL 170) 5 = some (.ifCond .eq 7, 3, 0, 0, 0) := by decide +kernel
theorem k170_8 : look (codL 170) 8 = some (.iload_n 2, 1, 0, 0, 0) := by decide +kernel
theorem k170_9 : look (codL 170) 9 = some (.ifCond .ge 8, 3, 0, 0, 0) := by decide +kernel
theorem k170_12 : look (codL 170) 12 = some (.aload_n 0, 1, 0, 0, 0) := by decide +kernel
theorem k170_13 : look (codL 170) 13 = some (.invokevirtual 110, 3, 135, 1, 0) := by decide +kernel
theorem k170_16 : look (codL 170) 16 = some (.ireturn, 1, 0, 0, 0) := by decide +kernel
theorem k170_17 : look (codL 170) 17 = some (.iload_n 2, 1, 0, 0, 0) := by decide +kernel
theorem k170_18 : look (codL 170) 18 = some (.aload_n 0, 1, 0, 0, 0) := by decide +kernel
theorem k170_19 : look (codL 170) 19 = some (.getfield 13, 3, 10, 4, 0) := by decide +kernel
theorem k170_22 : look (codL 170) 22 = some (.iload_n 1, 1, 0, 0, 0) := by decide +kernel
theorem k170_23 : look (codL 170) 23 = some (.iaload, 1, 0, 0, 0) := by decide +kernel
theorem k170_24 : look (codL 170) 24 = some (.if_icmp .ge 17, 3, 0, 0, 0) := by decide +kernel
theorem k170_27 : look (codL 170) 27 = some (.aload_n 0, 1, 0, 0, 0) := by decide +kernel
theorem k170_28 : look (codL 170) 28 = some (.getfield 16, 3, 10, 5, 0) := by decide +kernel
theorem k170_31 : look (codL 170) 31 = some (.bipush 6, 2, 0, 0, 0) := by decide +kernel
theorem k170_33 : look (codL 170) 33 = some (.iload_n 1, 1, 0, 0, 0) := by decide +kernel
theorem k170_34 : look (codL 170) 34 = some (.imul, 1, 0, 0, 0) := by decide +kernel
theorem k170_35 : look (codL 170) 35 = some (.iload_n 2, 1, 0, 0, 0) := by decide +kernel
theorem k170_36 : look (codL 170) 36 = some (.iadd, 1, 0, 0, 0) := by decide +kernel
theorem k170_37 : look (codL 170) 37 = some (.iaload, 1, 0, 0, 0) := by decide +kernel
theorem k170_38 : look (codL 170) 38 = some (.goto 6, 3, 0, 0, 0) := by decide +kernel
theorem k170_41 : look (codL 170) 41 = some (.sipush (-201), 3, 0, 0, 0) := by decide +kernel
theorem k170_44 : look (codL 170) 44 = some (.ireturn, 1, 0, 0, 0) := by decide +kernel
theorem k171_0 : look (codL 171) 0 = some (.aload_n 0, 1, 0, 0, 0) := by decide +kernel
theorem k171_1 : look (codL 171) 1 = some (.iload_n 1, 1, 0, 0, 0) := by decide +kernel
theorem k171_2 : look (codL 171) 2 = some (.invokevirtual 130, 3, 146, 2, 0) := by decide +kernel
theorem k171_5 : look (codL 171) 5 = some (.ifCond .eq 7, 3, 0, 0, 0) := by decide +kernel
theorem k171_8 : look (codL 171) 8 = some (.iload_n 2, 1, 0, 0, 0) := by decide +kernel
theorem k171_9 : look (codL 171) 9 = some (.ifCond .ge 8, 3, 0, 0, 0) := by decide +kernel
theorem k171_12 : look (codL 171) 12 = some (.aload_n 0, 1, 0, 0, 0) := by decide +kernel
theorem k171_13 : look (codL 171) 13 = some (.invokevirtual 110, 3, 135, 1, 0) := by decide +kernel
theorem k171_16 : look (codL 171) 16 = some (.ireturn, 1, 0, 0, 0) := by decide +kernel
theorem k171_17 : look (codL 171) 17 = some (.iload_n 2, 1, 0, 0, 0) := by decide +kernel
theorem k171_18 : look (codL 171) 18 = some (.aload_n 0, 1, 0, 0, 0) := by decide +kernel
theorem k171_19 : look (codL 171) 19 = some (.iload_n 1, 1, 0, 0, 0) := by decide +kernel
theorem k171_20 : look (codL 171) 20 = some (.invokevirtual 133, 3, 148, 2, 0) := by decide +kernel
theorem k171_23 : look (codL 171) 23 = some (.if_icmp .ge 12, 3, 0, 0, 0) := by decide +kernel
theorem k171_26 : look (codL 171) 26 = some (.aload_n 0, 1, 0, 0, 0) := by decide +kernel
theorem k171_27 : look (codL 171) 27 = some (.iload_n 1, 1, 0, 0, 0) := by decide +kernel
theorem k171_28 : look (codL 171) 28 = some (.iload_n 2, 1, 0, 0, 0) := by decide +kernel
theorem k171_29 : look (codL 171) 29 = some (.invokevirtual 139, 3, 149, 3, 0) := by decide +kernel
theorem k171_32 : look (codL 171) 32 = some (.goto 6, 3, 0, 0, 0) := by decide +kernel
theorem k171_35 : look (codL 171) 35 = some (.sipush (-201), 3, 0, 0, 0) := by decide +kernel
theorem k171_38 : look (codL 171) 38 = some (.ireturn, 1, 0, 0, 0) := by decide +kernel
theorem k172_0 : look (codL 172) 0 = some (.iload_n 0, 1, 0, 0, 0) := by decide +kernel
theorem k172_1 : look (codL 172) 1 = some (.iconst 3, 1, 0, 0, 0) := by decide +kernel
theorem k172_2 : look (codL 172) 2 = some (.if_icmp .ne 7, 3, 0, 0, 0) := by decide +kernel
theorem k172_5 : look (codL 172) 5 = some (.iload_n 1, 1, 0, 0, 0) := by decide +kernel
theorem k172_6 : look (codL 172) 6 = some (.goto 17, 3, 0, 0, 0) := by decide +kernel
theorem k172_9 : look (codL 172) 9 = some (.iload_n 0, 1, 0, 0, 0) := by decide +kernel
theorem k172_10 : look (codL 172) 10 = some (.iconst 4, 1, 0, 0, 0) := by decide +kernel
theorem k172_11 : look (codL 172) 11 = some (.if_icmp .ne 11, 3, 0, 0, 0) := by decide +kernel
theorem k172_14 : look (codL 172) 14 = some (.iload_n 1, 1, 0, 0, 0) := by decide +kernel
theorem k172_15 : look (codL 172) 15 = some (.iconst 1, 1, 0, 0, 0) := by decide +kernel
theorem k172_16 : look (codL 172) 16 = some (.iadd, 1, 0, 0, 0) := by decide +kernel
theorem k172_17 : look (codL 172) 17 = some (.iconst 2, 1, 0, 0, 0) := by decide +kernel
theorem k172_18 : look (codL 172) 18 = some (.idiv, 1, 0, 0, 0) := by decide +kernel
theorem k172_19 : look (codL 172) 19 = some (.goto 4, 3, 0, 0, 0) := by decide +kernel
theorem k172_22 : look (codL 172) 22 = some (.iconst 1, 1, 0, 0, 0) := by decide +kernel
theorem k172_23 : look (codL 172) 23 = some (.ireturn, 1, 0, 0, 0) := by decide +kernel
theorem k173_0 : look (codL 173) 0 = some (.iload_n 0, 1, 0, 0, 0) := by decide +kernel
theorem k173_1 : look (codL 173) 1 = some (.iconst 1, 1, 0, 0, 0) := by decide +kernel
theorem k173_2 : look (codL 173) 2 = some (.if_icmp .ne 7, 3, 0, 0, 0) := by decide +kernel
theorem k173_5 : look (codL 173) 5 = some (.iconst 1, 1, 0, 0, 0) := by decide +kernel
theorem k173_6 : look (codL 173) 6 = some (.goto 28, 3, 0, 0, 0) := by decide +kernel
theorem k173_9 : look (codL 173) 9 = some (.iload_n 0, 1, 0, 0, 0) := by decide +kernel
theorem k173_10 : look (codL 173) 10 = some (.iconst 2, 1, 0, 0, 0) := by decide +kernel
theorem k173_11 : look (codL 173) 11 = some (.if_icmp .ne 7, 3, 0, 0, 0) := by decide +kernel
theorem k173_14 : look (codL 173) 14 = some (.iconst 3, 1, 0, 0, 0) := by decide +kernel
theorem k173_15 : look (codL 173) 15 = some (.goto 19, 3, 0, 0, 0) := by decide +kernel
theorem k173_18 : look (codL 173) 18 = some (.iload_n 0, 1, 0, 0, 0) := by decide +kernel
theorem k173_19 : look (codL 173) 19 = some (.iconst 4, 1, 0, 0, 0) := by decide +kernel
theorem k173_20 : look (codL 173) 20 = some (.if_icmp .ne 13, 3, 0, 0, 0) := by decide +kernel
theorem k173_23 : look (codL 173) 23 = some (.iload_n 1, 1, 0, 0, 0) := by decide +kernel
theorem k173_24 : look (codL 173) 24 = some (.iconst 1, 1, 0, 0, 0) := by decide +kernel
theorem k173_25 : look (codL 173) 25 = some (.iadd, 1, 0, 0, 0) := by decide +kernel
theorem k173_26 : look (codL 173) 26 = some (.iconst 2, 1, 0, 0, 0) := by decide +kernel
theorem k173_27 : look (codL 173) 27 = some (.idiv, 1, 0, 0, 0) := by decide +kernel
theorem k173_28 : look (codL 173) 28 = some (.iconst 1, 1, 0, 0, 0) := by decide +kernel
theorem k173_29 : look (codL 173) 29 = some (.iadd, 1, 0, 0, 0) := by decide +kernel
theorem k173_30 : look (codL 173) 30 = some (.goto 4, 3, 0, 0, 0) := by decide +kernel
theorem k173_33 : look (codL 173) 33 = some (.iconst 0, 1, 0, 0, 0) := by decide +kernel
theorem k173_34 : look (codL 173) 34 = some (.ireturn, 1, 0, 0, 0) := by decide +kernel
theorem k174_0 : look (codL 174) 0 = some (.aload_n 0, 1, 0, 0, 0) := by decide +kernel
theorem k174_1 : look (codL 174) 1 = some (.getfield 31, 3, 10, 11, 0) := by decide +kernel
theorem k174_4 : look (codL 174) 4 = some (.aload_n 0, 1, 0, 0, 0) := by decide +kernel
theorem k174_5 : look (codL 174) 5 = some (.getfield 166, 3, 10, 10, 0) := by decide +kernel
theorem k174_8 : look (codL 174) 8 = some (.iload_n 1, 1, 0, 0, 0) := by decide +kernel
theorem k174_9 : look (codL 174) 9 = some (.iastore, 1, 0, 0, 0) := by decide +kernel
theorem k174_10 : look (codL 174) 10 = some (.aload_n 0, 1, 0, 0, 0) := by decide +kernel
theorem k174_11 : look (codL 174) 11 = some (.getfield 34, 3, 10, 12, 0) := by decide +kernel
theorem k174_14 : look (codL 174) 14 = some (.aload_n 0, 1, 0, 0, 0) := by decide +kernel
theorem k174_15 : look (codL 174) 15 = some (.getfield 166, 3, 10, 10, 0) := by decide +kernel
theorem k174_18 : look (codL 174) 18 = some (.iload_n 2, 1, 0, 0, 0) := by decide +kernel
theorem k174_19 : look (codL 174) 19 = some (.iastore, 1, 0, 0, 0) := by decide +kernel
theorem k174_20 : look (codL 174) 20 = some (.aload_n 0, 1, 0, 0, 0) := by decide +kernel
theorem k174_21 : look (codL 174) 21 = some (.getfield 37, 3, 10, 13, 0) := by decide +kernel
theorem k174_24 : look (codL 174) 24 = some (.aload_n 0, 1, 0, 0, 0) := by decide +kernel
theorem k174_25 : look (codL 174) 25 = some (.getfield 166, 3, 10, 10, 0) := by decide +kernel
theorem k174_28 : look (codL 174) 28 = some (.iload_n 3, 1, 0, 0, 0) := by decide +kernel
theorem k174_29 : look (codL 174) 29 = some (.iastore, 1, 0, 0, 0) := by decide +kernel
theorem k174_30 : look (codL 174) 30 = some (.aload_n 0, 1, 0, 0, 0) := by decide +kernel
theorem k174_31 : look (codL 174) 31 = some (.dup, 1, 0, 0, 0) := by decide +kernel
theorem k174_32 : look (codL 174) 32 = some (.getfield 166, 3, 10, 10, 0) := by decide +kernel
theorem k174_35 : look (codL 174) 35 = some (.iconst 1, 1, 0, 0, 0) := by decide +kernel
theorem k174_36 : look (codL 174) 36 = some (.iadd, 1, 0, 0, 0) := by decide +kernel
theorem k174_37 : look (codL 174) 37 = some (.putfield 166, 3, 10, 10, 0) := by decide +kernel
theorem k174_40 : look (codL 174) 40 = some (.return_, 1, 0, 0, 0) := by decide +kernel
theorem k175_0 : look (codL 175) 0 = some (.iconst 0, 1, 0, 0, 0) := by decide +kernel
theorem k175_1 : look (codL 175) 1 = some (.istore_n 3, 1, 0, 0, 0) := by decide +kernel
theorem k175_2 : look (codL 175) 2 = some (.iconst 0, 1, 0, 0, 0) := by decide +kernel
theorem k175_3 : look (codL 175) 3 = some (.istore 4, 2, 0, 0, 0) := by decide +kernel
theorem k175_5 : look (codL 175) 5 = some (.iload 4, 2, 0, 0, 0) := by decide +kernel
theorem k175_7 : look (codL 175) 7 = some (.iload_n 2, 1, 0, 0, 0) := by decide +kernel
theorem k175_8 : look (codL 175) 8 = some (.if_icmp .ge 40, 3, 0, 0, 0) := by decide +kernel
theorem k175_11 : look (codL 175) 11 = some (.iload_n 3, 1, 0, 0, 0) := by decide +kernel
theorem k175_12 : look (codL 175) 12 = some (.ifCond .ne 24, 3, 0, 0, 0) := by decide +kernel
theorem k175_15 : look (codL 175) 15 = some (.aload_n 0, 1, 0, 0, 0) := by decide +kernel
theorem k175_16 : look (codL 175) 16 = some (.getfield 40, 3, 10, 14, 0) := by decide +kernel
theorem k175_19 : look (codL 175) 19 = some (.iload 4, 2, 0, 0, 0) := by decide +kernel
theorem k175_21 : look (codL 175) 21 = some (.baload, 1, 0, 0, 0) := by decide +kernel
theorem k175_22 : look (codL 175) 22 = some (.ifCond .eq 18, 3, 0, 0, 0) := by decide +kernel
theorem k175_25 : look (codL 175) 25 = some (.aload_n 0, 1, 0, 0, 0) := by decide +kernel
theorem k175_26 : look (codL 175) 26 = some (.getfield 44, 3, 10, 15, 0) := by decide +kernel
theorem k175_29 : look (codL 175) 29 = some (.iload 4, 2, 0, 0, 0) := by decide +kernel
theorem k175_31 : look (codL 175) 31 = some (.iaload, 1, 0, 0, 0) := by decide +kernel
theorem k175_32 : look (codL 175) 32 = some (.iload_n 1, 1, 0, 0, 0) := by decide +kernel
theorem k175_33 : look (codL 175) 33 = some (.if_icmp .ne 7, 3, 0, 0, 0) := by decide +kernel
theorem k175_36 : look (codL 175) 36 = some (.iconst 1, 1, 0, 0, 0) := by decide +kernel
theorem k175_37 : look (codL 175) 37 = some (.goto 4, 3, 0, 0, 0) := by decide +kernel
theorem k175_40 : look (codL 175) 40 = some (.iconst 0, 1, 0, 0, 0) := by decide +kernel
theorem k175_41 : look (codL 175) 41 = some (.istore_n 3, 1, 0, 0, 0) := by decide +kernel
theorem k175_42 : look (codL 175) 42 = some (.iinc 4 1, 3, 0, 0, 0) := by decide +kernel
theorem k175_45 : look (codL 175) 45 = some (.goto (-40), 3, 0, 0, 0) := by decide +kernel
theorem k175_48 : look (codL 175) 48 = some (.iload_n 3, 1, 0, 0, 0) := by decide +kernel
theorem k175_49 : look (codL 175) 49 = some (.ireturn, 1, 0, 0, 0) := by decide +kernel
theorem k176_0 : look (codL 176) 0 = some (.iconst 0, 1, 0, 0, 0) := by decide +kernel
theorem k176_1 : look (codL 176) 1 = some (.istore_n 2, 1, 0, 0, 0) := by decide +kernel
theorem k176_2 : look (codL 176) 2 = some (.iconst 0, 1, 0, 0, 0) := by decide +kernel
theorem k176_3 : look (codL 176) 3 = some (.istore_n 3, 1, 0, 0, 0) := by decide +kernel
theorem k176_4 : look (codL 176) 4 = some (.iload_n 3, 1, 0, 0, 0) := by decide +kernel
theorem k176_5 : look (codL 176) 5 = some (.iload_n 1, 1, 0, 0, 0) := by decide +kernel
theorem k176_6 : look (codL 176) 6 = some (.if_icmp .ge 26, 3, 0, 0, 0) := by decide +kernel
theorem k176_9 : look (codL 176) 9 = some (.iload_n 2, 1, 0, 0, 0) := by decide +kernel
theorem k176_10 : look (codL 176) 10 = some (.aload_n 0, 1, 0, 0, 0) := by decide +kernel
theorem k176_11 : look (codL 176) 11 = some (.getfield 40, 3, 10, 14, 0) := by decide +kernel
theorem k176_14 : look (codL 176) 14 = some (.iload_n 3, 1, 0, 0, 0) := by decide +kernel
theorem k176_15 : look (codL 176) 15 = some (.baload, 1, 0, 0, 0) := by decide +kernel
theorem k176_16 : look (codL 176) 16 = some (.ifCond .eq 7, 3, 0, 0, 0) := by decide +kernel
theorem k176_19 : look (codL 176) 19 = some (.iconst 1, 1, 0, 0, 0) := by decide +kernel
theorem k176_20 : look (codL 176) 20 = some (.goto 4, 3, 0, 0, 0) := by decide +kernel
theorem k176_23 : look (codL 176) 23 = some (.iconst 0, 1, 0, 0, 0) := by decide +kernel
theorem k176_24 : look (codL 176) 24 = some (.iadd, 1, 0, 0, 0) := by decide +kernel
theorem k176_25 : look (codL 176) 25 = some (.istore_n 2, 1, 0, 0, 0) := by decide +kernel
theorem k176_26 : look (codL 176) 26 = some (.iinc 3 1, 3, 0, 0, 0) := by decide +kernel
theorem k176_29 : look (codL 176) 29 = some (.goto (-25), 3, 0, 0, 0) := by decide +kernel
theorem k176_32 : look (codL 176) 32 = some (.iload_n 2, 1, 0, 0, 0) := by decide +kernel
theorem k176_33 : look (codL 176) 33 = some (.ireturn, 1, 0, 0, 0) := by decide +kernel
theorem k177_0 : look (codL 177) 0 = some (.aload_n 0, 1, 0, 0, 0) := by decide +kernel
theorem k177_1 : look (codL 177) 1 = some (.iload_n 1, 1, 0, 0, 0) := by decide +kernel
theorem k177_2 : look (codL 177) 2 = some (.invokevirtual 133, 3, 148, 2, 0) := by decide +kernel
theorem k177_5 : look (codL 177) 5 = some (.istore_n 3, 1, 0, 0, 0) := by decide +kernel
theorem k177_6 : look (codL 177) 6 = some (.sipush (-201), 3, 0, 0, 0) := by decide +kernel
theorem k177_9 : look (codL 177) 9 = some (.istore 4, 2, 0, 0, 0) := by decide +kernel
theorem k177_11 : look (codL 177) 11 = some (.iconst 0, 1, 0, 0, 0) := by decide +kernel
theorem k177_12 : look (codL 177) 12 = some (.istore 5, 2, 0, 0, 0) := by decide +kernel
theorem k177_14 : look (codL 177) 14 = some (.iload 5, 2, 0, 0, 0) := by decide +kernel
theorem k177_16 : look (codL 177) 16 = some (.iload_n 3, 1, 0, 0, 0) := by decide +kernel
theorem k177_17 : look (codL 177) 17 = some (.if_icmp .ge 90, 3, 0, 0, 0) := by decide +kernel
theorem k177_20 : look (codL 177) 20 = some (.aload_n 0, 1, 0, 0, 0) := by decide +kernel
theorem k177_21 : look (codL 177) 21 = some (.getfield 40, 3, 10, 14, 0) := by decide +kernel
theorem k177_24 : look (codL 177) 24 = some (.iload 5, 2, 0, 0, 0) := by decide +kernel
theorem k177_26 : look (codL 177) 26 = some (.baload, 1, 0, 0, 0) := by decide +kernel
theorem k177_27 : look (codL 177) 27 = some (.ifCond .eq 26, 3, 0, 0, 0) := by decide +kernel
theorem k177_30 : look (codL 177) 30 = some (.iload_n 2, 1, 0, 0, 0) := by decide +kernel
theorem k177_31 : look (codL 177) 31 = some (.ifCond .eq 18, 3, 0, 0, 0) := by decide +kernel
theorem k177_34 : look (codL 177) 34 = some (.aload_n 0, 1, 0, 0, 0) := by decide +kernel
theorem k177_35 : look (codL 177) 35 = some (.aload_n 0, 1, 0, 0, 0) := by decide +kernel
theorem k177_36 : look (codL 177) 36 = some (.iload_n 1, 1, 0, 0, 0) := by decide +kernel
theorem k177_37 : look (codL 177) 37 = some (.iload 5, 2, 0, 0, 0) := by decide +kernel
theorem k177_39 : look (codL 177) 39 = some (.invokevirtual 127, 3, 147, 3, 0) := by decide +kernel
theorem k177_42 : look (codL 177) 42 = some (.iload_n 3, 1, 0, 0, 0) := by decide +kernel
theorem k177_43 : look (codL 177) 43 = some (.invokevirtual 169, 3, 175, 3, 0) := by decide +kernel
theorem k177_46 : look (codL 177) 46 = some (.ifCond .ne 7, 3, 0, 0, 0) := by decide +kernel
theorem k177_49 : look (codL 177) 49 = some (.iconst 1, 1, 0, 0, 0) := by decide +kernel
theorem k177_50 : look (codL 177) 50 = some (.goto 4, 3, 0, 0, 0) := by decide +kernel
theorem k177_53 : look (codL 177) 53 = some (.iconst 0, 1, 0, 0, 0) := by decide +kernel
theorem k177_54 : look (codL 177) 54 = some (.istore 6, 2, 0, 0, 0) := by decide +kernel
theorem k177_56 : look (codL 177) 56 = some (.iload 6, 2, 0, 0, 0) := by decide +kernel
theorem k177_58 : look (codL 177) 58 = some (.ifCond .eq 39, 3, 0, 0, 0) := by decide +kernel
theorem k177_61 : look (codL 177) 61 = some (.iload 4, 2, 0, 0, 0) := by decide +kernel
theorem k177_63 : look (codL 177) 63 = some (.sipush (-201), 3, 0, 0, 0) := by decide +kernel
theorem k177_66 : look (codL 177) 66 = some (.if_icmp .eq 26, 3, 0, 0, 0) := by decide +kernel
theorem k177_69 : look (codL 177) 69 = some (.aload_n 0, 1, 0, 0, 0) := by decide +kernel
theorem k177_70 : look (codL 177) 70 = some (.iload_n 1, 1, 0, 0, 0) := by decide +kernel
theorem k177_71 : look (codL 177) 71 = some (.iload 5, 2, 0, 0, 0) := by decide +kernel
theorem k177_73 : look (codL 177) 73 = some (.invokevirtual 127, 3, 147, 3, 0) := by decide +kernel
theorem k177_76 : look (codL 177) 76 = some (.invokestatic 79, 3, 140, 1, 0) := by decide +kernel
theorem k177_79 : look (codL 177) 79 = some (.aload_n 0, 1, 0, 0, 0) := by decide +kernel
theorem k177_80 : look (codL 177) 80 = some (.iload_n 1, 1, 0, 0, 0) := by decide +kernel
theorem k177_81 : look (codL 177) 81 = some (.iload 4, 2, 0, 0, 0) := by decide +kernel
theorem k177_83 : look (codL 177) 83 = some (.invokevirtual 127, 3, 147, 3, 0) := by decide +kernel
theorem k177_86 : look (codL 177) 86 = some (.invokestatic 79, 3, 140, 1, 0) := by decide +kernel
theorem k177_89 : look (codL 177) 89 = some (.if_icmp .ge 8, 3, 0, 0, 0) := by decide +kernel
theorem k177_92 : look (codL 177) 92 = some (.iload 5, 2, 0, 0, 0) := by decide +kernel
theorem k177_94 : look (codL 177) 94 = some (.goto 5, 3, 0, 0, 0) := by decide +kernel
theorem k177_97 : look (codL 177) 97 = some (.iload 4, 2, 0, 0, 0) := by decide +kernel
theorem k177_99 : look (codL 177) 99 = some (.istore 4, 2, 0, 0, 0) := by decide +kernel
theorem k177_101 : look (codL 177) 101 = some (.iinc 5 1, 3, 0, 0, 0) := by decide +kernel
theorem k177_104 : look (codL 177) 104 = some (.goto (-90), 3, 0, 0, 0) := by decide +kernel
theorem k177_107 : look (codL 177) 107 = some (.iload 4, 2, 0, 0, 0) := by decide +kernel
theorem k177_109 : look (codL 177) 109 = some (.ireturn, 1, 0, 0, 0) := by decide +kernel
theorem k178_0 : look (codL 178) 0 = some (.sipush (-201), 3, 0, 0, 0) := by decide +kernel
theorem k178_3 : look (codL 178) 3 = some (.istore_n 3, 1, 0, 0, 0) := by decide +kernel
theorem k178_4 : look (codL 178) 4 = some (.iconst 0, 1, 0, 0, 0) := by decide +kernel
theorem k178_5 : look (codL 178) 5 = some (.istore 4, 2, 0, 0, 0) := by decide +kernel
theorem k178_7 : look (codL 178) 7 = some (.iload 4, 2, 0, 0, 0) := by decide +kernel
theorem k178_9 : look (codL 178) 9 = some (.aload_n 0, 1, 0, 0, 0) := by decide +kernel
theorem k178_10 : look (codL 178) 10 = some (.iload_n 1, 1, 0, 0, 0) := by decide +kernel
theorem k178_11 : look (codL 178) 11 = some (.invokevirtual 133, 3, 148, 2, 0) := by decide +kernel
theorem k178_14 : look (codL 178) 14 = some (.if_icmp .ge 27, 3, 0, 0, 0) := by decide +kernel
theorem k178_17 : look (codL 178) 17 = some (.aload_n 0, 1, 0, 0, 0) := by decide +kernel
theorem k178_18 : look (codL 178) 18 = some (.iload_n 1, 1, 0, 0, 0) := by decide +kernel
theorem k178_19 : look (codL 178) 19 = some (.iload 4, 2, 0, 0, 0) := by decide +kernel
theorem k178_21 : look (codL 178) 21 = some (.invokevirtual 127, 3, 147, 3, 0) := by decide +kernel
theorem k178_24 : look (codL 178) 24 = some (.iload_n 2, 1, 0, 0, 0) := by decide +kernel
theorem k178_25 : look (codL 178) 25 = some (.if_icmp .ne 8, 3, 0, 0, 0) := by decide +kernel
theorem k178_28 : look (codL 178) 28 = some (.iload 4, 2, 0, 0, 0) := by decide +kernel
theorem k178_30 : look (codL 178) 30 = some (.goto 4, 3, 0, 0, 0) := by decide +kernel
theorem k178_33 : look (codL 178) 33 = some (.iload_n 3, 1, 0, 0, 0) := by decide +kernel
theorem k178_34 : look (codL 178) 34 = some (.istore_n 3, 1, 0, 0, 0) := by decide +kernel
theorem k178_35 : look (codL 178) 35 = some (.iinc 4 1, 3, 0, 0, 0) := by decide +kernel
theorem k178_38 : look (codL 178) 38 = some (.goto (-31), 3, 0, 0, 0) := by decide +kernel
theorem k178_41 : look (codL 178) 41 = some (.iload_n 3, 1, 0, 0, 0) := by decide +kernel
theorem k178_42 : look (codL 178) 42 = some (.ireturn, 1, 0, 0, 0) := by decide +kernel
theorem k179_0 : look (codL 179) 0 = some (.iconst 0, 1, 0, 0, 0) := by decide +kernel
theorem k179_1 : look (codL 179) 1 = some (.istore 4, 2, 0, 0, 0) := by decide +kernel
theorem k179_3 : look (codL 179) 3 = some (.iload 4, 2, 0, 0, 0) := by decide +kernel
theorem k179_5 : look (codL 179) 5 = some (.aload_n 0, 1, 0, 0, 0) := by decide +kernel
theorem k179_6 : look (codL 179) 6 = some (.iload_n 1, 1, 0, 0, 0) := by decide +kernel
theorem k179_7 : look (codL 179) 7 = some (.invokevirtual 133, 3, 148, 2, 0) := by decide +kernel
theorem k179_10 : look (codL 179) 10 = some (.if_icmp .ge 38, 3, 0, 0, 0) := by decide +kernel
theorem k179_13 : look (codL 179) 13 = some (.aload_n 0, 1, 0, 0, 0) := by decide +kernel
theorem k179_14 : look (codL 179) 14 = some (.getfield 44, 3, 10, 15, 0) := by decide +kernel
theorem k179_17 : look (codL 179) 17 = some (.iload 4, 2, 0, 0, 0) := by decide +kernel
theorem k179_19 : look (codL 179) 19 = some (.aload_n 0, 1, 0, 0, 0) := by decide +kernel
theorem k179_20 : look (codL 179) 20 = some (.getfield 44, 3, 10, 15, 0) := by decide +kernel
theorem k179_23 : look (codL 179) 23 = some (.iload 4, 2, 0, 0, 0) := by decide +kernel
theorem k179_25 : look (codL 179) 25 = some (.iaload, 1, 0, 0, 0) := by decide +kernel
theorem k179_26 : look (codL 179) 26 = some (.iload_n 2, 1, 0, 0, 0) := by decide +kernel
theorem k179_27 : look (codL 179) 27 = some (.if_icmp .ne 7, 3, 0, 0, 0) := by decide +kernel
theorem k179_30 : look (codL 179) 30 = some (.iload_n 3, 1, 0, 0, 0) := by decide +kernel
theorem k179_31 : look (codL 179) 31 = some (.goto 10, 3, 0, 0, 0) := by decide +kernel
theorem k179_34 : look (codL 179) 34 = some (.aload_n 0, 1, 0, 0, 0) := by decide +kernel
theorem k179_35 : look (codL 179) 35 = some (.getfield 44, 3, 10, 15, 0) := by decide +kernel
theorem k179_38 : look (codL 179) 38 = some (.iload 4, 2, 0, 0, 0) := by decide +kernel
theorem k179_40 : look (codL 179) 40 = some (.iaload, 1, 0, 0, 0) := by decide +kernel
theorem k179_41 : look (codL 179) 41 = some (.iastore, 1, 0, 0, 0) := by decide +kernel
theorem k179_42 : look (codL 179) 42 = some (.iinc 4 1, 3, 0, 0, 0) := by decide +kernel
theorem k179_45 : look (codL 179) 45 = some (.goto (-42), 3, 0, 0, 0) := by decide +kernel
theorem k179_48 : look (codL 179) 48 = some (.return_, 1, 0, 0, 0) := by decide +kernel
theorem k180_0 : look (codL 180) 0 = some (.aload_n 0, 1, 0, 0, 0) := by decide +kernel
theorem k180_1 : look (codL 180) 1 = some (.iload_n 1, 1, 0, 0, 0) := by decide +kernel
theorem k180_2 : look (codL 180) 2 = some (.iload_n 2, 1, 0, 0, 0) := by decide +kernel
theorem k180_3 : look (codL 180) 3 = some (.invokevirtual 127, 3, 147, 3, 0) := by decide +kernel
theorem k180_6 : look (codL 180) 6 = some (.istore_n 3, 1, 0, 0, 0) := by decide +kernel
theorem k180_7 : look (codL 180) 7 = some (.aload_n 0, 1, 0, 0, 0) := by decide +kernel
theorem k180_8 : look (codL 180) 8 = some (.getfield 44, 3, 10, 15, 0) := by decide +kernel
theorem k180_11 : look (codL 180) 11 = some (.iload_n 2, 1, 0, 0, 0) := by decide +kernel
theorem k180_12 : look (codL 180) 12 = some (.iaload, 1, 0, 0, 0) := by decide +kernel
theorem k180_13 : look (codL 180) 13 = some (.istore 4, 2, 0, 0, 0) := by decide +kernel
theorem k180_15 : look (codL 180) 15 = some (.aload_n 0, 1, 0, 0, 0) := by decide +kernel
theorem k180_16 : look (codL 180) 16 = some (.iconst 0, 1, 0, 0, 0) := by decide +kernel
theorem k180_17 : look (codL 180) 17 = some (.iload_n 3, 1, 0, 0, 0) := by decide +kernel
theorem k180_18 : look (codL 180) 18 = some (.iload 4, 2, 0, 0, 0) := by decide +kernel
theorem k180_20 : look (codL 180) 20 = some (.invokevirtual 172, 3, 174, 4, 0) := by decide +kernel
theorem k180_23 : look (codL 180) 23 = some (.aload_n 0, 1, 0, 0, 0) := by decide +kernel
theorem k180_24 : look (codL 180) 24 = some (.getfield 40, 3, 10, 14, 0) := by decide +kernel
theorem k180_27 : look (codL 180) 27 = some (.iload_n 2, 1, 0, 0, 0) := by decide +kernel
theorem k180_28 : look (codL 180) 28 = some (.iconst 0, 1, 0, 0, 0) := by decide +kernel
theorem k180_29 : look (codL 180) 29 = some (.bastore, 1, 0, 0, 0) := by decide +kernel
theorem k180_30 : look (codL 180) 30 = some (.aload_n 0, 1, 0, 0, 0) := by decide +kernel
theorem k180_31 : look (codL 180) 31 = some (.iload_n 1, 1, 0, 0, 0) := by decide +kernel
theorem k180_32 : look (codL 180) 32 = some (.iload 4, 2, 0, 0, 0) := by decide +kernel
theorem k180_34 : look (codL 180) 34 = some (.iload_n 3, 1, 0, 0, 0) := by decide +kernel
theorem k180_35 : look (codL 180) 35 = some (.invokevirtual 176, 3, 179, 4, 0) := by decide +kernel
theorem k180_38 : look (codL 180) 38 = some (.return_, 1, 0, 0, 0) := by decide +kernel
theorem k181_0 : look (codL 181) 0 = some (.aload_n 0, 1, 0, 0, 0) := by decide +kernel
theorem k181_1 : look (codL 181) 1 = some (.iload_n 1, 1, 0, 0, 0) := by decide +kernel
theorem k181_2 : look (codL 181) 2 = some (.iload_n 2, 1, 0, 0, 0) := by decide +kernel
theorem k181_3 : look (codL 181) 3 = some (.invokevirtual 127, 3, 147, 3, 0) := by decide +kernel
theorem k181_6 : look (codL 181) 6 = some (.istore 4, 2, 0, 0, 0) := by decide +kernel
theorem k181_8 : look (codL 181) 8 = some (.iload 4, 2, 0, 0, 0) := by decide +kernel
theorem k181_10 : look (codL 181) 10 = some (.invokestatic 71, 3, 139, 1, 0) := by decide +kernel
theorem k181_13 : look (codL 181) 13 = some (.istore 5, 2, 0, 0, 0) := by decide +kernel
theorem k181_15 : look (codL 181) 15 = some (.iconst 1, 1, 0, 0, 0) := by decide +kernel
theorem k181_16 : look (codL 181) 16 = some (.istore 6, 2, 0, 0, 0) := by decide +kernel
theorem k181_18 : look (codL 181) 18 = some (.aload_n 0, 1, 0, 0, 0) := by decide +kernel
theorem k181_19 : look (codL 181) 19 = some (.iload_n 1, 1, 0, 0, 0) := by decide +kernel
theorem k181_20 : look (codL 181) 20 = some (.aload_n 0, 1, 0, 0, 0) := by decide +kernel
theorem k181_21 : look (codL 181) 21 = some (.getfield 44, 3, 10, 15, 0) := by decide +kernel
theorem k181_24 : look (codL 181) 24 = some (.iload_n 2, 1, 0, 0, 0) := by decide +kernel
theorem k181_25 : look (codL 181) 25 = some (.iaload, 1, 0, 0, 0) := by decide +kernel
theorem k181_26 : look (codL 181) 26 = some (.invokevirtual 179, 3, 178, 3, 0) := by decide +kernel
theorem k181_29 : look (codL 181) 29 = some (.istore 7, 2, 0, 0, 0) := by decide +kernel
theorem k181_31 : look (codL 181) 31 = some (.iload 7, 2, 0, 0, 0) := by decide +kernel
theorem k181_33 : look (codL 181) 33 = some (.iload_n 2, 1, 0, 0, 0) := by decide +kernel
theorem k181_34 : look (codL 181) 34 = some (.if_icmp .eq 23, 3, 0, 0, 0) := by decide +kernel
theorem k181_37 : look (codL 181) 37 = some (.iinc 6 1, 3, 0, 0, 0) := by decide +kernel
theorem k181_40 : look (codL 181) 40 = some (.aload_n 0, 1, 0, 0, 0) := by decide +kernel
theorem k181_41 : look (codL 181) 41 = some (.iload_n 1, 1, 0, 0, 0) := by decide +kernel
theorem k181_42 : look (codL 181) 42 = some (.aload_n 0, 1, 0, 0, 0) := by decide +kernel
theorem k181_43 : look (codL 181) 43 = some (.getfield 44, 3, 10, 15, 0) := by decide +kernel
theorem k181_46 : look (codL 181) 46 = some (.iload 7, 2, 0, 0, 0) := by decide +kernel
theorem k181_48 : look (codL 181) 48 = some (.iaload, 1, 0, 0, 0) := by decide +kernel
theorem k181_49 : look (codL 181) 49 = some (.invokevirtual 179, 3, 178, 3, 0) := by decide +kernel
theorem k181_52 : look (codL 181) 52 = some (.istore 7, 2, 0, 0, 0) := by decide +kernel
theorem k181_54 : look (codL 181) 54 = some (.goto (-23), 3, 0, 0, 0) := by decide +kernel
theorem k181_57 : look (codL 181) 57 = some (.iload_n 3, 1, 0, 0, 0) := by decide +kernel
theorem k181_58 : look (codL 181) 58 = some (.iload 5, 2, 0, 0, 0) := by decide +kernel
theorem k181_60 : look (codL 181) 60 = some (.invokestatic 182, 3, 173, 2, 0) := by decide +kernel
theorem k181_63 : look (codL 181) 63 = some (.istore 7, 2, 0, 0, 0) := by decide +kernel
theorem k181_65 : look (codL 181) 65 = some (.iload 7, 2, 0, 0, 0) := by decide +kernel
theorem k181_67 : look (codL 181) 67 = some (.ifCond .eq 24, 3, 0, 0, 0) := by decide +kernel
theorem k181_70 : look (codL 181) 70 = some (.iload 6, 2, 0, 0, 0) := by decide +kernel
theorem k181_72 : look (codL 181) 72 = some (.iconst 1, 1, 0, 0, 0) := by decide +kernel
theorem k181_73 : look (codL 181) 73 = some (.isub, 1, 0, 0, 0) := by decide +kernel
theorem k181_74 : look (codL 181) 74 = some (.iload 7, 2, 0, 0, 0) := by decide +kernel
theorem k181_76 : look (codL 181) 76 = some (.imul, 1, 0, 0, 0) := by decide +kernel
theorem k181_77 : look (codL 181) 77 = some (.iload 6, 2, 0, 0, 0) := by decide +kernel
theorem k181_79 : look (codL 181) 79 = some (.iconst 1, 1, 0, 0, 0) := by decide +kernel
theorem k181_80 : look (codL 181) 80 = some (.iadd, 1, 0, 0, 0) := by decide +kernel
theorem k181_81 : look (codL 181) 81 = some (.iload_n 3, 1, 0, 0, 0) := by decide +kernel
theorem k181_82 : look (codL 181) 82 = some (.iload 5, 2, 0, 0, 0) := by decide +kernel
theorem k181_84 : look (codL 181) 84 = some (.invokestatic 185, 3, 172, 2, 0) := by decide +kernel
theorem k181_87 : look (codL 181) 87 = some (.imul, 1, 0, 0, 0) := by decide +kernel
theorem k181_88 : look (codL 181) 88 = some (.if_icmp .lt 30, 3, 0, 0, 0) := by decide +kernel
theorem k181_91 : look (codL 181) 91 = some (.aload_n 0, 1, 0, 0, 0) := by decide +kernel
theorem k181_92 : look (codL 181) 92 = some (.iconst 0, 1, 0, 0, 0) := by decide +kernel
theorem k181_93 : look (codL 181) 93 = some (.sipush 320, 3, 0, 0, 0) := by decide +kernel
theorem k181_96 : look (codL 181) 96 = some (.iload 5, 2, 0, 0, 0) := by decide +kernel
theorem k181_98 : look (codL 181) 98 = some (.iadd, 1, 0, 0, 0) := by decide +kernel
theorem k181_99 : look (codL 181) 99 = some (.iload 4, 2, 0, 0, 0) := by decide +kernel
theorem k181_101 : look (codL 181) 101 = some (.invokevirtual 172, 3, 174, 4, 0) := by decide +kernel
theorem k181_104 : look (codL 181) 104 = some (.aload_n 0, 1, 0, 0, 0) := by decide +kernel
theorem k181_105 : look (codL 181) 105 = some (.iload_n 1, 1, 0, 0, 0) := by decide +kernel
theorem k181_106 : look (codL 181) 106 = some (.iload 4, 2, 0, 0, 0) := by decide +kernel
theorem k181_108 : look (codL 181) 108 = some (.sipush 320, 3, 0, 0, 0) := by decide +kernel
theorem k181_111 : look (codL 181) 111 = some (.iload 5, 2, 0, 0, 0) := by decide +kernel
theorem k181_113 : look (codL 181) 113 = some (.iadd, 1, 0, 0, 0) := by decide +kernel
theorem k181_114 : look (codL 181) 114 = some (.invokevirtual 176, 3, 179, 4, 0) := by decide +kernel
theorem k181_117 : look (codL 181) 117 = some (.return_, 1, 0, 0, 0) := by decide +kernel
theorem k181_118 : look (codL 181) 118 = some (.iload_n 2, 1, 0, 0, 0) := by decide +kernel
theorem k181_119 : look (codL 181) 119 = some (.istore 8, 2, 0, 0, 0) := by decide +kernel
theorem k181_121 : look (codL 181) 121 = some (.iconst 1, 1, 0, 0, 0) := by decide +kernel
theorem k181_122 : look (codL 181) 122 = some (.istore 9, 2, 0, 0, 0) := by decide +kernel
theorem k181_124 : look (codL 181) 124 = some (.iload 9, 2, 0, 0, 0) := by decide +kernel
theorem k181_126 : look (codL 181) 126 = some (.iload 6, 2, 0, 0, 0) := by decide +kernel
theorem k181_128 : look (codL 181) 128 = some (.if_icmp .ge 50, 3, 0, 0, 0) := by decide +kernel
theorem k181_131 : look (codL 181) 131 = some (.aload_n 0, 1, 0, 0, 0) := by decide +kernel
theorem k181_132 : look (codL 181) 132 = some (.iconst 1, 1, 0, 0, 0) := by decide +kernel
theorem k181_133 : look (codL 181) 133 = some (.aload_n 0, 1, 0, 0, 0) := by decide +kernel
theorem k181_134 : look (codL 181) 134 = some (.iload_n 1, 1, 0, 0, 0) := by decide +kernel
theorem k181_135 : look (codL 181) 135 = some (.iload 8, 2, 0, 0, 0) := by decide +kernel
theorem k181_137 : look (codL 181) 137 = some (.invokevirtual 127, 3, 147, 3, 0) := by decide +kernel
theorem k181_140 : look (codL 181) 140 = some (.aload_n 0, 1, 0, 0, 0) := by decide +kernel
theorem k181_141 : look (codL 181) 141 = some (.getfield 44, 3, 10, 15, 0) := by decide +kernel
theorem k181_144 : look (codL 181) 144 = some (.iload 8, 2, 0, 0, 0) := by decide +kernel
theorem k181_146 : look (codL 181) 146 = some (.iaload, 1, 0, 0, 0) := by decide +kernel
theorem k181_147 : look (codL 181) 147 = some (.invokevirtual 172, 3, 174, 4, 0) := by decide +kernel
theorem k181_150 : look (codL 181) 150 = some (.aload_n 0, 1, 0, 0, 0) := by decide +kernel
theorem k181_151 : look (codL 181) 151 = some (.getfield 40, 3, 10, 14, 0) := by decide +kernel
theorem k181_154 : look (codL 181) 154 = some (.iload 8, 2, 0, 0, 0) := by decide +kernel
theorem k181_156 : look (codL 181) 156 = some (.iconst 0, 1, 0, 0, 0) := by decide +kernel
theorem k181_157 : look (codL 181) 157 = some (.bastore, 1, 0, 0, 0) := by decide +kernel
theorem k181_158 : look (codL 181) 158 = some (.aload_n 0, 1, 0, 0, 0) := by decide +kernel
theorem k181_159 : look (codL 181) 159 = some (.iload_n 1, 1, 0, 0, 0) := by decide +kernel
theorem k181_160 : look (codL 181) 160 = some (.aload_n 0, 1, 0, 0, 0) := by decide +kernel
theorem k181_161 : look (codL 181) 161 = some (.getfield 44, 3, 10, 15, 0) := by decide +kernel
theorem k181_164 : look (codL 181) 164 = some (.iload 8, 2, 0, 0, 0) := by decide +kernel
theorem k181_166 : look (codL 181) 166 = some (.iaload, 1, 0, 0, 0) := by decide +kernel
theorem k181_167 : look (codL 181) 167 = some (.invokevirtual 179, 3, 178, 3, 0) := by decide +kernel
theorem k181_170 : look (codL 181) 170 = some (.istore 8, 2, 0, 0, 0) := by decide +kernel
theorem k181_172 : look (codL 181) 172 = some (.iinc 9 1, 3, 0, 0, 0) := by decide +kernel
theorem k181_175 : look (codL 181) 175 = some (.goto (-51), 3, 0, 0, 0) := by decide +kernel
theorem k181_178 : look (codL 181) 178 = some (.aload_n 0, 1, 0, 0, 0) := by decide +kernel
theorem k181_179 : look (codL 181) 179 = some (.getfield 40, 3, 10, 14, 0) := by decide +kernel
theorem k181_182 : look (codL 181) 182 = some (.iload 8, 2, 0, 0, 0) := by decide +kernel
theorem k181_184 : look (codL 181) 184 = some (.iconst 0, 1, 0, 0, 0) := by decide +kernel
theorem k181_185 : look (codL 181) 185 = some (.bastore, 1, 0, 0, 0) := by decide +kernel
theorem k181_186 : look (codL 181) 186 = some (.return_, 1, 0, 0, 0) := by decide +kernel
theorem k182_0 : look (codL 182) 0 = some (.iconst 0, 1, 0, 0, 0) := by decide +kernel
theorem k182_1 : look (codL 182) 1 = some (.istore_n 2, 1, 0, 0, 0) := by decide +kernel
theorem k182_2 : look (codL 182) 2 = some (.iload_n 2, 1, 0, 0, 0) := by decide +kernel
theorem k182_3 : look (codL 182) 3 = some (.aload_n 0, 1, 0, 0, 0) := by decide +kernel
theorem k182_4 : look (codL 182) 4 = some (.iload_n 1, 1, 0, 0, 0) := by decide +kernel
theorem k182_5 : look (codL 182) 5 = some (.invokevirtual 133, 3, 148, 2, 0) := by decide +kernel
theorem k182_8 : look (codL 182) 8 = some (.if_icmp .ge 65, 3, 0, 0, 0) := by decide +kernel
theorem k182_11 : look (codL 182) 11 = some (.aload_n 0, 1, 0, 0, 0) := by decide +kernel
theorem k182_12 : look (codL 182) 12 = some (.getfield 40, 3, 10, 14, 0) := by decide +kernel
theorem k182_15 : look (codL 182) 15 = some (.iload_n 2, 1, 0, 0, 0) := by decide +kernel
theorem k182_16 : look (codL 182) 16 = some (.aload_n 0, 1, 0, 0, 0) := by decide +kernel
theorem k182_17 : look (codL 182) 17 = some (.iload_n 1, 1, 0, 0, 0) := by decide +kernel
theorem k182_18 : look (codL 182) 18 = some (.iload_n 2, 1, 0, 0, 0) := by decide +kernel
theorem k182_19 : look (codL 182) 19 = some (.invokevirtual 154, 3, 165, 3, 0) := by decide +kernel
theorem k182_22 : look (codL 182) 22 = some (.ifCond .eq 16, 3, 0, 0, 0) := by decide +kernel
theorem k182_25 : look (codL 182) 25 = some (.aload_n 0, 1, 0, 0, 0) := by decide +kernel
theorem k182_26 : look (codL 182) 26 = some (.iload_n 1, 1, 0, 0, 0) := by decide +kernel
theorem k182_27 : look (codL 182) 27 = some (.iload_n 2, 1, 0, 0, 0) := by decide +kernel
theorem k182_28 : look (codL 182) 28 = some (.invokevirtual 139, 3, 149, 3, 0) := by decide +kernel
theorem k182_31 : look (codL 182) 31 = some (.ifCond .le 7, 3, 0, 0, 0) := by decide +kernel
theorem k182_34 : look (codL 182) 34 = some (.iconst 1, 1, 0, 0, 0) := by decide +kernel
theorem k182_35 : look (codL 182) 35 = some (.goto 4, 3, 0, 0, 0) := by decide +kernel
theorem k182_38 : look (codL 182) 38 = some (.iconst 0, 1, 0, 0, 0) := by decide +kernel
theorem k182_39 : look (codL 182) 39 = some (.bastore, 1, 0, 0, 0) := by decide +kernel
theorem k182_40 : look (codL 182) 40 = some (.aload_n 0, 1, 0, 0, 0) := by decide +kernel
theorem k182_41 : look (codL 182) 41 = some (.getfield 44, 3, 10, 15, 0) := by decide +kernel
theorem k182_44 : look (codL 182) 44 = some (.iload_n 2, 1, 0, 0, 0) := by decide +kernel
theorem k182_45 : look (codL 182) 45 = some (.aload_n 0, 1, 0, 0, 0) := by decide +kernel
theorem k182_46 : look (codL 182) 46 = some (.getfield 40, 3, 10, 14, 0) := by decide +kernel
theorem k182_49 : look (codL 182) 49 = some (.iload_n 2, 1, 0, 0, 0) := by decide +kernel
theorem k182_50 : look (codL 182) 50 = some (.baload, 1, 0, 0, 0) := by decide +kernel
theorem k182_51 : look (codL 182) 51 = some (.ifCond .eq 12, 3, 0, 0, 0) := by decide +kernel
theorem k182_54 : look (codL 182) 54 = some (.aload_n 0, 1, 0, 0, 0) := by decide +kernel
theorem k182_55 : look (codL 182) 55 = some (.iload_n 1, 1, 0, 0, 0) := by decide +kernel
theorem k182_56 : look (codL 182) 56 = some (.iload_n 2, 1, 0, 0, 0) := by decide +kernel
theorem k182_57 : look (codL 182) 57 = some (.invokevirtual 139, 3, 149, 3, 0) := by decide +kernel
theorem k182_60 : look (codL 182) 60 = some (.goto 6, 3, 0, 0, 0) := by decide +kernel
theorem k182_63 : look (codL 182) 63 = some (.sipush (-201), 3, 0, 0, 0) := by decide +kernel
theorem k182_66 : look (codL 182) 66 = some (.iastore, 1, 0, 0, 0) := by decide +kernel
theorem k182_67 : look (codL 182) 67 = some (.iinc 2 1, 3, 0, 0, 0) := by decide +kernel
theorem k182_70 : look (codL 182) 70 = some (.goto (-68), 3, 0, 0, 0) := by decide +kernel
theorem k182_73 : look (codL 182) 73 = some (.return_, 1, 0, 0, 0) := by decide +kernel
theorem k183_0 : look (codL 183) 0 = some (.aload_n 0, 1, 0, 0, 0) := by decide +kernel
theorem k183_1 : look (codL 183) 1 = some (.iload_n 1, 1, 0, 0, 0) := by decide +kernel
theorem k183_2 : look (codL 183) 2 = some (.invokevirtual 133, 3, 148, 2, 0) := by decide +kernel
theorem k183_5 : look (codL 183) 5 = some (.istore_n 3, 1, 0, 0, 0) := by decide +kernel
theorem k183_6 : look (codL 183) 6 = some (.aload_n 0, 1, 0, 0, 0) := by decide +kernel
theorem k183_7 : look (codL 183) 7 = some (.iconst 0, 1, 0, 0, 0) := by decide +kernel
theorem k183_8 : look (codL 183) 8 = some (.putfield 166, 3, 10, 10, 0) := by decide +kernel
theorem k183_11 : look (codL 183) 11 = some (.aload_n 0, 1, 0, 0, 0) := by decide +kernel
theorem k183_12 : look (codL 183) 12 = some (.iload_n 1, 1, 0, 0, 0) := by decide +kernel
theorem k183_13 : look (codL 183) 13 = some (.invokevirtual 188, 3, 182, 2, 0) := by decide +kernel
theorem k183_16 : look (codL 183) 16 = some (.aload_n 0, 1, 0, 0, 0) := by decide +kernel
theorem k183_17 : look (codL 183) 17 = some (.iload_n 3, 1, 0, 0, 0) := by decide +kernel
theorem k183_18 : look (codL 183) 18 = some (.invokevirtual 192, 3, 176, 2, 0) := by decide +kernel
theorem k183_21 : look (codL 183) 21 = some (.ifCond .le 44, 3, 0, 0, 0) := by decide +kernel
theorem k183_24 : look (codL 183) 24 = some (.aload_n 0, 1, 0, 0, 0) := by decide +kernel
theorem k183_25 : look (codL 183) 25 = some (.iload_n 1, 1, 0, 0, 0) := by decide +kernel
theorem k183_26 : look (codL 183) 26 = some (.iconst 1, 1, 0, 0, 0) := by decide +kernel
theorem k183_27 : look (codL 183) 27 = some (.invokevirtual 195, 3, 177, 3, 0) := by decide +kernel
theorem k183_30 : look (codL 183) 30 = some (.istore 4, 2, 0, 0, 0) := by decide +kernel
theorem k183_32 : look (codL 183) 32 = some (.iload 4, 2, 0, 0, 0) := by decide +kernel
theorem k183_34 : look (codL 183) 34 = some (.sipush (-201), 3, 0, 0, 0) := by decide +kernel
theorem k183_37 : look (codL 183) 37 = some (.if_icmp .ne 18, 3, 0, 0, 0) := by decide +kernel
theorem k183_40 : look (codL 183) 40 = some (.aload_n 0, 1, 0, 0, 0) := by decide +kernel
theorem k183_41 : look (codL 183) 41 = some (.iload_n 1, 1, 0, 0, 0) := by decide +kernel
theorem k183_42 : look (codL 183) 42 = some (.aload_n 0, 1, 0, 0, 0) := by decide +kernel
theorem k183_43 : look (codL 183) 43 = some (.iload_n 1, 1, 0, 0, 0) := by decide +kernel
theorem k183_44 : look (codL 183) 44 = some (.iconst 0, 1, 0, 0, 0) := by decide +kernel
theorem k183_45 : look (codL 183) 45 = some (.invokevirtual 195, 3, 177, 3, 0) := by decide +kernel
theorem k183_48 : look (codL 183) 48 = some (.iload_n 2, 1, 0, 0, 0) := by decide +kernel
theorem k183_49 : look (codL 183) 49 = some (.invokevirtual 199, 3, 181, 4, 0) := by decide +kernel
theorem k183_52 : look (codL 183) 52 = some (.goto 10, 3, 0, 0, 0) := by decide +kernel
theorem k183_55 : look (codL 183) 55 = some (.aload_n 0, 1, 0, 0, 0) := by decide +kernel
theorem k183_56 : look (codL 183) 56 = some (.iload_n 1, 1, 0, 0, 0) := by decide +kernel
theorem k183_57 : look (codL 183) 57 = some (.iload 4, 2, 0, 0, 0) := by decide +kernel
theorem k183_59 : look (codL 183) 59 = some (.invokevirtual 202, 3, 180, 3, 0) := by decide +kernel
theorem k183_62 : look (codL 183) 62 = some (.goto (-46), 3, 0, 0, 0) := by decide +kernel
theorem k183_65 : look (codL 183) 65 = some (.iconst 0, 1, 0, 0, 0) := by decide +kernel
theorem k183_66 : look (codL 183) 66 = some (.istore 4, 2, 0, 0, 0) := by decide +kernel
theorem k183_68 : look (codL 183) 68 = some (.iload 4, 2, 0, 0, 0) := by decide +kernel
theorem k183_70 : look (codL 183) 70 = some (.bipush 32, 2, 0, 0, 0) := by decide +kernel
theorem k183_72 : look (codL 183) 72 = some (.if_icmp .ge 68, 3, 0, 0, 0) := by decide +kernel
theorem k183_75 : look (codL 183) 75 = some (.iconst 0, 1, 0, 0, 0) := by decide +kernel
theorem k183_76 : look (codL 183) 76 = some (.istore 5, 2, 0, 0, 0) := by decide +kernel
theorem k183_78 : look (codL 183) 78 = some (.iload 5, 2, 0, 0, 0) := by decide +kernel
theorem k183_80 : look (codL 183) 80 = some (.iload_n 3, 1, 0, 0, 0) := by decide +kernel
theorem k183_81 : look (codL 183) 81 = some (.if_icmp .ge 53, 3, 0, 0, 0) := by decide +kernel
theorem k183_84 : look (codL 183) 84 = some (.aload_n 0, 1, 0, 0, 0) := by decide +kernel
theorem k183_85 : look (codL 183) 85 = some (.iload_n 1, 1, 0, 0, 0) := by decide +kernel
theorem k183_86 : look (codL 183) 86 = some (.iload 5, 2, 0, 0, 0) := by decide +kernel
theorem k183_88 : look (codL 183) 88 = some (.invokevirtual 139, 3, 149, 3, 0) := by decide +kernel
theorem k183_91 : look (codL 183) 91 = some (.ifCond .ge 37, 3, 0, 0, 0) := by decide +kernel
theorem k183_94 : look (codL 183) 94 = some (.aload_n 0, 1, 0, 0, 0) := by decide +kernel
theorem k183_95 : look (codL 183) 95 = some (.iload_n 1, 1, 0, 0, 0) := by decide +kernel
theorem k183_96 : look (codL 183) 96 = some (.iload 5, 2, 0, 0, 0) := by decide +kernel
theorem k183_98 : look (codL 183) 98 = some (.invokevirtual 127, 3, 147, 3, 0) := by decide +kernel
theorem k183_101 : look (codL 183) 101 = some (.invokestatic 79, 3, 140, 1, 0) := by decide +kernel
theorem k183_104 : look (codL 183) 104 = some (.iload 4, 2, 0, 0, 0) := by decide +kernel
theorem k183_106 : look (codL 183) 106 = some (.if_icmp .ne 22, 3, 0, 0, 0) := by decide +kernel
theorem k183_109 : look (codL 183) 109 = some (.aload_n 0, 1, 0, 0, 0) := by decide +kernel
theorem k183_110 : look (codL 183) 110 = some (.iconst 2, 1, 0, 0, 0) := by decide +kernel
theorem k183_111 : look (codL 183) 111 = some (.aload_n 0, 1, 0, 0, 0) := by decide +kernel
theorem k183_112 : look (codL 183) 112 = some (.iload_n 1, 1, 0, 0, 0) := by decide +kernel
theorem k183_113 : look (codL 183) 113 = some (.iload 5, 2, 0, 0, 0) := by decide +kernel
theorem k183_115 : look (codL 183) 115 = some (.invokevirtual 127, 3, 147, 3, 0) := by decide +kernel
theorem k183_118 : look (codL 183) 118 = some (.aload_n 0, 1, 0, 0, 0) := by decide +kernel
theorem k183_119 : look (codL 183) 119 = some (.iload_n 1, 1, 0, 0, 0) := by decide +kernel
theorem k183_120 : look (codL 183) 120 = some (.iload 5, 2, 0, 0, 0) := by decide +kernel
theorem k183_122 : look (codL 183) 122 = some (.invokevirtual 139, 3, 149, 3, 0) := by decide +kernel
theorem k183_125 : look (codL 183) 125 = some (.invokevirtual 172, 3, 174, 4, 0) := by decide +kernel
theorem k183_128 : look (codL 183) 128 = some (.iinc 5 1, 3, 0, 0, 0) := by decide +kernel
theorem k183_131 : look (codL 183) 131 = some (.goto (-53), 3, 0, 0, 0) := by decide +kernel
theorem k183_134 : look (codL 183) 134 = some (.iinc 4 1, 3, 0, 0, 0) := by decide +kernel
theorem k183_137 : look (codL 183) 137 = some (.goto (-69), 3, 0, 0, 0) := by decide +kernel
theorem k183_140 : look (codL 183) 140 = some (.return_, 1, 0, 0, 0) := by decide +kernel
theorem k184_0 : look (codL 184) 0 = some (.aload_n 0, 1, 0, 0, 0) := by decide +kernel
theorem k184_1 : look (codL 184) 1 = some (.iload_n 1, 1, 0, 0, 0) := by decide +kernel
theorem k184_2 : look (codL 184) 2 = some (.iload_n 2, 1, 0, 0, 0) := by decide +kernel
theorem k184_3 : look (codL 184) 3 = some (.invokevirtual 206, 3, 183, 3, 0) := by decide +kernel
theorem k184_6 : look (codL 184) 6 = some (.iconst 0, 1, 0, 0, 0) := by decide +kernel
theorem k184_7 : look (codL 184) 7 = some (.istore_n 3, 1, 0, 0, 0) := by decide +kernel
theorem k184_8 : look (codL 184) 8 = some (.iconst 0, 1, 0, 0, 0) := by decide +kernel
theorem k184_9 : look (codL 184) 9 = some (.istore 4, 2, 0, 0, 0) := by decide +kernel
theorem k184_11 : look (codL 184) 11 = some (.iload 4, 2, 0, 0, 0) := by decide +kernel
theorem k184_13 : look (codL 184) 13 = some (.aload_n 0, 1, 0, 0, 0) := by decide +kernel
theorem k184_14 : look (codL 184) 14 = some (.getfield 166, 3, 10, 10, 0) := by decide +kernel
theorem k184_17 : look (codL 184) 17 = some (.if_icmp .ge 50, 3, 0, 0, 0) := by decide +kernel
theorem k184_20 : look (codL 184) 20 = some (.aload_n 0, 1, 0, 0, 0) := by decide +kernel
theorem k184_21 : look (codL 184) 21 = some (.getfield 34, 3, 10, 12, 0) := by decide +kernel
theorem k184_24 : look (codL 184) 24 = some (.iload 4, 2, 0, 0, 0) := by decide +kernel
theorem k184_26 : look (codL 184) 26 = some (.iaload, 1, 0, 0, 0) := by decide +kernel
theorem k184_27 : look (codL 184) 27 = some (.invokestatic 71, 3, 139, 1, 0) := by decide +kernel
theorem k184_30 : look (codL 184) 30 = some (.istore 5, 2, 0, 0, 0) := by decide +kernel
theorem k184_32 : look (codL 184) 32 = some (.iload_n 3, 1, 0, 0, 0) := by decide +kernel
theorem k184_33 : look (codL 184) 33 = some (.aload_n 0, 1, 0, 0, 0) := by decide +kernel
theorem k184_34 : look (codL 184) 34 = some (.getfield 31, 3, 10, 11, 0) := by decide +kernel
theorem k184_37 : look (codL 184) 37 = some (.iload 4, 2, 0, 0, 0) := by decide +kernel
theorem k184_39 : look (codL 184) 39 = some (.iaload, 1, 0, 0, 0) := by decide +kernel
theorem k184_40 : look (codL 184) 40 = some (.iconst 1, 1, 0, 0, 0) := by decide +kernel
theorem k184_41 : look (codL 184) 41 = some (.if_icmp .ne 12, 3, 0, 0, 0) := by decide +kernel
theorem k184_44 : look (codL 184) 44 = some (.iload_n 2, 1, 0, 0, 0) := by decide +kernel
theorem k184_45 : look (codL 184) 45 = some (.iload 5, 2, 0, 0, 0) := by decide +kernel
theorem k184_47 : look (codL 184) 47 = some (.invokestatic 182, 3, 173, 2, 0) := by decide +kernel
theorem k184_50 : look (codL 184) 50 = some (.goto 9, 3, 0, 0, 0) := by decide +kernel
theorem k184_53 : look (codL 184) 53 = some (.iload_n 2, 1, 0, 0, 0) := by decide +kernel
theorem k184_54 : look (codL 184) 54 = some (.iload 5, 2, 0, 0, 0) := by decide +kernel
theorem k184_56 : look (codL 184) 56 = some (.invokestatic 185, 3, 172, 2, 0) := by decide +kernel
theorem k184_59 : look (codL 184) 59 = some (.iadd, 1, 0, 0, 0) := by decide +kernel
theorem k184_60 : look (codL 184) 60 = some (.istore_n 3, 1, 0, 0, 0) := by decide +kernel
theorem k184_61 : look (codL 184) 61 = some (.iinc 4 1, 3, 0, 0, 0) := by decide +kernel
theorem k184_64 : look (codL 184) 64 = some (.goto (-53), 3, 0, 0, 0) := by decide +kernel
theorem k184_67 : look (codL 184) 67 = some (.iload_n 3, 1, 0, 0, 0) := by decide +kernel
theorem k184_68 : look (codL 184) 68 = some (.ireturn, 1, 0, 0, 0) := by decide +kernel
theorem k185_0 : look (codL 185) 0 = some (.iconst 0, 1, 0, 0, 0) := by decide +kernel
theorem k185_1 : look (codL 185) 1 = some (.istore_n 2, 1, 0, 0, 0) := by decide +kernel
theorem k185_2 : look (codL 185) 2 = some (.iconst 0, 1, 0, 0, 0) := by decide +kernel
theorem k185_3 : look (codL 185) 3 = some (.istore_n 3, 1, 0, 0, 0) := by decide +kernel
theorem k185_4 : look (codL 185) 4 = some (.iload_n 3, 1, 0, 0, 0) := by decide +kernel
theorem k185_5 : look (codL 185) 5 = some (.aload_n 0, 1, 0, 0, 0) := by decide +kernel
theorem k185_6 : look (codL 185) 6 = some (.getfield 166, 3, 10, 10, 0) := by decide +kernel
theorem k185_9 : look (codL 185) 9 = some (.if_icmp .ge 67, 3, 0, 0, 0) := by decide +kernel
theorem k185_12 : look (codL 185) 12 = some (.iload_n 1, 1, 0, 0, 0) := by decide +kernel
theorem k185_13 : look (codL 185) 13 = some (.ifCond .eq 37, 3, 0, 0, 0) := by decide +kernel
theorem k185_16 : look (codL 185) 16 = some (.iload_n 1, 1, 0, 0, 0) := by decide +kernel
theorem k185_17 : look (codL 185) 17 = some (.iconst 4, 1, 0, 0, 0) := by decide +kernel
theorem k185_18 : look (codL 185) 18 = some (.if_icmp .ne 15, 3, 0, 0, 0) := by decide +kernel
theorem k185_21 : look (codL 185) 21 = some (.aload_n 0, 1, 0, 0, 0) := by decide +kernel
theorem k185_22 : look (codL 185) 22 = some (.getfield 34, 3, 10, 12, 0) := by decide +kernel
theorem k185_25 : look (codL 185) 25 = some (.iload_n 3, 1, 0, 0, 0) := by decide +kernel
theorem k185_26 : look (codL 185) 26 = some (.iaload, 1, 0, 0, 0) := by decide +kernel
theorem k185_27 : look (codL 185) 27 = some (.sipush 320, 3, 0, 0, 0) := by decide +kernel
theorem k185_30 : look (codL 185) 30 = some (.if_icmp .ge 20, 3, 0, 0, 0) := by decide +kernel
theorem k185_33 : look (codL 185) 33 = some (.iload_n 1, 1, 0, 0, 0) := by decide +kernel
theorem k185_34 : look (codL 185) 34 = some (.iconst 4, 1, 0, 0, 0) := by decide +kernel
theorem k185_35 : look (codL 185) 35 = some (.if_icmp .ge 19, 3, 0, 0, 0) := by decide +kernel
theorem k185_38 : look (codL 185) 38 = some (.iload_n 1, 1, 0, 0, 0) := by decide +kernel
theorem k185_39 : look (codL 185) 39 = some (.iconst 1, 1, 0, 0, 0) := by decide +kernel
theorem k185_40 : look (codL 185) 40 = some (.isub, 1, 0, 0, 0) := by decide +kernel
theorem k185_41 : look (codL 185) 41 = some (.aload_n 0, 1, 0, 0, 0) := by decide +kernel
theorem k185_42 : look (codL 185) 42 = some (.getfield 31, 3, 10, 11, 0) := by decide +kernel
theorem k185_45 : look (codL 185) 45 = some (.iload_n 3, 1, 0, 0, 0) := by decide +kernel
theorem k185_46 : look (codL 185) 46 = some (.iaload, 1, 0, 0, 0) := by decide +kernel
theorem k185_47 : look (codL 185) 47 = some (.if_icmp .ne 7, 3, 0, 0, 0) := by decide +kernel
theorem k185_50 : look (codL 185) 50 = some (.iconst 1, 1, 0, 0, 0) := by decide +kernel
theorem k185_51 : look (codL 185) 51 = some (.goto 4, 3, 0, 0, 0) := by decide +kernel
theorem k185_54 : look (codL 185) 54 = some (.iconst 0, 1, 0, 0, 0) := by decide +kernel
theorem k185_55 : look (codL 185) 55 = some (.istore 4, 2, 0, 0, 0) := by decide +kernel
theorem k185_57 : look (codL 185) 57 = some (.iload_n 2, 1, 0, 0, 0) := by decide +kernel
theorem k185_58 : look (codL 185) 58 = some (.iload 4, 2, 0, 0, 0) := by decide +kernel
theorem k185_60 : look (codL 185) 60 = some (.ifCond .eq 7, 3, 0, 0, 0) := by decide +kernel
theorem k185_63 : look (codL 185) 63 = some (.iconst 1, 1, 0, 0, 0) := by decide +kernel
theorem k185_64 : look (codL 185) 64 = some (.goto 4, 3, 0, 0, 0) := by decide +kernel
theorem k185_67 : look (codL 185) 67 = some (.iconst 0, 1, 0, 0, 0) := by decide +kernel
theorem k185_68 : look (codL 185) 68 = some (.iadd, 1, 0, 0, 0) := by decide +kernel
theorem k185_69 : look (codL 185) 69 = some (.istore_n 2, 1, 0, 0, 0) := by decide +kernel
theorem k185_70 : look (codL 185) 70 = some (.iinc 3 1, 3, 0, 0, 0) := by decide +kernel
theorem k185_73 : look (codL 185) 73 = some (.goto (-69), 3, 0, 0, 0) := by decide +kernel
theorem k185_76 : look (codL 185) 76 = some (.iload_n 2, 1, 0, 0, 0) := by decide +kernel
theorem k185_77 : look (codL 185) 77 = some (.ireturn, 1, 0, 0, 0) := by decide +kernel
theorem k186_0 : look (codL 186) 0 = some (.aload_n 0, 1, 0, 0, 0) := by decide +kernel
theorem k186_1 : look (codL 186) 1 = some (.iload_n 1, 1, 0, 0, 0) := by decide +kernel
theorem k186_2 : look (codL 186) 2 = some (.invokevirtual 130, 3, 146, 2, 0) := by decide +kernel
theorem k186_5 : look (codL 186) 5 = some (.ifCond .eq 12, 3, 0, 0, 0) := by decide +kernel
theorem k186_8 : look (codL 186) 8 = some (.iload_n 2, 1, 0, 0, 0) := by decide +kernel
theorem k186_9 : look (codL 186) 9 = some (.iconst 0, 1, 0, 0, 0) := by decide +kernel
theorem k186_10 : look (codL 186) 10 = some (.iconst 4, 1, 0, 0, 0) := by decide +kernel
theorem k186_11 : look (codL 186) 11 = some (.invokestatic 90, 3, 138, 3, 0) := by decide +kernel
theorem k186_14 : look (codL 186) 14 = some (.ifCond .ne 8, 3, 0, 0, 0) := by decide +kernel
theorem k186_17 : look (codL 186) 17 = some (.aload_n 0, 1, 0, 0, 0) := by decide +kernel
theorem k186_18 : look (codL 186) 18 = some (.invokevirtual 110, 3, 135, 1, 0) := by decide +kernel
theorem k186_21 : look (codL 186) 21 = some (.ireturn, 1, 0, 0, 0) := by decide +kernel
theorem k186_22 : look (codL 186) 22 = some (.aload_n 0, 1, 0, 0, 0) := by decide +kernel
theorem k186_23 : look (codL 186) 23 = some (.iload_n 1, 1, 0, 0, 0) := by decide +kernel
theorem k186_24 : look (codL 186) 24 = some (.invokevirtual 160, 3, 167, 2, 0) := by decide +kernel
theorem k186_27 : look (codL 186) 27 = some (.ifCond .ne 8, 3, 0, 0, 0) := by decide +kernel
theorem k186_30 : look (codL 186) 30 = some (.aload_n 0, 1, 0, 0, 0) := by decide +kernel
theorem k186_31 : look (codL 186) 31 = some (.invokevirtual 116, 3, 136, 1, 0) := by decide +kernel
theorem k186_34 : look (codL 186) 34 = some (.ireturn, 1, 0, 0, 0) := by decide +kernel
theorem k186_35 : look (codL 186) 35 = some (.aload_n 0, 1, 0, 0, 0) := by decide +kernel
theorem k186_36 : look (codL 186) 36 = some (.iload_n 1, 1, 0, 0, 0) := by decide +kernel
theorem k186_37 : look (codL 186) 37 = some (.aload_n 0, 1, 0, 0, 0) := by decide +kernel
theorem k186_38 : look (codL 186) 38 = some (.getfield 142, 3, 10, 3, 0) := by decide +kernel
theorem k186_41 : look (codL 186) 41 = some (.invokevirtual 206, 3, 183, 3, 0) := by decide +kernel
theorem k186_44 : look (codL 186) 44 = some (.aload_n 0, 1, 0, 0, 0) := by decide +kernel
theorem k186_45 : look (codL 186) 45 = some (.iload_n 2, 1, 0, 0, 0) := by decide +kernel
theorem k186_46 : look (codL 186) 46 = some (.invokevirtual 209, 3, 185, 2, 0) := by decide +kernel
theorem k186_49 : look (codL 186) 49 = some (.ireturn, 1, 0, 0, 0) := by decide +kernel
theorem k187_0 : look (codL 187) 0 = some (.aload_n 0, 1, 0, 0, 0) := by decide +kernel
theorem k187_1 : look (codL 187) 1 = some (.iload_n 1, 1, 0, 0, 0) := by decide +kernel
theorem k187_2 : look (codL 187) 2 = some (.invokevirtual 130, 3, 146, 2, 0) := by decide +kernel
theorem k187_5 : look (codL 187) 5 = some (.ifCond .eq 16, 3, 0, 0, 0) := by decide +kernel
theorem k187_8 : look (codL 187) 8 = some (.iload_n 2, 1, 0, 0, 0) := by decide +kernel
theorem k187_9 : look (codL 187) 9 = some (.ifCond .lt 12, 3, 0, 0, 0) := by decide +kernel
theorem k187_12 : look (codL 187) 12 = some (.iload_n 3, 1, 0, 0, 0) := by decide +kernel
theorem k187_13 : look (codL 187) 13 = some (.iconst 0, 1, 0, 0, 0) := by decide +kernel
theorem k187_14 : look (codL 187) 14 = some (.iconst 2, 1, 0, 0, 0) := by decide +kernel
theorem k187_15 : look (codL 187) 15 = some (.invokestatic 90, 3, 138, 3, 0) := by decide +kernel
theorem k187_18 : look (codL 187) 18 = some (.ifCond .ne 8, 3, 0, 0, 0) := by decide +kernel
theorem k187_21 : look (codL 187) 21 = some (.aload_n 0, 1, 0, 0, 0) := by decide +kernel
theorem k187_22 : look (codL 187) 22 = some (.invokevirtual 110, 3, 135, 1, 0) := by decide +kernel
theorem k187_25 : look (codL 187) 25 = some (.ireturn, 1, 0, 0, 0) := by decide +kernel
theorem k187_26 : look (codL 187) 26 = some (.aload_n 0, 1, 0, 0, 0) := by decide +kernel
theorem k187_27 : look (codL 187) 27 = some (.iload_n 1, 1, 0, 0, 0) := by decide +kernel
theorem k187_28 : look (codL 187) 28 = some (.invokevirtual 160, 3, 167, 2, 0) := by decide +kernel
theorem k187_31 : look (codL 187) 31 = some (.ifCond .ne 8, 3, 0, 0, 0) := by decide +kernel
theorem k187_34 : look (codL 187) 34 = some (.aload_n 0, 1, 0, 0, 0) := by decide +kernel
theorem k187_35 : look (codL 187) 35 = some (.invokevirtual 116, 3, 136, 1, 0) := by decide +kernel
theorem k187_38 : look (codL 187) 38 = some (.ireturn, 1, 0, 0, 0) := by decide +kernel
theorem k187_39 : look (codL 187) 39 = some (.aload_n 0, 1, 0, 0, 0) := by decide +kernel
theorem k187_40 : look (codL 187) 40 = some (.iload_n 1, 1, 0, 0, 0) := by decide +kernel
theorem k187_41 : look (codL 187) 41 = some (.aload_n 0, 1, 0, 0, 0) := by decide +kernel
theorem k187_42 : look (codL 187) 42 = some (.getfield 142, 3, 10, 3, 0) := by decide +kernel
theorem k187_45 : look (codL 187) 45 = some (.invokevirtual 206, 3, 183, 3, 0) := by decide +kernel
theorem k187_48 : look (codL 187) 48 = some (.iload_n 2, 1, 0, 0, 0) := by decide +kernel
theorem k187_49 : look (codL 187) 49 = some (.aload_n 0, 1, 0, 0, 0) := by decide +kernel
theorem k187_50 : look (codL 187) 50 = some (.getfield 166, 3, 10, 10, 0) := by decide +kernel
theorem k187_53 : look (codL 187) 53 = some (.if_icmp .lt 7, 3, 0, 0, 0) := by decide +kernel
theorem k187_56 : look (codL 187) 56 = some (.sipush (-201), 3, 0, 0, 0) := by decide +kernel
theorem k187_59 : look (codL 187) 59 = some (.ireturn, 1, 0, 0, 0) := by decide +kernel
theorem k187_60 : look (codL 187) 60 = some (.iload_n 3, 1, 0, 0, 0) := by decide +kernel
theorem k187_61 : look (codL 187) 61 = some (.ifCond .ne 12, 3, 0, 0, 0) := by decide +kernel
theorem k187_64 : look (codL 187) 64 = some (.aload_n 0, 1, 0, 0, 0) := by decide +kernel
theorem k187_65 : look (codL 187) 65 = some (.getfield 31, 3, 10, 11, 0) := by decide +kernel
theorem k187_68 : look (codL 187) 68 = some (.iload_n 2, 1, 0, 0, 0) := by decide +kernel
theorem k187_69 : look (codL 187) 69 = some (.iaload, 1, 0, 0, 0) := by decide +kernel
theorem k187_70 : look (codL 187) 70 = some (.goto 23, 3, 0, 0, 0) := by decide +kernel
theorem k187_73 : look (codL 187) 73 = some (.iload_n 3, 1, 0, 0, 0) := by decide +kernel
theorem k187_74 : look (codL 187) 74 = some (.iconst 1, 1, 0, 0, 0) := by decide +kernel
theorem k187_75 : look (codL 187) 75 = some (.if_icmp .ne 12, 3, 0, 0, 0) := by decide +kernel
theorem k187_78 : look (codL 187) 78 = some (.aload_n 0, 1, 0, 0, 0) := by decide +kernel
theorem k187_79 : look (codL 187) 79 = some (.getfield 34, 3, 10, 12, 0) := by decide +kernel
theorem k187_82 : look (codL 187) 82 = some (.iload_n 2, 1, 0, 0, 0) := by decide +kernel
theorem k187_83 : look (codL 187) 83 = some (.iaload, 1, 0, 0, 0) := by decide +kernel
theorem k187_84 : look (codL 187) 84 = some (.goto 9, 3, 0, 0, 0) := by decide +kernel
theorem k187_87 : look (codL 187) 87 = some (.aload_n 0, 1, 0, 0, 0) := by decide +kernel
theorem k187_88 : look (codL 187) 88 = some (.getfield 37, 3, 10, 13, 0) := by decide +kernel
theorem k187_91 : look (codL 187) 91 = some (.iload_n 2, 1, 0, 0, 0) := by decide +kernel
theorem k187_92 : look (codL 187) 92 = some (.iaload, 1, 0, 0, 0) := by decide +kernel
theorem k187_93 : look (codL 187) 93 = some (.ireturn, 1, 0, 0, 0) := by decide +kernel
theorem k188_0 : look (codL 188) 0 = some (.aload_n 0, 1, 0, 0, 0) := by decide +kernel
theorem k188_1 : look (codL 188) 1 = some (.iload_n 1, 1, 0, 0, 0) := by decide +kernel
theorem k188_2 : look (codL 188) 2 = some (.invokevirtual 130, 3, 146, 2, 0) := by decide +kernel
theorem k188_5 : look (codL 188) 5 = some (.ifCond .ne 8, 3, 0, 0, 0) := by decide +kernel
theorem k188_8 : look (codL 188) 8 = some (.aload_n 0, 1, 0, 0, 0) := by decide +kernel
theorem k188_9 : look (codL 188) 9 = some (.invokevirtual 110, 3, 135, 1, 0) := by decide +kernel
theorem k188_12 : look (codL 188) 12 = some (.ireturn, 1, 0, 0, 0) := by decide +kernel
theorem k188_13 : look (codL 188) 13 = some (.aload_n 0, 1, 0, 0, 0) := by decide +kernel
theorem k188_14 : look (codL 188) 14 = some (.iload_n 1, 1, 0, 0, 0) := by decide +kernel
theorem k188_15 : look (codL 188) 15 = some (.invokevirtual 160, 3, 167, 2, 0) := by decide +kernel
theorem k188_18 : look (codL 188) 18 = some (.ifCond .eq 15, 3, 0, 0, 0) := by decide +kernel
theorem k188_21 : look (codL 188) 21 = some (.aload_n 0, 1, 0, 0, 0) := by decide +kernel
theorem k188_22 : look (codL 188) 22 = some (.iload_n 1, 1, 0, 0, 0) := by decide +kernel
theorem k188_23 : look (codL 188) 23 = some (.aload_n 0, 1, 0, 0, 0) := by decide +kernel
theorem k188_24 : look (codL 188) 24 = some (.getfield 142, 3, 10, 3, 0) := by decide +kernel
theorem k188_27 : look (codL 188) 27 = some (.invokevirtual 212, 3, 184, 3, 0) := by decide +kernel
theorem k188_30 : look (codL 188) 30 = some (.goto 7, 3, 0, 0, 0) := by decide +kernel
theorem k188_33 : look (codL 188) 33 = some (.aload_n 0, 1, 0, 0, 0) := by decide +kernel
theorem k188_34 : look (codL 188) 34 = some (.invokevirtual 116, 3, 136, 1, 0) := by decide +kernel
theorem k188_37 : look (codL 188) 37 = some (.ireturn, 1, 0, 0, 0) := by decide +kernel
theorem k189_0 : look (codL 189) 0 = some (.iconst 0, 1, 0, 0, 0) := by decide +kernel
theorem k189_1 : look (codL 189) 1 = some (.istore_n 3, 1, 0, 0, 0) := by decide +kernel
theorem k189_2 : look (codL 189) 2 = some (.iconst 0, 1, 0, 0, 0) := by decide +kernel
theorem k189_3 : look (codL 189) 3 = some (.istore 4, 2, 0, 0, 0) := by decide +kernel
theorem k189_5 : look (codL 189) 5 = some (.iload 4, 2, 0, 0, 0) := by decide +kernel
theorem k189_7 : look (codL 189) 7 = some (.aload_n 0, 1, 0, 0, 0) := by decide +kernel
theorem k189_8 : look (codL 189) 8 = some (.iload_n 1, 1, 0, 0, 0) := by decide +kernel
theorem k189_9 : look (codL 189) 9 = some (.invokevirtual 133, 3, 148, 2, 0) := by decide +kernel
theorem k189_12 : look (codL 189) 12 = some (.if_icmp .ge 38, 3, 0, 0, 0) := by decide +kernel
theorem k189_15 : look (codL 189) 15 = some (.iload_n 3, 1, 0, 0, 0) := by decide +kernel
theorem k189_16 : look (codL 189) 16 = some (.aload_n 0, 1, 0, 0, 0) := by decide +kernel
theorem k189_17 : look (codL 189) 17 = some (.getfield 40, 3, 10, 14, 0) := by decide +kernel
theorem k189_20 : look (codL 189) 20 = some (.iload 4, 2, 0, 0, 0) := by decide +kernel
theorem k189_22 : look (codL 189) 22 = some (.baload, 1, 0, 0, 0) := by decide +kernel
theorem k189_23 : look (codL 189) 23 = some (.ifCond .eq 18, 3, 0, 0, 0) := by decide +kernel
theorem k189_26 : look (codL 189) 26 = some (.aload_n 0, 1, 0, 0, 0) := by decide +kernel
theorem k189_27 : look (codL 189) 27 = some (.getfield 44, 3, 10, 15, 0) := by decide +kernel
theorem k189_30 : look (codL 189) 30 = some (.iload 4, 2, 0, 0, 0) := by decide +kernel
theorem k189_32 : look (codL 189) 32 = some (.iaload, 1, 0, 0, 0) := by decide +kernel
theorem k189_33 : look (codL 189) 33 = some (.iload_n 2, 1, 0, 0, 0) := by decide +kernel
theorem k189_34 : look (codL 189) 34 = some (.if_icmp .ne 7, 3, 0, 0, 0) := by decide +kernel
theorem k189_37 : look (codL 189) 37 = some (.iconst 1, 1, 0, 0, 0) := by decide +kernel
theorem k189_38 : look (codL 189) 38 = some (.goto 4, 3, 0, 0, 0) := by decide +kernel
theorem k189_41 : look (codL 189) 41 = some (.iconst 0, 1, 0, 0, 0) := by decide +kernel
theorem k189_42 : look (codL 189) 42 = some (.iadd, 1, 0, 0, 0) := by decide +kernel
theorem k189_43 : look (codL 189) 43 = some (.istore_n 3, 1, 0, 0, 0) := by decide +kernel
theorem k189_44 : look (codL 189) 44 = some (.iinc 4 1, 3, 0, 0, 0) := by decide +kernel
theorem k189_47 : look (codL 189) 47 = some (.goto (-42), 3, 0, 0, 0) := by decide +kernel
theorem k189_50 : look (codL 189) 50 = some (.iload_n 3, 1, 0, 0, 0) := by decide +kernel
theorem k189_51 : look (codL 189) 51 = some (.ireturn, 1, 0, 0, 0) := by decide +kernel
theorem k190_0 : look (codL 190) 0 = some (.iload_n 2, 1, 0, 0, 0) := by decide +kernel
theorem k190_1 : look (codL 190) 1 = some (.istore_n 3, 1, 0, 0, 0) := by decide +kernel
theorem k190_2 : look (codL 190) 2 = some (.iconst 0, 1, 0, 0, 0) := by decide +kernel
theorem k190_3 : look (codL 190) 3 = some (.istore 4, 2, 0, 0, 0) := by decide +kernel
theorem k190_5 : look (codL 190) 5 = some (.iconst 1, 1, 0, 0, 0) := by decide +kernel
theorem k190_6 : look (codL 190) 6 = some (.istore 5, 2, 0, 0, 0) := by decide +kernel
theorem k190_8 : look (codL 190) 8 = some (.iload 5, 2, 0, 0, 0) := by decide +kernel
theorem k190_10 : look (codL 190) 10 = some (.ifCond .eq 108, 3, 0, 0, 0) := by decide +kernel
theorem k190_13 : look (codL 190) 13 = some (.iload 4, 2, 0, 0, 0) := by decide +kernel
theorem k190_15 : look (codL 190) 15 = some (.ifCond .eq 8, 3, 0, 0, 0) := by decide +kernel
theorem k190_18 : look (codL 190) 18 = some (.iload_n 3, 1, 0, 0, 0) := by decide +kernel
theorem k190_19 : look (codL 190) 19 = some (.iload_n 2, 1, 0, 0, 0) := by decide +kernel
theorem k190_20 : look (codL 190) 20 = some (.if_icmp .eq 98, 3, 0, 0, 0) := by decide +kernel
theorem k190_23 : look (codL 190) 23 = some (.iload 4, 2, 0, 0, 0) := by decide +kernel
theorem k190_25 : look (codL 190) 25 = some (.bipush 6, 2, 0, 0, 0) := by decide +kernel
theorem k190_27 : look (codL 190) 27 = some (.if_icmp .gt 91, 3, 0, 0, 0) := by decide +kernel
theorem k190_30 : look (codL 190) 30 = some (.aload_n 0, 1, 0, 0, 0) := by decide +kernel
theorem k190_31 : look (codL 190) 31 = some (.getfield 40, 3, 10, 14, 0) := by decide +kernel
theorem k190_34 : look (codL 190) 34 = some (.iload_n 3, 1, 0, 0, 0) := by decide +kernel
theorem k190_35 : look (codL 190) 35 = some (.baload, 1, 0, 0, 0) := by decide +kernel
theorem k190_36 : look (codL 190) 36 = some (.ifCond .eq 22, 3, 0, 0, 0) := by decide +kernel
theorem k190_39 : look (codL 190) 39 = some (.aload_n 0, 1, 0, 0, 0) := by decide +kernel
theorem k190_40 : look (codL 190) 40 = some (.iload_n 1, 1, 0, 0, 0) := by decide +kernel
theorem k190_41 : look (codL 190) 41 = some (.aload_n 0, 1, 0, 0, 0) := by decide +kernel
theorem k190_42 : look (codL 190) 42 = some (.iload_n 1, 1, 0, 0, 0) := by decide +kernel
theorem k190_43 : look (codL 190) 43 = some (.iload_n 3, 1, 0, 0, 0) := by decide +kernel
theorem k190_44 : look (codL 190) 44 = some (.invokevirtual 127, 3, 147, 3, 0) := by decide +kernel
theorem k190_47 : look (codL 190) 47 = some (.invokevirtual 215, 3, 189, 3, 0) := by decide +kernel
theorem k190_50 : look (codL 190) 50 = some (.iconst 1, 1, 0, 0, 0) := by decide +kernel
theorem k190_51 : look (codL 190) 51 = some (.if_icmp .ne 7, 3, 0, 0, 0) := by decide +kernel
theorem k190_54 : look (codL 190) 54 = some (.iconst 1, 1, 0, 0, 0) := by decide +kernel
theorem k190_55 : look (codL 190) 55 = some (.goto 4, 3, 0, 0, 0) := by decide +kernel
theorem k190_58 : look (codL 190) 58 = some (.iconst 0, 1, 0, 0, 0) := by decide +kernel
theorem k190_59 : look (codL 190) 59 = some (.istore 5, 2, 0, 0, 0) := by decide +kernel
theorem k190_61 : look (codL 190) 61 = some (.iinc 4 1, 3, 0, 0, 0) := by decide +kernel
theorem k190_64 : look (codL 190) 64 = some (.iload 5, 2, 0, 0, 0) := by decide +kernel
theorem k190_66 : look (codL 190) 66 = some (.ifCond .eq 17, 3, 0, 0, 0) := by decide +kernel
theorem k190_69 : look (codL 190) 69 = some (.aload_n 0, 1, 0, 0, 0) := by decide +kernel
theorem k190_70 : look (codL 190) 70 = some (.iload_n 1, 1, 0, 0, 0) := by decide +kernel
theorem k190_71 : look (codL 190) 71 = some (.aload_n 0, 1, 0, 0, 0) := by decide +kernel
theorem k190_72 : look (codL 190) 72 = some (.getfield 44, 3, 10, 15, 0) := by decide +kernel
theorem k190_75 : look (codL 190) 75 = some (.iload_n 3, 1, 0, 0, 0) := by decide +kernel
theorem k190_76 : look (codL 190) 76 = some (.iaload, 1, 0, 0, 0) := by decide +kernel
theorem k190_77 : look (codL 190) 77 = some (.invokevirtual 179, 3, 178, 3, 0) := by decide +kernel
theorem k190_80 : look (codL 190) 80 = some (.goto 6, 3, 0, 0, 0) := by decide +kernel
theorem k190_83 : look (codL 190) 83 = some (.sipush (-201), 3, 0, 0, 0) := by decide +kernel
theorem k190_86 : look (codL 190) 86 = some (.istore 6, 2, 0, 0, 0) := by decide +kernel
theorem k190_88 : look (codL 190) 88 = some (.iload 6, 2, 0, 0, 0) := by decide +kernel
theorem k190_90 : look (codL 190) 90 = some (.sipush (-201), 3, 0, 0, 0) := by decide +kernel
theorem k190_93 : look (codL 190) 93 = some (.if_icmp .eq 7, 3, 0, 0, 0) := by decide +kernel
theorem k190_96 : look (codL 190) 96 = some (.iconst 1, 1, 0, 0, 0) := by decide +kernel
theorem k190_97 : look (codL 190) 97 = some (.goto 4, 3, 0, 0, 0) := by decide +kernel
theorem k190_100 : look (codL 190) 100 = some (.iconst 0, 1, 0, 0, 0) := by decide +kernel
theorem k190_101 : look (codL 190) 101 = some (.istore 5, 2, 0, 0, 0) := by decide +kernel
theorem k190_103 : look (codL 190) 103 = some (.iload 5, 2, 0, 0, 0) := by decide +kernel
theorem k190_105 : look (codL 190) 105 = some (.ifCond .eq 8, 3, 0, 0, 0) := by decide +kernel
theorem k190_108 : look (codL 190) 108 = some (.iload 6, 2, 0, 0, 0) := by decide +kernel
theorem k190_110 : look (codL 190) 110 = some (.goto 4, 3, 0, 0, 0) := by decide +kernel
theorem k190_113 : look (codL 190) 113 = some (.iload_n 3, 1, 0, 0, 0) := by decide +kernel
theorem k190_114 : look (codL 190) 114 = some (.istore_n 3, 1, 0, 0, 0) := by decide +kernel
theorem k190_115 : look (codL 190) 115 = some (.goto (-107), 3, 0, 0, 0) := by decide +kernel
theorem k190_118 : look (codL 190) 118 = some (.iload 5, 2, 0, 0, 0) := by decide +kernel
theorem k190_120 : look (codL 190) 120 = some (.ifCond .eq 13, 3, 0, 0, 0) := by decide +kernel
theorem k190_123 : look (codL 190) 123 = some (.iload_n 3, 1, 0, 0, 0) := by decide +kernel
theorem k190_124 : look (codL 190) 124 = some (.iload_n 2, 1, 0, 0, 0) := by decide +kernel
theorem k190_125 : look (codL 190) 125 = some (.if_icmp .ne 8, 3, 0, 0, 0) := by decide +kernel
theorem k190_128 : look (codL 190) 128 = some (.iload 4, 2, 0, 0, 0) := by decide +kernel
theorem k190_130 : look (codL 190) 130 = some (.goto 4, 3, 0, 0, 0) := by decide +kernel
theorem k190_133 : look (codL 190) 133 = some (.iconst 0, 1, 0, 0, 0) := by decide +kernel
theorem k190_134 : look (codL 190) 134 = some (.ireturn, 1, 0, 0, 0) := by decide +kernel
theorem k191_0 : look (codL 191) 0 = some (.aload_n 0, 1, 0, 0, 0) := by decide +kernel
theorem k191_1 : look (codL 191) 1 = some (.iload_n 1, 1, 0, 0, 0) := by decide +kernel
theorem k191_2 : look (codL 191) 2 = some (.invokevirtual 130, 3, 146, 2, 0) := by decide +kernel
theorem k191_5 : look (codL 191) 5 = some (.ifCond .eq 12, 3, 0, 0, 0) := by decide +kernel
theorem k191_8 : look (codL 191) 8 = some (.iload_n 2, 1, 0, 0, 0) := by decide +kernel
theorem k191_9 : look (codL 191) 9 = some (.iconst 0, 1, 0, 0, 0) := by decide +kernel
theorem k191_10 : look (codL 191) 10 = some (.iconst 2, 1, 0, 0, 0) := by decide +kernel
theorem k191_11 : look (codL 191) 11 = some (.invokestatic 90, 3, 138, 3, 0) := by decide +kernel
theorem k191_14 : look (codL 191) 14 = some (.ifCond .ne 8, 3, 0, 0, 0) := by decide +kernel
theorem k191_17 : look (codL 191) 17 = some (.aload_n 0, 1, 0, 0, 0) := by decide +kernel
theorem k191_18 : look (codL 191) 18 = some (.invokevirtual 110, 3, 135, 1, 0) := by decide +kernel
theorem k191_21 : look (codL 191) 21 = some (.ireturn, 1, 0, 0, 0) := by decide +kernel
theorem k191_22 : look (codL 191) 22 = some (.aload_n 0, 1, 0, 0, 0) := by decide +kernel
theorem k191_23 : look (codL 191) 23 = some (.iload_n 1, 1, 0, 0, 0) := by decide +kernel
theorem k191_24 : look (codL 191) 24 = some (.invokevirtual 160, 3, 167, 2, 0) := by decide +kernel
theorem k191_27 : look (codL 191) 27 = some (.ifCond .ne 8, 3, 0, 0, 0) := by decide +kernel
theorem k191_30 : look (codL 191) 30 = some (.aload_n 0, 1, 0, 0, 0) := by decide +kernel
theorem k191_31 : look (codL 191) 31 = some (.invokevirtual 116, 3, 136, 1, 0) := by decide +kernel
theorem k191_34 : look (codL 191) 34 = some (.ireturn, 1, 0, 0, 0) := by decide +kernel
theorem k191_35 : look (codL 191) 35 = some (.aload_n 0, 1, 0, 0, 0) := by decide +kernel
theorem k191_36 : look (codL 191) 36 = some (.iload_n 1, 1, 0, 0, 0) := by decide +kernel
theorem k191_37 : look (codL 191) 37 = some (.invokevirtual 188, 3, 182, 2, 0) := by decide +kernel
theorem k191_40 : look (codL 191) 40 = some (.iconst 0, 1, 0, 0, 0) := by decide +kernel
theorem k191_41 : look (codL 191) 41 = some (.istore_n 3, 1, 0, 0, 0) := by decide +kernel
theorem k191_42 : look (codL 191) 42 = some (.iconst 0, 1, 0, 0, 0) := by decide +kernel
theorem k191_43 : look (codL 191) 43 = some (.istore 4, 2, 0, 0, 0) := by decide +kernel
theorem k191_45 : look (codL 191) 45 = some (.iconst 0, 1, 0, 0, 0) := by decide +kernel
theorem k191_46 : look (codL 191) 46 = some (.istore 5, 2, 0, 0, 0) := by decide +kernel
theorem k191_48 : look (codL 191) 48 = some (.iconst 0, 1, 0, 0, 0) := by decide +kernel
theorem k191_49 : look (codL 191) 49 = some (.istore 6, 2, 0, 0, 0) := by decide +kernel
theorem k191_51 : look (codL 191) 51 = some (.iload 6, 2, 0, 0, 0) := by decide +kernel
theorem k191_53 : look (codL 191) 53 = some (.aload_n 0, 1, 0, 0, 0) := by decide +kernel
theorem k191_54 : look (codL 191) 54 = some (.iload_n 1, 1, 0, 0, 0) := by decide +kernel
theorem k191_55 : look (codL 191) 55 = some (.invokevirtual 133, 3, 148, 2, 0) := by decide +kernel
theorem k191_58 : look (codL 191) 58 = some (.if_icmp .ge 89, 3, 0, 0, 0) := by decide +kernel
theorem k191_61 : look (codL 191) 61 = some (.aload_n 0, 1, 0, 0, 0) := by decide +kernel
theorem k191_62 : look (codL 191) 62 = some (.getfield 40, 3, 10, 14, 0) := by decide +kernel
theorem k191_65 : look (codL 191) 65 = some (.iload 6, 2, 0, 0, 0) := by decide +kernel
theorem k191_67 : look (codL 191) 67 = some (.baload, 1, 0, 0, 0) := by decide +kernel
theorem k191_68 : look (codL 191) 68 = some (.ifCond .eq 13, 3, 0, 0, 0) := by decide +kernel
theorem k191_71 : look (codL 191) 71 = some (.aload_n 0, 1, 0, 0, 0) := by decide +kernel
theorem k191_72 : look (codL 191) 72 = some (.iload_n 1, 1, 0, 0, 0) := by decide +kernel
theorem k191_73 : look (codL 191) 73 = some (.iload 6, 2, 0, 0, 0) := by decide +kernel
theorem k191_75 : look (codL 191) 75 = some (.invokevirtual 218, 3, 190, 3, 0) := by decide +kernel
theorem k191_78 : look (codL 191) 78 = some (.goto 4, 3, 0, 0, 0) := by decide +kernel
theorem k191_81 : look (codL 191) 81 = some (.iconst 0, 1, 0, 0, 0) := by decide +kernel
theorem k191_82 : look (codL 191) 82 = some (.istore 7, 2, 0, 0, 0) := by decide +kernel
theorem k191_84 : look (codL 191) 84 = some (.iload 4, 2, 0, 0, 0) := by decide +kernel
theorem k191_86 : look (codL 191) 86 = some (.aload_n 0, 1, 0, 0, 0) := by decide +kernel
theorem k191_87 : look (codL 191) 87 = some (.getfield 40, 3, 10, 14, 0) := by decide +kernel
theorem k191_90 : look (codL 191) 90 = some (.iload 6, 2, 0, 0, 0) := by decide +kernel
theorem k191_92 : look (codL 191) 92 = some (.baload, 1, 0, 0, 0) := by decide +kernel
theorem k191_93 : look (codL 191) 93 = some (.ifCond .eq 12, 3, 0, 0, 0) := by decide +kernel
theorem k191_96 : look (codL 191) 96 = some (.iload 7, 2, 0, 0, 0) := by decide +kernel
theorem k191_98 : look (codL 191) 98 = some (.ifCond .ne 7, 3, 0, 0, 0) := by decide +kernel
theorem k191_101 : look (codL 191) 101 = some (.iconst 1, 1, 0, 0, 0) := by decide +kernel
theorem k191_102 : look (codL 191) 102 = some (.goto 4, 3, 0, 0, 0) := by decide +kernel
theorem k191_105 : look (codL 191) 105 = some (.iconst 0, 1, 0, 0, 0) := by decide +kernel
theorem k191_106 : look (codL 191) 106 = some (.iadd, 1, 0, 0, 0) := by decide +kernel
theorem k191_107 : look (codL 191) 107 = some (.istore 4, 2, 0, 0, 0) := by decide +kernel
theorem k191_109 : look (codL 191) 109 = some (.iload 7, 2, 0, 0, 0) := by decide +kernel
theorem k191_111 : look (codL 191) 111 = some (.iload_n 3, 1, 0, 0, 0) := by decide +kernel
theorem k191_112 : look (codL 191) 112 = some (.if_icmp .le 8, 3, 0, 0, 0) := by decide +kernel
theorem k191_115 : look (codL 191) 115 = some (.iload 7, 2, 0, 0, 0) := by decide +kernel
theorem k191_117 : look (codL 191) 117 = some (.goto 4, 3, 0, 0, 0) := by decide +kernel
theorem k191_120 : look (codL 191) 120 = some (.iload_n 3, 1, 0, 0, 0) := by decide +kernel
theorem k191_121 : look (codL 191) 121 = some (.istore_n 3, 1, 0, 0, 0) := by decide +kernel
theorem k191_122 : look (codL 191) 122 = some (.iload 5, 2, 0, 0, 0) := by decide +kernel
theorem k191_124 : look (codL 191) 124 = some (.iload 7, 2, 0, 0, 0) := by decide +kernel
theorem k191_126 : look (codL 191) 126 = some (.ifCond .le 11, 3, 0, 0, 0) := by decide +kernel
theorem k191_129 : look (codL 191) 129 = some (.bipush 60, 2, 0, 0, 0) := by decide +kernel
theorem k191_131 : look (codL 191) 131 = some (.iload 7, 2, 0, 0, 0) := by decide +kernel
theorem k191_133 : look (codL 191) 133 = some (.idiv, 1, 0, 0, 0) := by decide +kernel
theorem k191_134 : look (codL 191) 134 = some (.goto 4, 3, 0, 0, 0) := by decide +kernel
theorem k191_137 : look (codL 191) 137 = some (.iconst 0, 1, 0, 0, 0) := by decide +kernel
theorem k191_138 : look (codL 191) 138 = some (.iadd, 1, 0, 0, 0) := by decide +kernel
theorem k191_139 : look (codL 191) 139 = some (.istore 5, 2, 0, 0, 0) := by decide +kernel
theorem k191_141 : look (codL 191) 141 = some (.iinc 6 1, 3, 0, 0, 0) := by decide +kernel
theorem k191_144 : look (codL 191) 144 = some (.goto (-93), 3, 0, 0, 0) := by decide +kernel
theorem k191_147 : look (codL 191) 147 = some (.iload_n 2, 1, 0, 0, 0) := by decide +kernel
theorem k191_148 : look (codL 191) 148 = some (.ifCond .ne 11, 3, 0, 0, 0) := by decide +kernel
theorem k191_151 : look (codL 191) 151 = some (.iload 5, 2, 0, 0, 0) := by decide +kernel
theorem k191_153 : look (codL 191) 153 = some (.bipush 60, 2, 0, 0, 0) := by decide +kernel
theorem k191_155 : look (codL 191) 155 = some (.idiv, 1, 0, 0, 0) := by decide +kernel
theorem k191_156 : look (codL 191) 156 = some (.goto 14, 3, 0, 0, 0) := by decide +kernel
theorem k191_159 : look (codL 191) 159 = some (.iload_n 2, 1, 0, 0, 0) := by decide +kernel
theorem k191_160 : look (codL 191) 160 = some (.iconst 1, 1, 0, 0, 0) := by decide +kernel
theorem k191_161 : look (codL 191) 161 = some (.if_icmp .ne 7, 3, 0, 0, 0) := by decide +kernel
theorem k191_164 : look (codL 191) 164 = some (.iload_n 3, 1, 0, 0, 0) := by decide +kernel
theorem k191_165 : look (codL 191) 165 = some (.goto 5, 3, 0, 0, 0) := by decide +kernel
theorem k191_168 : look (codL 191) 168 = some (.iload 4, 2, 0, 0, 0) := by decide +kernel
theorem k191_170 : look (codL 191) 170 = some (.ireturn, 1, 0, 0, 0) := by decide +kernel
theorem k192_0 : look (codL 192) 0 = some (.aload_n 0, 1, 0, 0, 0) := by decide +kernel
theorem k192_1 : look (codL 192) 1 = some (.iload_n 1, 1, 0, 0, 0) := by decide +kernel
theorem k192_2 : look (codL 192) 2 = some (.invokevirtual 130, 3, 146, 2, 0) := by decide +kernel
theorem k192_5 : look (codL 192) 5 = some (.ifCond .eq 12, 3, 0, 0, 0) := by decide +kernel
theorem k192_8 : look (codL 192) 8 = some (.iload_n 2, 1, 0, 0, 0) := by decide +kernel
theorem k192_9 : look (codL 192) 9 = some (.iconst 0, 1, 0, 0, 0) := by decide +kernel
theorem k192_10 : look (codL 192) 10 = some (.iconst 1, 1, 0, 0, 0) := by decide +kernel
theorem k192_11 : look (codL 192) 11 = some (.invokestatic 90, 3, 138, 3, 0) := by decide +kernel
theorem k192_14 : look (codL 192) 14 = some (.ifCond .ne 8, 3, 0, 0, 0) := by decide +kernel
theorem k192_17 : look (codL 192) 17 = some (.aload_n 0, 1, 0, 0, 0) := by decide +kernel
theorem k192_18 : look (codL 192) 18 = some (.invokevirtual 110, 3, 135, 1, 0) := by decide +kernel
theorem k192_21 : look (codL 192) 21 = some (.ireturn, 1, 0, 0, 0) := by decide +kernel
theorem k192_22 : look (codL 192) 22 = some (.aload_n 0, 1, 0, 0, 0) := by decide +kernel
theorem k192_23 : look (codL 192) 23 = some (.iload_n 1, 1, 0, 0, 0) := by decide +kernel
theorem k192_24 : look (codL 192) 24 = some (.invokevirtual 160, 3, 167, 2, 0) := by decide +kernel
theorem k192_27 : look (codL 192) 27 = some (.ifCond .ne 8, 3, 0, 0, 0) := by decide +kernel
theorem k192_30 : look (codL 192) 30 = some (.aload_n 0, 1, 0, 0, 0) := by decide +kernel
theorem k192_31 : look (codL 192) 31 = some (.invokevirtual 116, 3, 136, 1, 0) := by decide +kernel
theorem k192_34 : look (codL 192) 34 = some (.ireturn, 1, 0, 0, 0) := by decide +kernel
theorem k192_35 : look (codL 192) 35 = some (.sipush (-201), 3, 0, 0, 0) := by decide +kernel
theorem k192_38 : look (codL 192) 38 = some (.istore_n 3, 1, 0, 0, 0) := by decide +kernel
theorem k192_39 : look (codL 192) 39 = some (.ldc 221, 2, 0, 0, 1048576) := by decide +kernel
theorem k192_41 : look (codL 192) 41 = some (.istore 4, 2, 0, 0, 0) := by decide +kernel
theorem k192_43 : look (codL 192) 43 = some (.iconst 0, 1, 0, 0, 0) := by decide +kernel
theorem k192_44 : look (codL 192) 44 = some (.istore 5, 2, 0, 0, 0) := by decide +kernel
theorem k192_46 : look (codL 192) 46 = some (.iload 5, 2, 0, 0, 0) := by decide +kernel
theorem k192_48 : look (codL 192) 48 = some (.iconst 5, 1, 0, 0, 0) := by decide +kernel
theorem k192_49 : look (codL 192) 49 = some (.if_icmp .ge 48, 3, 0, 0, 0) := by decide +kernel
theorem k192_52 : look (codL 192) 52 = some (.aload_n 0, 1, 0, 0, 0) := by decide +kernel
theorem k192_53 : look (codL 192) 53 = some (.iload_n 1, 1, 0, 0, 0) := by decide +kernel
theorem k192_54 : look (codL 192) 54 = some (.iload 5, 2, 0, 0, 0) := by decide +kernel
theorem k192_56 : look (codL 192) 56 = some (.invokevirtual 212, 3, 184, 3, 0) := by decide +kernel
theorem k192_59 : look (codL 192) 59 = some (.istore 6, 2, 0, 0, 0) := by decide +kernel
theorem k192_61 : look (codL 192) 61 = some (.iload 6, 2, 0, 0, 0) := by decide +kernel
theorem k192_63 : look (codL 192) 63 = some (.iload 4, 2, 0, 0, 0) := by decide +kernel
theorem k192_65 : look (codL 192) 65 = some (.if_icmp .ge 8, 3, 0, 0, 0) := by decide +kernel
theorem k192_68 : look (codL 192) 68 = some (.iload 5, 2, 0, 0, 0) := by decide +kernel
theorem k192_70 : look (codL 192) 70 = some (.goto 4, 3, 0, 0, 0) := by decide +kernel
theorem k192_73 : look (codL 192) 73 = some (.iload_n 3, 1, 0, 0, 0) := by decide +kernel
theorem k192_74 : look (codL 192) 74 = some (.istore_n 3, 1, 0, 0, 0) := by decide +kernel
theorem k192_75 : look (codL 192) 75 = some (.iload 6, 2, 0, 0, 0) := by decide +kernel
theorem k192_77 : look (codL 192) 77 = some (.iload 4, 2, 0, 0, 0) := by decide +kernel
theorem k192_79 : look (codL 192) 79 = some (.if_icmp .ge 8, 3, 0, 0, 0) := by decide +kernel
theorem k192_82 : look (codL 192) 82 = some (.iload 6, 2, 0, 0, 0) := by decide +kernel
theorem k192_84 : look (codL 192) 84 = some (.goto 5, 3, 0, 0, 0) := by decide +kernel
theorem k192_87 : look (codL 192) 87 = some (.iload 4, 2, 0, 0, 0) := by decide +kernel
theorem k192_89 : look (codL 192) 89 = some (.istore 4, 2, 0, 0, 0) := by decide +kernel
theorem k192_91 : look (codL 192) 91 = some (.iinc 5 1, 3, 0, 0, 0) := by decide +kernel
theorem k192_94 : look (codL 192) 94 = some (.goto (-48), 3, 0, 0, 0) := by decide +kernel
theorem k192_97 : look (codL 192) 97 = some (.iload_n 2, 1, 0, 0, 0) := by decide +kernel
theorem k192_98 : look (codL 192) 98 = some (.ifCond .ne 7, 3, 0, 0, 0) := by decide +kernel
theorem k192_101 : look (codL 192) 101 = some (.iload_n 3, 1, 0, 0, 0) := by decide +kernel
theorem k192_102 : look (codL 192) 102 = some (.goto 5, 3, 0, 0, 0) := by decide +kernel
theorem k192_105 : look (codL 192) 105 = some (.iload 4, 2, 0, 0, 0) := by decide +kernel
theorem k192_107 : look (codL 192) 107 = some (.ireturn, 1, 0, 0, 0) := by decide +kernel
theorem k193_0 : look (codL 193) 0 = some (.aload_n 0, 1, 0, 0, 0) := by decide +kernel
theorem k193_1 : look (codL 193) 1 = some (.iload_n 1, 1, 0, 0, 0) := by decide +kernel
theorem k193_2 : look (codL 193) 2 = some (.invokevirtual 130, 3, 146, 2, 0) := by decide +kernel
theorem k193_5 : look (codL 193) 5 = some (.ifCond .eq 10, 3, 0, 0, 0) := by decide +kernel
theorem k193_8 : look (codL 193) 8 = some (.iload_n 2, 1, 0, 0, 0) := by decide +kernel
theorem k193_9 : look (codL 193) 9 = some (.invokestatic 75, 3, 141, 1, 0) := by decide +kernel
theorem k193_12 : look (codL 193) 12 = some (.ifCond .ne 8, 3, 0, 0, 0) := by decide +kernel
theorem k193_15 : look (codL 193) 15 = some (.aload_n 0, 1, 0, 0, 0) := by decide +kernel
theorem k193_16 : look (codL 193) 16 = some (.invokevirtual 110, 3, 135, 1, 0) := by decide +kernel
theorem k193_19 : look (codL 193) 19 = some (.ireturn, 1, 0, 0, 0) := by decide +kernel
theorem k193_20 : look (codL 193) 20 = some (.iconst 0, 1, 0, 0, 0) := by decide +kernel
theorem k193_21 : look (codL 193) 21 = some (.istore_n 3, 1, 0, 0, 0) := by decide +kernel
theorem k193_22 : look (codL 193) 22 = some (.iload_n 3, 1, 0, 0, 0) := by decide +kernel
theorem k193_23 : look (codL 193) 23 = some (.bipush 32, 2, 0, 0, 0) := by decide +kernel
theorem k193_25 : look (codL 193) 25 = some (.if_icmp .ge 104, 3, 0, 0, 0) := by decide +kernel
theorem k193_28 : look (codL 193) 28 = some (.iconst 1, 1, 0, 0, 0) := by decide +kernel
theorem k193_29 : look (codL 193) 29 = some (.istore 4, 2, 0, 0, 0) := by decide +kernel
theorem k193_31 : look (codL 193) 31 = some (.iconst 0, 1, 0, 0, 0) := by decide +kernel
theorem k193_32 : look (codL 193) 32 = some (.istore 5, 2, 0, 0, 0) := by decide +kernel
theorem k193_34 : look (codL 193) 34 = some (.iload 5, 2, 0, 0, 0) := by decide +kernel
theorem k193_36 : look (codL 193) 36 = some (.aload_n 0, 1, 0, 0, 0) := by decide +kernel
theorem k193_37 : look (codL 193) 37 = some (.iload_n 1, 1, 0, 0, 0) := by decide +kernel
theorem k193_38 : look (codL 193) 38 = some (.invokevirtual 133, 3, 148, 2, 0) := by decide +kernel
theorem k193_41 : look (codL 193) 41 = some (.if_icmp .ge 69, 3, 0, 0, 0) := by decide +kernel
theorem k193_44 : look (codL 193) 44 = some (.iload 4, 2, 0, 0, 0) := by decide +kernel
theorem k193_46 : look (codL 193) 46 = some (.ifCond .eq 55, 3, 0, 0, 0) := by decide +kernel
theorem k193_49 : look (codL 193) 49 = some (.aload_n 0, 1, 0, 0, 0) := by decide +kernel
theorem k193_50 : look (codL 193) 50 = some (.iload_n 1, 1, 0, 0, 0) := by decide +kernel
theorem k193_51 : look (codL 193) 51 = some (.iload 5, 2, 0, 0, 0) := by decide +kernel
theorem k193_53 : look (codL 193) 53 = some (.invokevirtual 127, 3, 147, 3, 0) := by decide +kernel
theorem k193_56 : look (codL 193) 56 = some (.bipush 10, 2, 0, 0, 0) := by decide +kernel
theorem k193_58 : look (codL 193) 58 = some (.iload_n 3, 1, 0, 0, 0) := by decide +kernel
theorem k193_59 : look (codL 193) 59 = some (.imul, 1, 0, 0, 0) := by decide +kernel
theorem k193_60 : look (codL 193) 60 = some (.iload_n 2, 1, 0, 0, 0) := by decide +kernel
theorem k193_61 : look (codL 193) 61 = some (.iadd, 1, 0, 0, 0) := by decide +kernel
theorem k193_62 : look (codL 193) 62 = some (.invokestatic 82, 3, 143, 2, 0) := by decide +kernel
theorem k193_65 : look (codL 193) 65 = some (.ifCond .ne 36, 3, 0, 0, 0) := by decide +kernel
theorem k193_68 : look (codL 193) 68 = some (.aload_n 0, 1, 0, 0, 0) := by decide +kernel
theorem k193_69 : look (codL 193) 69 = some (.iload_n 1, 1, 0, 0, 0) := by decide +kernel
theorem k193_70 : look (codL 193) 70 = some (.iload 5, 2, 0, 0, 0) := by decide +kernel
theorem k193_72 : look (codL 193) 72 = some (.invokevirtual 139, 3, 149, 3, 0) := by decide +kernel
theorem k193_75 : look (codL 193) 75 = some (.ifCond .lt 22, 3, 0, 0, 0) := by decide +kernel
theorem k193_78 : look (codL 193) 78 = some (.aload_n 0, 1, 0, 0, 0) := by decide +kernel
theorem k193_79 : look (codL 193) 79 = some (.iload_n 1, 1, 0, 0, 0) := by decide +kernel
theorem k193_80 : look (codL 193) 80 = some (.iload 5, 2, 0, 0, 0) := by decide +kernel
theorem k193_82 : look (codL 193) 82 = some (.invokevirtual 139, 3, 149, 3, 0) := by decide +kernel
theorem k193_85 : look (codL 193) 85 = some (.bipush 10, 2, 0, 0, 0) := by decide +kernel
theorem k193_87 : look (codL 193) 87 = some (.iload_n 3, 1, 0, 0, 0) := by decide +kernel
theorem k193_88 : look (codL 193) 88 = some (.imul, 1, 0, 0, 0) := by decide +kernel
theorem k193_89 : look (codL 193) 89 = some (.iload_n 2, 1, 0, 0, 0) := by decide +kernel
theorem k193_90 : look (codL 193) 90 = some (.iadd, 1, 0, 0, 0) := by decide +kernel
theorem k193_91 : look (codL 193) 91 = some (.invokestatic 82, 3, 143, 2, 0) := by decide +kernel
theorem k193_94 : look (codL 193) 94 = some (.ifCond .ne 7, 3, 0, 0, 0) := by decide +kernel
theorem k193_97 : look (codL 193) 97 = some (.iconst 1, 1, 0, 0, 0) := by decide +kernel
theorem k193_98 : look (codL 193) 98 = some (.goto 4, 3, 0, 0, 0) := by decide +kernel
theorem k193_101 : look (codL 193) 101 = some (.iconst 0, 1, 0, 0, 0) := by decide +kernel
theorem k193_102 : look (codL 193) 102 = some (.istore 4, 2, 0, 0, 0) := by decide +kernel
theorem k193_104 : look (codL 193) 104 = some (.iinc 5 1, 3, 0, 0, 0) := by decide +kernel
theorem k193_107 : look (codL 193) 107 = some (.goto (-73), 3, 0, 0, 0) := by decide +kernel
theorem k193_110 : look (codL 193) 110 = some (.iload 4, 2, 0, 0, 0) := by decide +kernel
theorem k193_112 : look (codL 193) 112 = some (.ifCond .eq 10, 3, 0, 0, 0) := by decide +kernel
theorem k193_115 : look (codL 193) 115 = some (.bipush 10, 2, 0, 0, 0) := by decide +kernel
theorem k193_117 : look (codL 193) 117 = some (.iload_n 3, 1, 0, 0, 0) := by decide +kernel
theorem k193_118 : look (codL 193) 118 = some (.imul, 1, 0, 0, 0) := by decide +kernel
theorem k193_119 : look (codL 193) 119 = some (.iload_n 2, 1, 0, 0, 0) := by decide +kernel
theorem k193_120 : look (codL 193) 120 = some (.iadd, 1, 0, 0, 0) := by decide +kernel
theorem k193_121 : look (codL 193) 121 = some (.ireturn, 1, 0, 0, 0) := by decide +kernel
theorem k193_122 : look (codL 193) 122 = some (.iload_n 3, 1, 0, 0, 0) := by decide +kernel
theorem k193_123 : look (codL 193) 123 = some (.iload_n 2, 1, 0, 0, 0) := by decide +kernel
theorem k193_124 : look (codL 193) 124 = some (.iadd, 1, 0, 0, 0) := by decide +kernel
theorem k193_125 : look (codL 193) 125 = some (.istore_n 3, 1, 0, 0, 0) := by decide +kernel
theorem k193_126 : look (codL 193) 126 = some (.goto (-104), 3, 0, 0, 0) := by decide +kernel
theorem k193_129 : look (codL 193) 129 = some (.sipush (-201), 3, 0, 0, 0) := by decide +kernel
theorem k193_132 : look (codL 193) 132 = some (.ireturn, 1, 0, 0, 0) := by decide +kernel
theorem k194_0 : look (codL 194) 0 = some (.aload_n 0, 1, 0, 0, 0) := by decide +kernel
theorem k194_1 : look (codL 194) 1 = some (.aload_n 0, 1, 0, 0, 0) := by decide +kernel
theorem k194_2 : look (codL 194) 2 = some (.getfield 166, 3, 10, 10, 0) := by decide +kernel
theorem k194_5 : look (codL 194) 5 = some (.putfield 222, 3, 10, 16, 0) := by decide +kernel
theorem k194_8 : look (codL 194) 8 = some (.iconst 0, 1, 0, 0, 0) := by decide +kernel
theorem k194_9 : look (codL 194) 9 = some (.istore_n 1, 1, 0, 0, 0) := by decide +kernel
theorem k194_10 : look (codL 194) 10 = some (.iload_n 1, 1, 0, 0, 0) := by decide +kernel
theorem k194_11 : look (codL 194) 11 = some (.aload_n 0, 1, 0, 0, 0) := by decide +kernel
theorem k194_12 : look (codL 194) 12 = some (.getfield 166, 3, 10, 10, 0) := by decide +kernel
theorem k194_15 : look (codL 194) 15 = some (.if_icmp .ge 45, 3, 0, 0, 0) := by decide +kernel
theorem k194_18 : look (codL 194) 18 = some (.aload_n 0, 1, 0, 0, 0) := by decide +kernel
theorem k194_19 : look (codL 194) 19 = some (.getfield 47, 3, 10, 17, 0) := by decide +kernel
theorem k194_22 : look (codL 194) 22 = some (.iload_n 1, 1, 0, 0, 0) := by decide +kernel
theorem k194_23 : look (codL 194) 23 = some (.aload_n 0, 1, 0, 0, 0) := by decide +kernel
theorem k194_24 : look (codL 194) 24 = some (.getfield 31, 3, 10, 11, 0) := by decide +kernel
theorem k194_27 : look (codL 194) 27 = some (.iload_n 1, 1, 0, 0, 0) := by decide +kernel
theorem k194_28 : look (codL 194) 28 = some (.iaload, 1, 0, 0, 0) := by decide +kernel
theorem k194_29 : look (codL 194) 29 = some (.iastore, 1, 0, 0, 0) := by decide +kernel
theorem k194_30 : look (codL 194) 30 = some (.aload_n 0, 1, 0, 0, 0) := by decide +kernel
theorem k194_31 : look (codL 194) 31 = some (.getfield 50, 3, 10, 18, 0) := by decide +kernel
theorem k194_34 : look (codL 194) 34 = some (.iload_n 1, 1, 0, 0, 0) := by decide +kernel
theorem k194_35 : look (codL 194) 35 = some (.aload_n 0, 1, 0, 0, 0) := by decide +kernel
theorem k194_36 : look (codL 194) 36 = some (.getfield 34, 3, 10, 12, 0) := by decide +kernel
theorem k194_39 : look (codL 194) 39 = some (.iload_n 1, 1, 0, 0, 0) := by decide +kernel
theorem k194_40 : look (codL 194) 40 = some (.iaload, 1, 0, 0, 0) := by decide +kernel
theorem k194_41 : look (codL 194) 41 = some (.iastore, 1, 0, 0, 0) := by decide +kernel
theorem k194_42 : look (codL 194) 42 = some (.aload_n 0, 1, 0, 0, 0) := by decide +kernel
theorem k194_43 : look (codL 194) 43 = some (.getfield 53, 3, 10, 19, 0) := by decide +kernel
theorem k194_46 : look (codL 194) 46 = some (.iload_n 1, 1, 0, 0, 0) := by decide +kernel
theorem k194_47 : look (codL 194) 47 = some (.aload_n 0, 1, 0, 0, 0) := by decide +kernel
theorem k194_48 : look (codL 194) 48 = some (.getfield 37, 3, 10, 13, 0) := by decide +kernel
theorem k194_51 : look (codL 194) 51 = some (.iload_n 1, 1, 0, 0, 0) := by decide +kernel
theorem k194_52 : look (codL 194) 52 = some (.iaload, 1, 0, 0, 0) := by decide +kernel
theorem k194_53 : look (codL 194) 53 = some (.iastore, 1, 0, 0, 0) := by decide +kernel
theorem k194_54 : look (codL 194) 54 = some (.iinc 1 1, 3, 0, 0, 0) := by decide +kernel
theorem k194_57 : look (codL 194) 57 = some (.goto (-47), 3, 0, 0, 0) := by decide +kernel
theorem k194_60 : look (codL 194) 60 = some (.return_, 1, 0, 0, 0) := by decide +kernel
theorem k195_0 : look (codL 195) 0 = some (.iconst 0, 1, 0, 0, 0) := by decide +kernel
theorem k195_1 : look (codL 195) 1 = some (.istore_n 1, 1, 0, 0, 0) := by decide +kernel
theorem k195_2 : look (codL 195) 2 = some (.iconst 1, 1, 0, 0, 0) := by decide +kernel
theorem k195_3 : look (codL 195) 3 = some (.istore_n 2, 1, 0, 0, 0) := by decide +kernel
theorem k195_4 : look (codL 195) 4 = some (.iload_n 2, 1, 0, 0, 0) := by decide +kernel
theorem k195_5 : look (codL 195) 5 = some (.ifCond .eq 107, 3, 0, 0, 0) := by decide +kernel
theorem k195_8 : look (codL 195) 8 = some (.iload_n 1, 1, 0, 0, 0) := by decide +kernel
theorem k195_9 : look (codL 195) 9 = some (.aload_n 0, 1, 0, 0, 0) := by decide +kernel
theorem k195_10 : look (codL 195) 10 = some (.getfield 166, 3, 10, 10, 0) := by decide +kernel
theorem k195_13 : look (codL 195) 13 = some (.if_icmp .ge 99, 3, 0, 0, 0) := by decide +kernel
theorem k195_16 : look (codL 195) 16 = some (.iload_n 1, 1, 0, 0, 0) := by decide +kernel
theorem k195_17 : look (codL 195) 17 = some (.aload_n 0, 1, 0, 0, 0) := by decide +kernel
theorem k195_18 : look (codL 195) 18 = some (.getfield 222, 3, 10, 16, 0) := by decide +kernel
theorem k195_21 : look (codL 195) 21 = some (.if_icmp .ge 91, 3, 0, 0, 0) := by decide +kernel
theorem k195_24 : look (codL 195) 24 = some (.aload_n 0, 1, 0, 0, 0) := by decide +kernel
theorem k195_25 : look (codL 195) 25 = some (.getfield 166, 3, 10, 10, 0) := by decide +kernel
theorem k195_28 : look (codL 195) 28 = some (.iconst 1, 1, 0, 0, 0) := by decide +kernel
theorem k195_29 : look (codL 195) 29 = some (.isub, 1, 0, 0, 0) := by decide +kernel
theorem k195_30 : look (codL 195) 30 = some (.iload_n 1, 1, 0, 0, 0) := by decide +kernel
theorem k195_31 : look (codL 195) 31 = some (.isub, 1, 0, 0, 0) := by decide +kernel
theorem k195_32 : look (codL 195) 32 = some (.istore_n 3, 1, 0, 0, 0) := by decide +kernel
theorem k195_33 : look (codL 195) 33 = some (.aload_n 0, 1, 0, 0, 0) := by decide +kernel
theorem k195_34 : look (codL 195) 34 = some (.getfield 222, 3, 10, 16, 0) := by decide +kernel
theorem k195_37 : look (codL 195) 37 = some (.iconst 1, 1, 0, 0, 0) := by decide +kernel
theorem k195_38 : look (codL 195) 38 = some (.isub, 1, 0, 0, 0) := by decide +kernel
theorem k195_39 : look (codL 195) 39 = some (.iload_n 1, 1, 0, 0, 0) := by decide +kernel
theorem k195_40 : look (codL 195) 40 = some (.isub, 1, 0, 0, 0) := by decide +kernel
theorem k195_41 : look (codL 195) 41 = some (.istore 4, 2, 0, 0, 0) := by decide +kernel
theorem k195_43 : look (codL 195) 43 = some (.aload_n 0, 1, 0, 0, 0) := by decide +kernel
theorem k195_44 : look (codL 195) 44 = some (.getfield 31, 3, 10, 11, 0) := by decide +kernel
theorem k195_47 : look (codL 195) 47 = some (.iload_n 3, 1, 0, 0, 0) := by decide +kernel
theorem k195_48 : look (codL 195) 48 = some (.iaload, 1, 0, 0, 0) := by decide +kernel
theorem k195_49 : look (codL 195) 49 = some (.aload_n 0, 1, 0, 0, 0) := by decide +kernel
theorem k195_50 : look (codL 195) 50 = some (.getfield 47, 3, 10, 17, 0) := by decide +kernel
theorem k195_53 : look (codL 195) 53 = some (.iload 4, 2, 0, 0, 0) := by decide +kernel
theorem k195_55 : look (codL 195) 55 = some (.iaload, 1, 0, 0, 0) := by decide +kernel
theorem k195_56 : look (codL 195) 56 = some (.if_icmp .ne 39, 3, 0, 0, 0) := by decide +kernel
theorem k195_59 : look (codL 195) 59 = some (.aload_n 0, 1, 0, 0, 0) := by decide +kernel
theorem k195_60 : look (codL 195) 60 = some (.getfield 34, 3, 10, 12, 0) := by decide +kernel
theorem k195_63 : look (codL 195) 63 = some (.iload_n 3, 1, 0, 0, 0) := by decide +kernel
theorem k195_64 : look (codL 195) 64 = some (.iaload, 1, 0, 0, 0) := by decide +kernel
theorem k195_65 : look (codL 195) 65 = some (.aload_n 0, 1, 0, 0, 0) := by decide +kernel
theorem k195_66 : look (codL 195) 66 = some (.getfield 50, 3, 10, 18, 0) := by decide +kernel
theorem k195_69 : look (codL 195) 69 = some (.iload 4, 2, 0, 0, 0) := by decide +kernel
theorem k195_71 : look (codL 195) 71 = some (.iaload, 1, 0, 0, 0) := by decide +kernel
theorem k195_72 : look (codL 195) 72 = some (.if_icmp .ne 23, 3, 0, 0, 0) := by decide +kernel
theorem k195_75 : look (codL 195) 75 = some (.aload_n 0, 1, 0, 0, 0) := by decide +kernel
theorem k195_76 : look (codL 195) 76 = some (.getfield 37, 3, 10, 13, 0) := by decide +kernel
theorem k195_79 : look (codL 195) 79 = some (.iload_n 3, 1, 0, 0, 0) := by decide +kernel
theorem k195_80 : look (codL 195) 80 = some (.iaload, 1, 0, 0, 0) := by decide +kernel
theorem k195_81 : look (codL 195) 81 = some (.aload_n 0, 1, 0, 0, 0) := by decide +kernel
theorem k195_82 : look (codL 195) 82 = some (.getfield 53, 3, 10, 19, 0) := by decide +kernel
theorem k195_85 : look (codL 195) 85 = some (.iload 4, 2, 0, 0, 0) := by decide +kernel
theorem k195_87 : look (codL 195) 87 = some (.iaload, 1, 0, 0, 0) := by decide +kernel
theorem k195_88 : look (codL 195) 88 = some (.if_icmp .ne 7, 3, 0, 0, 0) := by decide +kernel
theorem k195_91 : look (codL 195) 91 = some (.iconst 1, 1, 0, 0, 0) := by decide +kernel
theorem k195_92 : look (codL 195) 92 = some (.goto 4, 3, 0, 0, 0) := by decide +kernel
theorem k195_95 : look (codL 195) 95 = some (.iconst 0, 1, 0, 0, 0) := by decide +kernel
theorem k195_96 : look (codL 195) 96 = some (.istore_n 2, 1, 0, 0, 0) := by decide +kernel
theorem k195_97 : look (codL 195) 97 = some (.iload_n 1, 1, 0, 0, 0) := by decide +kernel
theorem k195_98 : look (codL 195) 98 = some (.iload_n 2, 1, 0, 0, 0) := by decide +kernel
theorem k195_99 : look (codL 195) 99 = some (.ifCond .eq 7, 3, 0, 0, 0) := by decide +kernel
theorem k195_102 : look (codL 195) 102 = some (.iconst 1, 1, 0, 0, 0) := by decide +kernel
theorem k195_103 : look (codL 195) 103 = some (.goto 4, 3, 0, 0, 0) := by decide +kernel
theorem k195_106 : look (codL 195) 106 = some (.iconst 0, 1, 0, 0, 0) := by decide +kernel
theorem k195_107 : look (codL 195) 107 = some (.iadd, 1, 0, 0, 0) := by decide +kernel
theorem k195_108 : look (codL 195) 108 = some (.istore_n 1, 1, 0, 0, 0) := by decide +kernel
theorem k195_109 : look (codL 195) 109 = some (.goto (-105), 3, 0, 0, 0) := by decide +kernel
theorem k195_112 : look (codL 195) 112 = some (.iload_n 1, 1, 0, 0, 0) := by decide +kernel
theorem k195_113 : look (codL 195) 113 = some (.ireturn, 1, 0, 0, 0) := by decide +kernel
theorem k196_0 : look (codL 196) 0 = some (.aload_n 0, 1, 0, 0, 0) := by decide +kernel
theorem k196_1 : look (codL 196) 1 = some (.iload_n 1, 1, 0, 0, 0) := by decide +kernel
theorem k196_2 : look (codL 196) 2 = some (.invokevirtual 104, 3, 145, 2, 0) := by decide +kernel
theorem k196_5 : look (codL 196) 5 = some (.ifCond .ne 8, 3, 0, 0, 0) := by decide +kernel
theorem k196_8 : look (codL 196) 8 = some (.aload_n 0, 1, 0, 0, 0) := by decide +kernel
theorem k196_9 : look (codL 196) 9 = some (.invokevirtual 110, 3, 135, 1, 0) := by decide +kernel
theorem k196_12 : look (codL 196) 12 = some (.ireturn, 1, 0, 0, 0) := by decide +kernel
theorem k196_13 : look (codL 196) 13 = some (.iconst 1, 1, 0, 0, 0) := by decide +kernel
theorem k196_14 : look (codL 196) 14 = some (.istore_n 2, 1, 0, 0, 0) := by decide +kernel
theorem k196_15 : look (codL 196) 15 = some (.iconst 0, 1, 0, 0, 0) := by decide +kernel
theorem k196_16 : look (codL 196) 16 = some (.istore_n 3, 1, 0, 0, 0) := by decide +kernel
theorem k196_17 : look (codL 196) 17 = some (.iload_n 3, 1, 0, 0, 0) := by decide +kernel
theorem k196_18 : look (codL 196) 18 = some (.aload_n 0, 1, 0, 0, 0) := by decide +kernel
theorem k196_19 : look (codL 196) 19 = some (.getfield 94, 3, 10, 2, 0) := by decide +kernel
theorem k196_22 : look (codL 196) 22 = some (.if_icmp .ge 37, 3, 0, 0, 0) := by decide +kernel
theorem k196_25 : look (codL 196) 25 = some (.iload_n 2, 1, 0, 0, 0) := by decide +kernel
theorem k196_26 : look (codL 196) 26 = some (.ifCond .eq 25, 3, 0, 0, 0) := by decide +kernel
theorem k196_29 : look (codL 196) 29 = some (.aload_n 0, 1, 0, 0, 0) := by decide +kernel
theorem k196_30 : look (codL 196) 30 = some (.getfield 22, 3, 10, 7, 0) := by decide +kernel
theorem k196_33 : look (codL 196) 33 = some (.iload_n 3, 1, 0, 0, 0) := by decide +kernel
theorem k196_34 : look (codL 196) 34 = some (.iaload, 1, 0, 0, 0) := by decide +kernel
theorem k196_35 : look (codL 196) 35 = some (.iload_n 1, 1, 0, 0, 0) := by decide +kernel
theorem k196_36 : look (codL 196) 36 = some (.if_icmp .ne 11, 3, 0, 0, 0) := by decide +kernel
theorem k196_39 : look (codL 196) 39 = some (.aload_n 0, 1, 0, 0, 0) := by decide +kernel
theorem k196_40 : look (codL 196) 40 = some (.iload_n 3, 1, 0, 0, 0) := by decide +kernel
theorem k196_41 : look (codL 196) 41 = some (.invokevirtual 160, 3, 167, 2, 0) := by decide +kernel
theorem k196_44 : look (codL 196) 44 = some (.ifCond .eq 7, 3, 0, 0, 0) := by decide +kernel
theorem k196_47 : look (codL 196) 47 = some (.iconst 1, 1, 0, 0, 0) := by decide +kernel
theorem k196_48 : look (codL 196) 48 = some (.goto 4, 3, 0, 0, 0) := by decide +kernel
theorem k196_51 : look (codL 196) 51 = some (.iconst 0, 1, 0, 0, 0) := by decide +kernel
theorem k196_52 : look (codL 196) 52 = some (.istore_n 2, 1, 0, 0, 0) := by decide +kernel
theorem k196_53 : look (codL 196) 53 = some (.iinc 3 1, 3, 0, 0, 0) := by decide +kernel
theorem k196_56 : look (codL 196) 56 = some (.goto (-39), 3, 0, 0, 0) := by decide +kernel
theorem k196_59 : look (codL 196) 59 = some (.iload_n 2, 1, 0, 0, 0) := by decide +kernel
theorem k196_60 : look (codL 196) 60 = some (.ifCond .ne 8, 3, 0, 0, 0) := by decide +kernel
theorem k196_63 : look (codL 196) 63 = some (.aload_n 0, 1, 0, 0, 0) := by decide +kernel
theorem k196_64 : look (codL 196) 64 = some (.invokevirtual 116, 3, 136, 1, 0) := by decide +kernel
theorem k196_67 : look (codL 196) 67 = some (.ireturn, 1, 0, 0, 0) := by decide +kernel
theorem k196_68 : look (codL 196) 68 = some (.iconst 0, 1, 0, 0, 0) := by decide +kernel
theorem k196_69 : look (codL 196) 69 = some (.istore_n 3, 1, 0, 0, 0) := by decide +kernel
theorem k196_70 : look (codL 196) 70 = some (.iconst 1, 1, 0, 0, 0) := by decide +kernel
theorem k196_71 : look (codL 196) 71 = some (.istore 4, 2, 0, 0, 0) := by decide +kernel
theorem k196_73 : look (codL 196) 73 = some (.iconst 0, 1, 0, 0, 0) := by decide +kernel
theorem k196_74 : look (codL 196) 74 = some (.istore 5, 2, 0, 0, 0) := by decide +kernel
theorem k196_76 : look (codL 196) 76 = some (.iload 5, 2, 0, 0, 0) := by decide +kernel
theorem k196_78 : look (codL 196) 78 = some (.aload_n 0, 1, 0, 0, 0) := by decide +kernel
theorem k196_79 : look (codL 196) 79 = some (.getfield 94, 3, 10, 2, 0) := by decide +kernel
theorem k196_82 : look (codL 196) 82 = some (.if_icmp .ge 69, 3, 0, 0, 0) := by decide +kernel
theorem k196_85 : look (codL 196) 85 = some (.aload_n 0, 1, 0, 0, 0) := by decide +kernel
theorem k196_86 : look (codL 196) 86 = some (.getfield 22, 3, 10, 7, 0) := by decide +kernel
theorem k196_89 : look (codL 196) 89 = some (.iload 5, 2, 0, 0, 0) := by decide +kernel
theorem k196_91 : look (codL 196) 91 = some (.iaload, 1, 0, 0, 0) := by decide +kernel
theorem k196_92 : look (codL 196) 92 = some (.iload_n 1, 1, 0, 0, 0) := by decide +kernel
theorem k196_93 : look (codL 196) 93 = some (.if_icmp .ne 52, 3, 0, 0, 0) := by decide +kernel
theorem k196_96 : look (codL 196) 96 = some (.aload_n 0, 1, 0, 0, 0) := by decide +kernel
theorem k196_97 : look (codL 196) 97 = some (.iload 5, 2, 0, 0, 0) := by decide +kernel
theorem k196_99 : look (codL 196) 99 = some (.aload_n 0, 1, 0, 0, 0) := by decide +kernel
theorem k196_100 : look (codL 196) 100 = some (.getfield 142, 3, 10, 3, 0) := by decide +kernel
theorem k196_103 : look (codL 196) 103 = some (.invokevirtual 206, 3, 183, 3, 0) := by decide +kernel
theorem k196_106 : look (codL 196) 106 = some (.iload 4, 2, 0, 0, 0) := by decide +kernel
theorem k196_108 : look (codL 196) 108 = some (.ifCond .eq 18, 3, 0, 0, 0) := by decide +kernel
theorem k196_111 : look (codL 196) 111 = some (.aload_n 0, 1, 0, 0, 0) := by decide +kernel
theorem k196_112 : look (codL 196) 112 = some (.invokevirtual 225, 3, 194, 1, 0) := by decide +kernel
theorem k196_115 : look (codL 196) 115 = some (.aload_n 0, 1, 0, 0, 0) := by decide +kernel
theorem k196_116 : look (codL 196) 116 = some (.getfield 166, 3, 10, 10, 0) := by decide +kernel
theorem k196_119 : look (codL 196) 119 = some (.istore_n 3, 1, 0, 0, 0) := by decide +kernel
theorem k196_120 : look (codL 196) 120 = some (.iconst 0, 1, 0, 0, 0) := by decide +kernel
theorem k196_121 : look (codL 196) 121 = some (.istore 4, 2, 0, 0, 0) := by decide +kernel
theorem k196_123 : look (codL 196) 123 = some (.goto 22, 3, 0, 0, 0) := by decide +kernel
theorem k196_126 : look (codL 196) 126 = some (.aload_n 0, 1, 0, 0, 0) := by decide +kernel
theorem k196_127 : look (codL 196) 127 = some (.invokevirtual 228, 3, 195, 1, 0) := by decide +kernel
theorem k196_130 : look (codL 196) 130 = some (.istore 6, 2, 0, 0, 0) := by decide +kernel
theorem k196_132 : look (codL 196) 132 = some (.iload 6, 2, 0, 0, 0) := by decide +kernel
theorem k196_134 : look (codL 196) 134 = some (.iload_n 3, 1, 0, 0, 0) := by decide +kernel
theorem k196_135 : look (codL 196) 135 = some (.if_icmp .ge 8, 3, 0, 0, 0) := by decide +kernel
theorem k196_138 : look (codL 196) 138 = some (.iload 6, 2, 0, 0, 0) := by decide +kernel
theorem k196_140 : look (codL 196) 140 = some (.goto 4, 3, 0, 0, 0) := by decide +kernel
theorem k196_143 : look (codL 196) 143 = some (.iload_n 3, 1, 0, 0, 0) := by decide +kernel
theorem k196_144 : look (codL 196) 144 = some (.istore_n 3, 1, 0, 0, 0) := by decide +kernel
theorem k196_145 : look (codL 196) 145 = some (.iinc 5 1, 3, 0, 0, 0) := by decide +kernel
theorem k196_148 : look (codL 196) 148 = some (.goto (-72), 3, 0, 0, 0) := by decide +kernel
theorem k196_151 : look (codL 196) 151 = some (.iload_n 3, 1, 0, 0, 0) := by decide +kernel
theorem k196_152 : look (codL 196) 152 = some (.ireturn, 1, 0, 0, 0) := by decide +kernel
theorem k197_0 : look (codL 197) 0 = some (.lload_n 0, 1, 0, 0, 0) := by decide +kernel
theorem k197_1 : look (codL 197) 1 = some (.ldc2_w 231, 3, 0, 0, 1103515245) := by decide +kernel
theorem k197_4 : look (codL 197) 4 = some (.lmul, 1, 0, 0, 0) := by decide +kernel
theorem k197_5 : look (codL 197) 5 = some (.ldc2_w 233, 3, 0, 0, 12345) := by decide +kernel
theorem k197_8 : look (codL 197) 8 = some (.ladd, 1, 0, 0, 0) := by decide +kernel
theorem k197_9 : look (codL 197) 9 = some (.ldc2_w 235, 3, 0, 0, 2147483648) := by decide +kernel
theorem k197_12 : look (codL 197) 12 = some (.lrem, 1, 0, 0, 0) := by decide +kernel
theorem k197_13 : look (codL 197) 13 = some (.lreturn, 1, 0, 0, 0) := by decide +kernel
theorem k198_0 : look (codL 198) 0 = some (.iload_n 0, 1, 0, 0, 0) := by decide +kernel
theorem k198_1 : look (codL 198) 1 = some (.sipush 320, 3, 0, 0, 0) := by decide +kernel
theorem k198_4 : look (codL 198) 4 = some (.if_icmp .lt 8, 3, 0, 0, 0) := by decide +kernel
theorem k198_7 : look (codL 198) 7 = some (.bipush 32, 2, 0, 0, 0) := by decide +kernel
theorem k198_9 : look (codL 198) 9 = some (.goto 7, 3, 0, 0, 0) := by decide +kernel
theorem k198_12 : look (codL 198) 12 = some (.iload_n 0, 1, 0, 0, 0) := by decide +kernel
theorem k198_13 : look (codL 198) 13 = some (.invokestatic 79, 3, 140, 1, 0) := by decide +kernel
theorem k198_16 : look (codL 198) 16 = some (.ireturn, 1, 0, 0, 0) := by decide +kernel
theorem k199_0 : look (codL 199) 0 = some (.iconst 0, 1, 0, 0, 0) := by decide +kernel
theorem k199_1 : look (codL 199) 1 = some (.istore_n 3, 1, 0, 0, 0) := by decide +kernel
theorem k199_2 : look (codL 199) 2 = some (.iload_n 3, 1, 0, 0, 0) := by decide +kernel
theorem k199_3 : look (codL 199) 3 = some (.iload_n 1, 1, 0, 0, 0) := by decide +kernel
theorem k199_4 : look (codL 199) 4 = some (.invokestatic 71, 3, 139, 1, 0) := by decide +kernel
theorem k199_7 : look (codL 199) 7 = some (.if_icmp .ge 29, 3, 0, 0, 0) := by decide +kernel
theorem k199_10 : look (codL 199) 10 = some (.aload_n 0, 1, 0, 0, 0) := by decide +kernel
theorem k199_11 : look (codL 199) 11 = some (.getfield 56, 3, 10, 20, 0) := by decide +kernel
theorem k199_14 : look (codL 199) 14 = some (.iload_n 1, 1, 0, 0, 0) := by decide +kernel
theorem k199_15 : look (codL 199) 15 = some (.invokestatic 79, 3, 140, 1, 0) := by decide +kernel
theorem k199_18 : look (codL 199) 18 = some (.iload_n 3, 1, 0, 0, 0) := by decide +kernel
theorem k199_19 : look (codL 199) 19 = some (.iadd, 1, 0, 0, 0) := by decide +kernel
theorem k199_20 : look (codL 199) 20 = some (.iload_n 3, 1, 0, 0, 0) := by decide +kernel
theorem k199_21 : look (codL 199) 21 = some (.ifCond .ne 7, 3, 0, 0, 0) := by decide +kernel
theorem k199_24 : look (codL 199) 24 = some (.iload_n 2, 1, 0, 0, 0) := by decide +kernel
theorem k199_25 : look (codL 199) 25 = some (.goto 4, 3, 0, 0, 0) := by decide +kernel
theorem k199_28 : look (codL 199) 28 = some (.iconst 0, 1, 0, 0, 0) := by decide +kernel
theorem k199_29 : look (codL 199) 29 = some (.iastore, 1, 0, 0, 0) := by decide +kernel
theorem k199_30 : look (codL 199) 30 = some (.iinc 3 1, 3, 0, 0, 0) := by decide +kernel
theorem k199_33 : look (codL 199) 33 = some (.goto (-31), 3, 0, 0, 0) := by decide +kernel
theorem k199_36 : look (codL 199) 36 = some (.return_, 1, 0, 0, 0) := by decide +kernel
theorem k200_0 : look (codL 200) 0 = some (.aload_n 0, 1, 0, 0, 0) := by decide +kernel
theorem k200_1 : look (codL 200) 1 = some (.getfield 34, 3, 10, 12, 0) := by decide +kernel
theorem k200_4 : look (codL 200) 4 = some (.iload_n 1, 1, 0, 0, 0) := by decide +kernel
theorem k200_5 : look (codL 200) 5 = some (.iaload, 1, 0, 0, 0) := by decide +kernel
theorem k200_6 : look (codL 200) 6 = some (.invokestatic 237, 3, 198, 1, 0) := by decide +kernel
theorem k200_9 : look (codL 200) 9 = some (.istore_n 2, 1, 0, 0, 0) := by decide +kernel
theorem k200_10 : look (codL 200) 10 = some (.aload_n 0, 1, 0, 0, 0) := by decide +kernel
theorem k200_11 : look (codL 200) 11 = some (.getfield 31, 3, 10, 11, 0) := by decide +kernel
theorem k200_14 : look (codL 200) 14 = some (.iload_n 1, 1, 0, 0, 0) := by decide +kernel
theorem k200_15 : look (codL 200) 15 = some (.iaload, 1, 0, 0, 0) := by decide +kernel
theorem k200_16 : look (codL 200) 16 = some (.iconst 2, 1, 0, 0, 0) := by decide +kernel
theorem k200_17 : look (codL 200) 17 = some (.if_icmp .ne 22, 3, 0, 0, 0) := by decide +kernel
theorem k200_20 : look (codL 200) 20 = some (.aload_n 0, 1, 0, 0, 0) := by decide +kernel
theorem k200_21 : look (codL 200) 21 = some (.aload_n 0, 1, 0, 0, 0) := by decide +kernel
theorem k200_22 : look (codL 200) 22 = some (.getfield 34, 3, 10, 12, 0) := by decide +kernel
theorem k200_25 : look (codL 200) 25 = some (.iload_n 1, 1, 0, 0, 0) := by decide +kernel
theorem k200_26 : look (codL 200) 26 = some (.iaload, 1, 0, 0, 0) := by decide +kernel
theorem k200_27 : look (codL 200) 27 = some (.iconst (-1), 1, 0, 0, 0) := by decide +kernel
theorem k200_28 : look (codL 200) 28 = some (.aload_n 0, 1, 0, 0, 0) := by decide +kernel
theorem k200_29 : look (codL 200) 29 = some (.getfield 37, 3, 10, 13, 0) := by decide +kernel
theorem k200_32 : look (codL 200) 32 = some (.iload_n 1, 1, 0, 0, 0) := by decide +kernel
theorem k200_33 : look (codL 200) 33 = some (.iaload, 1, 0, 0, 0) := by decide +kernel
theorem k200_34 : look (codL 200) 34 = some (.isub, 1, 0, 0, 0) := by decide +kernel
theorem k200_35 : look (codL 200) 35 = some (.invokevirtual 240, 3, 199, 3, 0) := by decide +kernel
theorem k200_38 : look (codL 200) 38 = some (.return_, 1, 0, 0, 0) := by decide +kernel
theorem k200_39 : look (codL 200) 39 = some (.aload_n 0, 1, 0, 0, 0) := by decide +kernel
theorem k200_40 : look (codL 200) 40 = some (.getfield 37, 3, 10, 13, 0) := by decide +kernel
theorem k200_43 : look (codL 200) 43 = some (.iload_n 1, 1, 0, 0, 0) := by decide +kernel
theorem k200_44 : look (codL 200) 44 = some (.iaload, 1, 0, 0, 0) := by decide +kernel
theorem k200_45 : look (codL 200) 45 = some (.invokestatic 237, 3, 198, 1, 0) := by decide +kernel
theorem k200_48 : look (codL 200) 48 = some (.istore_n 3, 1, 0, 0, 0) := by decide +kernel
theorem k200_49 : look (codL 200) 49 = some (.iconst 0, 1, 0, 0, 0) := by decide +kernel
theorem k200_50 : look (codL 200) 50 = some (.istore 4, 2, 0, 0, 0) := by decide +kernel
theorem k200_52 : look (codL 200) 52 = some (.iload 4, 2, 0, 0, 0) := by decide +kernel
theorem k200_54 : look (codL 200) 54 = some (.aload_n 0, 1, 0, 0, 0) := by decide +kernel
theorem k200_55 : look (codL 200) 55 = some (.getfield 34, 3, 10, 12, 0) := by decide +kernel
theorem k200_58 : look (codL 200) 58 = some (.iload_n 1, 1, 0, 0, 0) := by decide +kernel
theorem k200_59 : look (codL 200) 59 = some (.iaload, 1, 0, 0, 0) := by decide +kernel
theorem k200_60 : look (codL 200) 60 = some (.invokestatic 71, 3, 139, 1, 0) := by decide +kernel
theorem k200_63 : look (codL 200) 63 = some (.if_icmp .ge 71, 3, 0, 0, 0) := by decide +kernel
theorem k200_66 : look (codL 200) 66 = some (.aload_n 0, 1, 0, 0, 0) := by decide +kernel
theorem k200_67 : look (codL 200) 67 = some (.getfield 56, 3, 10, 20, 0) := by decide +kernel
theorem k200_70 : look (codL 200) 70 = some (.iload_n 2, 1, 0, 0, 0) := by decide +kernel
theorem k200_71 : look (codL 200) 71 = some (.iload 4, 2, 0, 0, 0) := by decide +kernel
theorem k200_73 : look (codL 200) 73 = some (.iadd, 1, 0, 0, 0) := by decide +kernel
theorem k200_74 : look (codL 200) 74 = some (.iaload, 1, 0, 0, 0) := by decide +kernel
theorem k200_75 : look (codL 200) 75 = some (.istore 5, 2, 0, 0, 0) := by decide +kernel
theorem k200_77 : look (codL 200) 77 = some (.aload_n 0, 1, 0, 0, 0) := by decide +kernel
theorem k200_78 : look (codL 200) 78 = some (.getfield 56, 3, 10, 20, 0) := by decide +kernel
theorem k200_81 : look (codL 200) 81 = some (.iload_n 2, 1, 0, 0, 0) := by decide +kernel
theorem k200_82 : look (codL 200) 82 = some (.iload 4, 2, 0, 0, 0) := by decide +kernel
theorem k200_84 : look (codL 200) 84 = some (.iadd, 1, 0, 0, 0) := by decide +kernel
theorem k200_85 : look (codL 200) 85 = some (.aload_n 0, 1, 0, 0, 0) := by decide +kernel
theorem k200_86 : look (codL 200) 86 = some (.getfield 56, 3, 10, 20, 0) := by decide +kernel
theorem k200_89 : look (codL 200) 89 = some (.iload_n 3, 1, 0, 0, 0) := by decide +kernel
theorem k200_90 : look (codL 200) 90 = some (.iload 4, 2, 0, 0, 0) := by decide +kernel
theorem k200_92 : look (codL 200) 92 = some (.iadd, 1, 0, 0, 0) := by decide +kernel
theorem k200_93 : look (codL 200) 93 = some (.iaload, 1, 0, 0, 0) := by decide +kernel
theorem k200_94 : look (codL 200) 94 = some (.iastore, 1, 0, 0, 0) := by decide +kernel
theorem k200_95 : look (codL 200) 95 = some (.aload_n 0, 1, 0, 0, 0) := by decide +kernel
theorem k200_96 : look (codL 200) 96 = some (.getfield 56, 3, 10, 20, 0) := by decide +kernel
theorem k200_99 : look (codL 200) 99 = some (.iload_n 3, 1, 0, 0, 0) := by decide +kernel
theorem k200_100 : look (codL 200) 100 = some (.iload 4, 2, 0, 0, 0) := by decide +kernel
theorem k200_102 : look (codL 200) 102 = some (.iadd, 1, 0, 0, 0) := by decide +kernel
theorem k200_103 : look (codL 200) 103 = some (.aload_n 0, 1, 0, 0, 0) := by decide +kernel
theorem k200_104 : look (codL 200) 104 = some (.getfield 31, 3, 10, 11, 0) := by decide +kernel
theorem k200_107 : look (codL 200) 107 = some (.iload_n 1, 1, 0, 0, 0) := by decide +kernel
theorem k200_108 : look (codL 200) 108 = some (.iaload, 1, 0, 0, 0) := by decide +kernel
theorem k200_109 : look (codL 200) 109 = some (.iconst 1, 1, 0, 0, 0) := by decide +kernel
theorem k200_110 : look (codL 200) 110 = some (.if_icmp .ne 8, 3, 0, 0, 0) := by decide +kernel
theorem k200_113 : look (codL 200) 113 = some (.iload 5, 2, 0, 0, 0) := by decide +kernel
theorem k200_115 : look (codL 200) 115 = some (.goto 12, 3, 0, 0, 0) := by decide +kernel
theorem k200_118 : look (codL 200) 118 = some (.aload_n 0, 1, 0, 0, 0) := by decide +kernel
theorem k200_119 : look (codL 200) 119 = some (.getfield 56, 3, 10, 20, 0) := by decide +kernel
theorem k200_122 : look (codL 200) 122 = some (.iload_n 3, 1, 0, 0, 0) := by decide +kernel
theorem k200_123 : look (codL 200) 123 = some (.iload 4, 2, 0, 0, 0) := by decide +kernel
theorem k200_125 : look (codL 200) 125 = some (.iadd, 1, 0, 0, 0) := by decide +kernel
theorem k200_126 : look (codL 200) 126 = some (.iaload, 1, 0, 0, 0) := by decide +kernel
theorem k200_127 : look (codL 200) 127 = some (.iastore, 1, 0, 0, 0) := by decide +kernel
theorem k200_128 : look (codL 200) 128 = some (.iinc 4 1, 3, 0, 0, 0) := by decide +kernel
theorem k200_131 : look (codL 200) 131 = some (.goto (-79), 3, 0, 0, 0) := by decide +kernel
theorem k200_134 : look (codL 200) 134 = some (.return_, 1, 0, 0, 0) := by decide +kernel
theorem k201_0 : look (codL 201) 0 = some (.iconst 0, 1, 0, 0, 0) := by decide +kernel
theorem k201_1 : look (codL 201) 1 = some (.istore_n 2, 1, 0, 0, 0) := by decide +kernel
theorem k201_2 : look (codL 201) 2 = some (.iload_n 2, 1, 0, 0, 0) := by decide +kernel
theorem k201_3 : look (codL 201) 3 = some (.bipush 32, 2, 0, 0, 0) := by decide +kernel
theorem k201_5 : look (codL 201) 5 = some (.if_icmp .ge 21, 3, 0, 0, 0) := by decide +kernel
theorem k201_8 : look (codL 201) 8 = some (.aload_n 0, 1, 0, 0, 0) := by decide +kernel
theorem k201_9 : look (codL 201) 9 = some (.getfield 59, 3, 10, 21, 0) := by decide +kernel
theorem k201_12 : look (codL 201) 12 = some (.iload_n 2, 1, 0, 0, 0) := by decide +kernel
theorem k201_13 : look (codL 201) 13 = some (.aload_n 0, 1, 0, 0, 0) := by decide +kernel
theorem k201_14 : look (codL 201) 14 = some (.getfield 56, 3, 10, 20, 0) := by decide +kernel
theorem k201_17 : look (codL 201) 17 = some (.iload_n 2, 1, 0, 0, 0) := by decide +kernel
theorem k201_18 : look (codL 201) 18 = some (.iaload, 1, 0, 0, 0) := by decide +kernel
theorem k201_19 : look (codL 201) 19 = some (.iastore, 1, 0, 0, 0) := by decide +kernel
theorem k201_20 : look (codL 201) 20 = some (.iinc 2 1, 3, 0, 0, 0) := by decide +kernel
theorem k201_23 : look (codL 201) 23 = some (.goto (-21), 3, 0, 0, 0) := by decide +kernel
theorem k201_26 : look (codL 201) 26 = some (.iconst 0, 1, 0, 0, 0) := by decide +kernel
theorem k201_27 : look (codL 201) 27 = some (.istore_n 2, 1, 0, 0, 0) := by decide +kernel
theorem k201_28 : look (codL 201) 28 = some (.iload_n 2, 1, 0, 0, 0) := by decide +kernel
theorem k201_29 : look (codL 201) 29 = some (.aload_n 0, 1, 0, 0, 0) := by decide +kernel
theorem k201_30 : look (codL 201) 30 = some (.iload_n 1, 1, 0, 0, 0) := by decide +kernel
theorem k201_31 : look (codL 201) 31 = some (.invokevirtual 133, 3, 148, 2, 0) := by decide +kernel
theorem k201_34 : look (codL 201) 34 = some (.if_icmp .ge 84, 3, 0, 0, 0) := by decide +kernel
theorem k201_37 : look (codL 201) 37 = some (.aload_n 0, 1, 0, 0, 0) := by decide +kernel
theorem k201_38 : look (codL 201) 38 = some (.iload_n 1, 1, 0, 0, 0) := by decide +kernel
theorem k201_39 : look (codL 201) 39 = some (.iload_n 2, 1, 0, 0, 0) := by decide +kernel
theorem k201_40 : look (codL 201) 40 = some (.invokevirtual 127, 3, 147, 3, 0) := by decide +kernel
theorem k201_43 : look (codL 201) 43 = some (.istore_n 3, 1, 0, 0, 0) := by decide +kernel
theorem k201_44 : look (codL 201) 44 = some (.aload_n 0, 1, 0, 0, 0) := by decide +kernel
theorem k201_45 : look (codL 201) 45 = some (.iload_n 1, 1, 0, 0, 0) := by decide +kernel
theorem k201_46 : look (codL 201) 46 = some (.iload_n 2, 1, 0, 0, 0) := by decide +kernel
theorem k201_47 : look (codL 201) 47 = some (.invokevirtual 139, 3, 149, 3, 0) := by decide +kernel
theorem k201_50 : look (codL 201) 50 = some (.istore 4, 2, 0, 0, 0) := by decide +kernel
theorem k201_52 : look (codL 201) 52 = some (.iload 4, 2, 0, 0, 0) := by decide +kernel
theorem k201_54 : look (codL 201) 54 = some (.ifCond .ge 15, 3, 0, 0, 0) := by decide +kernel
theorem k201_57 : look (codL 201) 57 = some (.aload_n 0, 1, 0, 0, 0) := by decide +kernel
theorem k201_58 : look (codL 201) 58 = some (.iload_n 3, 1, 0, 0, 0) := by decide +kernel
theorem k201_59 : look (codL 201) 59 = some (.iconst (-1), 1, 0, 0, 0) := by decide +kernel
theorem k201_60 : look (codL 201) 60 = some (.iload 4, 2, 0, 0, 0) := by decide +kernel
theorem k201_62 : look (codL 201) 62 = some (.isub, 1, 0, 0, 0) := by decide +kernel
theorem k201_63 : look (codL 201) 63 = some (.invokevirtual 240, 3, 199, 3, 0) := by decide +kernel
theorem k201_66 : look (codL 201) 66 = some (.goto 46, 3, 0, 0, 0) := by decide +kernel
theorem k201_69 : look (codL 201) 69 = some (.iconst 0, 1, 0, 0, 0) := by decide +kernel
theorem k201_70 : look (codL 201) 70 = some (.istore 5, 2, 0, 0, 0) := by decide +kernel
theorem k201_72 : look (codL 201) 72 = some (.iload 5, 2, 0, 0, 0) := by decide +kernel
theorem k201_74 : look (codL 201) 74 = some (.iload_n 3, 1, 0, 0, 0) := by decide +kernel
theorem k201_75 : look (codL 201) 75 = some (.invokestatic 71, 3, 139, 1, 0) := by decide +kernel
theorem k201_78 : look (codL 201) 78 = some (.if_icmp .ge 34, 3, 0, 0, 0) := by decide +kernel
theorem k201_81 : look (codL 201) 81 = some (.aload_n 0, 1, 0, 0, 0) := by decide +kernel
theorem k201_82 : look (codL 201) 82 = some (.getfield 56, 3, 10, 20, 0) := by decide +kernel
theorem k201_85 : look (codL 201) 85 = some (.iload_n 3, 1, 0, 0, 0) := by decide +kernel
theorem k201_86 : look (codL 201) 86 = some (.invokestatic 79, 3, 140, 1, 0) := by decide +kernel
theorem k201_89 : look (codL 201) 89 = some (.iload 5, 2, 0, 0, 0) := by decide +kernel
theorem k201_91 : look (codL 201) 91 = some (.iadd, 1, 0, 0, 0) := by decide +kernel
theorem k201_92 : look (codL 201) 92 = some (.aload_n 0, 1, 0, 0, 0) := by decide +kernel
theorem k201_93 : look (codL 201) 93 = some (.getfield 59, 3, 10, 21, 0) := by decide +kernel
theorem k201_96 : look (codL 201) 96 = some (.iload 4, 2, 0, 0, 0) := by decide +kernel
theorem k201_98 : look (codL 201) 98 = some (.invokestatic 79, 3, 140, 1, 0) := by decide +kernel
theorem k201_101 : look (codL 201) 101 = some (.iload 5, 2, 0, 0, 0) := by decide +kernel
theorem k201_103 : look (codL 201) 103 = some (.iadd, 1, 0, 0, 0) := by decide +kernel
theorem k201_104 : look (codL 201) 104 = some (.iaload, 1, 0, 0, 0) := by decide +kernel
theorem k201_105 : look (codL 201) 105 = some (.iastore, 1, 0, 0, 0) := by decide +kernel
theorem k201_106 : look (codL 201) 106 = some (.iinc 5 1, 3, 0, 0, 0) := by decide +kernel
theorem k201_109 : look (codL 201) 109 = some (.goto (-37), 3, 0, 0, 0) := by decide +kernel
theorem k201_112 : look (codL 201) 112 = some (.iinc 2 1, 3, 0, 0, 0) := by decide +kernel
theorem k201_115 : look (codL 201) 115 = some (.goto (-87), 3, 0, 0, 0) := by decide +kernel
theorem k201_118 : look (codL 201) 118 = some (.return_, 1, 0, 0, 0) := by decide +kernel
theorem k202_0 : look (codL 202) 0 = some (.aload_n 0, 1, 0, 0, 0) := by decide +kernel
theorem k202_1 : look (codL 202) 1 = some (.iload_n 1, 1, 0, 0, 0) := by decide +kernel
theorem k202_2 : look (codL 202) 2 = some (.invokevirtual 130, 3, 146, 2, 0) := by decide +kernel
theorem k202_5 : look (codL 202) 5 = some (.ifCond .eq 22, 3, 0, 0, 0) := by decide +kernel
theorem k202_8 : look (codL 202) 8 = some (.iload_n 2, 1, 0, 0, 0) := by decide +kernel
theorem k202_9 : look (codL 202) 9 = some (.iconst 0, 1, 0, 0, 0) := by decide +kernel
theorem k202_10 : look (codL 202) 10 = some (.ldc 243, 2, 0, 0, 999999) := by decide +kernel
theorem k202_12 : look (codL 202) 12 = some (.invokestatic 90, 3, 138, 3, 0) := by decide +kernel
theorem k202_15 : look (codL 202) 15 = some (.ifCond .eq 12, 3, 0, 0, 0) := by decide +kernel
theorem k202_18 : look (codL 202) 18 = some (.iload_n 3, 1, 0, 0, 0) := by decide +kernel
theorem k202_19 : look (codL 202) 19 = some (.iconst 0, 1, 0, 0, 0) := by decide +kernel
theorem k202_20 : look (codL 202) 20 = some (.iconst 1, 1, 0, 0, 0) := by decide +kernel
theorem k202_21 : look (codL 202) 21 = some (.invokestatic 90, 3, 138, 3, 0) := by decide +kernel
theorem k202_24 : look (codL 202) 24 = some (.ifCond .ne 9, 3, 0, 0, 0) := by decide +kernel
theorem k202_27 : look (codL 202) 27 = some (.aload_n 0, 1, 0, 0, 0) := by decide +kernel
theorem k202_28 : look (codL 202) 28 = some (.invokevirtual 110, 3, 135, 1, 0) := by decide +kernel
theorem k202_31 : look (codL 202) 31 = some (.i2l, 1, 0, 0, 0) := by decide +kernel
theorem k202_32 : look (codL 202) 32 = some (.lreturn, 1, 0, 0, 0) := by decide +kernel
theorem k202_33 : look (codL 202) 33 = some (.aload_n 0, 1, 0, 0, 0) := by decide +kernel
theorem k202_34 : look (codL 202) 34 = some (.iload_n 1, 1, 0, 0, 0) := by decide +kernel
theorem k202_35 : look (codL 202) 35 = some (.invokevirtual 160, 3, 167, 2, 0) := by decide +kernel
theorem k202_38 : look (codL 202) 38 = some (.ifCond .ne 9, 3, 0, 0, 0) := by decide +kernel
theorem k202_41 : look (codL 202) 41 = some (.aload_n 0, 1, 0, 0, 0) := by decide +kernel
theorem k202_42 : look (codL 202) 42 = some (.invokevirtual 116, 3, 136, 1, 0) := by decide +kernel
theorem k202_45 : look (codL 202) 45 = some (.i2l, 1, 0, 0, 0) := by decide +kernel
theorem k202_46 : look (codL 202) 46 = some (.lreturn, 1, 0, 0, 0) := by decide +kernel
theorem k202_47 : look (codL 202) 47 = some (.iload_n 2, 1, 0, 0, 0) := by decide +kernel
theorem k202_48 : look (codL 202) 48 = some (.i2l, 1, 0, 0, 0) := by decide +kernel
theorem k202_49 : look (codL 202) 49 = some (.lstore 4, 2, 0, 0, 0) := by decide +kernel
theorem k202_51 : look (codL 202) 51 = some (.iconst 0, 1, 0, 0, 0) := by decide +kernel
theorem k202_52 : look (codL 202) 52 = some (.istore 6, 2, 0, 0, 0) := by decide +kernel
theorem k202_54 : look (codL 202) 54 = some (.iload 6, 2, 0, 0, 0) := by decide +kernel
theorem k202_56 : look (codL 202) 56 = some (.bipush 32, 2, 0, 0, 0) := by decide +kernel
theorem k202_58 : look (codL 202) 58 = some (.if_icmp .ge 34, 3, 0, 0, 0) := by decide +kernel
theorem k202_61 : look (codL 202) 61 = some (.lload 4, 2, 0, 0, 0) := by decide +kernel
theorem k202_63 : look (codL 202) 63 = some (.invokestatic 244, 3, 197, 1, 0) := by decide +kernel
theorem k202_66 : look (codL 202) 66 = some (.lstore 4, 2, 0, 0, 0) := by decide +kernel
theorem k202_68 : look (codL 202) 68 = some (.aload_n 0, 1, 0, 0, 0) := by decide +kernel
theorem k202_69 : look (codL 202) 69 = some (.getfield 56, 3, 10, 20, 0) := by decide +kernel
theorem k202_72 : look (codL 202) 72 = some (.iload 6, 2, 0, 0, 0) := by decide +kernel
theorem k202_74 : look (codL 202) 74 = some (.lload 4, 2, 0, 0, 0) := by decide +kernel
theorem k202_76 : look (codL 202) 76 = some (.ldc2_w 248, 3, 0, 0, 65536) := by decide +kernel
theorem k202_79 : look (codL 202) 79 = some (.ldiv, 1, 0, 0, 0) := by decide +kernel
theorem k202_80 : look (codL 202) 80 = some (.ldc2_w 250, 3, 0, 0, 256) := by decide +kernel
theorem k202_83 : look (codL 202) 83 = some (.lrem, 1, 0, 0, 0) := by decide +kernel
theorem k202_84 : look (codL 202) 84 = some (.l2i, 1, 0, 0, 0) := by decide +kernel
theorem k202_85 : look (codL 202) 85 = some (.iastore, 1, 0, 0, 0) := by decide +kernel
theorem k202_86 : look (codL 202) 86 = some (.iinc 6 1, 3, 0, 0, 0) := by decide +kernel
theorem k202_89 : look (codL 202) 89 = some (.goto (-35), 3, 0, 0, 0) := by decide +kernel
theorem k202_92 : look (codL 202) 92 = some (.iload_n 3, 1, 0, 0, 0) := by decide +kernel
theorem k202_93 : look (codL 202) 93 = some (.ifCond .ne 11, 3, 0, 0, 0) := by decide +kernel
theorem k202_96 : look (codL 202) 96 = some (.aload_n 0, 1, 0, 0, 0) := by decide +kernel
theorem k202_97 : look (codL 202) 97 = some (.iload_n 1, 1, 0, 0, 0) := by decide +kernel
theorem k202_98 : look (codL 202) 98 = some (.invokevirtual 252, 3, 201, 2, 0) := by decide +kernel
theorem k202_101 : look (codL 202) 101 = some (.goto 36, 3, 0, 0, 0) := by decide +kernel
theorem k202_104 : look (codL 202) 104 = some (.aload_n 0, 1, 0, 0, 0) := by decide +kernel
theorem k202_105 : look (codL 202) 105 = some (.iload_n 1, 1, 0, 0, 0) := by decide +kernel
theorem k202_106 : look (codL 202) 106 = some (.aload_n 0, 1, 0, 0, 0) := by decide +kernel
theorem k202_107 : look (codL 202) 107 = some (.getfield 142, 3, 10, 3, 0) := by decide +kernel
theorem k202_110 : look (codL 202) 110 = some (.invokevirtual 206, 3, 183, 3, 0) := by decide +kernel
theorem k202_113 : look (codL 202) 113 = some (.iconst 0, 1, 0, 0, 0) := by decide +kernel
theorem k202_114 : look (codL 202) 114 = some (.istore 6, 2, 0, 0, 0) := by decide +kernel
theorem k202_116 : look (codL 202) 116 = some (.iload 6, 2, 0, 0, 0) := by decide +kernel
theorem k202_118 : look (codL 202) 118 = some (.aload_n 0, 1, 0, 0, 0) := by decide +kernel
theorem k202_119 : look (codL 202) 119 = some (.getfield 166, 3, 10, 10, 0) := by decide +kernel
theorem k202_122 : look (codL 202) 122 = some (.if_icmp .ge 15, 3, 0, 0, 0) := by decide +kernel
theorem k202_125 : look (codL 202) 125 = some (.aload_n 0, 1, 0, 0, 0) := by decide +kernel
theorem k202_126 : look (codL 202) 126 = some (.iload 6, 2, 0, 0, 0) := by decide +kernel
theorem k202_128 : look (codL 202) 128 = some (.invokevirtual 255, 3, 200, 2, 0) := by decide +kernel
theorem k202_131 : look (codL 202) 131 = some (.iinc 6 1, 3, 0, 0, 0) := by decide +kernel
theorem k202_134 : look (codL 202) 134 = some (.goto (-18), 3, 0, 0, 0) := by decide +kernel
theorem k202_137 : look (codL 202) 137 = some (.lconst 1, 1, 0, 0, 0) := by decide +kernel
theorem k202_138 : look (codL 202) 138 = some (.lstore 6, 2, 0, 0, 0) := by decide +kernel
theorem k202_140 : look (codL 202) 140 = some (.iconst 0, 1, 0, 0, 0) := by decide +kernel
theorem k202_141 : look (codL 202) 141 = some (.istore 8, 2, 0, 0, 0) := by decide +kernel
theorem k202_143 : look (codL 202) 143 = some (.iload 8, 2, 0, 0, 0) := by decide +kernel
theorem k202_145 : look (codL 202) 145 = some (.bipush 32, 2, 0, 0, 0) := by decide +kernel
theorem k202_147 : look (codL 202) 147 = some (.if_icmp .ge 26, 3, 0, 0, 0) := by decide +kernel
theorem k202_150 : look (codL 202) 150 = some (.ldc2_w 258, 3, 0, 0, 31) := by decide +kernel
theorem k202_153 : look (codL 202) 153 = some (.lload 6, 2, 0, 0, 0) := by decide +kernel
theorem k202_155 : look (codL 202) 155 = some (.lmul, 1, 0, 0, 0) := by decide +kernel
theorem k202_156 : look (codL 202) 156 = some (.aload_n 0, 1, 0, 0, 0) := by decide +kernel
theorem k202_157 : look (codL 202) 157 = some (.getfield 56, 3, 10, 20, 0) := by decide +kernel
theorem k202_160 : look (codL 202) 160 = some (.iload 8, 2, 0, 0, 0) := by decide +kernel
theorem k202_162 : look (codL 202) 162 = some (.iaload, 1, 0, 0, 0) := by decide +kernel
theorem k202_163 : look (codL 202) 163 = some (.i2l, 1, 0, 0, 0) := by decide +kernel
theorem k202_164 : look (codL 202) 164 = some (.ladd, 1, 0, 0, 0) := by decide +kernel
theorem k202_165 : look (codL 202) 165 = some (.lstore 6, 2, 0, 0, 0) := by decide +kernel
theorem k202_167 : look (codL 202) 167 = some (.iinc 8 1, 3, 0, 0, 0) := by decide +kernel
theorem k202_170 : look (codL 202) 170 = some (.goto (-27), 3, 0, 0, 0) := by decide +kernel
theorem k202_173 : look (codL 202) 173 = some (.lload 6, 2, 0, 0, 0) := by decide +kernel
theorem k202_175 : look (codL 202) 175 = some (.lreturn, 1, 0, 0, 0) := by decide +kernel
theorem k203_0 : look (codL 203) 0 = some (.iload_n 1, 1, 0, 0, 0) := by decide +kernel
theorem k203_1 : look (codL 203) 1 = some (.iconst 0, 1, 0, 0, 0) := by decide +kernel
theorem k203_2 : look (codL 203) 2 = some (.iconst 3, 1, 0, 0, 0) := by decide +kernel
theorem k203_3 : look (codL 203) 3 = some (.invokestatic 90, 3, 138, 3, 0) := by decide +kernel
theorem k203_6 : look (codL 203) 6 = some (.ifCond .ne 8, 3, 0, 0, 0) := by decide +kernel
theorem k203_9 : look (codL 203) 9 = some (.aload_n 0, 1, 0, 0, 0) := by decide +kernel
theorem k203_10 : look (codL 203) 10 = some (.invokevirtual 110, 3, 135, 1, 0) := by decide +kernel
theorem k203_13 : look (codL 203) 13 = some (.ireturn, 1, 0, 0, 0) := by decide +kernel
theorem k203_14 : look (codL 203) 14 = some (.iconst 0, 1, 0, 0, 0) := by decide +kernel
theorem k203_15 : look (codL 203) 15 = some (.istore_n 2, 1, 0, 0, 0) := by decide +kernel
theorem k203_16 : look (codL 203) 16 = some (.iconst 0, 1, 0, 0, 0) := by decide +kernel
theorem k203_17 : look (codL 203) 17 = some (.istore_n 3, 1, 0, 0, 0) := by decide +kernel
theorem k203_18 : look (codL 203) 18 = some (.iload_n 3, 1, 0, 0, 0) := by decide +kernel
theorem k203_19 : look (codL 203) 19 = some (.aload_n 0, 1, 0, 0, 0) := by decide +kernel
theorem k203_20 : look (codL 203) 20 = some (.getfield 94, 3, 10, 2, 0) := by decide +kernel
theorem k203_23 : look (codL 203) 23 = some (.if_icmp .ge 132, 3, 0, 0, 0) := by decide +kernel
theorem k203_26 : look (codL 203) 26 = some (.aload_n 0, 1, 0, 0, 0) := by decide +kernel
theorem k203_27 : look (codL 203) 27 = some (.iload_n 3, 1, 0, 0, 0) := by decide +kernel
theorem k203_28 : look (codL 203) 28 = some (.invokevirtual 160, 3, 167, 2, 0) := by decide +kernel
theorem k203_31 : look (codL 203) 31 = some (.istore 4, 2, 0, 0, 0) := by decide +kernel
theorem k203_33 : look (codL 203) 33 = some (.iload 4, 2, 0, 0, 0) := by decide +kernel
theorem k203_35 : look (codL 203) 35 = some (.ifCond .eq 15, 3, 0, 0, 0) := by decide +kernel
theorem k203_38 : look (codL 203) 38 = some (.aload_n 0, 1, 0, 0, 0) := by decide +kernel
theorem k203_39 : look (codL 203) 39 = some (.iload_n 3, 1, 0, 0, 0) := by decide +kernel
theorem k203_40 : look (codL 203) 40 = some (.aload_n 0, 1, 0, 0, 0) := by decide +kernel
theorem k203_41 : look (codL 203) 41 = some (.getfield 142, 3, 10, 3, 0) := by decide +kernel
theorem k203_44 : look (codL 203) 44 = some (.invokevirtual 212, 3, 184, 3, 0) := by decide +kernel
theorem k203_47 : look (codL 203) 47 = some (.goto 4, 3, 0, 0, 0) := by decide +kernel
theorem k203_50 : look (codL 203) 50 = some (.iconst 0, 1, 0, 0, 0) := by decide +kernel
theorem k203_51 : look (codL 203) 51 = some (.istore 5, 2, 0, 0, 0) := by decide +kernel
theorem k203_53 : look (codL 203) 53 = some (.iload 4, 2, 0, 0, 0) := by decide +kernel
theorem k203_55 : look (codL 203) 55 = some (.ifCond .eq 23, 3, 0, 0, 0) := by decide +kernel
theorem k203_58 : look (codL 203) 58 = some (.aload_n 0, 1, 0, 0, 0) := by decide +kernel
theorem k203_59 : look (codL 203) 59 = some (.getfield 166, 3, 10, 10, 0) := by decide +kernel
theorem k203_62 : look (codL 203) 62 = some (.ifCond .le 16, 3, 0, 0, 0) := by decide +kernel
theorem k203_65 : look (codL 203) 65 = some (.aload_n 0, 1, 0, 0, 0) := by decide +kernel
theorem k203_66 : look (codL 203) 66 = some (.iload_n 3, 1, 0, 0, 0) := by decide +kernel
theorem k203_67 : look (codL 203) 67 = some (.invokevirtual 163, 3, 164, 2, 0) := by decide +kernel
theorem k203_70 : look (codL 203) 70 = some (.iconst 2, 1, 0, 0, 0) := by decide +kernel
theorem k203_71 : look (codL 203) 71 = some (.if_icmp .ne 7, 3, 0, 0, 0) := by decide +kernel
theorem k203_74 : look (codL 203) 74 = some (.iconst 1, 1, 0, 0, 0) := by decide +kernel
theorem k203_75 : look (codL 203) 75 = some (.goto 4, 3, 0, 0, 0) := by decide +kernel
theorem k203_78 : look (codL 203) 78 = some (.iconst 0, 1, 0, 0, 0) := by decide +kernel
theorem k203_79 : look (codL 203) 79 = some (.istore 6, 2, 0, 0, 0) := by decide +kernel
theorem k203_81 : look (codL 203) 81 = some (.iload_n 2, 1, 0, 0, 0) := by decide +kernel
theorem k203_82 : look (codL 203) 82 = some (.iload_n 1, 1, 0, 0, 0) := by decide +kernel
theorem k203_83 : look (codL 203) 83 = some (.ifCond .ne 15, 3, 0, 0, 0) := by decide +kernel
theorem k203_86 : look (codL 203) 86 = some (.iload 5, 2, 0, 0, 0) := by decide +kernel
theorem k203_88 : look (codL 203) 88 = some (.aload_n 0, 1, 0, 0, 0) := by decide +kernel
theorem k203_89 : look (codL 203) 89 = some (.getfield 25, 3, 10, 8, 0) := by decide +kernel
theorem k203_92 : look (codL 203) 92 = some (.iload_n 3, 1, 0, 0, 0) := by decide +kernel
theorem k203_93 : look (codL 203) 93 = some (.iaload, 1, 0, 0, 0) := by decide +kernel
theorem k203_94 : look (codL 203) 94 = some (.imul, 1, 0, 0, 0) := by decide +kernel
theorem k203_95 : look (codL 203) 95 = some (.goto 52, 3, 0, 0, 0) := by decide +kernel
theorem k203_98 : look (codL 203) 98 = some (.iload_n 1, 1, 0, 0, 0) := by decide +kernel
theorem k203_99 : look (codL 203) 99 = some (.iconst 1, 1, 0, 0, 0) := by decide +kernel
theorem k203_100 : look (codL 203) 100 = some (.if_icmp .ne 16, 3, 0, 0, 0) := by decide +kernel
theorem k203_103 : look (codL 203) 103 = some (.iload 6, 2, 0, 0, 0) := by decide +kernel
theorem k203_105 : look (codL 203) 105 = some (.ifCond .eq 7, 3, 0, 0, 0) := by decide +kernel
theorem k203_108 : look (codL 203) 108 = some (.iconst 1, 1, 0, 0, 0) := by decide +kernel
theorem k203_109 : look (codL 203) 109 = some (.goto 38, 3, 0, 0, 0) := by decide +kernel
theorem k203_112 : look (codL 203) 112 = some (.iconst 0, 1, 0, 0, 0) := by decide +kernel
theorem k203_113 : look (codL 203) 113 = some (.goto 34, 3, 0, 0, 0) := by decide +kernel
theorem k203_116 : look (codL 203) 116 = some (.iload_n 1, 1, 0, 0, 0) := by decide +kernel
theorem k203_117 : look (codL 203) 117 = some (.iconst 2, 1, 0, 0, 0) := by decide +kernel
theorem k203_118 : look (codL 203) 118 = some (.if_icmp .ne 16, 3, 0, 0, 0) := by decide +kernel
theorem k203_121 : look (codL 203) 121 = some (.iload 4, 2, 0, 0, 0) := by decide +kernel
theorem k203_123 : look (codL 203) 123 = some (.ifCond .eq 7, 3, 0, 0, 0) := by decide +kernel
theorem k203_126 : look (codL 203) 126 = some (.iconst 0, 1, 0, 0, 0) := by decide +kernel
theorem k203_127 : look (codL 203) 127 = some (.goto 20, 3, 0, 0, 0) := by decide +kernel
theorem k203_130 : look (codL 203) 130 = some (.iconst 1, 1, 0, 0, 0) := by decide +kernel
theorem k203_131 : look (codL 203) 131 = some (.goto 16, 3, 0, 0, 0) := by decide +kernel
theorem k203_134 : look (codL 203) 134 = some (.iload 4, 2, 0, 0, 0) := by decide +kernel
theorem k203_136 : look (codL 203) 136 = some (.ifCond .eq 10, 3, 0, 0, 0) := by decide +kernel
theorem k203_139 : look (codL 203) 139 = some (.aload_n 0, 1, 0, 0, 0) := by decide +kernel
theorem k203_140 : look (codL 203) 140 = some (.getfield 166, 3, 10, 10, 0) := by decide +kernel
theorem k203_143 : look (codL 203) 143 = some (.goto 4, 3, 0, 0, 0) := by decide +kernel
theorem k203_146 : look (codL 203) 146 = some (.iconst 0, 1, 0, 0, 0) := by decide +kernel
theorem k203_147 : look (codL 203) 147 = some (.iadd, 1, 0, 0, 0) := by decide +kernel
theorem k203_148 : look (codL 203) 148 = some (.istore_n 2, 1, 0, 0, 0) := by decide +kernel
theorem k203_149 : look (codL 203) 149 = some (.iinc 3 1, 3, 0, 0, 0) := by decide +kernel
theorem k203_152 : look (codL 203) 152 = some (.goto (-134), 3, 0, 0, 0) := by decide +kernel
theorem k203_155 : look (codL 203) 155 = some (.iload_n 2, 1, 0, 0, 0) := by decide +kernel
theorem k203_156 : look (codL 203) 156 = some (.ireturn, 1, 0, 0, 0) := by decide +kernel
theorem k204_0 : look (codL 204) 0 = some (.sipush (-201), 3, 0, 0, 0) := by decide +kernel
theorem k204_3 : look (codL 204) 3 = some (.istore_n 1, 1, 0, 0, 0) := by decide +kernel
theorem k204_4 : look (codL 204) 4 = some (.iconst (-1), 1, 0, 0, 0) := by decide +kernel
theorem k204_5 : look (codL 204) 5 = some (.istore_n 2, 1, 0, 0, 0) := by decide +kernel
theorem k204_6 : look (codL 204) 6 = some (.iconst 0, 1, 0, 0, 0) := by decide +kernel
theorem k204_7 : look (codL 204) 7 = some (.istore_n 3, 1, 0, 0, 0) := by decide +kernel
theorem k204_8 : look (codL 204) 8 = some (.iload_n 3, 1, 0, 0, 0) := by decide +kernel
theorem k204_9 : look (codL 204) 9 = some (.aload_n 0, 1, 0, 0, 0) := by decide +kernel
theorem k204_10 : look (codL 204) 10 = some (.getfield 94, 3, 10, 2, 0) := by decide +kernel
theorem k204_13 : look (codL 204) 13 = some (.if_icmp .ge 64, 3, 0, 0, 0) := by decide +kernel
theorem k204_16 : look (codL 204) 16 = some (.aload_n 0, 1, 0, 0, 0) := by decide +kernel
theorem k204_17 : look (codL 204) 17 = some (.iload_n 3, 1, 0, 0, 0) := by decide +kernel
theorem k204_18 : look (codL 204) 18 = some (.invokevirtual 160, 3, 167, 2, 0) := by decide +kernel
theorem k204_21 : look (codL 204) 21 = some (.ifCond .eq 22, 3, 0, 0, 0) := by decide +kernel
theorem k204_24 : look (codL 204) 24 = some (.aload_n 0, 1, 0, 0, 0) := by decide +kernel
theorem k204_25 : look (codL 204) 25 = some (.iload_n 3, 1, 0, 0, 0) := by decide +kernel
theorem k204_26 : look (codL 204) 26 = some (.aload_n 0, 1, 0, 0, 0) := by decide +kernel
theorem k204_27 : look (codL 204) 27 = some (.getfield 142, 3, 10, 3, 0) := by decide +kernel
theorem k204_30 : look (codL 204) 30 = some (.invokevirtual 212, 3, 184, 3, 0) := by decide +kernel
theorem k204_33 : look (codL 204) 33 = some (.aload_n 0, 1, 0, 0, 0) := by decide +kernel
theorem k204_34 : look (codL 204) 34 = some (.getfield 25, 3, 10, 8, 0) := by decide +kernel
theorem k204_37 : look (codL 204) 37 = some (.iload_n 3, 1, 0, 0, 0) := by decide +kernel
theorem k204_38 : look (codL 204) 38 = some (.iaload, 1, 0, 0, 0) := by decide +kernel
theorem k204_39 : look (codL 204) 39 = some (.imul, 1, 0, 0, 0) := by decide +kernel
theorem k204_40 : look (codL 204) 40 = some (.goto 4, 3, 0, 0, 0) := by decide +kernel
theorem k204_43 : look (codL 204) 43 = some (.iconst (-1), 1, 0, 0, 0) := by decide +kernel
theorem k204_44 : look (codL 204) 44 = some (.istore 4, 2, 0, 0, 0) := by decide +kernel
theorem k204_46 : look (codL 204) 46 = some (.iload 4, 2, 0, 0, 0) := by decide +kernel
theorem k204_48 : look (codL 204) 48 = some (.iload_n 2, 1, 0, 0, 0) := by decide +kernel
theorem k204_49 : look (codL 204) 49 = some (.if_icmp .le 7, 3, 0, 0, 0) := by decide +kernel
theorem k204_52 : look (codL 204) 52 = some (.iload_n 3, 1, 0, 0, 0) := by decide +kernel
theorem k204_53 : look (codL 204) 53 = some (.goto 4, 3, 0, 0, 0) := by decide +kernel
theorem k204_56 : look (codL 204) 56 = some (.iload_n 1, 1, 0, 0, 0) := by decide +kernel
theorem k204_57 : look (codL 204) 57 = some (.istore_n 1, 1, 0, 0, 0) := by decide +kernel
theorem k204_58 : look (codL 204) 58 = some (.iload 4, 2, 0, 0, 0) := by decide +kernel
theorem k204_60 : look (codL 204) 60 = some (.iload_n 2, 1, 0, 0, 0) := by decide +kernel
theorem k204_61 : look (codL 204) 61 = some (.if_icmp .le 8, 3, 0, 0, 0) := by decide +kernel
theorem k204_64 : look (codL 204) 64 = some (.iload 4, 2, 0, 0, 0) := by decide +kernel
theorem k204_66 : look (codL 204) 66 = some (.goto 4, 3, 0, 0, 0) := by decide +kernel
theorem k204_69 : look (codL 204) 69 = some (.iload_n 2, 1, 0, 0, 0) := by decide +kernel
theorem k204_70 : look (codL 204) 70 = some (.istore_n 2, 1, 0, 0, 0) := by decide +kernel
theorem k204_71 : look (codL 204) 71 = some (.iinc 3 1, 3, 0, 0, 0) := by decide +kernel
theorem k204_74 : look (codL 204) 74 = some (.goto (-66), 3, 0, 0, 0) := by decide +kernel
theorem k204_77 : look (codL 204) 77 = some (.iload_n 1, 1, 0, 0, 0) := by decide +kernel
theorem k204_78 : look (codL 204) 78 = some (.ireturn, 1, 0, 0, 0) := by decide +kernel
theorem k205_0 : look (codL 205) 0 = some (.aload_n 0, 1, 0, 0, 0) := by decide +kernel
theorem k205_1 : look (codL 205) 1 = some (.iload_n 1, 1, 0, 0, 0) := by decide +kernel
theorem k205_2 : look (codL 205) 2 = some (.invokevirtual 104, 3, 145, 2, 0) := by decide +kernel
theorem k205_5 : look (codL 205) 5 = some (.ifCond .eq 11, 3, 0, 0, 0) := by decide +kernel
theorem k205_8 : look (codL 205) 8 = some (.aload_n 0, 1, 0, 0, 0) := by decide +kernel
theorem k205_9 : look (codL 205) 9 = some (.iload_n 2, 1, 0, 0, 0) := by decide +kernel
theorem k205_10 : look (codL 205) 10 = some (.invokevirtual 104, 3, 145, 2, 0) := by decide +kernel
theorem k205_13 : look (codL 205) 13 = some (.ifCond .ne 8, 3, 0, 0, 0) := by decide +kernel
theorem k205_16 : look (codL 205) 16 = some (.aload_n 0, 1, 0, 0, 0) := by decide +kernel
theorem k205_17 : look (codL 205) 17 = some (.invokevirtual 110, 3, 135, 1, 0) := by decide +kernel
theorem k205_20 : look (codL 205) 20 = some (.ireturn, 1, 0, 0, 0) := by decide +kernel
theorem k205_21 : look (codL 205) 21 = some (.iconst 0, 1, 0, 0, 0) := by decide +kernel
theorem k205_22 : look (codL 205) 22 = some (.istore_n 3, 1, 0, 0, 0) := by decide +kernel
theorem k205_23 : look (codL 205) 23 = some (.iload_n 3, 1, 0, 0, 0) := by decide +kernel
theorem k205_24 : look (codL 205) 24 = some (.aload_n 0, 1, 0, 0, 0) := by decide +kernel
theorem k205_25 : look (codL 205) 25 = some (.getfield 86, 3, 10, 1, 0) := by decide +kernel
theorem k205_28 : look (codL 205) 28 = some (.if_icmp .ge 26, 3, 0, 0, 0) := by decide +kernel
theorem k205_31 : look (codL 205) 31 = some (.aload_n 0, 1, 0, 0, 0) := by decide +kernel
theorem k205_32 : look (codL 205) 32 = some (.getfield 62, 3, 10, 22, 0) := by decide +kernel
theorem k205_35 : look (codL 205) 35 = some (.iload_n 3, 1, 0, 0, 0) := by decide +kernel
theorem k205_36 : look (codL 205) 36 = some (.iload_n 3, 1, 0, 0, 0) := by decide +kernel
theorem k205_37 : look (codL 205) 37 = some (.iload_n 1, 1, 0, 0, 0) := by decide +kernel
theorem k205_38 : look (codL 205) 38 = some (.if_icmp .ne 7, 3, 0, 0, 0) := by decide +kernel
theorem k205_41 : look (codL 205) 41 = some (.iconst 0, 1, 0, 0, 0) := by decide +kernel
theorem k205_42 : look (codL 205) 42 = some (.goto 5, 3, 0, 0, 0) := by decide +kernel
theorem k205_45 : look (codL 205) 45 = some (.ldc 221, 2, 0, 0, 1048576) := by decide +kernel
theorem k205_47 : look (codL 205) 47 = some (.iastore, 1, 0, 0, 0) := by decide +kernel
theorem k205_48 : look (codL 205) 48 = some (.iinc 3 1, 3, 0, 0, 0) := by decide +kernel
theorem k205_51 : look (codL 205) 51 = some (.goto (-28), 3, 0, 0, 0) := by decide +kernel
theorem k205_54 : look (codL 205) 54 = some (.iconst 0, 1, 0, 0, 0) := by decide +kernel
theorem k205_55 : look (codL 205) 55 = some (.istore_n 3, 1, 0, 0, 0) := by decide +kernel
theorem k205_56 : look (codL 205) 56 = some (.iload_n 3, 1, 0, 0, 0) := by decide +kernel
theorem k205_57 : look (codL 205) 57 = some (.aload_n 0, 1, 0, 0, 0) := by decide +kernel
theorem k205_58 : look (codL 205) 58 = some (.getfield 86, 3, 10, 1, 0) := by decide +kernel
theorem k205_61 : look (codL 205) 61 = some (.if_icmp .ge 89, 3, 0, 0, 0) := by decide +kernel
theorem k205_64 : look (codL 205) 64 = some (.iconst 0, 1, 0, 0, 0) := by decide +kernel
theorem k205_65 : look (codL 205) 65 = some (.istore 4, 2, 0, 0, 0) := by decide +kernel
theorem k205_67 : look (codL 205) 67 = some (.iload 4, 2, 0, 0, 0) := by decide +kernel
theorem k205_69 : look (codL 205) 69 = some (.aload_n 0, 1, 0, 0, 0) := by decide +kernel
theorem k205_70 : look (codL 205) 70 = some (.getfield 94, 3, 10, 2, 0) := by decide +kernel
theorem k205_73 : look (codL 205) 73 = some (.if_icmp .ge 71, 3, 0, 0, 0) := by decide +kernel
theorem k205_76 : look (codL 205) 76 = some (.aload_n 0, 1, 0, 0, 0) := by decide +kernel
theorem k205_77 : look (codL 205) 77 = some (.getfield 62, 3, 10, 22, 0) := by decide +kernel
theorem k205_80 : look (codL 205) 80 = some (.aload_n 0, 1, 0, 0, 0) := by decide +kernel
theorem k205_81 : look (codL 205) 81 = some (.getfield 19, 3, 10, 6, 0) := by decide +kernel
theorem k205_84 : look (codL 205) 84 = some (.iload 4, 2, 0, 0, 0) := by decide +kernel
theorem k205_86 : look (codL 205) 86 = some (.iaload, 1, 0, 0, 0) := by decide +kernel
theorem k205_87 : look (codL 205) 87 = some (.iaload, 1, 0, 0, 0) := by decide +kernel
theorem k205_88 : look (codL 205) 88 = some (.iconst 1, 1, 0, 0, 0) := by decide +kernel
theorem k205_89 : look (codL 205) 89 = some (.iadd, 1, 0, 0, 0) := by decide +kernel
theorem k205_90 : look (codL 205) 90 = some (.istore 5, 2, 0, 0, 0) := by decide +kernel
theorem k205_92 : look (codL 205) 92 = some (.aload_n 0, 1, 0, 0, 0) := by decide +kernel
theorem k205_93 : look (codL 205) 93 = some (.getfield 62, 3, 10, 22, 0) := by decide +kernel
theorem k205_96 : look (codL 205) 96 = some (.aload_n 0, 1, 0, 0, 0) := by decide +kernel
theorem k205_97 : look (codL 205) 97 = some (.getfield 22, 3, 10, 7, 0) := by decide +kernel
theorem k205_100 : look (codL 205) 100 = some (.iload 4, 2, 0, 0, 0) := by decide +kernel
theorem k205_102 : look (codL 205) 102 = some (.iaload, 1, 0, 0, 0) := by decide +kernel
theorem k205_103 : look (codL 205) 103 = some (.iload 5, 2, 0, 0, 0) := by decide +kernel
theorem k205_105 : look (codL 205) 105 = some (.aload_n 0, 1, 0, 0, 0) := by decide +kernel
theorem k205_106 : look (codL 205) 106 = some (.getfield 62, 3, 10, 22, 0) := by decide +kernel
theorem k205_109 : look (codL 205) 109 = some (.aload_n 0, 1, 0, 0, 0) := by decide +kernel
theorem k205_110 : look (codL 205) 110 = some (.getfield 22, 3, 10, 7, 0) := by decide +kernel
theorem k205_113 : look (codL 205) 113 = some (.iload 4, 2, 0, 0, 0) := by decide +kernel
theorem k205_115 : look (codL 205) 115 = some (.iaload, 1, 0, 0, 0) := by decide +kernel
theorem k205_116 : look (codL 205) 116 = some (.iaload, 1, 0, 0, 0) := by decide +kernel
theorem k205_117 : look (codL 205) 117 = some (.if_icmp .ge 8, 3, 0, 0, 0) := by decide +kernel
theorem k205_120 : look (codL 205) 120 = some (.iload 5, 2, 0, 0, 0) := by decide +kernel
theorem k205_122 : look (codL 205) 122 = some (.goto 15, 3, 0, 0, 0) := by decide +kernel
theorem k205_125 : look (codL 205) 125 = some (.aload_n 0, 1, 0, 0, 0) := by decide +kernel
theorem k205_126 : look (codL 205) 126 = some (.getfield 62, 3, 10, 22, 0) := by decide +kernel
theorem k205_129 : look (codL 205) 129 = some (.aload_n 0, 1, 0, 0, 0) := by decide +kernel
theorem k205_130 : look (codL 205) 130 = some (.getfield 22, 3, 10, 7, 0) := by decide +kernel
theorem k205_133 : look (codL 205) 133 = some (.iload 4, 2, 0, 0, 0) := by decide +kernel
theorem k205_135 : look (codL 205) 135 = some (.iaload, 1, 0, 0, 0) := by decide +kernel
theorem k205_136 : look (codL 205) 136 = some (.iaload, 1, 0, 0, 0) := by decide +kernel
theorem k205_137 : look (codL 205) 137 = some (.iastore, 1, 0, 0, 0) := by decide +kernel
theorem k205_138 : look (codL 205) 138 = some (.iinc 4 1, 3, 0, 0, 0) := by decide +kernel
theorem k205_141 : look (codL 205) 141 = some (.goto (-74), 3, 0, 0, 0) := by decide +kernel
theorem k205_144 : look (codL 205) 144 = some (.iinc 3 1, 3, 0, 0, 0) := by decide +kernel
theorem k205_147 : look (codL 205) 147 = some (.goto (-91), 3, 0, 0, 0) := by decide +kernel
theorem k205_150 : look (codL 205) 150 = some (.aload_n 0, 1, 0, 0, 0) := by decide +kernel
theorem k205_151 : look (codL 205) 151 = some (.getfield 62, 3, 10, 22, 0) := by decide +kernel
theorem k205_154 : look (codL 205) 154 = some (.iload_n 2, 1, 0, 0, 0) := by decide +kernel
theorem k205_155 : look (codL 205) 155 = some (.iaload, 1, 0, 0, 0) := by decide +kernel
theorem k205_156 : look (codL 205) 156 = some (.ldc 221, 2, 0, 0, 1048576) := by decide +kernel
theorem k205_158 : look (codL 205) 158 = some (.if_icmp .lt 9, 3, 0, 0, 0) := by decide +kernel
theorem k205_161 : look (codL 205) 161 = some (.sipush (-201), 3, 0, 0, 0) := by decide +kernel
theorem k205_164 : look (codL 205) 164 = some (.goto 9, 3, 0, 0, 0) := by decide +kernel
theorem k205_167 : look (codL 205) 167 = some (.aload_n 0, 1, 0, 0, 0) := by decide +kernel
theorem k205_168 : look (codL 205) 168 = some (.getfield 62, 3, 10, 22, 0) := by decide +kernel
theorem k205_171 : look (codL 205) 171 = some (.iload_n 2, 1, 0, 0, 0) := by decide +kernel
theorem k205_172 : look (codL 205) 172 = some (.iaload, 1, 0, 0, 0) := by decide +kernel
theorem k205_173 : look (codL 205) 173 = some (.ireturn, 1, 0, 0, 0) := by decide +kernel
theorem k206_0 : look (codL 206) 0 = some (.iload_n 1, 1, 0, 0, 0) := by decide +kernel
theorem k206_1 : look (codL 206) 1 = some (.iconst 0, 1, 0, 0, 0) := by decide +kernel
theorem k206_2 : look (codL 206) 2 = some (.ldc 243, 2, 0, 0, 999999) := by decide +kernel
theorem k206_4 : look (codL 206) 4 = some (.invokestatic 90, 3, 138, 3, 0) := by decide +kernel
theorem k206_7 : look (codL 206) 7 = some (.ifCond .eq 23, 3, 0, 0, 0) := by decide +kernel
theorem k206_10 : look (codL 206) 10 = some (.iload_n 2, 1, 0, 0, 0) := by decide +kernel
theorem k206_11 : look (codL 206) 11 = some (.iconst 0, 1, 0, 0, 0) := by decide +kernel
theorem k206_12 : look (codL 206) 12 = some (.bipush 6, 2, 0, 0, 0) := by decide +kernel
theorem k206_14 : look (codL 206) 14 = some (.invokestatic 90, 3, 138, 3, 0) := by decide +kernel
theorem k206_17 : look (codL 206) 17 = some (.ifCond .eq 13, 3, 0, 0, 0) := by decide +kernel
theorem k206_20 : look (codL 206) 20 = some (.iload_n 3, 1, 0, 0, 0) := by decide +kernel
theorem k206_21 : look (codL 206) 21 = some (.iconst 0, 1, 0, 0, 0) := by decide +kernel
theorem k206_22 : look (codL 206) 22 = some (.bipush 16, 2, 0, 0, 0) := by decide +kernel
theorem k206_24 : look (codL 206) 24 = some (.invokestatic 90, 3, 138, 3, 0) := by decide +kernel
theorem k206_27 : look (codL 206) 27 = some (.ifCond .ne 8, 3, 0, 0, 0) := by decide +kernel
theorem k206_30 : look (codL 206) 30 = some (.aload_n 0, 1, 0, 0, 0) := by decide +kernel
theorem k206_31 : look (codL 206) 31 = some (.invokevirtual 110, 3, 135, 1, 0) := by decide +kernel
theorem k206_34 : look (codL 206) 34 = some (.ireturn, 1, 0, 0, 0) := by decide +kernel
theorem k206_35 : look (codL 206) 35 = some (.aload_n 0, 1, 0, 0, 0) := by decide +kernel
theorem k206_36 : look (codL 206) 36 = some (.iconst 0, 1, 0, 0, 0) := by decide +kernel
theorem k206_37 : look (codL 206) 37 = some (.putfield 86, 3, 10, 1, 0) := by decide +kernel
theorem k206_40 : look (codL 206) 40 = some (.aload_n 0, 1, 0, 0, 0) := by decide +kernel
theorem k206_41 : look (codL 206) 41 = some (.iconst 0, 1, 0, 0, 0) := by decide +kernel
theorem k206_42 : look (codL 206) 42 = some (.putfield 94, 3, 10, 2, 0) := by decide +kernel
theorem k206_45 : look (codL 206) 45 = some (.iload_n 1, 1, 0, 0, 0) := by decide +kernel
theorem k206_46 : look (codL 206) 46 = some (.i2l, 1, 0, 0, 0) := by decide +kernel
theorem k206_47 : look (codL 206) 47 = some (.lstore 4, 2, 0, 0, 0) := by decide +kernel
theorem k206_49 : look (codL 206) 49 = some (.iconst 0, 1, 0, 0, 0) := by decide +kernel
theorem k206_50 : look (codL 206) 50 = some (.istore 6, 2, 0, 0, 0) := by decide +kernel
theorem k206_52 : look (codL 206) 52 = some (.iload 6, 2, 0, 0, 0) := by decide +kernel
theorem k206_54 : look (codL 206) 54 = some (.bipush 8, 2, 0, 0, 0) := by decide +kernel
theorem k206_56 : look (codL 206) 56 = some (.if_icmp .ge 82, 3, 0, 0, 0) := by decide +kernel
theorem k206_59 : look (codL 206) 59 = some (.aload_n 0, 1, 0, 0, 0) := by decide +kernel
theorem k206_60 : look (codL 206) 60 = some (.invokevirtual 101, 3, 151, 1, 0) := by decide +kernel
theorem k206_63 : look (codL 206) 63 = some (.pop, 1, 0, 0, 0) := by decide +kernel
theorem k206_64 : look (codL 206) 64 = some (.iconst 0, 1, 0, 0, 0) := by decide +kernel
theorem k206_65 : look (codL 206) 65 = some (.istore 7, 2, 0, 0, 0) := by decide +kernel
theorem k206_67 : look (codL 206) 67 = some (.iload 7, 2, 0, 0, 0) := by decide +kernel
theorem k206_69 : look (codL 206) 69 = some (.iload_n 2, 1, 0, 0, 0) := by decide +kernel
theorem k206_70 : look (codL 206) 70 = some (.if_icmp .ge 62, 3, 0, 0, 0) := by decide +kernel
theorem k206_73 : look (codL 206) 73 = some (.lload 4, 2, 0, 0, 0) := by decide +kernel
theorem k206_75 : look (codL 206) 75 = some (.invokestatic 244, 3, 197, 1, 0) := by decide +kernel
theorem k206_78 : look (codL 206) 78 = some (.lstore 4, 2, 0, 0, 0) := by decide +kernel
theorem k206_80 : look (codL 206) 80 = some (.lload 4, 2, 0, 0, 0) := by decide +kernel
theorem k206_82 : look (codL 206) 82 = some (.ldc2_w 248, 3, 0, 0, 65536) := by decide +kernel
theorem k206_85 : look (codL 206) 85 = some (.ldiv, 1, 0, 0, 0) := by decide +kernel
theorem k206_86 : look (codL 206) 86 = some (.ldc2_w 260, 3, 0, 0, 3) := by decide +kernel
theorem k206_89 : look (codL 206) 89 = some (.lrem, 1, 0, 0, 0) := by decide +kernel
theorem k206_90 : look (codL 206) 90 = some (.l2i, 1, 0, 0, 0) := by decide +kernel
theorem k206_91 : look (codL 206) 91 = some (.istore 8, 2, 0, 0, 0) := by decide +kernel
theorem k206_93 : look (codL 206) 93 = some (.aload_n 0, 1, 0, 0, 0) := by decide +kernel
theorem k206_94 : look (codL 206) 94 = some (.iload 6, 2, 0, 0, 0) := by decide +kernel
theorem k206_96 : look (codL 206) 96 = some (.bipush 40, 2, 0, 0, 0) := by decide +kernel
theorem k206_98 : look (codL 206) 98 = some (.iload 7, 2, 0, 0, 0) := by decide +kernel
theorem k206_100 : look (codL 206) 100 = some (.imul, 1, 0, 0, 0) := by decide +kernel
theorem k206_101 : look (codL 206) 101 = some (.iload 8, 2, 0, 0, 0) := by decide +kernel
theorem k206_103 : look (codL 206) 103 = some (.ifCond .ne 7, 3, 0, 0, 0) := by decide +kernel
theorem k206_106 : look (codL 206) 106 = some (.iconst 4, 1, 0, 0, 0) := by decide +kernel
theorem k206_107 : look (codL 206) 107 = some (.goto 14, 3, 0, 0, 0) := by decide +kernel
theorem k206_110 : look (codL 206) 110 = some (.iload 8, 2, 0, 0, 0) := by decide +kernel
theorem k206_112 : look (codL 206) 112 = some (.iconst 1, 1, 0, 0, 0) := by decide +kernel
theorem k206_113 : look (codL 206) 113 = some (.if_icmp .ne 7, 3, 0, 0, 0) := by decide +kernel
theorem k206_116 : look (codL 206) 116 = some (.iconst 2, 1, 0, 0, 0) := by decide +kernel
theorem k206_117 : look (codL 206) 117 = some (.goto 4, 3, 0, 0, 0) := by decide +kernel
theorem k206_120 : look (codL 206) 120 = some (.iconst 1, 1, 0, 0, 0) := by decide +kernel
theorem k206_121 : look (codL 206) 121 = some (.iadd, 1, 0, 0, 0) := by decide +kernel
theorem k206_122 : look (codL 206) 122 = some (.invokevirtual 119, 3, 154, 3, 0) := by decide +kernel
theorem k206_125 : look (codL 206) 125 = some (.pop, 1, 0, 0, 0) := by decide +kernel
theorem k206_126 : look (codL 206) 126 = some (.iinc 7 1, 3, 0, 0, 0) := by decide +kernel
theorem k206_129 : look (codL 206) 129 = some (.goto (-62), 3, 0, 0, 0) := by decide +kernel
theorem k206_132 : look (codL 206) 132 = some (.iinc 6 1, 3, 0, 0, 0) := by decide +kernel
theorem k206_135 : look (codL 206) 135 = some (.goto (-83), 3, 0, 0, 0) := by decide +kernel
theorem k206_138 : look (codL 206) 138 = some (.iconst 0, 1, 0, 0, 0) := by decide +kernel
theorem k206_139 : look (codL 206) 139 = some (.istore 6, 2, 0, 0, 0) := by decide +kernel
theorem k206_141 : look (codL 206) 141 = some (.iload 6, 2, 0, 0, 0) := by decide +kernel
theorem k206_143 : look (codL 206) 143 = some (.iload_n 3, 1, 0, 0, 0) := by decide +kernel
theorem k206_144 : look (codL 206) 144 = some (.if_icmp .ge 169, 3, 0, 0, 0) := by decide +kernel
theorem k206_147 : look (codL 206) 147 = some (.lload 4, 2, 0, 0, 0) := by decide +kernel
theorem k206_149 : look (codL 206) 149 = some (.invokestatic 244, 3, 197, 1, 0) := by decide +kernel
theorem k206_152 : look (codL 206) 152 = some (.lstore 4, 2, 0, 0, 0) := by decide +kernel
theorem k206_154 : look (codL 206) 154 = some (.lload 4, 2, 0, 0, 0) := by decide +kernel
theorem k206_156 : look (codL 206) 156 = some (.ldc2_w 248, 3, 0, 0, 65536) := by decide +kernel
theorem k206_159 : look (codL 206) 159 = some (.ldiv, 1, 0, 0, 0) := by decide +kernel
theorem k206_160 : look (codL 206) 160 = some (.ldc2_w 262, 3, 0, 0, 8) := by decide +kernel
theorem k206_163 : look (codL 206) 163 = some (.lrem, 1, 0, 0, 0) := by decide +kernel
theorem k206_164 : look (codL 206) 164 = some (.l2i, 1, 0, 0, 0) := by decide +kernel
theorem k206_165 : look (codL 206) 165 = some (.istore 7, 2, 0, 0, 0) := by decide +kernel
theorem k206_167 : look (codL 206) 167 = some (.lload 4, 2, 0, 0, 0) := by decide +kernel
theorem k206_169 : look (codL 206) 169 = some (.invokestatic 244, 3, 197, 1, 0) := by decide +kernel
theorem k206_172 : look (codL 206) 172 = some (.lstore 4, 2, 0, 0, 0) := by decide +kernel
theorem k206_174 : look (codL 206) 174 = some (.lload 4, 2, 0, 0, 0) := by decide +kernel
theorem k206_176 : look (codL 206) 176 = some (.ldc2_w 248, 3, 0, 0, 65536) := by decide +kernel
theorem k206_179 : look (codL 206) 179 = some (.ldiv, 1, 0, 0, 0) := by decide +kernel
theorem k206_180 : look (codL 206) 180 = some (.ldc2_w 262, 3, 0, 0, 8) := by decide +kernel
theorem k206_183 : look (codL 206) 183 = some (.lrem, 1, 0, 0, 0) := by decide +kernel
theorem k206_184 : look (codL 206) 184 = some (.l2i, 1, 0, 0, 0) := by decide +kernel
theorem k206_185 : look (codL 206) 185 = some (.istore 8, 2, 0, 0, 0) := by decide +kernel
theorem k206_187 : look (codL 206) 187 = some (.lload 4, 2, 0, 0, 0) := by decide +kernel
theorem k206_189 : look (codL 206) 189 = some (.invokestatic 244, 3, 197, 1, 0) := by decide +kernel
theorem k206_192 : look (codL 206) 192 = some (.lstore 4, 2, 0, 0, 0) := by decide +kernel
theorem k206_194 : look (codL 206) 194 = some (.aload_n 0, 1, 0, 0, 0) := by decide +kernel
theorem k206_195 : look (codL 206) 195 = some (.iload 7, 2, 0, 0, 0) := by decide +kernel
theorem k206_197 : look (codL 206) 197 = some (.iload 8, 2, 0, 0, 0) := by decide +kernel
theorem k206_199 : look (codL 206) 199 = some (.lload 4, 2, 0, 0, 0) := by decide +kernel
theorem k206_201 : look (codL 206) 201 = some (.ldc2_w 248, 3, 0, 0, 65536) := by decide +kernel
theorem k206_204 : look (codL 206) 204 = some (.ldiv, 1, 0, 0, 0) := by decide +kernel
theorem k206_205 : look (codL 206) 205 = some (.ldc2_w 264, 3, 0, 0, 100) := by decide +kernel
theorem k206_208 : look (codL 206) 208 = some (.lrem, 1, 0, 0, 0) := by decide +kernel
theorem k206_209 : look (codL 206) 209 = some (.l2i, 1, 0, 0, 0) := by decide +kernel
theorem k206_210 : look (codL 206) 210 = some (.invokevirtual 123, 3, 156, 4, 0) := by decide +kernel
theorem k206_213 : look (codL 206) 213 = some (.istore 9, 2, 0, 0, 0) := by decide +kernel
theorem k206_215 : look (codL 206) 215 = some (.iconst 0, 1, 0, 0, 0) := by decide +kernel
theorem k206_216 : look (codL 206) 216 = some (.istore 10, 2, 0, 0, 0) := by decide +kernel
theorem k206_218 : look (codL 206) 218 = some (.iload 10, 2, 0, 0, 0) := by decide +kernel
theorem k206_220 : look (codL 206) 220 = some (.iload_n 2, 1, 0, 0, 0) := by decide +kernel
theorem k206_221 : look (codL 206) 221 = some (.if_icmp .ge 86, 3, 0, 0, 0) := by decide +kernel
theorem k206_224 : look (codL 206) 224 = some (.lload 4, 2, 0, 0, 0) := by decide +kernel
theorem k206_226 : look (codL 206) 226 = some (.invokestatic 244, 3, 197, 1, 0) := by decide +kernel
theorem k206_229 : look (codL 206) 229 = some (.lstore 4, 2, 0, 0, 0) := by decide +kernel
theorem k206_231 : look (codL 206) 231 = some (.lload 4, 2, 0, 0, 0) := by decide +kernel
theorem k206_233 : look (codL 206) 233 = some (.ldc2_w 248, 3, 0, 0, 65536) := by decide +kernel
theorem k206_236 : look (codL 206) 236 = some (.ldiv, 1, 0, 0, 0) := by decide +kernel
theorem k206_237 : look (codL 206) 237 = some (.ldc2_w 262, 3, 0, 0, 8) := by decide +kernel
theorem k206_240 : look (codL 206) 240 = some (.lrem, 1, 0, 0, 0) := by decide +kernel
theorem k206_241 : look (codL 206) 241 = some (.l2i, 1, 0, 0, 0) := by decide +kernel
theorem k206_242 : look (codL 206) 242 = some (.istore 11, 2, 0, 0, 0) := by decide +kernel
theorem k206_244 : look (codL 206) 244 = some (.lload 4, 2, 0, 0, 0) := by decide +kernel
theorem k206_246 : look (codL 206) 246 = some (.ldc2_w 266, 3, 0, 0, 1024) := by decide +kernel
theorem k206_249 : look (codL 206) 249 = some (.ldiv, 1, 0, 0, 0) := by decide +kernel
theorem k206_250 : look (codL 206) 250 = some (.ldc2_w 264, 3, 0, 0, 100) := by decide +kernel
theorem k206_253 : look (codL 206) 253 = some (.lrem, 1, 0, 0, 0) := by decide +kernel
theorem k206_254 : look (codL 206) 254 = some (.l2i, 1, 0, 0, 0) := by decide +kernel
theorem k206_255 : look (codL 206) 255 = some (.istore 12, 2, 0, 0, 0) := by decide +kernel
theorem k206_257 : look (codL 206) 257 = some (.aload_n 0, 1, 0, 0, 0) := by decide +kernel
theorem k206_258 : look (codL 206) 258 = some (.getfield 28, 3, 10, 9, 0) := by decide +kernel
theorem k206_261 : look (codL 206) 261 = some (.bipush 6, 2, 0, 0, 0) := by decide +kernel
theorem k206_263 : look (codL 206) 263 = some (.iload 9, 2, 0, 0, 0) := by decide +kernel
theorem k206_265 : look (codL 206) 265 = some (.imul, 1, 0, 0, 0) := by decide +kernel
theorem k206_266 : look (codL 206) 266 = some (.iload 10, 2, 0, 0, 0) := by decide +kernel
theorem k206_268 : look (codL 206) 268 = some (.iadd, 1, 0, 0, 0) := by decide +kernel
theorem k206_269 : look (codL 206) 269 = some (.iload 11, 2, 0, 0, 0) := by decide +kernel
theorem k206_271 : look (codL 206) 271 = some (.bipush 7, 2, 0, 0, 0) := by decide +kernel
theorem k206_273 : look (codL 206) 273 = some (.if_icmp .ne 10, 3, 0, 0, 0) := by decide +kernel
theorem k206_276 : look (codL 206) 276 = some (.iconst (-1), 1, 0, 0, 0) := by decide +kernel
theorem k206_277 : look (codL 206) 277 = some (.iload 12, 2, 0, 0, 0) := by decide +kernel
theorem k206_279 : look (codL 206) 279 = some (.isub, 1, 0, 0, 0) := by decide +kernel
theorem k206_280 : look (codL 206) 280 = some (.goto 20, 3, 0, 0, 0) := by decide +kernel
theorem k206_283 : look (codL 206) 283 = some (.bipush 40, 2, 0, 0, 0) := by decide +kernel
theorem k206_285 : look (codL 206) 285 = some (.iload 11, 2, 0, 0, 0) := by decide +kernel
theorem k206_287 : look (codL 206) 287 = some (.imul, 1, 0, 0, 0) := by decide +kernel
theorem k206_288 : look (codL 206) 288 = some (.aload_n 0, 1, 0, 0, 0) := by decide +kernel
theorem k206_289 : look (codL 206) 289 = some (.iload 9, 2, 0, 0, 0) := by decide +kernel
theorem k206_291 : look (codL 206) 291 = some (.iload 10, 2, 0, 0, 0) := by decide +kernel
theorem k206_293 : look (codL 206) 293 = some (.invokevirtual 127, 3, 147, 3, 0) := by decide +kernel
theorem k206_296 : look (codL 206) 296 = some (.invokestatic 71, 3, 139, 1, 0) := by decide +kernel
theorem k206_299 : look (codL 206) 299 = some (.iadd, 1, 0, 0, 0) := by decide +kernel
theorem k206_300 : look (codL 206) 300 = some (.iastore, 1, 0, 0, 0) := by decide +kernel
theorem k206_301 : look (codL 206) 301 = some (.iinc 10 1, 3, 0, 0, 0) := by decide +kernel
theorem k206_304 : look (codL 206) 304 = some (.goto (-86), 3, 0, 0, 0) := by decide +kernel
theorem k206_307 : look (codL 206) 307 = some (.iinc 6 1, 3, 0, 0, 0) := by decide +kernel
theorem k206_310 : look (codL 206) 310 = some (.goto (-169), 3, 0, 0, 0) := by decide +kernel
theorem k206_313 : look (codL 206) 313 = some (.iload_n 3, 1, 0, 0, 0) := by decide +kernel
theorem k206_314 : look (codL 206) 314 = some (.ireturn, 1, 0, 0, 0) := by decide +kernel
theorem k207_0 : look (codL 207) 0 = some (.iload_n 1, 1, 0, 0, 0) := by decide +kernel
theorem k207_1 : look (codL 207) 1 = some (.iconst 3, 1, 0, 0, 0) := by decide +kernel
theorem k207_2 : look (codL 207) 2 = some (.if_icmp .ge 12, 3, 0, 0, 0) := by decide +kernel
theorem k207_5 : look (codL 207) 5 = some (.aload_n 0, 1, 0, 0, 0) := by decide +kernel
theorem k207_6 : look (codL 207) 6 = some (.getfield 7, 3, 10, 0, 0) := by decide +kernel
theorem k207_9 : look (codL 207) 9 = some (.iload_n 1, 1, 0, 0, 0) := by decide +kernel
theorem k207_10 : look (codL 207) 10 = some (.iaload, 1, 0, 0, 0) := by decide +kernel
theorem k207_11 : look (codL 207) 11 = some (.goto 43, 3, 0, 0, 0) := by decide +kernel
theorem k207_14 : look (codL 207) 14 = some (.iload_n 1, 1, 0, 0, 0) := by decide +kernel
theorem k207_15 : look (codL 207) 15 = some (.iconst 3, 1, 0, 0, 0) := by decide +kernel
theorem k207_16 : look (codL 207) 16 = some (.if_icmp .ne 10, 3, 0, 0, 0) := by decide +kernel
theorem k207_19 : look (codL 207) 19 = some (.aload_n 0, 1, 0, 0, 0) := by decide +kernel
theorem k207_20 : look (codL 207) 20 = some (.getfield 268, 3, 10, 24, 0) := by decide +kernel
theorem k207_23 : look (codL 207) 23 = some (.goto 31, 3, 0, 0, 0) := by decide +kernel
theorem k207_26 : look (codL 207) 26 = some (.iload_n 1, 1, 0, 0, 0) := by decide +kernel
theorem k207_27 : look (codL 207) 27 = some (.iconst 4, 1, 0, 0, 0) := by decide +kernel
theorem k207_28 : look (codL 207) 28 = some (.if_icmp .ne 10, 3, 0, 0, 0) := by decide +kernel
theorem k207_31 : look (codL 207) 31 = some (.aload_n 0, 1, 0, 0, 0) := by decide +kernel
theorem k207_32 : look (codL 207) 32 = some (.getfield 86, 3, 10, 1, 0) := by decide +kernel
theorem k207_35 : look (codL 207) 35 = some (.goto 19, 3, 0, 0, 0) := by decide +kernel
theorem k207_38 : look (codL 207) 38 = some (.iload_n 1, 1, 0, 0, 0) := by decide +kernel
theorem k207_39 : look (codL 207) 39 = some (.iconst 5, 1, 0, 0, 0) := by decide +kernel
theorem k207_40 : look (codL 207) 40 = some (.if_icmp .ne 10, 3, 0, 0, 0) := by decide +kernel
theorem k207_43 : look (codL 207) 43 = some (.aload_n 0, 1, 0, 0, 0) := by decide +kernel
theorem k207_44 : look (codL 207) 44 = some (.getfield 94, 3, 10, 2, 0) := by decide +kernel
theorem k207_47 : look (codL 207) 47 = some (.goto 7, 3, 0, 0, 0) := by decide +kernel
theorem k207_50 : look (codL 207) 50 = some (.aload_n 0, 1, 0, 0, 0) := by decide +kernel
theorem k207_51 : look (codL 207) 51 = some (.getfield 142, 3, 10, 3, 0) := by decide +kernel
theorem k207_54 : look (codL 207) 54 = some (.ireturn, 1, 0, 0, 0) := by decide +kernel
theorem k208_0 : look (codL 208) 0 = some (.iload_n 1, 1, 0, 0, 0) := by decide +kernel
theorem k208_1 : look (codL 208) 1 = some (.iconst 0, 1, 0, 0, 0) := by decide +kernel
theorem k208_2 : look (codL 208) 2 = some (.bipush 6, 2, 0, 0, 0) := by decide +kernel
theorem k208_4 : look (codL 208) 4 = some (.invokestatic 90, 3, 138, 3, 0) := by decide +kernel
theorem k208_7 : look (codL 208) 7 = some (.ifCond .eq 11, 3, 0, 0, 0) := by decide +kernel
theorem k208_10 : look (codL 208) 10 = some (.aload_n 0, 1, 0, 0, 0) := by decide +kernel
theorem k208_11 : look (codL 208) 11 = some (.iload_n 1, 1, 0, 0, 0) := by decide +kernel
theorem k208_12 : look (codL 208) 12 = some (.invokevirtual 271, 3, 207, 2, 0) := by decide +kernel
theorem k208_15 : look (codL 208) 15 = some (.goto 7, 3, 0, 0, 0) := by decide +kernel
theorem k208_18 : look (codL 208) 18 = some (.aload_n 0, 1, 0, 0, 0) := by decide +kernel
theorem k208_19 : look (codL 208) 19 = some (.invokevirtual 110, 3, 135, 1, 0) := by decide +kernel
theorem k208_22 : look (codL 208) 22 = some (.ireturn, 1, 0, 0, 0) := by decide +kernel
theorem k209_0 : look (codL 209) 0 = some (.ldc2_w 274, 3, 0, 0, 1913) := by decide +kernel
theorem k209_3 : look (codL 209) 3 = some (.lstore_n 1, 1, 0, 0, 0) := by decide +kernel
theorem k209_4 : look (codL 209) 4 = some (.iconst 0, 1, 0, 0, 0) := by decide +kernel
theorem k209_5 : look (codL 209) 5 = some (.istore_n 3, 1, 0, 0, 0) := by decide +kernel
theorem k209_6 : look (codL 209) 6 = some (.iload_n 3, 1, 0, 0, 0) := by decide +kernel
theorem k209_7 : look (codL 209) 7 = some (.bipush 7, 2, 0, 0, 0) := by decide +kernel
theorem k209_9 : look (codL 209) 9 = some (.if_icmp .ge 22, 3, 0, 0, 0) := by decide +kernel
theorem k209_12 : look (codL 209) 12 = some (.ldc2_w 258, 3, 0, 0, 31) := by decide +kernel
theorem k209_15 : look (codL 209) 15 = some (.lload_n 1, 1, 0, 0, 0) := by decide +kernel
theorem k209_16 : look (codL 209) 16 = some (.lmul, 1, 0, 0, 0) := by decide +kernel
theorem k209_17 : look (codL 209) 17 = some (.aload_n 0, 1, 0, 0, 0) := by decide +kernel
theorem k209_18 : look (codL 209) 18 = some (.iload_n 3, 1, 0, 0, 0) := by decide +kernel
theorem k209_19 : look (codL 209) 19 = some (.invokevirtual 271, 3, 207, 2, 0) := by decide +kernel
theorem k209_22 : look (codL 209) 22 = some (.i2l, 1, 0, 0, 0) := by decide +kernel
theorem k209_23 : look (codL 209) 23 = some (.ladd, 1, 0, 0, 0) := by decide +kernel
theorem k209_24 : look (codL 209) 24 = some (.lstore_n 1, 1, 0, 0, 0) := by decide +kernel
theorem k209_25 : look (codL 209) 25 = some (.iinc 3 1, 3, 0, 0, 0) := by decide +kernel
theorem k209_28 : look (codL 209) 28 = some (.goto (-22), 3, 0, 0, 0) := by decide +kernel
theorem k209_31 : look (codL 209) 31 = some (.iconst 0, 1, 0, 0, 0) := by decide +kernel
theorem k209_32 : look (codL 209) 32 = some (.istore_n 3, 1, 0, 0, 0) := by decide +kernel
theorem k209_33 : look (codL 209) 33 = some (.iload_n 3, 1, 0, 0, 0) := by decide +kernel
theorem k209_34 : look (codL 209) 34 = some (.aload_n 0, 1, 0, 0, 0) := by decide +kernel
theorem k209_35 : look (codL 209) 35 = some (.getfield 86, 3, 10, 1, 0) := by decide +kernel
theorem k209_38 : look (codL 209) 38 = some (.if_icmp .ge 63, 3, 0, 0, 0) := by decide +kernel
theorem k209_41 : look (codL 209) 41 = some (.ldc2_w 258, 3, 0, 0, 31) := by decide +kernel
theorem k209_44 : look (codL 209) 44 = some (.lload_n 1, 1, 0, 0, 0) := by decide +kernel
theorem k209_45 : look (codL 209) 45 = some (.lmul, 1, 0, 0, 0) := by decide +kernel
theorem k209_46 : look (codL 209) 46 = some (.aload_n 0, 1, 0, 0, 0) := by decide +kernel
theorem k209_47 : look (codL 209) 47 = some (.getfield 13, 3, 10, 4, 0) := by decide +kernel
theorem k209_50 : look (codL 209) 50 = some (.iload_n 3, 1, 0, 0, 0) := by decide +kernel
theorem k209_51 : look (codL 209) 51 = some (.iaload, 1, 0, 0, 0) := by decide +kernel
theorem k209_52 : look (codL 209) 52 = some (.i2l, 1, 0, 0, 0) := by decide +kernel
theorem k209_53 : look (codL 209) 53 = some (.ladd, 1, 0, 0, 0) := by decide +kernel
theorem k209_54 : look (codL 209) 54 = some (.lstore_n 1, 1, 0, 0, 0) := by decide +kernel
theorem k209_55 : look (codL 209) 55 = some (.iconst 0, 1, 0, 0, 0) := by decide +kernel
theorem k209_56 : look (codL 209) 56 = some (.istore 4, 2, 0, 0, 0) := by decide +kernel
theorem k209_58 : look (codL 209) 58 = some (.iload 4, 2, 0, 0, 0) := by decide +kernel
theorem k209_60 : look (codL 209) 60 = some (.aload_n 0, 1, 0, 0, 0) := by decide +kernel
theorem k209_61 : look (codL 209) 61 = some (.getfield 13, 3, 10, 4, 0) := by decide +kernel
theorem k209_64 : look (codL 209) 64 = some (.iload_n 3, 1, 0, 0, 0) := by decide +kernel
theorem k209_65 : look (codL 209) 65 = some (.iaload, 1, 0, 0, 0) := by decide +kernel
theorem k209_66 : look (codL 209) 66 = some (.if_icmp .ge 29, 3, 0, 0, 0) := by decide +kernel
theorem k209_69 : look (codL 209) 69 = some (.ldc2_w 258, 3, 0, 0, 31) := by decide +kernel
theorem k209_72 : look (codL 209) 72 = some (.lload_n 1, 1, 0, 0, 0) := by decide +kernel
theorem k209_73 : look (codL 209) 73 = some (.lmul, 1, 0, 0, 0) := by decide +kernel
theorem k209_74 : look (codL 209) 74 = some (.aload_n 0, 1, 0, 0, 0) := by decide +kernel
theorem k209_75 : look (codL 209) 75 = some (.getfield 16, 3, 10, 5, 0) := by decide +kernel
theorem k209_78 : look (codL 209) 78 = some (.bipush 6, 2, 0, 0, 0) := by decide +kernel
theorem k209_80 : look (codL 209) 80 = some (.iload_n 3, 1, 0, 0, 0) := by decide +kernel
theorem k209_81 : look (codL 209) 81 = some (.imul, 1, 0, 0, 0) := by decide +kernel
theorem k209_82 : look (codL 209) 82 = some (.iload 4, 2, 0, 0, 0) := by decide +kernel
theorem k209_84 : look (codL 209) 84 = some (.iadd, 1, 0, 0, 0) := by decide +kernel
theorem k209_85 : look (codL 209) 85 = some (.iaload, 1, 0, 0, 0) := by decide +kernel
theorem k209_86 : look (codL 209) 86 = some (.i2l, 1, 0, 0, 0) := by decide +kernel
theorem k209_87 : look (codL 209) 87 = some (.ladd, 1, 0, 0, 0) := by decide +kernel
theorem k209_88 : look (codL 209) 88 = some (.lstore_n 1, 1, 0, 0, 0) := by decide +kernel
theorem k209_89 : look (codL 209) 89 = some (.iinc 4 1, 3, 0, 0, 0) := by decide +kernel
theorem k209_92 : look (codL 209) 92 = some (.goto (-34), 3, 0, 0, 0) := by decide +kernel
theorem k209_95 : look (codL 209) 95 = some (.iinc 3 1, 3, 0, 0, 0) := by decide +kernel
theorem k209_98 : look (codL 209) 98 = some (.goto (-65), 3, 0, 0, 0) := by decide +kernel
theorem k209_101 : look (codL 209) 101 = some (.iconst 0, 1, 0, 0, 0) := by decide +kernel
theorem k209_102 : look (codL 209) 102 = some (.istore_n 3, 1, 0, 0, 0) := by decide +kernel
theorem k209_103 : look (codL 209) 103 = some (.iload_n 3, 1, 0, 0, 0) := by decide +kernel
theorem k209_104 : look (codL 209) 104 = some (.aload_n 0, 1, 0, 0, 0) := by decide +kernel
theorem k209_105 : look (codL 209) 105 = some (.getfield 94, 3, 10, 2, 0) := by decide +kernel
theorem k209_108 : look (codL 209) 108 = some (.if_icmp .ge 85, 3, 0, 0, 0) := by decide +kernel
theorem k209_111 : look (codL 209) 111 = some (.ldc2_w 258, 3, 0, 0, 31) := by decide +kernel
theorem k209_114 : look (codL 209) 114 = some (.lload_n 1, 1, 0, 0, 0) := by decide +kernel
theorem k209_115 : look (codL 209) 115 = some (.lmul, 1, 0, 0, 0) := by decide +kernel
theorem k209_116 : look (codL 209) 116 = some (.aload_n 0, 1, 0, 0, 0) := by decide +kernel
theorem k209_117 : look (codL 209) 117 = some (.getfield 19, 3, 10, 6, 0) := by decide +kernel
theorem k209_120 : look (codL 209) 120 = some (.iload_n 3, 1, 0, 0, 0) := by decide +kernel
theorem k209_121 : look (codL 209) 121 = some (.iaload, 1, 0, 0, 0) := by decide +kernel
theorem k209_122 : look (codL 209) 122 = some (.i2l, 1, 0, 0, 0) := by decide +kernel
theorem k209_123 : look (codL 209) 123 = some (.ladd, 1, 0, 0, 0) := by decide +kernel
theorem k209_124 : look (codL 209) 124 = some (.lstore_n 1, 1, 0, 0, 0) := by decide +kernel
theorem k209_125 : look (codL 209) 125 = some (.ldc2_w 258, 3, 0, 0, 31) := by decide +kernel
theorem k209_128 : look (codL 209) 128 = some (.lload_n 1, 1, 0, 0, 0) := by decide +kernel
theorem k209_129 : look (codL 209) 129 = some (.lmul, 1, 0, 0, 0) := by decide +kernel
theorem k209_130 : look (codL 209) 130 = some (.aload_n 0, 1, 0, 0, 0) := by decide +kernel
theorem k209_131 : look (codL 209) 131 = some (.getfield 22, 3, 10, 7, 0) := by decide +kernel
theorem k209_134 : look (codL 209) 134 = some (.iload_n 3, 1, 0, 0, 0) := by decide +kernel
theorem k209_135 : look (codL 209) 135 = some (.iaload, 1, 0, 0, 0) := by decide +kernel
theorem k209_136 : look (codL 209) 136 = some (.i2l, 1, 0, 0, 0) := by decide +kernel
theorem k209_137 : look (codL 209) 137 = some (.ladd, 1, 0, 0, 0) := by decide +kernel
theorem k209_138 : look (codL 209) 138 = some (.lstore_n 1, 1, 0, 0, 0) := by decide +kernel
theorem k209_139 : look (codL 209) 139 = some (.ldc2_w 258, 3, 0, 0, 31) := by decide +kernel
theorem k209_142 : look (codL 209) 142 = some (.lload_n 1, 1, 0, 0, 0) := by decide +kernel
theorem k209_143 : look (codL 209) 143 = some (.lmul, 1, 0, 0, 0) := by decide +kernel
theorem k209_144 : look (codL 209) 144 = some (.aload_n 0, 1, 0, 0, 0) := by decide +kernel
theorem k209_145 : look (codL 209) 145 = some (.getfield 25, 3, 10, 8, 0) := by decide +kernel
theorem k209_148 : look (codL 209) 148 = some (.iload_n 3, 1, 0, 0, 0) := by decide +kernel
theorem k209_149 : look (codL 209) 149 = some (.iaload, 1, 0, 0, 0) := by decide +kernel
theorem k209_150 : look (codL 209) 150 = some (.i2l, 1, 0, 0, 0) := by decide +kernel
theorem k209_151 : look (codL 209) 151 = some (.ladd, 1, 0, 0, 0) := by decide +kernel
theorem k209_152 : look (codL 209) 152 = some (.lstore_n 1, 1, 0, 0, 0) := by decide +kernel
theorem k209_153 : look (codL 209) 153 = some (.iconst 0, 1, 0, 0, 0) := by decide +kernel
theorem k209_154 : look (codL 209) 154 = some (.istore 4, 2, 0, 0, 0) := by decide +kernel
theorem k209_156 : look (codL 209) 156 = some (.iload 4, 2, 0, 0, 0) := by decide +kernel
theorem k209_158 : look (codL 209) 158 = some (.aload_n 0, 1, 0, 0, 0) := by decide +kernel
theorem k209_159 : look (codL 209) 159 = some (.iload_n 3, 1, 0, 0, 0) := by decide +kernel
theorem k209_160 : look (codL 209) 160 = some (.invokevirtual 133, 3, 148, 2, 0) := by decide +kernel
theorem k209_163 : look (codL 209) 163 = some (.if_icmp .ge 24, 3, 0, 0, 0) := by decide +kernel
theorem k209_166 : look (codL 209) 166 = some (.ldc2_w 258, 3, 0, 0, 31) := by decide +kernel
theorem k209_169 : look (codL 209) 169 = some (.lload_n 1, 1, 0, 0, 0) := by decide +kernel
theorem k209_170 : look (codL 209) 170 = some (.lmul, 1, 0, 0, 0) := by decide +kernel
theorem k209_171 : look (codL 209) 171 = some (.aload_n 0, 1, 0, 0, 0) := by decide +kernel
theorem k209_172 : look (codL 209) 172 = some (.iload_n 3, 1, 0, 0, 0) := by decide +kernel
theorem k209_173 : look (codL 209) 173 = some (.iload 4, 2, 0, 0, 0) := by decide +kernel
theorem k209_175 : look (codL 209) 175 = some (.invokevirtual 139, 3, 149, 3, 0) := by decide +kernel
theorem k209_178 : look (codL 209) 178 = some (.i2l, 1, 0, 0, 0) := by decide +kernel
theorem k209_179 : look (codL 209) 179 = some (.ladd, 1, 0, 0, 0) := by decide +kernel
theorem k209_180 : look (codL 209) 180 = some (.lstore_n 1, 1, 0, 0, 0) := by decide +kernel
theorem k209_181 : look (codL 209) 181 = some (.iinc 4 1, 3, 0, 0, 0) := by decide +kernel
theorem k209_184 : look (codL 209) 184 = some (.goto (-28), 3, 0, 0, 0) := by decide +kernel
theorem k209_187 : look (codL 209) 187 = some (.iinc 3 1, 3, 0, 0, 0) := by decide +kernel
theorem k209_190 : look (codL 209) 190 = some (.goto (-87), 3, 0, 0, 0) := by decide +kernel
theorem k209_193 : look (codL 209) 193 = some (.lload_n 1, 1, 0, 0, 0) := by decide +kernel
theorem k209_194 : look (codL 209) 194 = some (.lreturn, 1, 0, 0, 0) := by decide +kernel
theorem k210_0 : look (codL 210) 0 = some (.iload_n 1, 1, 0, 0, 0) := by decide +kernel
theorem k210_1 : look (codL 210) 1 = some (.iconst 0, 1, 0, 0, 0) := by decide +kernel
theorem k210_2 : look (codL 210) 2 = some (.bipush 127, 2, 0, 0, 0) := by decide +kernel
theorem k210_4 : look (codL 210) 4 = some (.invokestatic 90, 3, 138, 3, 0) := by decide +kernel
theorem k210_7 : look (codL 210) 7 = some (.ifCond .ne 8, 3, 0, 0, 0) := by decide +kernel
theorem k210_10 : look (codL 210) 10 = some (.aload_n 0, 1, 0, 0, 0) := by decide +kernel
theorem k210_11 : look (codL 210) 11 = some (.invokevirtual 110, 3, 135, 1, 0) := by decide +kernel
theorem k210_14 : look (codL 210) 14 = some (.ireturn, 1, 0, 0, 0) := by decide +kernel
theorem k210_15 : look (codL 210) 15 = some (.aload_n 0, 1, 0, 0, 0) := by decide +kernel
theorem k210_16 : look (codL 210) 16 = some (.getfield 268, 3, 10, 24, 0) := by decide +kernel
theorem k210_19 : look (codL 210) 19 = some (.bipush 120, 2, 0, 0, 0) := by decide +kernel
theorem k210_21 : look (codL 210) 21 = some (.if_icmp .ne 8, 3, 0, 0, 0) := by decide +kernel
theorem k210_24 : look (codL 210) 24 = some (.aload_n 0, 1, 0, 0, 0) := by decide +kernel
theorem k210_25 : look (codL 210) 25 = some (.invokevirtual 97, 3, 137, 1, 0) := by decide +kernel
theorem k210_28 : look (codL 210) 28 = some (.ireturn, 1, 0, 0, 0) := by decide +kernel
theorem k210_29 : look (codL 210) 29 = some (.aload_n 0, 1, 0, 0, 0) := by decide +kernel
theorem k210_30 : look (codL 210) 30 = some (.getfield 65, 3, 10, 23, 0) := by decide +kernel
theorem k210_33 : look (codL 210) 33 = some (.aload_n 0, 1, 0, 0, 0) := by decide +kernel
theorem k210_34 : look (codL 210) 34 = some (.getfield 268, 3, 10, 24, 0) := by decide +kernel
theorem k210_37 : look (codL 210) 37 = some (.iload_n 1, 1, 0, 0, 0) := by decide +kernel
theorem k210_38 : look (codL 210) 38 = some (.iastore, 1, 0, 0, 0) := by decide +kernel
theorem k210_39 : look (codL 210) 39 = some (.aload_n 0, 1, 0, 0, 0) := by decide +kernel
theorem k210_40 : look (codL 210) 40 = some (.dup, 1, 0, 0, 0) := by decide +kernel
theorem k210_41 : look (codL 210) 41 = some (.getfield 268, 3, 10, 24, 0) := by decide +kernel
theorem k210_44 : look (codL 210) 44 = some (.iconst 1, 1, 0, 0, 0) := by decide +kernel
theorem k210_45 : look (codL 210) 45 = some (.iadd, 1, 0, 0, 0) := by decide +kernel
theorem k210_46 : look (codL 210) 46 = some (.putfield 268, 3, 10, 24, 0) := by decide +kernel
theorem k210_49 : look (codL 210) 49 = some (.aload_n 0, 1, 0, 0, 0) := by decide +kernel
theorem k210_50 : look (codL 210) 50 = some (.getfield 268, 3, 10, 24, 0) := by decide +kernel
theorem k210_53 : look (codL 210) 53 = some (.ireturn, 1, 0, 0, 0) := by decide +kernel
theorem k211_0 : look (codL 211) 0 = some (.aload_n 0, 1, 0, 0, 0) := by decide +kernel
theorem k211_1 : look (codL 211) 1 = some (.getfield 268, 3, 10, 24, 0) := by decide +kernel
theorem k211_4 : look (codL 211) 4 = some (.istore_n 1, 1, 0, 0, 0) := by decide +kernel
theorem k211_5 : look (codL 211) 5 = some (.aload_n 0, 1, 0, 0, 0) := by decide +kernel
theorem k211_6 : look (codL 211) 6 = some (.iconst 0, 1, 0, 0, 0) := by decide +kernel
theorem k211_7 : look (codL 211) 7 = some (.putfield 268, 3, 10, 24, 0) := by decide +kernel
theorem k211_10 : look (codL 211) 10 = some (.iload_n 1, 1, 0, 0, 0) := by decide +kernel
theorem k211_11 : look (codL 211) 11 = some (.ireturn, 1, 0, 0, 0) := by decide +kernel
theorem k212_0 : look (codL 212) 0 = some (.aload_n 0, 1, 0, 0, 0) := by decide +kernel
theorem k212_1 : look (codL 212) 1 = some (.getfield 276, 3, 10, 25, 0) := by decide +kernel
theorem k212_4 : look (codL 212) 4 = some (.aload_n 0, 1, 0, 0, 0) := by decide +kernel
theorem k212_5 : look (codL 212) 5 = some (.getfield 268, 3, 10, 24, 0) := by decide +kernel
theorem k212_8 : look (codL 212) 8 = some (.if_icmp .ge 15, 3, 0, 0, 0) := by decide +kernel
theorem k212_11 : look (codL 212) 11 = some (.aload_n 0, 1, 0, 0, 0) := by decide +kernel
theorem k212_12 : look (codL 212) 12 = some (.getfield 65, 3, 10, 23, 0) := by decide +kernel
theorem k212_15 : look (codL 212) 15 = some (.aload_n 0, 1, 0, 0, 0) := by decide +kernel
theorem k212_16 : look (codL 212) 16 = some (.getfield 276, 3, 10, 25, 0) := by decide +kernel
theorem k212_19 : look (codL 212) 19 = some (.iaload, 1, 0, 0, 0) := by decide +kernel
theorem k212_20 : look (codL 212) 20 = some (.goto 6, 3, 0, 0, 0) := by decide +kernel
theorem k212_23 : look (codL 212) 23 = some (.sipush (-201), 3, 0, 0, 0) := by decide +kernel
theorem k212_26 : look (codL 212) 26 = some (.ireturn, 1, 0, 0, 0) := by decide +kernel
theorem k213_0 : look (codL 213) 0 = some (.aload_n 0, 1, 0, 0, 0) := by decide +kernel
theorem k213_1 : look (codL 213) 1 = some (.invokevirtual 279, 3, 212, 1, 0) := by decide +kernel
theorem k213_4 : look (codL 213) 4 = some (.bipush 32, 2, 0, 0, 0) := by decide +kernel
theorem k213_6 : look (codL 213) 6 = some (.if_icmp .ne 16, 3, 0, 0, 0) := by decide +kernel
theorem k213_9 : look (codL 213) 9 = some (.aload_n 0, 1, 0, 0, 0) := by decide +kernel
theorem k213_10 : look (codL 213) 10 = some (.dup, 1, 0, 0, 0) := by decide +kernel
theorem k213_11 : look (codL 213) 11 = some (.getfield 276, 3, 10, 25, 0) := by decide +kernel
theorem k213_14 : look (codL 213) 14 = some (.iconst 1, 1, 0, 0, 0) := by decide +kernel
theorem k213_15 : look (codL 213) 15 = some (.iadd, 1, 0, 0, 0) := by decide +kernel
theorem k213_16 : look (codL 213) 16 = some (.putfield 276, 3, 10, 25, 0) := by decide +kernel
theorem k213_19 : look (codL 213) 19 = some (.goto (-19), 3, 0, 0, 0) := by decide +kernel
theorem k213_22 : look (codL 213) 22 = some (.return_, 1, 0, 0, 0) := by decide +kernel
theorem k214_0 : look (codL 214) 0 = some (.iload_n 0, 1, 0, 0, 0) := by decide +kernel
theorem k214_1 : look (codL 214) 1 = some (.bipush 48, 2, 0, 0, 0) := by decide +kernel
theorem k214_3 : look (codL 214) 3 = some (.bipush 57, 2, 0, 0, 0) := by decide +kernel
theorem k214_5 : look (codL 214) 5 = some (.invokestatic 90, 3, 138, 3, 0) := by decide +kernel
theorem k214_8 : look (codL 214) 8 = some (.ireturn, 1, 0, 0, 0) := by decide +kernel
theorem k215_0 : look (codL 215) 0 = some (.iconst 0, 1, 0, 0, 0) := by decide +kernel
theorem k215_1 : look (codL 215) 1 = some (.istore_n 2, 1, 0, 0, 0) := by decide +kernel
theorem k215_2 : look (codL 215) 2 = some (.iload_n 1, 1, 0, 0, 0) := by decide +kernel
theorem k215_3 : look (codL 215) 3 = some (.iload_n 2, 1, 0, 0, 0) := by decide +kernel
theorem k215_4 : look (codL 215) 4 = some (.iadd, 1, 0, 0, 0) := by decide +kernel
theorem k215_5 : look (codL 215) 5 = some (.aload_n 0, 1, 0, 0, 0) := by decide +kernel
theorem k215_6 : look (codL 215) 6 = some (.getfield 268, 3, 10, 24, 0) := by decide +kernel
theorem k215_9 : look (codL 215) 9 = some (.if_icmp .ge 23, 3, 0, 0, 0) := by decide +kernel
theorem k215_12 : look (codL 215) 12 = some (.aload_n 0, 1, 0, 0, 0) := by decide +kernel
theorem k215_13 : look (codL 215) 13 = some (.getfield 65, 3, 10, 23, 0) := by decide +kernel
theorem k215_16 : look (codL 215) 16 = some (.iload_n 1, 1, 0, 0, 0) := by decide +kernel
theorem k215_17 : look (codL 215) 17 = some (.iload_n 2, 1, 0, 0, 0) := by decide +kernel
theorem k215_18 : look (codL 215) 18 = some (.iadd, 1, 0, 0, 0) := by decide +kernel
theorem k215_19 : look (codL 215) 19 = some (.iaload, 1, 0, 0, 0) := by decide +kernel
theorem k215_20 : look (codL 215) 20 = some (.invokestatic 282, 3, 214, 1, 0) := by decide +kernel
theorem k215_23 : look (codL 215) 23 = some (.ifCond .eq 9, 3, 0, 0, 0) := by decide +kernel
theorem k215_26 : look (codL 215) 26 = some (.iinc 2 1, 3, 0, 0, 0) := by decide +kernel
theorem k215_29 : look (codL 215) 29 = some (.goto (-27), 3, 0, 0, 0) := by decide +kernel
theorem k215_32 : look (codL 215) 32 = some (.iload_n 2, 1, 0, 0, 0) := by decide +kernel
theorem k215_33 : look (codL 215) 33 = some (.ireturn, 1, 0, 0, 0) := by decide +kernel
theorem k216_0 : look (codL 216) 0 = some (.aload_n 0, 1, 0, 0, 0) := by decide +kernel
theorem k216_1 : look (codL 216) 1 = some (.invokevirtual 285, 3, 213, 1, 0) := by decide +kernel
theorem k216_4 : look (codL 216) 4 = some (.aload_n 0, 1, 0, 0, 0) := by decide +kernel
theorem k216_5 : look (codL 216) 5 = some (.aload_n 0, 1, 0, 0, 0) := by decide +kernel
theorem k216_6 : look (codL 216) 6 = some (.getfield 276, 3, 10, 25, 0) := by decide +kernel
theorem k216_9 : look (codL 216) 9 = some (.invokevirtual 288, 3, 215, 2, 0) := by decide +kernel
theorem k216_12 : look (codL 216) 12 = some (.istore_n 3, 1, 0, 0, 0) := by decide +kernel
theorem k216_13 : look (codL 216) 13 = some (.iconst 0, 1, 0, 0, 0) := by decide +kernel
theorem k216_14 : look (codL 216) 14 = some (.istore 4, 2, 0, 0, 0) := by decide +kernel
theorem k216_16 : look (codL 216) 16 = some (.iconst 0, 1, 0, 0, 0) := by decide +kernel
theorem k216_17 : look (codL 216) 17 = some (.istore 5, 2, 0, 0, 0) := by decide +kernel
theorem k216_19 : look (codL 216) 19 = some (.iload 5, 2, 0, 0, 0) := by decide +kernel
theorem k216_21 : look (codL 216) 21 = some (.iload_n 3, 1, 0, 0, 0) := by decide +kernel
theorem k216_22 : look (codL 216) 22 = some (.if_icmp .ge 38, 3, 0, 0, 0) := by decide +kernel
theorem k216_25 : look (codL 216) 25 = some (.iload 5, 2, 0, 0, 0) := by decide +kernel
theorem k216_27 : look (codL 216) 27 = some (.iconst 3, 1, 0, 0, 0) := by decide +kernel
theorem k216_28 : look (codL 216) 28 = some (.if_icmp .ge 32, 3, 0, 0, 0) := by decide +kernel
theorem k216_31 : look (codL 216) 31 = some (.bipush 10, 2, 0, 0, 0) := by decide +kernel
theorem k216_33 : look (codL 216) 33 = some (.iload 4, 2, 0, 0, 0) := by decide +kernel
theorem k216_35 : look (codL 216) 35 = some (.imul, 1, 0, 0, 0) := by decide +kernel
theorem k216_36 : look (codL 216) 36 = some (.aload_n 0, 1, 0, 0, 0) := by decide +kernel
theorem k216_37 : look (codL 216) 37 = some (.getfield 65, 3, 10, 23, 0) := by decide +kernel
theorem k216_40 : look (codL 216) 40 = some (.aload_n 0, 1, 0, 0, 0) := by decide +kernel
theorem k216_41 : look (codL 216) 41 = some (.getfield 276, 3, 10, 25, 0) := by decide +kernel
theorem k216_44 : look (codL 216) 44 = some (.iload 5, 2, 0, 0, 0) := by decide +kernel
theorem k216_46 : look (codL 216) 46 = some (.iadd, 1, 0, 0, 0) := by decide +kernel
theorem k216_47 : look (codL 216) 47 = some (.iaload, 1, 0, 0, 0) := by decide +kernel
theorem k216_48 : look (codL 216) 48 = some (.iadd, 1, 0, 0, 0) := by decide +kernel
theorem k216_49 : look (codL 216) 49 = some (.bipush 48, 2, 0, 0, 0) := by decide +kernel
theorem k216_51 : look (codL 216) 51 = some (.isub, 1, 0, 0, 0) := by decide +kernel
theorem k216_52 : look (codL 216) 52 = some (.istore 4, 2, 0, 0, 0) := by decide +kernel
theorem k216_54 : look (codL 216) 54 = some (.iinc 5 1, 3, 0, 0, 0) := by decide +kernel
theorem k216_57 : look (codL 216) 57 = some (.goto (-38), 3, 0, 0, 0) := by decide +kernel
theorem k216_60 : look (codL 216) 60 = some (.iload_n 3, 1, 0, 0, 0) := by decide +kernel
theorem k216_61 : look (codL 216) 61 = some (.iconst 1, 1, 0, 0, 0) := by decide +kernel
theorem k216_62 : look (codL 216) 62 = some (.iconst 3, 1, 0, 0, 0) := by decide +kernel
theorem k216_63 : look (codL 216) 63 = some (.invokestatic 90, 3, 138, 3, 0) := by decide +kernel
theorem k216_66 : look (codL 216) 66 = some (.ifCond .eq 13, 3, 0, 0, 0) := by decide +kernel
theorem k216_69 : look (codL 216) 69 = some (.iload 4, 2, 0, 0, 0) := by decide +kernel
theorem k216_71 : look (codL 216) 71 = some (.iload_n 1, 1, 0, 0, 0) := by decide +kernel
theorem k216_72 : look (codL 216) 72 = some (.iload_n 2, 1, 0, 0, 0) := by decide +kernel
theorem k216_73 : look (codL 216) 73 = some (.invokestatic 90, 3, 138, 3, 0) := by decide +kernel
theorem k216_76 : look (codL 216) 76 = some (.ifCond .ne 5, 3, 0, 0, 0) := by decide +kernel
theorem k216_79 : look (codL 216) 79 = some (.iconst 0, 1, 0, 0, 0) := by decide +kernel
theorem k216_80 : look (codL 216) 80 = some (.ireturn, 1, 0, 0, 0) := by decide +kernel
theorem k216_81 : look (codL 216) 81 = some (.aload_n 0, 1, 0, 0, 0) := by decide +kernel
theorem k216_82 : look (codL 216) 82 = some (.iload 4, 2, 0, 0, 0) := by decide +kernel
theorem k216_84 : look (codL 216) 84 = some (.putfield 291, 3, 10, 26, 0) := by decide +kernel
theorem k216_87 : look (codL 216) 87 = some (.aload_n 0, 1, 0, 0, 0) := by decide +kernel
theorem k216_88 : look (codL 216) 88 = some (.dup, 1, 0, 0, 0) := by decide +kernel
theorem k216_89 : look (codL 216) 89 = some (.getfield 276, 3, 10, 25, 0) := by decide +kernel
theorem k216_92 : look (codL 216) 92 = some (.iload_n 3, 1, 0, 0, 0) := by decide +kernel
theorem k216_93 : look (codL 216) 93 = some (.iadd, 1, 0, 0, 0) := by decide +kernel
theorem k216_94 : look (codL 216) 94 = some (.putfield 276, 3, 10, 25, 0) := by decide +kernel
theorem k216_97 : look (codL 216) 97 = some (.iconst 1, 1, 0, 0, 0) := by decide +kernel
theorem k216_98 : look (codL 216) 98 = some (.ireturn, 1, 0, 0, 0) := by decide +kernel
theorem k217_0 : look (codL 217) 0 = some (.aload_n 0, 1, 0, 0, 0) := by decide +kernel
theorem k217_1 : look (codL 217) 1 = some (.invokevirtual 285, 3, 213, 1, 0) := by decide +kernel
theorem k217_4 : look (codL 217) 4 = some (.aload_n 0, 1, 0, 0, 0) := by decide +kernel
theorem k217_5 : look (codL 217) 5 = some (.invokevirtual 279, 3, 212, 1, 0) := by decide +kernel
theorem k217_8 : look (codL 217) 8 = some (.bipush 59, 2, 0, 0, 0) := by decide +kernel
theorem k217_10 : look (codL 217) 10 = some (.if_icmp .eq 5, 3, 0, 0, 0) := by decide +kernel
theorem k217_13 : look (codL 217) 13 = some (.iconst 0, 1, 0, 0, 0) := by decide +kernel
theorem k217_14 : look (codL 217) 14 = some (.ireturn, 1, 0, 0, 0) := by decide +kernel
theorem k217_15 : look (codL 217) 15 = some (.aload_n 0, 1, 0, 0, 0) := by decide +kernel
theorem k217_16 : look (codL 217) 16 = some (.dup, 1, 0, 0, 0) := by decide +kernel
theorem k217_17 : look (codL 217) 17 = some (.getfield 276, 3, 10, 25, 0) := by decide +kernel
theorem k217_20 : look (codL 217) 20 = some (.iconst 1, 1, 0, 0, 0) := by decide +kernel
theorem k217_21 : look (codL 217) 21 = some (.iadd, 1, 0, 0, 0) := by decide +kernel
theorem k217_22 : look (codL 217) 22 = some (.putfield 276, 3, 10, 25, 0) := by decide +kernel
theorem k217_25 : look (codL 217) 25 = some (.iconst 1, 1, 0, 0, 0) := by decide +kernel
theorem k217_26 : look (codL 217) 26 = some (.ireturn, 1, 0, 0, 0) := by decide +kernel
theorem k218_0 : look (codL 218) 0 = some (.aload_n 0, 1, 0, 0, 0) := by decide +kernel
theorem k218_1 : look (codL 218) 1 = some (.getfield 86, 3, 10, 1, 0) := by decide +kernel
theorem k218_4 : look (codL 218) 4 = some (.bipush 10, 2, 0, 0, 0) := by decide +kernel
theorem k218_6 : look (codL 218) 6 = some (.if_icmp .ne 5, 3, 0, 0, 0) := by decide +kernel
theorem k218_9 : look (codL 218) 9 = some (.iconst 0, 1, 0, 0, 0) := by decide +kernel
theorem k218_10 : look (codL 218) 10 = some (.ireturn, 1, 0, 0, 0) := by decide +kernel
theorem k218_11 : look (codL 218) 11 = some (.aload_n 0, 1, 0, 0, 0) := by decide +kernel
theorem k218_12 : look (codL 218) 12 = some (.dup, 1, 0, 0, 0) := by decide +kernel
theorem k218_13 : look (codL 218) 13 = some (.getfield 276, 3, 10, 25, 0) := by decide +kernel
theorem k218_16 : look (codL 218) 16 = some (.iconst 1, 1, 0, 0, 0) := by decide +kernel
theorem k218_17 : look (codL 218) 17 = some (.iadd, 1, 0, 0, 0) := by decide +kernel
theorem k218_18 : look (codL 218) 18 = some (.putfield 276, 3, 10, 25, 0) := by decide +kernel
theorem k218_21 : look (codL 218) 21 = some (.aload_n 0, 1, 0, 0, 0) := by decide +kernel
theorem k218_22 : look (codL 218) 22 = some (.invokevirtual 101, 3, 151, 1, 0) := by decide +kernel
theorem k218_25 : look (codL 218) 25 = some (.istore_n 1, 1, 0, 0, 0) := by decide +kernel
theorem k218_26 : look (codL 218) 26 = some (.aload_n 0, 1, 0, 0, 0) := by decide +kernel
theorem k218_27 : look (codL 218) 27 = some (.invokevirtual 285, 3, 213, 1, 0) := by decide +kernel
theorem k218_30 : look (codL 218) 30 = some (.aload_n 0, 1, 0, 0, 0) := by decide +kernel
theorem k218_31 : look (codL 218) 31 = some (.invokevirtual 279, 3, 212, 1, 0) := by decide +kernel
theorem k218_34 : look (codL 218) 34 = some (.invokestatic 282, 3, 214, 1, 0) := by decide +kernel
theorem k218_37 : look (codL 218) 37 = some (.ifCond .eq 78, 3, 0, 0, 0) := by decide +kernel
theorem k218_40 : look (codL 218) 40 = some (.aload_n 0, 1, 0, 0, 0) := by decide +kernel
theorem k218_41 : look (codL 218) 41 = some (.getfield 276, 3, 10, 25, 0) := by decide +kernel
theorem k218_44 : look (codL 218) 44 = some (.istore_n 2, 1, 0, 0, 0) := by decide +kernel
theorem k218_45 : look (codL 218) 45 = some (.aload_n 0, 1, 0, 0, 0) := by decide +kernel
theorem k218_46 : look (codL 218) 46 = some (.getfield 13, 3, 10, 4, 0) := by decide +kernel
theorem k218_49 : look (codL 218) 49 = some (.iload_n 1, 1, 0, 0, 0) := by decide +kernel
theorem k218_50 : look (codL 218) 50 = some (.iaload, 1, 0, 0, 0) := by decide +kernel
theorem k218_51 : look (codL 218) 51 = some (.bipush 6, 2, 0, 0, 0) := by decide +kernel
theorem k218_53 : look (codL 218) 53 = some (.if_icmp .eq 14, 3, 0, 0, 0) := by decide +kernel
theorem k218_56 : look (codL 218) 56 = some (.aload_n 0, 1, 0, 0, 0) := by decide +kernel
theorem k218_57 : look (codL 218) 57 = some (.iconst 0, 1, 0, 0, 0) := by decide +kernel
theorem k218_58 : look (codL 218) 58 = some (.sipush 999, 3, 0, 0, 0) := by decide +kernel
theorem k218_61 : look (codL 218) 61 = some (.invokevirtual 294, 3, 216, 3, 0) := by decide +kernel
theorem k218_64 : look (codL 218) 64 = some (.ifCond .ne 5, 3, 0, 0, 0) := by decide +kernel
theorem k218_67 : look (codL 218) 67 = some (.iconst 0, 1, 0, 0, 0) := by decide +kernel
theorem k218_68 : look (codL 218) 68 = some (.ireturn, 1, 0, 0, 0) := by decide +kernel
theorem k218_69 : look (codL 218) 69 = some (.aload_n 0, 1, 0, 0, 0) := by decide +kernel
theorem k218_70 : look (codL 218) 70 = some (.getfield 291, 3, 10, 26, 0) := by decide +kernel
theorem k218_73 : look (codL 218) 73 = some (.invokestatic 107, 3, 142, 1, 0) := by decide +kernel
theorem k218_76 : look (codL 218) 76 = some (.ifCond .eq 15, 3, 0, 0, 0) := by decide +kernel
theorem k218_79 : look (codL 218) 79 = some (.aload_n 0, 1, 0, 0, 0) := by decide +kernel
theorem k218_80 : look (codL 218) 80 = some (.iload_n 1, 1, 0, 0, 0) := by decide +kernel
theorem k218_81 : look (codL 218) 81 = some (.aload_n 0, 1, 0, 0, 0) := by decide +kernel
theorem k218_82 : look (codL 218) 82 = some (.getfield 291, 3, 10, 26, 0) := by decide +kernel
theorem k218_85 : look (codL 218) 85 = some (.invokevirtual 113, 3, 153, 3, 0) := by decide +kernel
theorem k218_88 : look (codL 218) 88 = some (.ifCond .eq 10, 3, 0, 0, 0) := by decide +kernel
theorem k218_91 : look (codL 218) 91 = some (.aload_n 0, 1, 0, 0, 0) := by decide +kernel
theorem k218_92 : look (codL 218) 92 = some (.iload_n 2, 1, 0, 0, 0) := by decide +kernel
theorem k218_93 : look (codL 218) 93 = some (.putfield 276, 3, 10, 25, 0) := by decide +kernel
theorem k218_96 : look (codL 218) 96 = some (.iconst 0, 1, 0, 0, 0) := by decide +kernel
theorem k218_97 : look (codL 218) 97 = some (.ireturn, 1, 0, 0, 0) := by decide +kernel
theorem k218_98 : look (codL 218) 98 = some (.aload_n 0, 1, 0, 0, 0) := by decide +kernel
theorem k218_99 : look (codL 218) 99 = some (.iload_n 1, 1, 0, 0, 0) := by decide +kernel
theorem k218_100 : look (codL 218) 100 = some (.aload_n 0, 1, 0, 0, 0) := by decide +kernel
theorem k218_101 : look (codL 218) 101 = some (.getfield 291, 3, 10, 26, 0) := by decide +kernel
theorem k218_104 : look (codL 218) 104 = some (.invokevirtual 119, 3, 154, 3, 0) := by decide +kernel
theorem k218_107 : look (codL 218) 107 = some (.pop, 1, 0, 0, 0) := by decide +kernel
theorem k218_108 : look (codL 218) 108 = some (.aload_n 0, 1, 0, 0, 0) := by decide +kernel
theorem k218_109 : look (codL 218) 109 = some (.invokevirtual 285, 3, 213, 1, 0) := by decide +kernel
theorem k218_112 : look (codL 218) 112 = some (.goto (-82), 3, 0, 0, 0) := by decide +kernel
theorem k218_115 : look (codL 218) 115 = some (.aload_n 0, 1, 0, 0, 0) := by decide +kernel
theorem k218_116 : look (codL 218) 116 = some (.invokevirtual 297, 3, 217, 1, 0) := by decide +kernel
theorem k218_119 : look (codL 218) 119 = some (.ireturn, 1, 0, 0, 0) := by decide +kernel
theorem k219_0 : look (codL 219) 0 = some (.aload_n 0, 1, 0, 0, 0) := by decide +kernel
theorem k219_1 : look (codL 219) 1 = some (.aload_n 0, 1, 0, 0, 0) := by decide +kernel
theorem k219_2 : look (codL 219) 2 = some (.getfield 276, 3, 10, 25, 0) := by decide +kernel
theorem k219_5 : look (codL 219) 5 = some (.iconst 1, 1, 0, 0, 0) := by decide +kernel
theorem k219_6 : look (codL 219) 6 = some (.iadd, 1, 0, 0, 0) := by decide +kernel
theorem k219_7 : look (codL 219) 7 = some (.invokevirtual 288, 3, 215, 2, 0) := by decide +kernel
theorem k219_10 : look (codL 219) 10 = some (.istore_n 1, 1, 0, 0, 0) := by decide +kernel
theorem k219_11 : look (codL 219) 11 = some (.iconst 0, 1, 0, 0, 0) := by decide +kernel
theorem k219_12 : look (codL 219) 12 = some (.istore_n 2, 1, 0, 0, 0) := by decide +kernel
theorem k219_13 : look (codL 219) 13 = some (.iconst 0, 1, 0, 0, 0) := by decide +kernel
theorem k219_14 : look (codL 219) 14 = some (.istore_n 3, 1, 0, 0, 0) := by decide +kernel
theorem k219_15 : look (codL 219) 15 = some (.iload_n 3, 1, 0, 0, 0) := by decide +kernel
theorem k219_16 : look (codL 219) 16 = some (.iload_n 1, 1, 0, 0, 0) := by decide +kernel
theorem k219_17 : look (codL 219) 17 = some (.if_icmp .ge 36, 3, 0, 0, 0) := by decide +kernel
theorem k219_20 : look (codL 219) 20 = some (.iload_n 3, 1, 0, 0, 0) := by decide +kernel
theorem k219_21 : look (codL 219) 21 = some (.iconst 3, 1, 0, 0, 0) := by decide +kernel
theorem k219_22 : look (codL 219) 22 = some (.if_icmp .ge 31, 3, 0, 0, 0) := by decide +kernel
theorem k219_25 : look (codL 219) 25 = some (.bipush 10, 2, 0, 0, 0) := by decide +kernel
theorem k219_27 : look (codL 219) 27 = some (.iload_n 2, 1, 0, 0, 0) := by decide +kernel
theorem k219_28 : look (codL 219) 28 = some (.imul, 1, 0, 0, 0) := by decide +kernel
theorem k219_29 : look (codL 219) 29 = some (.aload_n 0, 1, 0, 0, 0) := by decide +kernel
theorem k219_30 : look (codL 219) 30 = some (.getfield 65, 3, 10, 23, 0) := by decide +kernel
theorem k219_33 : look (codL 219) 33 = some (.aload_n 0, 1, 0, 0, 0) := by decide +kernel
theorem k219_34 : look (codL 219) 34 = some (.getfield 276, 3, 10, 25, 0) := by decide +kernel
theorem k219_37 : look (codL 219) 37 = some (.iconst 1, 1, 0, 0, 0) := by decide +kernel
theorem k219_38 : look (codL 219) 38 = some (.iadd, 1, 0, 0, 0) := by decide +kernel
theorem k219_39 : look (codL 219) 39 = some (.iload_n 3, 1, 0, 0, 0) := by decide +kernel
theorem k219_40 : look (codL 219) 40 = some (.iadd, 1, 0, 0, 0) := by decide +kernel
theorem k219_41 : look (codL 219) 41 = some (.iaload, 1, 0, 0, 0) := by decide +kernel
theorem k219_42 : look (codL 219) 42 = some (.iadd, 1, 0, 0, 0) := by decide +kernel
theorem k219_43 : look (codL 219) 43 = some (.bipush 48, 2, 0, 0, 0) := by decide +kernel
theorem k219_45 : look (codL 219) 45 = some (.isub, 1, 0, 0, 0) := by decide +kernel
theorem k219_46 : look (codL 219) 46 = some (.istore_n 2, 1, 0, 0, 0) := by decide +kernel
theorem k219_47 : look (codL 219) 47 = some (.iinc 3 1, 3, 0, 0, 0) := by decide +kernel
theorem k219_50 : look (codL 219) 50 = some (.goto (-35), 3, 0, 0, 0) := by decide +kernel
theorem k219_53 : look (codL 219) 53 = some (.iload_n 1, 1, 0, 0, 0) := by decide +kernel
theorem k219_54 : look (codL 219) 54 = some (.iconst 1, 1, 0, 0, 0) := by decide +kernel
theorem k219_55 : look (codL 219) 55 = some (.iconst 3, 1, 0, 0, 0) := by decide +kernel
theorem k219_56 : look (codL 219) 56 = some (.invokestatic 90, 3, 138, 3, 0) := by decide +kernel
theorem k219_59 : look (codL 219) 59 = some (.ifCond .eq 9, 3, 0, 0, 0) := by decide +kernel
theorem k219_62 : look (codL 219) 62 = some (.iload_n 2, 1, 0, 0, 0) := by decide +kernel
theorem k219_63 : look (codL 219) 63 = some (.bipush 99, 2, 0, 0, 0) := by decide +kernel
theorem k219_65 : look (codL 219) 65 = some (.if_icmp .le 5, 3, 0, 0, 0) := by decide +kernel
theorem k219_68 : look (codL 219) 68 = some (.iconst 0, 1, 0, 0, 0) := by decide +kernel
theorem k219_69 : look (codL 219) 69 = some (.ireturn, 1, 0, 0, 0) := by decide +kernel
theorem k219_70 : look (codL 219) 70 = some (.aload_n 0, 1, 0, 0, 0) := by decide +kernel
theorem k219_71 : look (codL 219) 71 = some (.dup, 1, 0, 0, 0) := by decide +kernel
theorem k219_72 : look (codL 219) 72 = some (.getfield 276, 3, 10, 25, 0) := by decide +kernel
theorem k219_75 : look (codL 219) 75 = some (.iload_n 1, 1, 0, 0, 0) := by decide +kernel
theorem k219_76 : look (codL 219) 76 = some (.iconst 1, 1, 0, 0, 0) := by decide +kernel
theorem k219_77 : look (codL 219) 77 = some (.iadd, 1, 0, 0, 0) := by decide +kernel
theorem k219_78 : look (codL 219) 78 = some (.iadd, 1, 0, 0, 0) := by decide +kernel
theorem k219_79 : look (codL 219) 79 = some (.putfield 276, 3, 10, 25, 0) := by decide +kernel
theorem k219_82 : look (codL 219) 82 = some (.iconst (-1), 1, 0, 0, 0) := by decide +kernel
theorem k219_83 : look (codL 219) 83 = some (.iload_n 2, 1, 0, 0, 0) := by decide +kernel
theorem k219_84 : look (codL 219) 84 = some (.isub, 1, 0, 0, 0) := by decide +kernel
theorem k219_85 : look (codL 219) 85 = some (.ireturn, 1, 0, 0, 0) := by decide +kernel
theorem k220_0 : look (codL 220) 0 = some (.aload_n 0, 1, 0, 0, 0) := by decide +kernel
theorem k220_1 : look (codL 220) 1 = some (.invokevirtual 285, 3, 213, 1, 0) := by decide +kernel
theorem k220_4 : look (codL 220) 4 = some (.aload_n 0, 1, 0, 0, 0) := by decide +kernel
theorem k220_5 : look (codL 220) 5 = some (.getfield 276, 3, 10, 25, 0) := by decide +kernel
theorem k220_8 : look (codL 220) 8 = some (.istore_n 3, 1, 0, 0, 0) := by decide +kernel
theorem k220_9 : look (codL 220) 9 = some (.iconst 0, 1, 0, 0, 0) := by decide +kernel
theorem k220_10 : look (codL 220) 10 = some (.istore 4, 2, 0, 0, 0) := by decide +kernel
theorem k220_12 : look (codL 220) 12 = some (.aload_n 0, 1, 0, 0, 0) := by decide +kernel
theorem k220_13 : look (codL 220) 13 = some (.invokevirtual 279, 3, 212, 1, 0) := by decide +kernel
theorem k220_16 : look (codL 220) 16 = some (.bipush 35, 2, 0, 0, 0) := by decide +kernel
theorem k220_18 : look (codL 220) 18 = some (.if_icmp .ne 12, 3, 0, 0, 0) := by decide +kernel
theorem k220_21 : look (codL 220) 21 = some (.aload_n 0, 1, 0, 0, 0) := by decide +kernel
theorem k220_22 : look (codL 220) 22 = some (.invokevirtual 301, 3, 219, 1, 0) := by decide +kernel
theorem k220_25 : look (codL 220) 25 = some (.istore 4, 2, 0, 0, 0) := by decide +kernel
theorem k220_27 : look (codL 220) 27 = some (.goto 20, 3, 0, 0, 0) := by decide +kernel
theorem k220_30 : look (codL 220) 30 = some (.aload_n 0, 1, 0, 0, 0) := by decide +kernel
theorem k220_31 : look (codL 220) 31 = some (.iconst 0, 1, 0, 0, 0) := by decide +kernel
theorem k220_32 : look (codL 220) 32 = some (.sipush 999, 3, 0, 0, 0) := by decide +kernel
theorem k220_35 : look (codL 220) 35 = some (.invokevirtual 294, 3, 216, 3, 0) := by decide +kernel
theorem k220_38 : look (codL 220) 38 = some (.ifCond .eq 9, 3, 0, 0, 0) := by decide +kernel
theorem k220_41 : look (codL 220) 41 = some (.aload_n 0, 1, 0, 0, 0) := by decide +kernel
theorem k220_42 : look (codL 220) 42 = some (.getfield 291, 3, 10, 26, 0) := by decide +kernel
theorem k220_45 : look (codL 220) 45 = some (.istore 4, 2, 0, 0, 0) := by decide +kernel
theorem k220_47 : look (codL 220) 47 = some (.iload 4, 2, 0, 0, 0) := by decide +kernel
theorem k220_49 : look (codL 220) 49 = some (.ifCond .eq 14, 3, 0, 0, 0) := by decide +kernel
theorem k220_52 : look (codL 220) 52 = some (.aload_n 0, 1, 0, 0, 0) := by decide +kernel
theorem k220_53 : look (codL 220) 53 = some (.iload_n 1, 1, 0, 0, 0) := by decide +kernel
theorem k220_54 : look (codL 220) 54 = some (.iload_n 2, 1, 0, 0, 0) := by decide +kernel
theorem k220_55 : look (codL 220) 55 = some (.iload 4, 2, 0, 0, 0) := by decide +kernel
theorem k220_57 : look (codL 220) 57 = some (.invokevirtual 136, 3, 158, 4, 0) := by decide +kernel
theorem k220_60 : look (codL 220) 60 = some (.ifCond .ne 10, 3, 0, 0, 0) := by decide +kernel
theorem k220_63 : look (codL 220) 63 = some (.aload_n 0, 1, 0, 0, 0) := by decide +kernel
theorem k220_64 : look (codL 220) 64 = some (.iload_n 3, 1, 0, 0, 0) := by decide +kernel
theorem k220_65 : look (codL 220) 65 = some (.putfield 276, 3, 10, 25, 0) := by decide +kernel
theorem k220_68 : look (codL 220) 68 = some (.iconst 0, 1, 0, 0, 0) := by decide +kernel
theorem k220_69 : look (codL 220) 69 = some (.ireturn, 1, 0, 0, 0) := by decide +kernel
theorem k220_70 : look (codL 220) 70 = some (.aload_n 0, 1, 0, 0, 0) := by decide +kernel
theorem k220_71 : look (codL 220) 71 = some (.getfield 28, 3, 10, 9, 0) := by decide +kernel
theorem k220_74 : look (codL 220) 74 = some (.bipush 6, 2, 0, 0, 0) := by decide +kernel
theorem k220_76 : look (codL 220) 76 = some (.iload_n 1, 1, 0, 0, 0) := by decide +kernel
theorem k220_77 : look (codL 220) 77 = some (.imul, 1, 0, 0, 0) := by decide +kernel
theorem k220_78 : look (codL 220) 78 = some (.iload_n 2, 1, 0, 0, 0) := by decide +kernel
theorem k220_79 : look (codL 220) 79 = some (.iadd, 1, 0, 0, 0) := by decide +kernel
theorem k220_80 : look (codL 220) 80 = some (.iload 4, 2, 0, 0, 0) := by decide +kernel
theorem k220_82 : look (codL 220) 82 = some (.iastore, 1, 0, 0, 0) := by decide +kernel
theorem k220_83 : look (codL 220) 83 = some (.iconst 1, 1, 0, 0, 0) := by decide +kernel
theorem k220_84 : look (codL 220) 84 = some (.ireturn, 1, 0, 0, 0) := by decide +kernel
theorem k221_0 : look (codL 221) 0 = some (.aload_n 0, 1, 0, 0, 0) := by decide +kernel
theorem k221_1 : look (codL 221) 1 = some (.getfield 94, 3, 10, 2, 0) := by decide +kernel
theorem k221_4 : look (codL 221) 4 = some (.bipush 16, 2, 0, 0, 0) := by decide +kernel
theorem k221_6 : look (codL 221) 6 = some (.if_icmp .ne 5, 3, 0, 0, 0) := by decide +kernel
theorem k221_9 : look (codL 221) 9 = some (.iconst 0, 1, 0, 0, 0) := by decide +kernel
theorem k221_10 : look (codL 221) 10 = some (.ireturn, 1, 0, 0, 0) := by decide +kernel
theorem k221_11 : look (codL 221) 11 = some (.aload_n 0, 1, 0, 0, 0) := by decide +kernel
theorem k221_12 : look (codL 221) 12 = some (.dup, 1, 0, 0, 0) := by decide +kernel
theorem k221_13 : look (codL 221) 13 = some (.getfield 276, 3, 10, 25, 0) := by decide +kernel
theorem k221_16 : look (codL 221) 16 = some (.iconst 1, 1, 0, 0, 0) := by decide +kernel
theorem k221_17 : look (codL 221) 17 = some (.iadd, 1, 0, 0, 0) := by decide +kernel
theorem k221_18 : look (codL 221) 18 = some (.putfield 276, 3, 10, 25, 0) := by decide +kernel
theorem k221_21 : look (codL 221) 21 = some (.aload_n 0, 1, 0, 0, 0) := by decide +kernel
theorem k221_22 : look (codL 221) 22 = some (.iconst 0, 1, 0, 0, 0) := by decide +kernel
theorem k221_23 : look (codL 221) 23 = some (.aload_n 0, 1, 0, 0, 0) := by decide +kernel
theorem k221_24 : look (codL 221) 24 = some (.getfield 86, 3, 10, 1, 0) := by decide +kernel
theorem k221_27 : look (codL 221) 27 = some (.iconst 1, 1, 0, 0, 0) := by decide +kernel
theorem k221_28 : look (codL 221) 28 = some (.isub, 1, 0, 0, 0) := by decide +kernel
theorem k221_29 : look (codL 221) 29 = some (.invokevirtual 294, 3, 216, 3, 0) := by decide +kernel
theorem k221_32 : look (codL 221) 32 = some (.ifCond .ne 5, 3, 0, 0, 0) := by decide +kernel
theorem k221_35 : look (codL 221) 35 = some (.iconst 0, 1, 0, 0, 0) := by decide +kernel
theorem k221_36 : look (codL 221) 36 = some (.ireturn, 1, 0, 0, 0) := by decide +kernel
theorem k221_37 : look (codL 221) 37 = some (.aload_n 0, 1, 0, 0, 0) := by decide +kernel
theorem k221_38 : look (codL 221) 38 = some (.getfield 291, 3, 10, 26, 0) := by decide +kernel
theorem k221_41 : look (codL 221) 41 = some (.istore_n 1, 1, 0, 0, 0) := by decide +kernel
theorem k221_42 : look (codL 221) 42 = some (.aload_n 0, 1, 0, 0, 0) := by decide +kernel
theorem k221_43 : look (codL 221) 43 = some (.iconst 0, 1, 0, 0, 0) := by decide +kernel
theorem k221_44 : look (codL 221) 44 = some (.aload_n 0, 1, 0, 0, 0) := by decide +kernel
theorem k221_45 : look (codL 221) 45 = some (.getfield 86, 3, 10, 1, 0) := by decide +kernel
theorem k221_48 : look (codL 221) 48 = some (.iconst 1, 1, 0, 0, 0) := by decide +kernel
theorem k221_49 : look (codL 221) 49 = some (.isub, 1, 0, 0, 0) := by decide +kernel
theorem k221_50 : look (codL 221) 50 = some (.invokevirtual 294, 3, 216, 3, 0) := by decide +kernel
theorem k221_53 : look (codL 221) 53 = some (.ifCond .ne 5, 3, 0, 0, 0) := by decide +kernel
theorem k221_56 : look (codL 221) 56 = some (.iconst 0, 1, 0, 0, 0) := by decide +kernel
theorem k221_57 : look (codL 221) 57 = some (.ireturn, 1, 0, 0, 0) := by decide +kernel
theorem k221_58 : look (codL 221) 58 = some (.aload_n 0, 1, 0, 0, 0) := by decide +kernel
theorem k221_59 : look (codL 221) 59 = some (.getfield 291, 3, 10, 26, 0) := by decide +kernel
theorem k221_62 : look (codL 221) 62 = some (.istore_n 2, 1, 0, 0, 0) := by decide +kernel
theorem k221_63 : look (codL 221) 63 = some (.aload_n 0, 1, 0, 0, 0) := by decide +kernel
theorem k221_64 : look (codL 221) 64 = some (.iconst 0, 1, 0, 0, 0) := by decide +kernel
theorem k221_65 : look (codL 221) 65 = some (.bipush 99, 2, 0, 0, 0) := by decide +kernel
theorem k221_67 : look (codL 221) 67 = some (.invokevirtual 294, 3, 216, 3, 0) := by decide +kernel
theorem k221_70 : look (codL 221) 70 = some (.ifCond .ne 5, 3, 0, 0, 0) := by decide +kernel
theorem k221_73 : look (codL 221) 73 = some (.iconst 0, 1, 0, 0, 0) := by decide +kernel
theorem k221_74 : look (codL 221) 74 = some (.ireturn, 1, 0, 0, 0) := by decide +kernel
theorem k221_75 : look (codL 221) 75 = some (.aload_n 0, 1, 0, 0, 0) := by decide +kernel
theorem k221_76 : look (codL 221) 76 = some (.iload_n 1, 1, 0, 0, 0) := by decide +kernel
theorem k221_77 : look (codL 221) 77 = some (.iload_n 2, 1, 0, 0, 0) := by decide +kernel
theorem k221_78 : look (codL 221) 78 = some (.aload_n 0, 1, 0, 0, 0) := by decide +kernel
theorem k221_79 : look (codL 221) 79 = some (.getfield 291, 3, 10, 26, 0) := by decide +kernel
theorem k221_82 : look (codL 221) 82 = some (.invokevirtual 123, 3, 156, 4, 0) := by decide +kernel
theorem k221_85 : look (codL 221) 85 = some (.istore_n 3, 1, 0, 0, 0) := by decide +kernel
theorem k221_86 : look (codL 221) 86 = some (.aload_n 0, 1, 0, 0, 0) := by decide +kernel
theorem k221_87 : look (codL 221) 87 = some (.invokevirtual 285, 3, 213, 1, 0) := by decide +kernel
theorem k221_90 : look (codL 221) 90 = some (.aload_n 0, 1, 0, 0, 0) := by decide +kernel
theorem k221_91 : look (codL 221) 91 = some (.invokevirtual 279, 3, 212, 1, 0) := by decide +kernel
theorem k221_94 : look (codL 221) 94 = some (.bipush 58, 2, 0, 0, 0) := by decide +kernel
theorem k221_96 : look (codL 221) 96 = some (.if_icmp .eq 8, 3, 0, 0, 0) := by decide +kernel
theorem k221_99 : look (codL 221) 99 = some (.aload_n 0, 1, 0, 0, 0) := by decide +kernel
theorem k221_100 : look (codL 221) 100 = some (.invokevirtual 297, 3, 217, 1, 0) := by decide +kernel
theorem k221_103 : look (codL 221) 103 = some (.ireturn, 1, 0, 0, 0) := by decide +kernel
theorem k221_104 : look (codL 221) 104 = some (.aload_n 0, 1, 0, 0, 0) := by decide +kernel
theorem k221_105 : look (codL 221) 105 = some (.iload_n 3, 1, 0, 0, 0) := by decide +kernel
theorem k221_106 : look (codL 221) 106 = some (.invokevirtual 133, 3, 148, 2, 0) := by decide +kernel
theorem k221_109 : look (codL 221) 109 = some (.ifCond .ne 5, 3, 0, 0, 0) := by decide +kernel
theorem k221_112 : look (codL 221) 112 = some (.iconst 0, 1, 0, 0, 0) := by decide +kernel
theorem k221_113 : look (codL 221) 113 = some (.ireturn, 1, 0, 0, 0) := by decide +kernel
theorem k221_114 : look (codL 221) 114 = some (.aload_n 0, 1, 0, 0, 0) := by decide +kernel
theorem k221_115 : look (codL 221) 115 = some (.dup, 1, 0, 0, 0) := by decide +kernel
theorem k221_116 : look (codL 221) 116 = some (.getfield 276, 3, 10, 25, 0) := by decide +kernel
theorem k221_119 : look (codL 221) 119 = some (.iconst 1, 1, 0, 0, 0) := by decide +kernel
theorem k221_120 : look (codL 221) 120 = some (.iadd, 1, 0, 0, 0) := by decide +kernel
theorem k221_121 : look (codL 221) 121 = some (.putfield 276, 3, 10, 25, 0) := by decide +kernel
theorem k221_124 : look (codL 221) 124 = some (.iconst 0, 1, 0, 0, 0) := by decide +kernel
theorem k221_125 : look (codL 221) 125 = some (.istore 4, 2, 0, 0, 0) := by decide +kernel
theorem k221_127 : look (codL 221) 127 = some (.iload 4, 2, 0, 0, 0) := by decide +kernel
theorem k221_129 : look (codL 221) 129 = some (.aload_n 0, 1, 0, 0, 0) := by decide +kernel
theorem k221_130 : look (codL 221) 130 = some (.iload_n 3, 1, 0, 0, 0) := by decide +kernel
theorem k221_131 : look (codL 221) 131 = some (.invokevirtual 133, 3, 148, 2, 0) := by decide +kernel
theorem k221_134 : look (codL 221) 134 = some (.if_icmp .ge 21, 3, 0, 0, 0) := by decide +kernel
theorem k221_137 : look (codL 221) 137 = some (.aload_n 0, 1, 0, 0, 0) := by decide +kernel
theorem k221_138 : look (codL 221) 138 = some (.iload_n 3, 1, 0, 0, 0) := by decide +kernel
theorem k221_139 : look (codL 221) 139 = some (.iload 4, 2, 0, 0, 0) := by decide +kernel
theorem k221_141 : look (codL 221) 141 = some (.invokevirtual 304, 3, 220, 3, 0) := by decide +kernel
theorem k221_144 : look (codL 221) 144 = some (.ifCond .ne 5, 3, 0, 0, 0) := by decide +kernel
theorem k221_147 : look (codL 221) 147 = some (.iconst 0, 1, 0, 0, 0) := by decide +kernel
theorem k221_148 : look (codL 221) 148 = some (.ireturn, 1, 0, 0, 0) := by decide +kernel
theorem k221_149 : look (codL 221) 149 = some (.iinc 4 1, 3, 0, 0, 0) := by decide +kernel
theorem k221_152 : look (codL 221) 152 = some (.goto (-25), 3, 0, 0, 0) := by decide +kernel
theorem k221_155 : look (codL 221) 155 = some (.aload_n 0, 1, 0, 0, 0) := by decide +kernel
theorem k221_156 : look (codL 221) 156 = some (.invokevirtual 297, 3, 217, 1, 0) := by decide +kernel
theorem k221_159 : look (codL 221) 159 = some (.ireturn, 1, 0, 0, 0) := by decide +kernel
theorem k222_0 : look (codL 222) 0 = some (.aload_n 0, 1, 0, 0, 0) := by decide +kernel
theorem k222_1 : look (codL 222) 1 = some (.iconst 0, 1, 0, 0, 0) := by decide +kernel
theorem k222_2 : look (codL 222) 2 = some (.putfield 276, 3, 10, 25, 0) := by decide +kernel
theorem k222_5 : look (codL 222) 5 = some (.aload_n 0, 1, 0, 0, 0) := by decide +kernel
theorem k222_6 : look (codL 222) 6 = some (.iconst 0, 1, 0, 0, 0) := by decide +kernel
theorem k222_7 : look (codL 222) 7 = some (.putfield 86, 3, 10, 1, 0) := by decide +kernel
theorem k222_10 : look (codL 222) 10 = some (.aload_n 0, 1, 0, 0, 0) := by decide +kernel
theorem k222_11 : look (codL 222) 11 = some (.iconst 0, 1, 0, 0, 0) := by decide +kernel
theorem k222_12 : look (codL 222) 12 = some (.putfield 94, 3, 10, 2, 0) := by decide +kernel
theorem k222_15 : look (codL 222) 15 = some (.iconst 0, 1, 0, 0, 0) := by decide +kernel
theorem k222_16 : look (codL 222) 16 = some (.istore_n 1, 1, 0, 0, 0) := by decide +kernel
theorem k222_17 : look (codL 222) 17 = some (.aload_n 0, 1, 0, 0, 0) := by decide +kernel
theorem k222_18 : look (codL 222) 18 = some (.invokevirtual 285, 3, 213, 1, 0) := by decide +kernel
theorem k222_21 : look (codL 222) 21 = some (.aload_n 0, 1, 0, 0, 0) := by decide +kernel
theorem k222_22 : look (codL 222) 22 = some (.getfield 276, 3, 10, 25, 0) := by decide +kernel
theorem k222_25 : look (codL 222) 25 = some (.aload_n 0, 1, 0, 0, 0) := by decide +kernel
theorem k222_26 : look (codL 222) 26 = some (.getfield 268, 3, 10, 24, 0) := by decide +kernel
theorem k222_29 : look (codL 222) 29 = some (.if_icmp .ge 52, 3, 0, 0, 0) := by decide +kernel
theorem k222_32 : look (codL 222) 32 = some (.aload_n 0, 1, 0, 0, 0) := by decide +kernel
theorem k222_33 : look (codL 222) 33 = some (.invokevirtual 279, 3, 212, 1, 0) := by decide +kernel
theorem k222_36 : look (codL 222) 36 = some (.bipush 98, 2, 0, 0, 0) := by decide +kernel
theorem k222_38 : look (codL 222) 38 = some (.if_icmp .ne 13, 3, 0, 0, 0) := by decide +kernel
theorem k222_41 : look (codL 222) 41 = some (.aload_n 0, 1, 0, 0, 0) := by decide +kernel
theorem k222_42 : look (codL 222) 42 = some (.invokevirtual 307, 3, 218, 1, 0) := by decide +kernel
theorem k222_45 : look (codL 222) 45 = some (.ifCond .ne 26, 3, 0, 0, 0) := by decide +kernel
theorem k222_48 : look (codL 222) 48 = some (.goto 19, 3, 0, 0, 0) := by decide +kernel
theorem k222_51 : look (codL 222) 51 = some (.aload_n 0, 1, 0, 0, 0) := by decide +kernel
theorem k222_52 : look (codL 222) 52 = some (.invokevirtual 279, 3, 212, 1, 0) := by decide +kernel
theorem k222_55 : look (codL 222) 55 = some (.bipush 101, 2, 0, 0, 0) := by decide +kernel
theorem k222_57 : look (codL 222) 57 = some (.if_icmp .ne 10, 3, 0, 0, 0) := by decide +kernel
theorem k222_60 : look (codL 222) 60 = some (.aload_n 0, 1, 0, 0, 0) := by decide +kernel
theorem k222_61 : look (codL 222) 61 = some (.invokevirtual 310, 3, 221, 1, 0) := by decide +kernel
theorem k222_64 : look (codL 222) 64 = some (.ifCond .ne 7, 3, 0, 0, 0) := by decide +kernel
theorem k222_67 : look (codL 222) 67 = some (.sipush (-201), 3, 0, 0, 0) := by decide +kernel
theorem k222_70 : look (codL 222) 70 = some (.ireturn, 1, 0, 0, 0) := by decide +kernel
theorem k222_71 : look (codL 222) 71 = some (.iinc 1 1, 3, 0, 0, 0) := by decide +kernel
theorem k222_74 : look (codL 222) 74 = some (.aload_n 0, 1, 0, 0, 0) := by decide +kernel
theorem k222_75 : look (codL 222) 75 = some (.invokevirtual 285, 3, 213, 1, 0) := by decide +kernel
theorem k222_78 : look (codL 222) 78 = some (.goto (-57), 3, 0, 0, 0) := by decide +kernel
theorem k222_81 : look (codL 222) 81 = some (.iload_n 1, 1, 0, 0, 0) := by decide +kernel
theorem k222_82 : look (codL 222) 82 = some (.ifCond .ne 9, 3, 0, 0, 0) := by decide +kernel
theorem k222_85 : look (codL 222) 85 = some (.sipush (-201), 3, 0, 0, 0) := by decide +kernel
theorem k222_88 : look (codL 222) 88 = some (.goto 4, 3, 0, 0, 0) := by decide +kernel
theorem k222_91 : look (codL 222) 91 = some (.iload_n 1, 1, 0, 0, 0) := by decide +kernel
theorem k222_92 : look (codL 222) 92 = some (.ireturn, 1, 0, 0, 0) := by decide +kernel
theorem k223_0 : look (codL 223) 0 = some (.aload_n 0, 1, 0, 0, 0) := by decide +kernel
theorem k223_1 : look (codL 223) 1 = some (.getfield 68, 3, 10, 27, 0) := by decide +kernel
theorem k223_4 : look (codL 223) 4 = some (.iconst 0, 1, 0, 0, 0) := by decide +kernel
theorem k223_5 : look (codL 223) 5 = some (.aload_n 0, 1, 0, 0, 0) := by decide +kernel
theorem k223_6 : look (codL 223) 6 = some (.getfield 86, 3, 10, 1, 0) := by decide +kernel
theorem k223_9 : look (codL 223) 9 = some (.iastore, 1, 0, 0, 0) := by decide +kernel
theorem k223_10 : look (codL 223) 10 = some (.aload_n 0, 1, 0, 0, 0) := by decide +kernel
theorem k223_11 : look (codL 223) 11 = some (.getfield 68, 3, 10, 27, 0) := by decide +kernel
theorem k223_14 : look (codL 223) 14 = some (.iconst 1, 1, 0, 0, 0) := by decide +kernel
theorem k223_15 : look (codL 223) 15 = some (.aload_n 0, 1, 0, 0, 0) := by decide +kernel
theorem k223_16 : look (codL 223) 16 = some (.getfield 94, 3, 10, 2, 0) := by decide +kernel
theorem k223_19 : look (codL 223) 19 = some (.iastore, 1, 0, 0, 0) := by decide +kernel
theorem k223_20 : look (codL 223) 20 = some (.iconst 0, 1, 0, 0, 0) := by decide +kernel
theorem k223_21 : look (codL 223) 21 = some (.istore_n 1, 1, 0, 0, 0) := by decide +kernel
theorem k223_22 : look (codL 223) 22 = some (.iload_n 1, 1, 0, 0, 0) := by decide +kernel
theorem k223_23 : look (codL 223) 23 = some (.bipush 10, 2, 0, 0, 0) := by decide +kernel
theorem k223_25 : look (codL 223) 25 = some (.if_icmp .ge 23, 3, 0, 0, 0) := by decide +kernel
theorem k223_28 : look (codL 223) 28 = some (.aload_n 0, 1, 0, 0, 0) := by decide +kernel
theorem k223_29 : look (codL 223) 29 = some (.getfield 68, 3, 10, 27, 0) := by decide +kernel
theorem k223_32 : look (codL 223) 32 = some (.iconst 2, 1, 0, 0, 0) := by decide +kernel
theorem k223_33 : look (codL 223) 33 = some (.iload_n 1, 1, 0, 0, 0) := by decide +kernel
theorem k223_34 : look (codL 223) 34 = some (.iadd, 1, 0, 0, 0) := by decide +kernel
theorem k223_35 : look (codL 223) 35 = some (.aload_n 0, 1, 0, 0, 0) := by decide +kernel
theorem k223_36 : look (codL 223) 36 = some (.getfield 13, 3, 10, 4, 0) := by decide +kernel
theorem k223_39 : look (codL 223) 39 = some (.iload_n 1, 1, 0, 0, 0) := by decide +kernel
theorem k223_40 : look (codL 223) 40 = some (.iaload, 1, 0, 0, 0) := by decide +kernel
theorem k223_41 : look (codL 223) 41 = some (.iastore, 1, 0, 0, 0) := by decide +kernel
theorem k223_42 : look (codL 223) 42 = some (.iinc 1 1, 3, 0, 0, 0) := by decide +kernel
theorem k223_45 : look (codL 223) 45 = some (.goto (-23), 3, 0, 0, 0) := by decide +kernel
theorem k223_48 : look (codL 223) 48 = some (.iconst 0, 1, 0, 0, 0) := by decide +kernel
theorem k223_49 : look (codL 223) 49 = some (.istore_n 1, 1, 0, 0, 0) := by decide +kernel
theorem k223_50 : look (codL 223) 50 = some (.iload_n 1, 1, 0, 0, 0) := by decide +kernel
theorem k223_51 : look (codL 223) 51 = some (.bipush 60, 2, 0, 0, 0) := by decide +kernel
theorem k223_53 : look (codL 223) 53 = some (.if_icmp .ge 24, 3, 0, 0, 0) := by decide +kernel
theorem k223_56 : look (codL 223) 56 = some (.aload_n 0, 1, 0, 0, 0) := by decide +kernel
theorem k223_57 : look (codL 223) 57 = some (.getfield 68, 3, 10, 27, 0) := by decide +kernel
theorem k223_60 : look (codL 223) 60 = some (.bipush 12, 2, 0, 0, 0) := by decide +kernel
theorem k223_62 : look (codL 223) 62 = some (.iload_n 1, 1, 0, 0, 0) := by decide +kernel
theorem k223_63 : look (codL 223) 63 = some (.iadd, 1, 0, 0, 0) := by decide +kernel
theorem k223_64 : look (codL 223) 64 = some (.aload_n 0, 1, 0, 0, 0) := by decide +kernel
theorem k223_65 : look (codL 223) 65 = some (.getfield 16, 3, 10, 5, 0) := by decide +kernel
theorem k223_68 : look (codL 223) 68 = some (.iload_n 1, 1, 0, 0, 0) := by decide +kernel
theorem k223_69 : look (codL 223) 69 = some (.iaload, 1, 0, 0, 0) := by decide +kernel
theorem k223_70 : look (codL 223) 70 = some (.iastore, 1, 0, 0, 0) := by decide +kernel
theorem k223_71 : look (codL 223) 71 = some (.iinc 1 1, 3, 0, 0, 0) := by decide +kernel
theorem k223_74 : look (codL 223) 74 = some (.goto (-24), 3, 0, 0, 0) := by decide +kernel
theorem k223_77 : look (codL 223) 77 = some (.iconst 0, 1, 0, 0, 0) := by decide +kernel
theorem k223_78 : look (codL 223) 78 = some (.istore_n 1, 1, 0, 0, 0) := by decide +kernel
theorem k223_79 : look (codL 223) 79 = some (.iload_n 1, 1, 0, 0, 0) := by decide +kernel
theorem k223_80 : look (codL 223) 80 = some (.bipush 16, 2, 0, 0, 0) := by decide +kernel
theorem k223_82 : look (codL 223) 82 = some (.if_icmp .ge 54, 3, 0, 0, 0) := by decide +kernel
theorem k223_85 : look (codL 223) 85 = some (.aload_n 0, 1, 0, 0, 0) := by decide +kernel
theorem k223_86 : look (codL 223) 86 = some (.getfield 68, 3, 10, 27, 0) := by decide +kernel
theorem k223_89 : look (codL 223) 89 = some (.bipush 72, 2, 0, 0, 0) := by decide +kernel
theorem k223_91 : look (codL 223) 91 = some (.iload_n 1, 1, 0, 0, 0) := by decide +kernel
theorem k223_92 : look (codL 223) 92 = some (.iadd, 1, 0, 0, 0) := by decide +kernel
theorem k223_93 : look (codL 223) 93 = some (.aload_n 0, 1, 0, 0, 0) := by decide +kernel
theorem k223_94 : look (codL 223) 94 = some (.getfield 19, 3, 10, 6, 0) := by decide +kernel
theorem k223_97 : look (codL 223) 97 = some (.iload_n 1, 1, 0, 0, 0) := by decide +kernel
theorem k223_98 : look (codL 223) 98 = some (.iaload, 1, 0, 0, 0) := by decide +kernel
theorem k223_99 : look (codL 223) 99 = some (.iastore, 1, 0, 0, 0) := by decide +kernel
theorem k223_100 : look (codL 223) 100 = some (.aload_n 0, 1, 0, 0, 0) := by decide +kernel
theorem k223_101 : look (codL 223) 101 = some (.getfield 68, 3, 10, 27, 0) := by decide +kernel
theorem k223_104 : look (codL 223) 104 = some (.bipush 88, 2, 0, 0, 0) := by decide +kernel
theorem k223_106 : look (codL 223) 106 = some (.iload_n 1, 1, 0, 0, 0) := by decide +kernel
theorem k223_107 : look (codL 223) 107 = some (.iadd, 1, 0, 0, 0) := by decide +kernel
theorem k223_108 : look (codL 223) 108 = some (.aload_n 0, 1, 0, 0, 0) := by decide +kernel
theorem k223_109 : look (codL 223) 109 = some (.getfield 22, 3, 10, 7, 0) := by decide +kernel
theorem k223_112 : look (codL 223) 112 = some (.iload_n 1, 1, 0, 0, 0) := by decide +kernel
theorem k223_113 : look (codL 223) 113 = some (.iaload, 1, 0, 0, 0) := by decide +kernel
theorem k223_114 : look (codL 223) 114 = some (.iastore, 1, 0, 0, 0) := by decide +kernel
theorem k223_115 : look (codL 223) 115 = some (.aload_n 0, 1, 0, 0, 0) := by decide +kernel
theorem k223_116 : look (codL 223) 116 = some (.getfield 68, 3, 10, 27, 0) := by decide +kernel
theorem k223_119 : look (codL 223) 119 = some (.bipush 104, 2, 0, 0, 0) := by decide +kernel
theorem k223_121 : look (codL 223) 121 = some (.iload_n 1, 1, 0, 0, 0) := by decide +kernel
theorem k223_122 : look (codL 223) 122 = some (.iadd, 1, 0, 0, 0) := by decide +kernel
theorem k223_123 : look (codL 223) 123 = some (.aload_n 0, 1, 0, 0, 0) := by decide +kernel
theorem k223_124 : look (codL 223) 124 = some (.getfield 25, 3, 10, 8, 0) := by decide +kernel
theorem k223_127 : look (codL 223) 127 = some (.iload_n 1, 1, 0, 0, 0) := by decide +kernel
theorem k223_128 : look (codL 223) 128 = some (.iaload, 1, 0, 0, 0) := by decide +kernel
theorem k223_129 : look (codL 223) 129 = some (.iastore, 1, 0, 0, 0) := by decide +kernel
theorem k223_130 : look (codL 223) 130 = some (.iinc 1 1, 3, 0, 0, 0) := by decide +kernel
theorem k223_133 : look (codL 223) 133 = some (.goto (-54), 3, 0, 0, 0) := by decide +kernel
theorem k223_136 : look (codL 223) 136 = some (.iconst 0, 1, 0, 0, 0) := by decide +kernel
theorem k223_137 : look (codL 223) 137 = some (.istore_n 1, 1, 0, 0, 0) := by decide +kernel
theorem k223_138 : look (codL 223) 138 = some (.iload_n 1, 1, 0, 0, 0) := by decide +kernel
theorem k223_139 : look (codL 223) 139 = some (.bipush 96, 2, 0, 0, 0) := by decide +kernel
theorem k223_141 : look (codL 223) 141 = some (.if_icmp .ge 24, 3, 0, 0, 0) := by decide +kernel
theorem k223_144 : look (codL 223) 144 = some (.aload_n 0, 1, 0, 0, 0) := by decide +kernel
theorem k223_145 : look (codL 223) 145 = some (.getfield 68, 3, 10, 27, 0) := by decide +kernel
theorem k223_148 : look (codL 223) 148 = some (.bipush 120, 2, 0, 0, 0) := by decide +kernel
theorem k223_150 : look (codL 223) 150 = some (.iload_n 1, 1, 0, 0, 0) := by decide +kernel
theorem k223_151 : look (codL 223) 151 = some (.iadd, 1, 0, 0, 0) := by decide +kernel
theorem k223_152 : look (codL 223) 152 = some (.aload_n 0, 1, 0, 0, 0) := by decide +kernel
theorem k223_153 : look (codL 223) 153 = some (.getfield 28, 3, 10, 9, 0) := by decide +kernel
theorem k223_156 : look (codL 223) 156 = some (.iload_n 1, 1, 0, 0, 0) := by decide +kernel
theorem k223_157 : look (codL 223) 157 = some (.iaload, 1, 0, 0, 0) := by decide +kernel
theorem k223_158 : look (codL 223) 158 = some (.iastore, 1, 0, 0, 0) := by decide +kernel
theorem k223_159 : look (codL 223) 159 = some (.iinc 1 1, 3, 0, 0, 0) := by decide +kernel
theorem k223_162 : look (codL 223) 162 = some (.goto (-24), 3, 0, 0, 0) := by decide +kernel
theorem k223_165 : look (codL 223) 165 = some (.return_, 1, 0, 0, 0) := by decide +kernel
theorem k224_0 : look (codL 224) 0 = some (.aload_n 0, 1, 0, 0, 0) := by decide +kernel
theorem k224_1 : look (codL 224) 1 = some (.aload_n 0, 1, 0, 0, 0) := by decide +kernel
theorem k224_2 : look (codL 224) 2 = some (.getfield 68, 3, 10, 27, 0) := by decide +kernel
theorem k224_5 : look (codL 224) 5 = some (.iconst 0, 1, 0, 0, 0) := by decide +kernel
theorem k224_6 : look (codL 224) 6 = some (.iaload, 1, 0, 0, 0) := by decide +kernel
theorem k224_7 : look (codL 224) 7 = some (.putfield 86, 3, 10, 1, 0) := by decide +kernel
theorem k224_10 : look (codL 224) 10 = some (.aload_n 0, 1, 0, 0, 0) := by decide +kernel
theorem k224_11 : look (codL 224) 11 = some (.aload_n 0, 1, 0, 0, 0) := by decide +kernel
theorem k224_12 : look (codL 224) 12 = some (.getfield 68, 3, 10, 27, 0) := by decide +kernel
theorem k224_15 : look (codL 224) 15 = some (.iconst 1, 1, 0, 0, 0) := by decide +kernel
theorem k224_16 : look (codL 224) 16 = some (.iaload, 1, 0, 0, 0) := by decide +kernel
theorem k224_17 : look (codL 224) 17 = some (.putfield 94, 3, 10, 2, 0) := by decide +kernel
theorem k224_20 : look (codL 224) 20 = some (.iconst 0, 1, 0, 0, 0) := by decide +kernel
theorem k224_21 : look (codL 224) 21 = some (.istore_n 1, 1, 0, 0, 0) := by decide +kernel
theorem k224_22 : look (codL 224) 22 = some (.iload_n 1, 1, 0, 0, 0) := by decide +kernel
theorem k224_23 : look (codL 224) 23 = some (.bipush 10, 2, 0, 0, 0) := by decide +kernel
theorem k224_25 : look (codL 224) 25 = some (.if_icmp .ge 23, 3, 0, 0, 0) := by decide +kernel
theorem k224_28 : look (codL 224) 28 = some (.aload_n 0, 1, 0, 0, 0) := by decide +kernel
theorem k224_29 : look (codL 224) 29 = some (.getfield 13, 3, 10, 4, 0) := by decide +kernel
theorem k224_32 : look (codL 224) 32 = some (.iload_n 1, 1, 0, 0, 0) := by decide +kernel
theorem k224_33 : look (codL 224) 33 = some (.aload_n 0, 1, 0, 0, 0) := by decide +kernel
theorem k224_34 : look (codL 224) 34 = some (.getfield 68, 3, 10, 27, 0) := by decide +kernel
theorem k224_37 : look (codL 224) 37 = some (.iconst 2, 1, 0, 0, 0) := by decide +kernel
theorem k224_38 : look (codL 224) 38 = some (.iload_n 1, 1, 0, 0, 0) := by decide +kernel
theorem k224_39 : look (codL 224) 39 = some (.iadd, 1, 0, 0, 0) := by decide +kernel
theorem k224_40 : look (codL 224) 40 = some (.iaload, 1, 0, 0, 0) := by decide +kernel
theorem k224_41 : look (codL 224) 41 = some (.iastore, 1, 0, 0, 0) := by decide +kernel
theorem k224_42 : look (codL 224) 42 = some (.iinc 1 1, 3, 0, 0, 0) := by decide +kernel
theorem k224_45 : look (codL 224) 45 = some (.goto (-23), 3, 0, 0, 0) := by decide +kernel
theorem k224_48 : look (codL 224) 48 = some (.iconst 0, 1, 0, 0, 0) := by decide +kernel
theorem k224_49 : look (codL 224) 49 = some (.istore_n 1, 1, 0, 0, 0) := by decide +kernel
theorem k224_50 : look (codL 224) 50 = some (.iload_n 1, 1, 0, 0, 0) := by decide +kernel
theorem k224_51 : look (codL 224) 51 = some (.bipush 60, 2, 0, 0, 0) := by decide +kernel
theorem k224_53 : look (codL 224) 53 = some (.if_icmp .ge 24, 3, 0, 0, 0) := by decide +kernel
theorem k224_56 : look (codL 224) 56 = some (.aload_n 0, 1, 0, 0, 0) := by decide +kernel
theorem k224_57 : look (codL 224) 57 = some (.getfield 16, 3, 10, 5, 0) := by decide +kernel
theorem k224_60 : look (codL 224) 60 = some (.iload_n 1, 1, 0, 0, 0) := by decide +kernel
theorem k224_61 : look (codL 224) 61 = some (.aload_n 0, 1, 0, 0, 0) := by decide +kernel
theorem k224_62 : look (codL 224) 62 = some (.getfield 68, 3, 10, 27, 0) := by decide +kernel
theorem k224_65 : look (codL 224) 65 = some (.bipush 12, 2, 0, 0, 0) := by decide +kernel
theorem k224_67 : look (codL 224) 67 = some (.iload_n 1, 1, 0, 0, 0) := by decide +kernel
theorem k224_68 : look (codL 224) 68 = some (.iadd, 1, 0, 0, 0) := by decide +kernel
theorem k224_69 : look (codL 224) 69 = some (.iaload, 1, 0, 0, 0) := by decide +kernel
theorem k224_70 : look (codL 224) 70 = some (.iastore, 1, 0, 0, 0) := by decide +kernel
theorem k224_71 : look (codL 224) 71 = some (.iinc 1 1, 3, 0, 0, 0) := by decide +kernel
theorem k224_74 : look (codL 224) 74 = some (.goto (-24), 3, 0, 0, 0) := by decide +kernel
theorem k224_77 : look (codL 224) 77 = some (.iconst 0, 1, 0, 0, 0) := by decide +kernel
theorem k224_78 : look (codL 224) 78 = some (.istore_n 1, 1, 0, 0, 0) := by decide +kernel
theorem k224_79 : look (codL 224) 79 = some (.iload_n 1, 1, 0, 0, 0) := by decide +kernel
theorem k224_80 : look (codL 224) 80 = some (.bipush 16, 2, 0, 0, 0) := by decide +kernel
theorem k224_82 : look (codL 224) 82 = some (.if_icmp .ge 54, 3, 0, 0, 0) := by decide +kernel
theorem k224_85 : look (codL 224) 85 = some (.aload_n 0, 1, 0, 0, 0) := by decide +kernel
theorem k224_86 : look (codL 224) 86 = some (.getfield 19, 3, 10, 6, 0) := by decide +kernel
theorem k224_89 : look (codL 224) 89 = some (.iload_n 1, 1, 0, 0, 0) := by decide +kernel
theorem k224_90 : look (codL 224) 90 = some (.aload_n 0, 1, 0, 0, 0) := by decide +kernel
theorem k224_91 : look (codL 224) 91 = some (.getfield 68, 3, 10, 27, 0) := by decide +kernel
theorem k224_94 : look (codL 224) 94 = some (.bipush 72, 2, 0, 0, 0) := by decide +kernel
theorem k224_96 : look (codL 224) 96 = some (.iload_n 1, 1, 0, 0, 0) := by decide +kernel
theorem k224_97 : look (codL 224) 97 = some (.iadd, 1, 0, 0, 0) := by decide +kernel
theorem k224_98 : look (codL 224) 98 = some (.iaload, 1, 0, 0, 0) := by decide +kernel
theorem k224_99 : look (codL 224) 99 = some (.iastore, 1, 0, 0, 0) := by decide +kernel
theorem k224_100 : look (codL 224) 100 = some (.aload_n 0, 1, 0, 0, 0) := by decide +kernel
theorem k224_101 : look (codL 224) 101 = some (.getfield 22, 3, 10, 7, 0) := by decide +kernel
theorem k224_104 : look (codL 224) 104 = some (.iload_n 1, 1, 0, 0, 0) := by decide +kernel
theorem k224_105 : look (codL 224) 105 = some (.aload_n 0, 1, 0, 0, 0) := by decide +kernel
theorem k224_106 : look (codL 224) 106 = some (.getfield 68, 3, 10, 27, 0) := by decide +kernel
theorem k224_109 : look (codL 224) 109 = some (.bipush 88, 2, 0, 0, 0) := by decide +kernel
theorem k224_111 : look (codL 224) 111 = some (.iload_n 1, 1, 0, 0, 0) := by decide +kernel
theorem k224_112 : look (codL 224) 112 = some (.iadd, 1, 0, 0, 0) := by decide +kernel
theorem k224_113 : look (codL 224) 113 = some (.iaload, 1, 0, 0, 0) := by decide +kernel
theorem k224_114 : look (codL 224) 114 = some (.iastore, 1, 0, 0, 0) := by decide +kernel
theorem k224_115 : look (codL 224) 115 = some (.aload_n 0, 1, 0, 0, 0) := by decide +kernel
theorem k224_116 : look (codL 224) 116 = some (.getfield 25, 3, 10, 8, 0) := by decide +kernel
theorem k224_119 : look (codL 224) 119 = some (.iload_n 1, 1, 0, 0, 0) := by decide +kernel
theorem k224_120 : look (codL 224) 120 = some (.aload_n 0, 1, 0, 0, 0) := by decide +kernel
theorem k224_121 : look (codL 224) 121 = some (.getfield 68, 3, 10, 27, 0) := by decide +kernel
theorem k224_124 : look (codL 224) 124 = some (.bipush 104, 2, 0, 0, 0) := by decide +kernel
theorem k224_126 : look (codL 224) 126 = some (.iload_n 1, 1, 0, 0, 0) := by decide +kernel
theorem k224_127 : look (codL 224) 127 = some (.iadd, 1, 0, 0, 0) := by decide +kernel
theorem k224_128 : look (codL 224) 128 = some (.iaload, 1, 0, 0, 0) := by decide +kernel
theorem k224_129 : look (codL 224) 129 = some (.iastore, 1, 0, 0, 0) := by decide +kernel
theorem k224_130 : look (codL 224) 130 = some (.iinc 1 1, 3, 0, 0, 0) := by decide +kernel
theorem k224_133 : look (codL 224) 133 = some (.goto (-54), 3, 0, 0, 0) := by decide +kernel
theorem k224_136 : look (codL 224) 136 = some (.iconst 0, 1, 0, 0, 0) := by decide +kernel
theorem k224_137 : look (codL 224) 137 = some (.istore_n 1, 1, 0, 0, 0) := by decide +kernel
theorem k224_138 : look (codL 224) 138 = some (.iload_n 1, 1, 0, 0, 0) := by decide +kernel
theorem k224_139 : look (codL 224) 139 = some (.bipush 96, 2, 0, 0, 0) := by decide +kernel
theorem k224_141 : look (codL 224) 141 = some (.if_icmp .ge 24, 3, 0, 0, 0) := by decide +kernel
theorem k224_144 : look (codL 224) 144 = some (.aload_n 0, 1, 0, 0, 0) := by decide +kernel
theorem k224_145 : look (codL 224) 145 = some (.getfield 28, 3, 10, 9, 0) := by decide +kernel
theorem k224_148 : look (codL 224) 148 = some (.iload_n 1, 1, 0, 0, 0) := by decide +kernel
theorem k224_149 : look (codL 224) 149 = some (.aload_n 0, 1, 0, 0, 0) := by decide +kernel
theorem k224_150 : look (codL 224) 150 = some (.getfield 68, 3, 10, 27, 0) := by decide +kernel
theorem k224_153 : look (codL 224) 153 = some (.bipush 120, 2, 0, 0, 0) := by decide +kernel
theorem k224_155 : look (codL 224) 155 = some (.iload_n 1, 1, 0, 0, 0) := by decide +kernel
theorem k224_156 : look (codL 224) 156 = some (.iadd, 1, 0, 0, 0) := by decide +kernel
theorem k224_157 : look (codL 224) 157 = some (.iaload, 1, 0, 0, 0) := by decide +kernel
theorem k224_158 : look (codL 224) 158 = some (.iastore, 1, 0, 0, 0) := by decide +kernel
theorem k224_159 : look (codL 224) 159 = some (.iinc 1 1, 3, 0, 0, 0) := by decide +kernel
theorem k224_162 : look (codL 224) 162 = some (.goto (-24), 3, 0, 0, 0) := by decide +kernel
theorem k224_165 : look (codL 224) 165 = some (.return_, 1, 0, 0, 0) := by decide +kernel
theorem k225_0 : look (codL 225) 0 = some (.aload_n 0, 1, 0, 0, 0) := by decide +kernel
theorem k225_1 : look (codL 225) 1 = some (.invokevirtual 313, 3, 223, 1, 0) := by decide +kernel
theorem k225_4 : look (codL 225) 4 = some (.aload_n 0, 1, 0, 0, 0) := by decide +kernel
theorem k225_5 : look (codL 225) 5 = some (.invokevirtual 316, 3, 222, 1, 0) := by decide +kernel
theorem k225_8 : look (codL 225) 8 = some (.istore_n 1, 1, 0, 0, 0) := by decide +kernel
theorem k225_9 : look (codL 225) 9 = some (.iload_n 1, 1, 0, 0, 0) := by decide +kernel
theorem k225_10 : look (codL 225) 10 = some (.ifCond .ge 16, 3, 0, 0, 0) := by decide +kernel
theorem k225_13 : look (codL 225) 13 = some (.aload_n 0, 1, 0, 0, 0) := by decide +kernel
theorem k225_14 : look (codL 225) 14 = some (.invokevirtual 319, 3, 224, 1, 0) := by decide +kernel
theorem k225_17 : look (codL 225) 17 = some (.sipush (-300), 3, 0, 0, 0) := by decide +kernel
theorem k225_20 : look (codL 225) 20 = some (.aload_n 0, 1, 0, 0, 0) := by decide +kernel
theorem k225_21 : look (codL 225) 21 = some (.getfield 276, 3, 10, 25, 0) := by decide +kernel
theorem k225_24 : look (codL 225) 24 = some (.isub, 1, 0, 0, 0) := by decide +kernel
theorem k225_25 : look (codL 225) 25 = some (.ireturn, 1, 0, 0, 0) := by decide +kernel
theorem k225_26 : look (codL 225) 26 = some (.iload_n 1, 1, 0, 0, 0) := by decide +kernel
theorem k225_27 : look (codL 225) 27 = some (.ireturn, 1, 0, 0, 0) := by decide +kernel
theorem k226_0 : look (codL 226) 0 = some (.new 7, 3, 9, 0, 0) := by decide +kernel
theorem k226_3 : look (codL 226) 3 = some (.dup, 1, 0, 0, 0) := by decide +kernel
theorem k226_4 : look (codL 226) 4 = some (.invokespecial 9, 3, 92, 1, 0) := by decide +kernel
theorem k226_7 : look (codL 226) 7 = some (.astore_n 1, 1, 0, 0, 0) := by decide +kernel
theorem k226_8 : look (codL 226) 8 = some (.new 10, 3, 10, 0, 0) := by decide +kernel
theorem k226_11 : look (codL 226) 11 = some (.dup, 1, 0, 0, 0) := by decide +kernel
theorem k226_12 : look (codL 226) 12 = some (.invokespecial 12, 3, 134, 1, 0) := by decide +kernel
theorem k226_15 : look (codL 226) 15 = some (.astore_n 2, 1, 0, 0, 0) := by decide +kernel
theorem k226_16 : look (codL 226) 16 = some (.iconst 0, 1, 0, 0, 0) := by decide +kernel
theorem k226_17 : look (codL 226) 17 = some (.istore_n 3, 1, 0, 0, 0) := by decide +kernel
theorem k226_18 : look (codL 226) 18 = some (.iload_n 3, 1, 0, 0, 0) := by decide +kernel
theorem k226_19 : look (codL 226) 19 = some (.aload_n 0, 1, 0, 0, 0) := by decide +kernel
theorem k226_20 : look (codL 226) 20 = some (.arraylength, 1, 0, 0, 0) := by decide +kernel
theorem k226_21 : look (codL 226) 21 = some (.iconst 4, 1, 0, 0, 0) := by decide +kernel
theorem k226_22 : look (codL 226) 22 = some (.isub, 1, 0, 0, 0) := by decide +kernel
theorem k226_23 : look (codL 226) 23 = some (.if_icmp .gt 939, 3, 0, 0, 0) := by decide +kernel
theorem k226_26 : look (codL 226) 26 = some (.aload_n 0, 1, 0, 0, 0) := by decide +kernel
theorem k226_27 : look (codL 226) 27 = some (.iload_n 3, 1, 0, 0, 0) := by decide +kernel
theorem k226_28 : look (codL 226) 28 = some (.iaload, 1, 0, 0, 0) := by decide +kernel
theorem k226_29 : look (codL 226) 29 = some (.bipush 31, 2, 0, 0, 0) := by decide +kernel
theorem k226_31 : look (codL 226) 31 = some (.iand, 1, 0, 0, 0) := by decide +kernel
theorem k226_32 : look (codL 226) 32 = some (.tableswitch 924 0 27 #[128, 141, 154, 187, 230, 273, 306, 329, 362, 395, 428, 461, 484, 497, 510, 543, 586, 609, 642, 675, 708, 731, 775, 798, 811, 844, 887, 910], 128, 0, 0, 0) := by decide +kernel
theorem k226_160 : look (codL 226) 160 = some (.aload_n 1, 1, 0, 0, 0) := by decide +kernel
theorem k226_161 : look (codL 226) 161 = some (.invokevirtual 13, 3, 93, 1, 0) := by decide +kernel
theorem k226_164 : look (codL 226) 164 = some (.aload_n 2, 1, 0, 0, 0) := by decide +kernel
theorem k226_165 : look (codL 226) 165 = some (.invokevirtual 17, 3, 150, 1, 0) := by decide +kernel
theorem k226_168 : look (codL 226) 168 = some (.if_icmp .eq 788, 3, 0, 0, 0) := by decide +kernel
theorem k226_171 : look (codL 226) 171 = some (.iconst 0, 1, 0, 0, 0) := by decide +kernel
theorem k226_172 : look (codL 226) 172 = some (.ireturn, 1, 0, 0, 0) := by decide +kernel
theorem k226_173 : look (codL 226) 173 = some (.aload_n 1, 1, 0, 0, 0) := by decide +kernel
theorem k226_174 : look (codL 226) 174 = some (.invokevirtual 18, 3, 95, 1, 0) := by decide +kernel
theorem k226_177 : look (codL 226) 177 = some (.aload_n 2, 1, 0, 0, 0) := by decide +kernel
theorem k226_178 : look (codL 226) 178 = some (.invokevirtual 21, 3, 152, 1, 0) := by decide +kernel
theorem k226_181 : look (codL 226) 181 = some (.if_icmp .eq 775, 3, 0, 0, 0) := by decide +kernel
theorem k226_184 : look (codL 226) 184 = some (.iconst 0, 1, 0, 0, 0) := by decide +kernel
theorem k226_185 : look (codL 226) 185 = some (.ireturn, 1, 0, 0, 0) := by decide +kernel
theorem k226_186 : look (codL 226) 186 = some (.aload_n 1, 1, 0, 0, 0) := by decide +kernel
theorem k226_187 : look (codL 226) 187 = some (.aload_n 0, 1, 0, 0, 0) := by decide +kernel
theorem k226_188 : look (codL 226) 188 = some (.iload_n 3, 1, 0, 0, 0) := by decide +kernel
theorem k226_189 : look (codL 226) 189 = some (.iconst 1, 1, 0, 0, 0) := by decide +kernel
theorem k226_190 : look (codL 226) 190 = some (.iadd, 1, 0, 0, 0) := by decide +kernel
theorem k226_191 : look (codL 226) 191 = some (.iaload, 1, 0, 0, 0) := by decide +kernel
theorem k226_192 : look (codL 226) 192 = some (.aload_n 0, 1, 0, 0, 0) := by decide +kernel
theorem k226_193 : look (codL 226) 193 = some (.iload_n 3, 1, 0, 0, 0) := by decide +kernel
theorem k226_194 : look (codL 226) 194 = some (.iconst 2, 1, 0, 0, 0) := by decide +kernel
theorem k226_195 : look (codL 226) 195 = some (.iadd, 1, 0, 0, 0) := by decide +kernel
theorem k226_196 : look (codL 226) 196 = some (.iaload, 1, 0, 0, 0) := by decide +kernel
theorem k226_197 : look (codL 226) 197 = some (.invokevirtual 22, 3, 96, 3, 0) := by decide +kernel
theorem k226_200 : look (codL 226) 200 = some (.aload_n 2, 1, 0, 0, 0) := by decide +kernel
theorem k226_201 : look (codL 226) 201 = some (.aload_n 0, 1, 0, 0, 0) := by decide +kernel
theorem k226_202 : look (codL 226) 202 = some (.iload_n 3, 1, 0, 0, 0) := by decide +kernel
theorem k226_203 : look (codL 226) 203 = some (.iconst 1, 1, 0, 0, 0) := by decide +kernel
theorem k226_204 : look (codL 226) 204 = some (.iadd, 1, 0, 0, 0) := by decide +kernel
theorem k226_205 : look (codL 226) 205 = some (.iaload, 1, 0, 0, 0) := by decide +kernel
theorem k226_206 : look (codL 226) 206 = some (.aload_n 0, 1, 0, 0, 0) := by decide +kernel
theorem k226_207 : look (codL 226) 207 = some (.iload_n 3, 1, 0, 0, 0) := by decide +kernel
theorem k226_208 : look (codL 226) 208 = some (.iconst 2, 1, 0, 0, 0) := by decide +kernel
theorem k226_209 : look (codL 226) 209 = some (.iadd, 1, 0, 0, 0) := by decide +kernel
theorem k226_210 : look (codL 226) 210 = some (.iaload, 1, 0, 0, 0) := by decide +kernel
theorem k226_211 : look (codL 226) 211 = some (.invokevirtual 26, 3, 155, 3, 0) := by decide +kernel
theorem k226_214 : look (codL 226) 214 = some (.if_icmp .eq 742, 3, 0, 0, 0) := by decide +kernel
theorem k226_217 : look (codL 226) 217 = some (.iconst 0, 1, 0, 0, 0) := by decide +kernel
theorem k226_218 : look (codL 226) 218 = some (.ireturn, 1, 0, 0, 0) := by decide +kernel
theorem k226_219 : look (codL 226) 219 = some (.aload_n 1, 1, 0, 0, 0) := by decide +kernel
theorem k226_220 : look (codL 226) 220 = some (.aload_n 0, 1, 0, 0, 0) := by decide +kernel
theorem k226_221 : look (codL 226) 221 = some (.iload_n 3, 1, 0, 0, 0) := by decide +kernel
theorem k226_222 : look (codL 226) 222 = some (.iconst 1, 1, 0, 0, 0) := by decide +kernel
theorem k226_223 : look (codL 226) 223 = some (.iadd, 1, 0, 0, 0) := by decide +kernel
theorem k226_224 : look (codL 226) 224 = some (.iaload, 1, 0, 0, 0) := by decide +kernel
theorem k226_225 : look (codL 226) 225 = some (.aload_n 0, 1, 0, 0, 0) := by decide +kernel
theorem k226_226 : look (codL 226) 226 = some (.iload_n 3, 1, 0, 0, 0) := by decide +kernel
theorem k226_227 : look (codL 226) 227 = some (.iconst 2, 1, 0, 0, 0) := by decide +kernel
theorem k226_228 : look (codL 226) 228 = some (.iadd, 1, 0, 0, 0) := by decide +kernel
theorem k226_229 : look (codL 226) 229 = some (.iaload, 1, 0, 0, 0) := by decide +kernel
theorem k226_230 : look (codL 226) 230 = some (.aload_n 0, 1, 0, 0, 0) := by decide +kernel
theorem k226_231 : look (codL 226) 231 = some (.iload_n 3, 1, 0, 0, 0) := by decide +kernel
theorem k226_232 : look (codL 226) 232 = some (.iconst 3, 1, 0, 0, 0) := by decide +kernel
theorem k226_233 : look (codL 226) 233 = some (.iadd, 1, 0, 0, 0) := by decide +kernel
theorem k226_234 : look (codL 226) 234 = some (.iaload, 1, 0, 0, 0) := by decide +kernel
theorem k226_235 : look (codL 226) 235 = some (.invokevirtual 27, 3, 97, 4, 0) := by decide +kernel
theorem k226_238 : look (codL 226) 238 = some (.aload_n 2, 1, 0, 0, 0) := by decide +kernel
theorem k226_239 : look (codL 226) 239 = some (.aload_n 0, 1, 0, 0, 0) := by decide +kernel
theorem k226_240 : look (codL 226) 240 = some (.iload_n 3, 1, 0, 0, 0) := by decide +kernel
theorem k226_241 : look (codL 226) 241 = some (.iconst 1, 1, 0, 0, 0) := by decide +kernel
theorem k226_242 : look (codL 226) 242 = some (.iadd, 1, 0, 0, 0) := by decide +kernel
theorem k226_243 : look (codL 226) 243 = some (.iaload, 1, 0, 0, 0) := by decide +kernel
theorem k226_244 : look (codL 226) 244 = some (.aload_n 0, 1, 0, 0, 0) := by decide +kernel
theorem k226_245 : look (codL 226) 245 = some (.iload_n 3, 1, 0, 0, 0) := by decide +kernel
theorem k226_246 : look (codL 226) 246 = some (.iconst 2, 1, 0, 0, 0) := by decide +kernel
theorem k226_247 : look (codL 226) 247 = some (.iadd, 1, 0, 0, 0) := by decide +kernel
theorem k226_248 : look (codL 226) 248 = some (.iaload, 1, 0, 0, 0) := by decide +kernel
theorem k226_249 : look (codL 226) 249 = some (.aload_n 0, 1, 0, 0, 0) := by decide +kernel
theorem k226_250 : look (codL 226) 250 = some (.iload_n 3, 1, 0, 0, 0) := by decide +kernel
theorem k226_251 : look (codL 226) 251 = some (.iconst 3, 1, 0, 0, 0) := by decide +kernel
theorem k226_252 : look (codL 226) 252 = some (.iadd, 1, 0, 0, 0) := by decide +kernel
theorem k226_253 : look (codL 226) 253 = some (.iaload, 1, 0, 0, 0) := by decide +kernel
theorem k226_254 : look (codL 226) 254 = some (.invokevirtual 31, 3, 157, 4, 0) := by decide +kernel
theorem k226_257 : look (codL 226) 257 = some (.if_icmp .eq 699, 3, 0, 0, 0) := by decide +kernel
theorem k226_260 : look (codL 226) 260 = some (.iconst 0, 1, 0, 0, 0) := by decide +kernel
theorem k226_261 : look (codL 226) 261 = some (.ireturn, 1, 0, 0, 0) := by decide +kernel
theorem k226_262 : look (codL 226) 262 = some (.aload_n 1, 1, 0, 0, 0) := by decide +kernel
theorem k226_263 : look (codL 226) 263 = some (.aload_n 0, 1, 0, 0, 0) := by decide +kernel
theorem k226_264 : look (codL 226) 264 = some (.iload_n 3, 1, 0, 0, 0) := by decide +kernel
theorem k226_265 : look (codL 226) 265 = some (.iconst 1, 1, 0, 0, 0) := by decide +kernel
theorem k226_266 : look (codL 226) 266 = some (.iadd, 1, 0, 0, 0) := by decide +kernel
theorem k226_267 : look (codL 226) 267 = some (.iaload, 1, 0, 0, 0) := by decide +kernel
theorem k226_268 : look (codL 226) 268 = some (.aload_n 0, 1, 0, 0, 0) := by decide +kernel
theorem k226_269 : look (codL 226) 269 = some (.iload_n 3, 1, 0, 0, 0) := by decide +kernel
theorem k226_270 : look (codL 226) 270 = some (.iconst 2, 1, 0, 0, 0) := by decide +kernel
theorem k226_271 : look (codL 226) 271 = some (.iadd, 1, 0, 0, 0) := by decide +kernel
theorem k226_272 : look (codL 226) 272 = some (.iaload, 1, 0, 0, 0) := by decide +kernel
theorem k226_273 : look (codL 226) 273 = some (.aload_n 0, 1, 0, 0, 0) := by decide +kernel
theorem k226_274 : look (codL 226) 274 = some (.iload_n 3, 1, 0, 0, 0) := by decide +kernel
theorem k226_275 : look (codL 226) 275 = some (.iconst 3, 1, 0, 0, 0) := by decide +kernel
theorem k226_276 : look (codL 226) 276 = some (.iadd, 1, 0, 0, 0) := by decide +kernel
theorem k226_277 : look (codL 226) 277 = some (.iaload, 1, 0, 0, 0) := by decide +kernel
theorem k226_278 : look (codL 226) 278 = some (.invokevirtual 32, 3, 98, 4, 0) := by decide +kernel
theorem k226_281 : look (codL 226) 281 = some (.aload_n 2, 1, 0, 0, 0) := by decide +kernel
theorem k226_282 : look (codL 226) 282 = some (.aload_n 0, 1, 0, 0, 0) := by decide +kernel
theorem k226_283 : look (codL 226) 283 = some (.iload_n 3, 1, 0, 0, 0) := by decide +kernel
theorem k226_284 : look (codL 226) 284 = some (.iconst 1, 1, 0, 0, 0) := by decide +kernel
theorem k226_285 : look (codL 226) 285 = some (.iadd, 1, 0, 0, 0) := by decide +kernel
theorem k226_286 : look (codL 226) 286 = some (.iaload, 1, 0, 0, 0) := by decide +kernel
theorem k226_287 : look (codL 226) 287 = some (.aload_n 0, 1, 0, 0, 0) := by decide +kernel
theorem k226_288 : look (codL 226) 288 = some (.iload_n 3, 1, 0, 0, 0) := by decide +kernel
theorem k226_289 : look (codL 226) 289 = some (.iconst 2, 1, 0, 0, 0) := by decide +kernel
theorem k226_290 : look (codL 226) 290 = some (.iadd, 1, 0, 0, 0) := by decide +kernel
theorem k226_291 : look (codL 226) 291 = some (.iaload, 1, 0, 0, 0) := by decide +kernel
theorem k226_292 : look (codL 226) 292 = some (.aload_n 0, 1, 0, 0, 0) := by decide +kernel
theorem k226_293 : look (codL 226) 293 = some (.iload_n 3, 1, 0, 0, 0) := by decide +kernel
theorem k226_294 : look (codL 226) 294 = some (.iconst 3, 1, 0, 0, 0) := by decide +kernel
theorem k226_295 : look (codL 226) 295 = some (.iadd, 1, 0, 0, 0) := by decide +kernel
theorem k226_296 : look (codL 226) 296 = some (.iaload, 1, 0, 0, 0) := by decide +kernel
theorem k226_297 : look (codL 226) 297 = some (.invokevirtual 35, 3, 159, 4, 0) := by decide +kernel
theorem k226_300 : look (codL 226) 300 = some (.if_icmp .eq 656, 3, 0, 0, 0) := by decide +kernel
theorem k226_303 : look (codL 226) 303 = some (.iconst 0, 1, 0, 0, 0) := by decide +kernel
theorem k226_304 : look (codL 226) 304 = some (.ireturn, 1, 0, 0, 0) := by decide +kernel
theorem k226_305 : look (codL 226) 305 = some (.aload_n 1, 1, 0, 0, 0) := by decide +kernel
theorem k226_306 : look (codL 226) 306 = some (.aload_n 0, 1, 0, 0, 0) := by decide +kernel
theorem k226_307 : look (codL 226) 307 = some (.iload_n 3, 1, 0, 0, 0) := by decide +kernel
theorem k226_308 : look (codL 226) 308 = some (.iconst 1, 1, 0, 0, 0) := by decide +kernel
theorem k226_309 : look (codL 226) 309 = some (.iadd, 1, 0, 0, 0) := by decide +kernel
theorem k226_310 : look (codL 226) 310 = some (.iaload, 1, 0, 0, 0) := by decide +kernel
theorem k226_311 : look (codL 226) 311 = some (.aload_n 0, 1, 0, 0, 0) := by decide +kernel
theorem k226_312 : look (codL 226) 312 = some (.iload_n 3, 1, 0, 0, 0) := by decide +kernel
theorem k226_313 : look (codL 226) 313 = some (.iconst 2, 1, 0, 0, 0) := by decide +kernel
theorem k226_314 : look (codL 226) 314 = some (.iadd, 1, 0, 0, 0) := by decide +kernel
theorem k226_315 : look (codL 226) 315 = some (.iaload, 1, 0, 0, 0) := by decide +kernel
theorem k226_316 : look (codL 226) 316 = some (.invokevirtual 36, 3, 99, 3, 0) := by decide +kernel
theorem k226_319 : look (codL 226) 319 = some (.aload_n 2, 1, 0, 0, 0) := by decide +kernel
theorem k226_320 : look (codL 226) 320 = some (.aload_n 0, 1, 0, 0, 0) := by decide +kernel
theorem k226_321 : look (codL 226) 321 = some (.iload_n 3, 1, 0, 0, 0) := by decide +kernel
theorem k226_322 : look (codL 226) 322 = some (.iconst 1, 1, 0, 0, 0) := by decide +kernel
theorem k226_323 : look (codL 226) 323 = some (.iadd, 1, 0, 0, 0) := by decide +kernel
theorem k226_324 : look (codL 226) 324 = some (.iaload, 1, 0, 0, 0) := by decide +kernel
theorem k226_325 : look (codL 226) 325 = some (.aload_n 0, 1, 0, 0, 0) := by decide +kernel
theorem k226_326 : look (codL 226) 326 = some (.iload_n 3, 1, 0, 0, 0) := by decide +kernel
theorem k226_327 : look (codL 226) 327 = some (.iconst 2, 1, 0, 0, 0) := by decide +kernel
theorem k226_328 : look (codL 226) 328 = some (.iadd, 1, 0, 0, 0) := by decide +kernel
theorem k226_329 : look (codL 226) 329 = some (.iaload, 1, 0, 0, 0) := by decide +kernel
theorem k226_330 : look (codL 226) 330 = some (.invokevirtual 39, 3, 160, 3, 0) := by decide +kernel
theorem k226_333 : look (codL 226) 333 = some (.if_icmp .eq 623, 3, 0, 0, 0) := by decide +kernel
theorem k226_336 : look (codL 226) 336 = some (.iconst 0, 1, 0, 0, 0) := by decide +kernel
theorem k226_337 : look (codL 226) 337 = some (.ireturn, 1, 0, 0, 0) := by decide +kernel
theorem k226_338 : look (codL 226) 338 = some (.aload_n 1, 1, 0, 0, 0) := by decide +kernel
theorem k226_339 : look (codL 226) 339 = some (.aload_n 0, 1, 0, 0, 0) := by decide +kernel
theorem k226_340 : look (codL 226) 340 = some (.iload_n 3, 1, 0, 0, 0) := by decide +kernel
theorem k226_341 : look (codL 226) 341 = some (.iconst 1, 1, 0, 0, 0) := by decide +kernel
theorem k226_342 : look (codL 226) 342 = some (.iadd, 1, 0, 0, 0) := by decide +kernel
theorem k226_343 : look (codL 226) 343 = some (.iaload, 1, 0, 0, 0) := by decide +kernel
theorem k226_344 : look (codL 226) 344 = some (.invokevirtual 40, 3, 100, 2, 0) := by decide +kernel
theorem k226_347 : look (codL 226) 347 = some (.aload_n 2, 1, 0, 0, 0) := by decide +kernel
theorem k226_348 : look (codL 226) 348 = some (.aload_n 0, 1, 0, 0, 0) := by decide +kernel
theorem k226_349 : look (codL 226) 349 = some (.iload_n 3, 1, 0, 0, 0) := by decide +kernel
theorem k226_350 : look (codL 226) 350 = some (.iconst 1, 1, 0, 0, 0) := by decide +kernel
theorem k226_351 : look (codL 226) 351 = some (.iadd, 1, 0, 0, 0) := by decide +kernel
theorem k226_352 : look (codL 226) 352 = some (.iaload, 1, 0, 0, 0) := by decide +kernel
theorem k226_353 : look (codL 226) 353 = some (.invokevirtual 44, 3, 161, 2, 0) := by decide +kernel
theorem k226_356 : look (codL 226) 356 = some (.if_icmp .eq 600, 3, 0, 0, 0) := by decide +kernel
theorem k226_359 : look (codL 226) 359 = some (.iconst 0, 1, 0, 0, 0) := by decide +kernel
theorem k226_360 : look (codL 226) 360 = some (.ireturn, 1, 0, 0, 0) := by decide +kernel
theorem k226_361 : look (codL 226) 361 = some (.aload_n 1, 1, 0, 0, 0) := by decide +kernel
theorem k226_362 : look (codL 226) 362 = some (.aload_n 0, 1, 0, 0, 0) := by decide +kernel
theorem k226_363 : look (codL 226) 363 = some (.iload_n 3, 1, 0, 0, 0) := by decide +kernel
theorem k226_364 : look (codL 226) 364 = some (.iconst 1, 1, 0, 0, 0) := by decide +kernel
theorem k226_365 : look (codL 226) 365 = some (.iadd, 1, 0, 0, 0) := by decide +kernel
theorem k226_366 : look (codL 226) 366 = some (.iaload, 1, 0, 0, 0) := by decide +kernel
theorem k226_367 : look (codL 226) 367 = some (.aload_n 0, 1, 0, 0, 0) := by decide +kernel
theorem k226_368 : look (codL 226) 368 = some (.iload_n 3, 1, 0, 0, 0) := by decide +kernel
theorem k226_369 : look (codL 226) 369 = some (.iconst 2, 1, 0, 0, 0) := by decide +kernel
theorem k226_370 : look (codL 226) 370 = some (.iadd, 1, 0, 0, 0) := by decide +kernel
theorem k226_371 : look (codL 226) 371 = some (.iaload, 1, 0, 0, 0) := by decide +kernel
theorem k226_372 : look (codL 226) 372 = some (.invokevirtual 45, 3, 102, 3, 0) := by decide +kernel
theorem k226_375 : look (codL 226) 375 = some (.aload_n 2, 1, 0, 0, 0) := by decide +kernel
theorem k226_376 : look (codL 226) 376 = some (.aload_n 0, 1, 0, 0, 0) := by decide +kernel
theorem k226_377 : look (codL 226) 377 = some (.iload_n 3, 1, 0, 0, 0) := by decide +kernel
theorem k226_378 : look (codL 226) 378 = some (.iconst 1, 1, 0, 0, 0) := by decide +kernel
theorem k226_379 : look (codL 226) 379 = some (.iadd, 1, 0, 0, 0) := by decide +kernel
theorem k226_380 : look (codL 226) 380 = some (.iaload, 1, 0, 0, 0) := by decide +kernel
theorem k226_381 : look (codL 226) 381 = some (.aload_n 0, 1, 0, 0, 0) := by decide +kernel
theorem k226_382 : look (codL 226) 382 = some (.iload_n 3, 1, 0, 0, 0) := by decide +kernel
theorem k226_383 : look (codL 226) 383 = some (.iconst 2, 1, 0, 0, 0) := by decide +kernel
theorem k226_384 : look (codL 226) 384 = some (.iadd, 1, 0, 0, 0) := by decide +kernel
theorem k226_385 : look (codL 226) 385 = some (.iaload, 1, 0, 0, 0) := by decide +kernel
theorem k226_386 : look (codL 226) 386 = some (.invokevirtual 48, 3, 168, 3, 0) := by decide +kernel
theorem k226_389 : look (codL 226) 389 = some (.if_icmp .eq 567, 3, 0, 0, 0) := by decide +kernel
theorem k226_392 : look (codL 226) 392 = some (.iconst 0, 1, 0, 0, 0) := by decide +kernel
theorem k226_393 : look (codL 226) 393 = some (.ireturn, 1, 0, 0, 0) := by decide +kernel
theorem k226_394 : look (codL 226) 394 = some (.aload_n 1, 1, 0, 0, 0) := by decide +kernel
theorem k226_395 : look (codL 226) 395 = some (.aload_n 0, 1, 0, 0, 0) := by decide +kernel
theorem k226_396 : look (codL 226) 396 = some (.iload_n 3, 1, 0, 0, 0) := by decide +kernel
theorem k226_397 : look (codL 226) 397 = some (.iconst 1, 1, 0, 0, 0) := by decide +kernel
theorem k226_398 : look (codL 226) 398 = some (.iadd, 1, 0, 0, 0) := by decide +kernel
theorem k226_399 : look (codL 226) 399 = some (.iaload, 1, 0, 0, 0) := by decide +kernel
theorem k226_400 : look (codL 226) 400 = some (.aload_n 0, 1, 0, 0, 0) := by decide +kernel
theorem k226_401 : look (codL 226) 401 = some (.iload_n 3, 1, 0, 0, 0) := by decide +kernel
theorem k226_402 : look (codL 226) 402 = some (.iconst 2, 1, 0, 0, 0) := by decide +kernel
theorem k226_403 : look (codL 226) 403 = some (.iadd, 1, 0, 0, 0) := by decide +kernel
theorem k226_404 : look (codL 226) 404 = some (.iaload, 1, 0, 0, 0) := by decide +kernel
theorem k226_405 : look (codL 226) 405 = some (.invokevirtual 49, 3, 103, 3, 0) := by decide +kernel
theorem k226_408 : look (codL 226) 408 = some (.aload_n 2, 1, 0, 0, 0) := by decide +kernel
theorem k226_409 : look (codL 226) 409 = some (.aload_n 0, 1, 0, 0, 0) := by decide +kernel
theorem k226_410 : look (codL 226) 410 = some (.iload_n 3, 1, 0, 0, 0) := by decide +kernel
theorem k226_411 : look (codL 226) 411 = some (.iconst 1, 1, 0, 0, 0) := by decide +kernel
theorem k226_412 : look (codL 226) 412 = some (.iadd, 1, 0, 0, 0) := by decide +kernel
theorem k226_413 : look (codL 226) 413 = some (.iaload, 1, 0, 0, 0) := by decide +kernel
theorem k226_414 : look (codL 226) 414 = some (.aload_n 0, 1, 0, 0, 0) := by decide +kernel
theorem k226_415 : look (codL 226) 415 = some (.iload_n 3, 1, 0, 0, 0) := by decide +kernel
theorem k226_416 : look (codL 226) 416 = some (.iconst 2, 1, 0, 0, 0) := by decide +kernel
theorem k226_417 : look (codL 226) 417 = some (.iadd, 1, 0, 0, 0) := by decide +kernel
theorem k226_418 : look (codL 226) 418 = some (.iaload, 1, 0, 0, 0) := by decide +kernel
theorem k226_419 : look (codL 226) 419 = some (.invokevirtual 52, 3, 169, 3, 0) := by decide +kernel
theorem k226_422 : look (codL 226) 422 = some (.if_icmp .eq 534, 3, 0, 0, 0) := by decide +kernel
theorem k226_425 : look (codL 226) 425 = some (.iconst 0, 1, 0, 0, 0) := by decide +kernel
theorem k226_426 : look (codL 226) 426 = some (.ireturn, 1, 0, 0, 0) := by decide +kernel
theorem k226_427 : look (codL 226) 427 = some (.aload_n 1, 1, 0, 0, 0) := by decide +kernel
theorem k226_428 : look (codL 226) 428 = some (.aload_n 0, 1, 0, 0, 0) := by decide +kernel
theorem k226_429 : look (codL 226) 429 = some (.iload_n 3, 1, 0, 0, 0) := by decide +kernel
theorem k226_430 : look (codL 226) 430 = some (.iconst 1, 1, 0, 0, 0) := by decide +kernel
theorem k226_431 : look (codL 226) 431 = some (.iadd, 1, 0, 0, 0) := by decide +kernel
theorem k226_432 : look (codL 226) 432 = some (.iaload, 1, 0, 0, 0) := by decide +kernel
theorem k226_433 : look (codL 226) 433 = some (.aload_n 0, 1, 0, 0, 0) := by decide +kernel
theorem k226_434 : look (codL 226) 434 = some (.iload_n 3, 1, 0, 0, 0) := by decide +kernel
theorem k226_435 : look (codL 226) 435 = some (.iconst 2, 1, 0, 0, 0) := by decide +kernel
theorem k226_436 : look (codL 226) 436 = some (.iadd, 1, 0, 0, 0) := by decide +kernel
theorem k226_437 : look (codL 226) 437 = some (.iaload, 1, 0, 0, 0) := by decide +kernel
theorem k226_438 : look (codL 226) 438 = some (.invokevirtual 53, 3, 104, 3, 0) := by decide +kernel
theorem k226_441 : look (codL 226) 441 = some (.aload_n 2, 1, 0, 0, 0) := by decide +kernel
theorem k226_442 : look (codL 226) 442 = some (.aload_n 0, 1, 0, 0, 0) := by decide +kernel
theorem k226_443 : look (codL 226) 443 = some (.iload_n 3, 1, 0, 0, 0) := by decide +kernel
theorem k226_444 : look (codL 226) 444 = some (.iconst 1, 1, 0, 0, 0) := by decide +kernel
theorem k226_445 : look (codL 226) 445 = some (.iadd, 1, 0, 0, 0) := by decide +kernel
theorem k226_446 : look (codL 226) 446 = some (.iaload, 1, 0, 0, 0) := by decide +kernel
theorem k226_447 : look (codL 226) 447 = some (.aload_n 0, 1, 0, 0, 0) := by decide +kernel
theorem k226_448 : look (codL 226) 448 = some (.iload_n 3, 1, 0, 0, 0) := by decide +kernel
theorem k226_449 : look (codL 226) 449 = some (.iconst 2, 1, 0, 0, 0) := by decide +kernel
theorem k226_450 : look (codL 226) 450 = some (.iadd, 1, 0, 0, 0) := by decide +kernel
theorem k226_451 : look (codL 226) 451 = some (.iaload, 1, 0, 0, 0) := by decide +kernel
theorem k226_452 : look (codL 226) 452 = some (.invokevirtual 56, 3, 170, 3, 0) := by decide +kernel
theorem k226_455 : look (codL 226) 455 = some (.if_icmp .eq 501, 3, 0, 0, 0) := by decide +kernel
theorem k226_458 : look (codL 226) 458 = some (.iconst 0, 1, 0, 0, 0) := by decide +kernel
theorem k226_459 : look (codL 226) 459 = some (.ireturn, 1, 0, 0, 0) := by decide +kernel
theorem k226_460 : look (codL 226) 460 = some (.aload_n 1, 1, 0, 0, 0) := by decide +kernel
theorem k226_461 : look (codL 226) 461 = some (.aload_n 0, 1, 0, 0, 0) := by decide +kernel
theorem k226_462 : look (codL 226) 462 = some (.iload_n 3, 1, 0, 0, 0) := by decide +kernel
theorem k226_463 : look (codL 226) 463 = some (.iconst 1, 1, 0, 0, 0) := by decide +kernel
theorem k226_464 : look (codL 226) 464 = some (.iadd, 1, 0, 0, 0) := by decide +kernel
theorem k226_465 : look (codL 226) 465 = some (.iaload, 1, 0, 0, 0) := by decide +kernel
theorem k226_466 : look (codL 226) 466 = some (.aload_n 0, 1, 0, 0, 0) := by decide +kernel
theorem k226_467 : look (codL 226) 467 = some (.iload_n 3, 1, 0, 0, 0) := by decide +kernel
theorem k226_468 : look (codL 226) 468 = some (.iconst 2, 1, 0, 0, 0) := by decide +kernel
theorem k226_469 : look (codL 226) 469 = some (.iadd, 1, 0, 0, 0) := by decide +kernel
theorem k226_470 : look (codL 226) 470 = some (.iaload, 1, 0, 0, 0) := by decide +kernel
theorem k226_471 : look (codL 226) 471 = some (.invokevirtual 57, 3, 105, 3, 0) := by decide +kernel
theorem k226_474 : look (codL 226) 474 = some (.aload_n 2, 1, 0, 0, 0) := by decide +kernel
theorem k226_475 : look (codL 226) 475 = some (.aload_n 0, 1, 0, 0, 0) := by decide +kernel
theorem k226_476 : look (codL 226) 476 = some (.iload_n 3, 1, 0, 0, 0) := by decide +kernel
theorem k226_477 : look (codL 226) 477 = some (.iconst 1, 1, 0, 0, 0) := by decide +kernel
theorem k226_478 : look (codL 226) 478 = some (.iadd, 1, 0, 0, 0) := by decide +kernel
theorem k226_479 : look (codL 226) 479 = some (.iaload, 1, 0, 0, 0) := by decide +kernel
theorem k226_480 : look (codL 226) 480 = some (.aload_n 0, 1, 0, 0, 0) := by decide +kernel
theorem k226_481 : look (codL 226) 481 = some (.iload_n 3, 1, 0, 0, 0) := by decide +kernel
theorem k226_482 : look (codL 226) 482 = some (.iconst 2, 1, 0, 0, 0) := by decide +kernel
theorem k226_483 : look (codL 226) 483 = some (.iadd, 1, 0, 0, 0) := by decide +kernel
theorem k226_484 : look (codL 226) 484 = some (.iaload, 1, 0, 0, 0) := by decide +kernel
theorem k226_485 : look (codL 226) 485 = some (.invokevirtual 60, 3, 171, 3, 0) := by decide +kernel
theorem k226_488 : look (codL 226) 488 = some (.if_icmp .eq 468, 3, 0, 0, 0) := by decide +kernel
theorem k226_491 : look (codL 226) 491 = some (.iconst 0, 1, 0, 0, 0) := by decide +kernel
theorem k226_492 : look (codL 226) 492 = some (.ireturn, 1, 0, 0, 0) := by decide +kernel
theorem k226_493 : look (codL 226) 493 = some (.aload_n 1, 1, 0, 0, 0) := by decide +kernel
theorem k226_494 : look (codL 226) 494 = some (.aload_n 0, 1, 0, 0, 0) := by decide +kernel
theorem k226_495 : look (codL 226) 495 = some (.iload_n 3, 1, 0, 0, 0) := by decide +kernel
theorem k226_496 : look (codL 226) 496 = some (.iconst 1, 1, 0, 0, 0) := by decide +kernel
theorem k226_497 : look (codL 226) 497 = some (.iadd, 1, 0, 0, 0) := by decide +kernel
theorem k226_498 : look (codL 226) 498 = some (.iaload, 1, 0, 0, 0) := by decide +kernel
theorem k226_499 : look (codL 226) 499 = some (.invokevirtual 61, 3, 106, 2, 0) := by decide +kernel
theorem k226_502 : look (codL 226) 502 = some (.aload_n 2, 1, 0, 0, 0) := by decide +kernel
theorem k226_503 : look (codL 226) 503 = some (.aload_n 0, 1, 0, 0, 0) := by decide +kernel
theorem k226_504 : look (codL 226) 504 = some (.iload_n 3, 1, 0, 0, 0) := by decide +kernel
theorem k226_505 : look (codL 226) 505 = some (.iconst 1, 1, 0, 0, 0) := by decide +kernel
theorem k226_506 : look (codL 226) 506 = some (.iadd, 1, 0, 0, 0) := by decide +kernel
theorem k226_507 : look (codL 226) 507 = some (.iaload, 1, 0, 0, 0) := by decide +kernel
theorem k226_508 : look (codL 226) 508 = some (.invokevirtual 64, 3, 210, 2, 0) := by decide +kernel
theorem k226_511 : look (codL 226) 511 = some (.if_icmp .eq 445, 3, 0, 0, 0) := by decide +kernel
theorem k226_514 : look (codL 226) 514 = some (.iconst 0, 1, 0, 0, 0) := by decide +kernel
theorem k226_515 : look (codL 226) 515 = some (.ireturn, 1, 0, 0, 0) := by decide +kernel
theorem k226_516 : look (codL 226) 516 = some (.aload_n 1, 1, 0, 0, 0) := by decide +kernel
theorem k226_517 : look (codL 226) 517 = some (.invokevirtual 65, 3, 107, 1, 0) := by decide +kernel
theorem k226_520 : look (codL 226) 520 = some (.aload_n 2, 1, 0, 0, 0) := by decide +kernel
theorem k226_521 : look (codL 226) 521 = some (.invokevirtual 68, 3, 211, 1, 0) := by decide +kernel
theorem k226_524 : look (codL 226) 524 = some (.if_icmp .eq 432, 3, 0, 0, 0) := by decide +kernel
theorem k226_527 : look (codL 226) 527 = some (.iconst 0, 1, 0, 0, 0) := by decide +kernel
theorem k226_528 : look (codL 226) 528 = some (.ireturn, 1, 0, 0, 0) := by decide +kernel
theorem k226_529 : look (codL 226) 529 = some (.aload_n 1, 1, 0, 0, 0) := by decide +kernel
theorem k226_530 : look (codL 226) 530 = some (.invokevirtual 69, 3, 108, 1, 0) := by decide +kernel
theorem k226_533 : look (codL 226) 533 = some (.aload_n 2, 1, 0, 0, 0) := by decide +kernel
theorem k226_534 : look (codL 226) 534 = some (.invokevirtual 72, 3, 225, 1, 0) := by decide +kernel
theorem k226_537 : look (codL 226) 537 = some (.if_icmp .eq 419, 3, 0, 0, 0) := by decide +kernel
theorem k226_540 : look (codL 226) 540 = some (.iconst 0, 1, 0, 0, 0) := by decide +kernel
theorem k226_541 : look (codL 226) 541 = some (.ireturn, 1, 0, 0, 0) := by decide +kernel
theorem k226_542 : look (codL 226) 542 = some (.aload_n 1, 1, 0, 0, 0) := by decide +kernel
theorem k226_543 : look (codL 226) 543 = some (.aload_n 0, 1, 0, 0, 0) := by decide +kernel
theorem k226_544 : look (codL 226) 544 = some (.iload_n 3, 1, 0, 0, 0) := by decide +kernel
theorem k226_545 : look (codL 226) 545 = some (.iconst 1, 1, 0, 0, 0) := by decide +kernel
theorem k226_546 : look (codL 226) 546 = some (.iadd, 1, 0, 0, 0) := by decide +kernel
theorem k226_547 : look (codL 226) 547 = some (.iaload, 1, 0, 0, 0) := by decide +kernel
theorem k226_548 : look (codL 226) 548 = some (.aload_n 0, 1, 0, 0, 0) := by decide +kernel
theorem k226_549 : look (codL 226) 549 = some (.iload_n 3, 1, 0, 0, 0) := by decide +kernel
theorem k226_550 : look (codL 226) 550 = some (.iconst 2, 1, 0, 0, 0) := by decide +kernel
theorem k226_551 : look (codL 226) 551 = some (.iadd, 1, 0, 0, 0) := by decide +kernel
theorem k226_552 : look (codL 226) 552 = some (.iaload, 1, 0, 0, 0) := by decide +kernel
theorem k226_553 : look (codL 226) 553 = some (.invokevirtual 73, 3, 111, 3, 0) := by decide +kernel
theorem k226_556 : look (codL 226) 556 = some (.aload_n 2, 1, 0, 0, 0) := by decide +kernel
theorem k226_557 : look (codL 226) 557 = some (.aload_n 0, 1, 0, 0, 0) := by decide +kernel
theorem k226_558 : look (codL 226) 558 = some (.iload_n 3, 1, 0, 0, 0) := by decide +kernel
theorem k226_559 : look (codL 226) 559 = some (.iconst 1, 1, 0, 0, 0) := by decide +kernel
theorem k226_560 : look (codL 226) 560 = some (.iadd, 1, 0, 0, 0) := by decide +kernel
theorem k226_561 : look (codL 226) 561 = some (.iaload, 1, 0, 0, 0) := by decide +kernel
theorem k226_562 : look (codL 226) 562 = some (.aload_n 0, 1, 0, 0, 0) := by decide +kernel
theorem k226_563 : look (codL 226) 563 = some (.iload_n 3, 1, 0, 0, 0) := by decide +kernel
theorem k226_564 : look (codL 226) 564 = some (.iconst 2, 1, 0, 0, 0) := by decide +kernel
theorem k226_565 : look (codL 226) 565 = some (.iadd, 1, 0, 0, 0) := by decide +kernel
theorem k226_566 : look (codL 226) 566 = some (.iaload, 1, 0, 0, 0) := by decide +kernel
theorem k226_567 : look (codL 226) 567 = some (.invokevirtual 76, 3, 186, 3, 0) := by decide +kernel
theorem k226_570 : look (codL 226) 570 = some (.if_icmp .eq 386, 3, 0, 0, 0) := by decide +kernel
theorem k226_573 : look (codL 226) 573 = some (.iconst 0, 1, 0, 0, 0) := by decide +kernel
theorem k226_574 : look (codL 226) 574 = some (.ireturn, 1, 0, 0, 0) := by decide +kernel
theorem k226_575 : look (codL 226) 575 = some (.aload_n 1, 1, 0, 0, 0) := by decide +kernel
theorem k226_576 : look (codL 226) 576 = some (.aload_n 0, 1, 0, 0, 0) := by decide +kernel
theorem k226_577 : look (codL 226) 577 = some (.iload_n 3, 1, 0, 0, 0) := by decide +kernel
theorem k226_578 : look (codL 226) 578 = some (.iconst 1, 1, 0, 0, 0) := by decide +kernel
theorem k226_579 : look (codL 226) 579 = some (.iadd, 1, 0, 0, 0) := by decide +kernel
theorem k226_580 : look (codL 226) 580 = some (.iaload, 1, 0, 0, 0) := by decide +kernel
theorem k226_581 : look (codL 226) 581 = some (.aload_n 0, 1, 0, 0, 0) := by decide +kernel
theorem k226_582 : look (codL 226) 582 = some (.iload_n 3, 1, 0, 0, 0) := by decide +kernel
theorem k226_583 : look (codL 226) 583 = some (.iconst 2, 1, 0, 0, 0) := by decide +kernel
theorem k226_584 : look (codL 226) 584 = some (.iadd, 1, 0, 0, 0) := by decide +kernel
theorem k226_585 : look (codL 226) 585 = some (.iaload, 1, 0, 0, 0) := by decide +kernel
theorem k226_586 : look (codL 226) 586 = some (.aload_n 0, 1, 0, 0, 0) := by decide +kernel
theorem k226_587 : look (codL 226) 587 = some (.iload_n 3, 1, 0, 0, 0) := by decide +kernel
theorem k226_588 : look (codL 226) 588 = some (.iconst 3, 1, 0, 0, 0) := by decide +kernel
theorem k226_589 : look (codL 226) 589 = some (.iadd, 1, 0, 0, 0) := by decide +kernel
theorem k226_590 : look (codL 226) 590 = some (.iaload, 1, 0, 0, 0) := by decide +kernel
theorem k226_591 : look (codL 226) 591 = some (.invokevirtual 77, 3, 112, 4, 0) := by decide +kernel
theorem k226_594 : look (codL 226) 594 = some (.aload_n 2, 1, 0, 0, 0) := by decide +kernel
theorem k226_595 : look (codL 226) 595 = some (.aload_n 0, 1, 0, 0, 0) := by decide +kernel
theorem k226_596 : look (codL 226) 596 = some (.iload_n 3, 1, 0, 0, 0) := by decide +kernel
theorem k226_597 : look (codL 226) 597 = some (.iconst 1, 1, 0, 0, 0) := by decide +kernel
theorem k226_598 : look (codL 226) 598 = some (.iadd, 1, 0, 0, 0) := by decide +kernel
theorem k226_599 : look (codL 226) 599 = some (.iaload, 1, 0, 0, 0) := by decide +kernel
theorem k226_600 : look (codL 226) 600 = some (.aload_n 0, 1, 0, 0, 0) := by decide +kernel
theorem k226_601 : look (codL 226) 601 = some (.iload_n 3, 1, 0, 0, 0) := by decide +kernel
theorem k226_602 : look (codL 226) 602 = some (.iconst 2, 1, 0, 0, 0) := by decide +kernel
theorem k226_603 : look (codL 226) 603 = some (.iadd, 1, 0, 0, 0) := by decide +kernel
theorem k226_604 : look (codL 226) 604 = some (.iaload, 1, 0, 0, 0) := by decide +kernel
theorem k226_605 : look (codL 226) 605 = some (.aload_n 0, 1, 0, 0, 0) := by decide +kernel
theorem k226_606 : look (codL 226) 606 = some (.iload_n 3, 1, 0, 0, 0) := by decide +kernel
theorem k226_607 : look (codL 226) 607 = some (.iconst 3, 1, 0, 0, 0) := by decide +kernel
theorem k226_608 : look (codL 226) 608 = some (.iadd, 1, 0, 0, 0) := by decide +kernel
theorem k226_609 : look (codL 226) 609 = some (.iaload, 1, 0, 0, 0) := by decide +kernel
theorem k226_610 : look (codL 226) 610 = some (.invokevirtual 80, 3, 187, 4, 0) := by decide +kernel
theorem k226_613 : look (codL 226) 613 = some (.if_icmp .eq 343, 3, 0, 0, 0) := by decide +kernel
theorem k226_616 : look (codL 226) 616 = some (.iconst 0, 1, 0, 0, 0) := by decide +kernel
theorem k226_617 : look (codL 226) 617 = some (.ireturn, 1, 0, 0, 0) := by decide +kernel
theorem k226_618 : look (codL 226) 618 = some (.aload_n 1, 1, 0, 0, 0) := by decide +kernel
theorem k226_619 : look (codL 226) 619 = some (.aload_n 0, 1, 0, 0, 0) := by decide +kernel
theorem k226_620 : look (codL 226) 620 = some (.iload_n 3, 1, 0, 0, 0) := by decide +kernel
theorem k226_621 : look (codL 226) 621 = some (.iconst 1, 1, 0, 0, 0) := by decide +kernel
theorem k226_622 : look (codL 226) 622 = some (.iadd, 1, 0, 0, 0) := by decide +kernel
theorem k226_623 : look (codL 226) 623 = some (.iaload, 1, 0, 0, 0) := by decide +kernel
theorem k226_624 : look (codL 226) 624 = some (.invokevirtual 81, 3, 113, 2, 0) := by decide +kernel
theorem k226_627 : look (codL 226) 627 = some (.aload_n 2, 1, 0, 0, 0) := by decide +kernel
theorem k226_628 : look (codL 226) 628 = some (.aload_n 0, 1, 0, 0, 0) := by decide +kernel
theorem k226_629 : look (codL 226) 629 = some (.iload_n 3, 1, 0, 0, 0) := by decide +kernel
theorem k226_630 : look (codL 226) 630 = some (.iconst 1, 1, 0, 0, 0) := by decide +kernel
theorem k226_631 : look (codL 226) 631 = some (.iadd, 1, 0, 0, 0) := by decide +kernel
theorem k226_632 : look (codL 226) 632 = some (.iaload, 1, 0, 0, 0) := by decide +kernel
theorem k226_633 : look (codL 226) 633 = some (.invokevirtual 84, 3, 188, 2, 0) := by decide +kernel
theorem k226_636 : look (codL 226) 636 = some (.if_icmp .eq 320, 3, 0, 0, 0) := by decide +kernel
theorem k226_639 : look (codL 226) 639 = some (.iconst 0, 1, 0, 0, 0) := by decide +kernel
theorem k226_640 : look (codL 226) 640 = some (.ireturn, 1, 0, 0, 0) := by decide +kernel
theorem k226_641 : look (codL 226) 641 = some (.aload_n 1, 1, 0, 0, 0) := by decide +kernel
theorem k226_642 : look (codL 226) 642 = some (.aload_n 0, 1, 0, 0, 0) := by decide +kernel
theorem k226_643 : look (codL 226) 643 = some (.iload_n 3, 1, 0, 0, 0) := by decide +kernel
theorem k226_644 : look (codL 226) 644 = some (.iconst 1, 1, 0, 0, 0) := by decide +kernel
theorem k226_645 : look (codL 226) 645 = some (.iadd, 1, 0, 0, 0) := by decide +kernel
theorem k226_646 : look (codL 226) 646 = some (.iaload, 1, 0, 0, 0) := by decide +kernel
theorem k226_647 : look (codL 226) 647 = some (.aload_n 0, 1, 0, 0, 0) := by decide +kernel
theorem k226_648 : look (codL 226) 648 = some (.iload_n 3, 1, 0, 0, 0) := by decide +kernel
theorem k226_649 : look (codL 226) 649 = some (.iconst 2, 1, 0, 0, 0) := by decide +kernel
theorem k226_650 : look (codL 226) 650 = some (.iadd, 1, 0, 0, 0) := by decide +kernel
theorem k226_651 : look (codL 226) 651 = some (.iaload, 1, 0, 0, 0) := by decide +kernel
theorem k226_652 : look (codL 226) 652 = some (.invokevirtual 85, 3, 114, 3, 0) := by decide +kernel
theorem k226_655 : look (codL 226) 655 = some (.aload_n 2, 1, 0, 0, 0) := by decide +kernel
theorem k226_656 : look (codL 226) 656 = some (.aload_n 0, 1, 0, 0, 0) := by decide +kernel
theorem k226_657 : look (codL 226) 657 = some (.iload_n 3, 1, 0, 0, 0) := by decide +kernel
theorem k226_658 : look (codL 226) 658 = some (.iconst 1, 1, 0, 0, 0) := by decide +kernel
theorem k226_659 : look (codL 226) 659 = some (.iadd, 1, 0, 0, 0) := by decide +kernel
theorem k226_660 : look (codL 226) 660 = some (.iaload, 1, 0, 0, 0) := by decide +kernel
theorem k226_661 : look (codL 226) 661 = some (.aload_n 0, 1, 0, 0, 0) := by decide +kernel
theorem k226_662 : look (codL 226) 662 = some (.iload_n 3, 1, 0, 0, 0) := by decide +kernel
theorem k226_663 : look (codL 226) 663 = some (.iconst 2, 1, 0, 0, 0) := by decide +kernel
theorem k226_664 : look (codL 226) 664 = some (.iadd, 1, 0, 0, 0) := by decide +kernel
theorem k226_665 : look (codL 226) 665 = some (.iaload, 1, 0, 0, 0) := by decide +kernel
theorem k226_666 : look (codL 226) 666 = some (.invokevirtual 88, 3, 191, 3, 0) := by decide +kernel
theorem k226_669 : look (codL 226) 669 = some (.if_icmp .eq 287, 3, 0, 0, 0) := by decide +kernel
theorem k226_672 : look (codL 226) 672 = some (.iconst 0, 1, 0, 0, 0) := by decide +kernel
theorem k226_673 : look (codL 226) 673 = some (.ireturn, 1, 0, 0, 0) := by decide +kernel
theorem k226_674 : look (codL 226) 674 = some (.aload_n 1, 1, 0, 0, 0) := by decide +kernel
theorem k226_675 : look (codL 226) 675 = some (.aload_n 0, 1, 0, 0, 0) := by decide +kernel
theorem k226_676 : look (codL 226) 676 = some (.iload_n 3, 1, 0, 0, 0) := by decide +kernel
theorem k226_677 : look (codL 226) 677 = some (.iconst 1, 1, 0, 0, 0) := by decide +kernel
theorem k226_678 : look (codL 226) 678 = some (.iadd, 1, 0, 0, 0) := by decide +kernel
theorem k226_679 : look (codL 226) 679 = some (.iaload, 1, 0, 0, 0) := by decide +kernel
theorem k226_680 : look (codL 226) 680 = some (.aload_n 0, 1, 0, 0, 0) := by decide +kernel
theorem k226_681 : look (codL 226) 681 = some (.iload_n 3, 1, 0, 0, 0) := by decide +kernel
theorem k226_682 : look (codL 226) 682 = some (.iconst 2, 1, 0, 0, 0) := by decide +kernel
theorem k226_683 : look (codL 226) 683 = some (.iadd, 1, 0, 0, 0) := by decide +kernel
theorem k226_684 : look (codL 226) 684 = some (.iaload, 1, 0, 0, 0) := by decide +kernel
theorem k226_685 : look (codL 226) 685 = some (.invokevirtual 89, 3, 116, 3, 0) := by decide +kernel
theorem k226_688 : look (codL 226) 688 = some (.aload_n 2, 1, 0, 0, 0) := by decide +kernel
theorem k226_689 : look (codL 226) 689 = some (.aload_n 0, 1, 0, 0, 0) := by decide +kernel
theorem k226_690 : look (codL 226) 690 = some (.iload_n 3, 1, 0, 0, 0) := by decide +kernel
theorem k226_691 : look (codL 226) 691 = some (.iconst 1, 1, 0, 0, 0) := by decide +kernel
theorem k226_692 : look (codL 226) 692 = some (.iadd, 1, 0, 0, 0) := by decide +kernel
theorem k226_693 : look (codL 226) 693 = some (.iaload, 1, 0, 0, 0) := by decide +kernel
theorem k226_694 : look (codL 226) 694 = some (.aload_n 0, 1, 0, 0, 0) := by decide +kernel
theorem k226_695 : look (codL 226) 695 = some (.iload_n 3, 1, 0, 0, 0) := by decide +kernel
theorem k226_696 : look (codL 226) 696 = some (.iconst 2, 1, 0, 0, 0) := by decide +kernel
theorem k226_697 : look (codL 226) 697 = some (.iadd, 1, 0, 0, 0) := by decide +kernel
theorem k226_698 : look (codL 226) 698 = some (.iaload, 1, 0, 0, 0) := by decide +kernel
theorem k226_699 : look (codL 226) 699 = some (.invokevirtual 92, 3, 192, 3, 0) := by decide +kernel
theorem k226_702 : look (codL 226) 702 = some (.if_icmp .eq 254, 3, 0, 0, 0) := by decide +kernel
theorem k226_705 : look (codL 226) 705 = some (.iconst 0, 1, 0, 0, 0) := by decide +kernel
theorem k226_706 : look (codL 226) 706 = some (.ireturn, 1, 0, 0, 0) := by decide +kernel
theorem k226_707 : look (codL 226) 707 = some (.aload_n 1, 1, 0, 0, 0) := by decide +kernel
theorem k226_708 : look (codL 226) 708 = some (.aload_n 0, 1, 0, 0, 0) := by decide +kernel
theorem k226_709 : look (codL 226) 709 = some (.iload_n 3, 1, 0, 0, 0) := by decide +kernel
theorem k226_710 : look (codL 226) 710 = some (.iconst 1, 1, 0, 0, 0) := by decide +kernel
theorem k226_711 : look (codL 226) 711 = some (.iadd, 1, 0, 0, 0) := by decide +kernel
theorem k226_712 : look (codL 226) 712 = some (.iaload, 1, 0, 0, 0) := by decide +kernel
theorem k226_713 : look (codL 226) 713 = some (.aload_n 0, 1, 0, 0, 0) := by decide +kernel
theorem k226_714 : look (codL 226) 714 = some (.iload_n 3, 1, 0, 0, 0) := by decide +kernel
theorem k226_715 : look (codL 226) 715 = some (.iconst 2, 1, 0, 0, 0) := by decide +kernel
theorem k226_716 : look (codL 226) 716 = some (.iadd, 1, 0, 0, 0) := by decide +kernel
theorem k226_717 : look (codL 226) 717 = some (.iaload, 1, 0, 0, 0) := by decide +kernel
theorem k226_718 : look (codL 226) 718 = some (.invokevirtual 93, 3, 117, 3, 0) := by decide +kernel
theorem k226_721 : look (codL 226) 721 = some (.aload_n 2, 1, 0, 0, 0) := by decide +kernel
theorem k226_722 : look (codL 226) 722 = some (.aload_n 0, 1, 0, 0, 0) := by decide +kernel
theorem k226_723 : look (codL 226) 723 = some (.iload_n 3, 1, 0, 0, 0) := by decide +kernel
theorem k226_724 : look (codL 226) 724 = some (.iconst 1, 1, 0, 0, 0) := by decide +kernel
theorem k226_725 : look (codL 226) 725 = some (.iadd, 1, 0, 0, 0) := by decide +kernel
theorem k226_726 : look (codL 226) 726 = some (.iaload, 1, 0, 0, 0) := by decide +kernel
theorem k226_727 : look (codL 226) 727 = some (.aload_n 0, 1, 0, 0, 0) := by decide +kernel
theorem k226_728 : look (codL 226) 728 = some (.iload_n 3, 1, 0, 0, 0) := by decide +kernel
theorem k226_729 : look (codL 226) 729 = some (.iconst 2, 1, 0, 0, 0) := by decide +kernel
theorem k226_730 : look (codL 226) 730 = some (.iadd, 1, 0, 0, 0) := by decide +kernel
theorem k226_731 : look (codL 226) 731 = some (.iaload, 1, 0, 0, 0) := by decide +kernel
theorem k226_732 : look (codL 226) 732 = some (.invokevirtual 96, 3, 193, 3, 0) := by decide +kernel
theorem k226_735 : look (codL 226) 735 = some (.if_icmp .eq 221, 3, 0, 0, 0) := by decide +kernel
theorem k226_738 : look (codL 226) 738 = some (.iconst 0, 1, 0, 0, 0) := by decide +kernel
theorem k226_739 : look (codL 226) 739 = some (.ireturn, 1, 0, 0, 0) := by decide +kernel
theorem k226_740 : look (codL 226) 740 = some (.aload_n 1, 1, 0, 0, 0) := by decide +kernel
theorem k226_741 : look (codL 226) 741 = some (.aload_n 0, 1, 0, 0, 0) := by decide +kernel
theorem k226_742 : look (codL 226) 742 = some (.iload_n 3, 1, 0, 0, 0) := by decide +kernel
theorem k226_743 : look (codL 226) 743 = some (.iconst 1, 1, 0, 0, 0) := by decide +kernel
theorem k226_744 : look (codL 226) 744 = some (.iadd, 1, 0, 0, 0) := by decide +kernel
theorem k226_745 : look (codL 226) 745 = some (.iaload, 1, 0, 0, 0) := by decide +kernel
theorem k226_746 : look (codL 226) 746 = some (.invokevirtual 97, 3, 119, 2, 0) := by decide +kernel
theorem k226_749 : look (codL 226) 749 = some (.aload_n 2, 1, 0, 0, 0) := by decide +kernel
theorem k226_750 : look (codL 226) 750 = some (.aload_n 0, 1, 0, 0, 0) := by decide +kernel
theorem k226_751 : look (codL 226) 751 = some (.iload_n 3, 1, 0, 0, 0) := by decide +kernel
theorem k226_752 : look (codL 226) 752 = some (.iconst 1, 1, 0, 0, 0) := by decide +kernel
theorem k226_753 : look (codL 226) 753 = some (.iadd, 1, 0, 0, 0) := by decide +kernel
theorem k226_754 : look (codL 226) 754 = some (.iaload, 1, 0, 0, 0) := by decide +kernel
theorem k226_755 : look (codL 226) 755 = some (.invokevirtual 100, 3, 196, 2, 0) := by decide +kernel
theorem k226_758 : look (codL 226) 758 = some (.if_icmp .eq 198, 3, 0, 0, 0) := by decide +kernel
theorem k226_761 : look (codL 226) 761 = some (.iconst 0, 1, 0, 0, 0) := by decide +kernel
theorem k226_762 : look (codL 226) 762 = some (.ireturn, 1, 0, 0, 0) := by decide +kernel
theorem k226_763 : look (codL 226) 763 = some (.aload_n 1, 1, 0, 0, 0) := by decide +kernel
theorem k226_764 : look (codL 226) 764 = some (.aload_n 0, 1, 0, 0, 0) := by decide +kernel
theorem k226_765 : look (codL 226) 765 = some (.iload_n 3, 1, 0, 0, 0) := by decide +kernel
theorem k226_766 : look (codL 226) 766 = some (.iconst 1, 1, 0, 0, 0) := by decide +kernel
theorem k226_767 : look (codL 226) 767 = some (.iadd, 1, 0, 0, 0) := by decide +kernel
theorem k226_768 : look (codL 226) 768 = some (.iaload, 1, 0, 0, 0) := by decide +kernel
theorem k226_769 : look (codL 226) 769 = some (.aload_n 0, 1, 0, 0, 0) := by decide +kernel
theorem k226_770 : look (codL 226) 770 = some (.iload_n 3, 1, 0, 0, 0) := by decide +kernel
theorem k226_771 : look (codL 226) 771 = some (.iconst 2, 1, 0, 0, 0) := by decide +kernel
theorem k226_772 : look (codL 226) 772 = some (.iadd, 1, 0, 0, 0) := by decide +kernel
theorem k226_773 : look (codL 226) 773 = some (.iaload, 1, 0, 0, 0) := by decide +kernel
theorem k226_774 : look (codL 226) 774 = some (.aload_n 0, 1, 0, 0, 0) := by decide +kernel
theorem k226_775 : look (codL 226) 775 = some (.iload_n 3, 1, 0, 0, 0) := by decide +kernel
theorem k226_776 : look (codL 226) 776 = some (.iconst 3, 1, 0, 0, 0) := by decide +kernel
theorem k226_777 : look (codL 226) 777 = some (.iadd, 1, 0, 0, 0) := by decide +kernel
theorem k226_778 : look (codL 226) 778 = some (.iaload, 1, 0, 0, 0) := by decide +kernel
theorem k226_779 : look (codL 226) 779 = some (.invokevirtual 101, 3, 120, 4, 0) := by decide +kernel
theorem k226_782 : look (codL 226) 782 = some (.aload_n 2, 1, 0, 0, 0) := by decide +kernel
theorem k226_783 : look (codL 226) 783 = some (.aload_n 0, 1, 0, 0, 0) := by decide +kernel
theorem k226_784 : look (codL 226) 784 = some (.iload_n 3, 1, 0, 0, 0) := by decide +kernel
theorem k226_785 : look (codL 226) 785 = some (.iconst 1, 1, 0, 0, 0) := by decide +kernel
theorem k226_786 : look (codL 226) 786 = some (.iadd, 1, 0, 0, 0) := by decide +kernel
theorem k226_787 : look (codL 226) 787 = some (.iaload, 1, 0, 0, 0) := by decide +kernel
theorem k226_788 : look (codL 226) 788 = some (.aload_n 0, 1, 0, 0, 0) := by decide +kernel
theorem k226_789 : look (codL 226) 789 = some (.iload_n 3, 1, 0, 0, 0) := by decide +kernel
theorem k226_790 : look (codL 226) 790 = some (.iconst 2, 1, 0, 0, 0) := by decide +kernel
theorem k226_791 : look (codL 226) 791 = some (.iadd, 1, 0, 0, 0) := by decide +kernel
theorem k226_792 : look (codL 226) 792 = some (.iaload, 1, 0, 0, 0) := by decide +kernel
theorem k226_793 : look (codL 226) 793 = some (.aload_n 0, 1, 0, 0, 0) := by decide +kernel
theorem k226_794 : look (codL 226) 794 = some (.iload_n 3, 1, 0, 0, 0) := by decide +kernel
theorem k226_795 : look (codL 226) 795 = some (.iconst 3, 1, 0, 0, 0) := by decide +kernel
theorem k226_796 : look (codL 226) 796 = some (.iadd, 1, 0, 0, 0) := by decide +kernel
theorem k226_797 : look (codL 226) 797 = some (.iaload, 1, 0, 0, 0) := by decide +kernel
theorem k226_798 : look (codL 226) 798 = some (.invokevirtual 105, 3, 202, 4, 0) := by decide +kernel
theorem k226_801 : look (codL 226) 801 = some (.lcmp, 1, 0, 0, 0) := by decide +kernel
theorem k226_802 : look (codL 226) 802 = some (.ifCond .eq 154, 3, 0, 0, 0) := by decide +kernel
theorem k226_805 : look (codL 226) 805 = some (.iconst 0, 1, 0, 0, 0) := by decide +kernel
theorem k226_806 : look (codL 226) 806 = some (.ireturn, 1, 0, 0, 0) := by decide +kernel
theorem k226_807 : look (codL 226) 807 = some (.aload_n 1, 1, 0, 0, 0) := by decide +kernel
theorem k226_808 : look (codL 226) 808 = some (.aload_n 0, 1, 0, 0, 0) := by decide +kernel
theorem k226_809 : look (codL 226) 809 = some (.iload_n 3, 1, 0, 0, 0) := by decide +kernel
theorem k226_810 : look (codL 226) 810 = some (.iconst 1, 1, 0, 0, 0) := by decide +kernel
theorem k226_811 : look (codL 226) 811 = some (.iadd, 1, 0, 0, 0) := by decide +kernel
theorem k226_812 : look (codL 226) 812 = some (.iaload, 1, 0, 0, 0) := by decide +kernel
theorem k226_813 : look (codL 226) 813 = some (.invokevirtual 106, 3, 122, 2, 0) := by decide +kernel
theorem k226_816 : look (codL 226) 816 = some (.aload_n 2, 1, 0, 0, 0) := by decide +kernel
theorem k226_817 : look (codL 226) 817 = some (.aload_n 0, 1, 0, 0, 0) := by decide +kernel
theorem k226_818 : look (codL 226) 818 = some (.iload_n 3, 1, 0, 0, 0) := by decide +kernel
theorem k226_819 : look (codL 226) 819 = some (.iconst 1, 1, 0, 0, 0) := by decide +kernel
theorem k226_820 : look (codL 226) 820 = some (.iadd, 1, 0, 0, 0) := by decide +kernel
theorem k226_821 : look (codL 226) 821 = some (.iaload, 1, 0, 0, 0) := by decide +kernel
theorem k226_822 : look (codL 226) 822 = some (.invokevirtual 109, 3, 203, 2, 0) := by decide +kernel
theorem k226_825 : look (codL 226) 825 = some (.if_icmp .eq 131, 3, 0, 0, 0) := by decide +kernel
theorem k226_828 : look (codL 226) 828 = some (.iconst 0, 1, 0, 0, 0) := by decide +kernel
theorem k226_829 : look (codL 226) 829 = some (.ireturn, 1, 0, 0, 0) := by decide +kernel
theorem k226_830 : look (codL 226) 830 = some (.aload_n 1, 1, 0, 0, 0) := by decide +kernel
theorem k226_831 : look (codL 226) 831 = some (.invokevirtual 110, 3, 124, 1, 0) := by decide +kernel
theorem k226_834 : look (codL 226) 834 = some (.aload_n 2, 1, 0, 0, 0) := by decide +kernel
theorem k226_835 : look (codL 226) 835 = some (.invokevirtual 113, 3, 204, 1, 0) := by decide +kernel
theorem k226_838 : look (codL 226) 838 = some (.if_icmp .eq 118, 3, 0, 0, 0) := by decide +kernel
theorem k226_841 : look (codL 226) 841 = some (.iconst 0, 1, 0, 0, 0) := by decide +kernel
theorem k226_842 : look (codL 226) 842 = some (.ireturn, 1, 0, 0, 0) := by decide +kernel
theorem k226_843 : look (codL 226) 843 = some (.aload_n 1, 1, 0, 0, 0) := by decide +kernel
theorem k226_844 : look (codL 226) 844 = some (.aload_n 0, 1, 0, 0, 0) := by decide +kernel
theorem k226_845 : look (codL 226) 845 = some (.iload_n 3, 1, 0, 0, 0) := by decide +kernel
theorem k226_846 : look (codL 226) 846 = some (.iconst 1, 1, 0, 0, 0) := by decide +kernel
theorem k226_847 : look (codL 226) 847 = some (.iadd, 1, 0, 0, 0) := by decide +kernel
theorem k226_848 : look (codL 226) 848 = some (.iaload, 1, 0, 0, 0) := by decide +kernel
theorem k226_849 : look (codL 226) 849 = some (.aload_n 0, 1, 0, 0, 0) := by decide +kernel
theorem k226_850 : look (codL 226) 850 = some (.iload_n 3, 1, 0, 0, 0) := by decide +kernel
theorem k226_851 : look (codL 226) 851 = some (.iconst 2, 1, 0, 0, 0) := by decide +kernel
theorem k226_852 : look (codL 226) 852 = some (.iadd, 1, 0, 0, 0) := by decide +kernel
theorem k226_853 : look (codL 226) 853 = some (.iaload, 1, 0, 0, 0) := by decide +kernel
theorem k226_854 : look (codL 226) 854 = some (.invokevirtual 114, 3, 127, 3, 0) := by decide +kernel
theorem k226_857 : look (codL 226) 857 = some (.aload_n 2, 1, 0, 0, 0) := by decide +kernel
theorem k226_858 : look (codL 226) 858 = some (.aload_n 0, 1, 0, 0, 0) := by decide +kernel
theorem k226_859 : look (codL 226) 859 = some (.iload_n 3, 1, 0, 0, 0) := by decide +kernel
theorem k226_860 : look (codL 226) 860 = some (.iconst 1, 1, 0, 0, 0) := by decide +kernel
theorem k226_861 : look (codL 226) 861 = some (.iadd, 1, 0, 0, 0) := by decide +kernel
theorem k226_862 : look (codL 226) 862 = some (.iaload, 1, 0, 0, 0) := by decide +kernel
theorem k226_863 : look (codL 226) 863 = some (.aload_n 0, 1, 0, 0, 0) := by decide +kernel
theorem k226_864 : look (codL 226) 864 = some (.iload_n 3, 1, 0, 0, 0) := by decide +kernel
theorem k226_865 : look (codL 226) 865 = some (.iconst 2, 1, 0, 0, 0) := by decide +kernel
theorem k226_866 : look (codL 226) 866 = some (.iadd, 1, 0, 0, 0) := by decide +kernel
theorem k226_867 : look (codL 226) 867 = some (.iaload, 1, 0, 0, 0) := by decide +kernel
theorem k226_868 : look (codL 226) 868 = some (.invokevirtual 117, 3, 205, 3, 0) := by decide +kernel
theorem k226_871 : look (codL 226) 871 = some (.if_icmp .eq 85, 3, 0, 0, 0) := by decide +kernel
theorem k226_874 : look (codL 226) 874 = some (.iconst 0, 1, 0, 0, 0) := by decide +kernel
theorem k226_875 : look (codL 226) 875 = some (.ireturn, 1, 0, 0, 0) := by decide +kernel
theorem k226_876 : look (codL 226) 876 = some (.aload_n 1, 1, 0, 0, 0) := by decide +kernel
theorem k226_877 : look (codL 226) 877 = some (.aload_n 0, 1, 0, 0, 0) := by decide +kernel
theorem k226_878 : look (codL 226) 878 = some (.iload_n 3, 1, 0, 0, 0) := by decide +kernel
theorem k226_879 : look (codL 226) 879 = some (.iconst 1, 1, 0, 0, 0) := by decide +kernel
theorem k226_880 : look (codL 226) 880 = some (.iadd, 1, 0, 0, 0) := by decide +kernel
theorem k226_881 : look (codL 226) 881 = some (.iaload, 1, 0, 0, 0) := by decide +kernel
theorem k226_882 : look (codL 226) 882 = some (.aload_n 0, 1, 0, 0, 0) := by decide +kernel
theorem k226_883 : look (codL 226) 883 = some (.iload_n 3, 1, 0, 0, 0) := by decide +kernel
theorem k226_884 : look (codL 226) 884 = some (.iconst 2, 1, 0, 0, 0) := by decide +kernel
theorem k226_885 : look (codL 226) 885 = some (.iadd, 1, 0, 0, 0) := by decide +kernel
theorem k226_886 : look (codL 226) 886 = some (.iaload, 1, 0, 0, 0) := by decide +kernel
theorem k226_887 : look (codL 226) 887 = some (.aload_n 0, 1, 0, 0, 0) := by decide +kernel
theorem k226_888 : look (codL 226) 888 = some (.iload_n 3, 1, 0, 0, 0) := by decide +kernel
theorem k226_889 : look (codL 226) 889 = some (.iconst 3, 1, 0, 0, 0) := by decide +kernel
theorem k226_890 : look (codL 226) 890 = some (.iadd, 1, 0, 0, 0) := by decide +kernel
theorem k226_891 : look (codL 226) 891 = some (.iaload, 1, 0, 0, 0) := by decide +kernel
theorem k226_892 : look (codL 226) 892 = some (.invokevirtual 118, 3, 130, 4, 0) := by decide +kernel
theorem k226_895 : look (codL 226) 895 = some (.aload_n 2, 1, 0, 0, 0) := by decide +kernel
theorem k226_896 : look (codL 226) 896 = some (.aload_n 0, 1, 0, 0, 0) := by decide +kernel
theorem k226_897 : look (codL 226) 897 = some (.iload_n 3, 1, 0, 0, 0) := by decide +kernel
theorem k226_898 : look (codL 226) 898 = some (.iconst 1, 1, 0, 0, 0) := by decide +kernel
theorem k226_899 : look (codL 226) 899 = some (.iadd, 1, 0, 0, 0) := by decide +kernel
theorem k226_900 : look (codL 226) 900 = some (.iaload, 1, 0, 0, 0) := by decide +kernel
theorem k226_901 : look (codL 226) 901 = some (.aload_n 0, 1, 0, 0, 0) := by decide +kernel
theorem k226_902 : look (codL 226) 902 = some (.iload_n 3, 1, 0, 0, 0) := by decide +kernel
theorem k226_903 : look (codL 226) 903 = some (.iconst 2, 1, 0, 0, 0) := by decide +kernel
theorem k226_904 : look (codL 226) 904 = some (.iadd, 1, 0, 0, 0) := by decide +kernel
theorem k226_905 : look (codL 226) 905 = some (.iaload, 1, 0, 0, 0) := by decide +kernel
theorem k226_906 : look (codL 226) 906 = some (.aload_n 0, 1, 0, 0, 0) := by decide +kernel
theorem k226_907 : look (codL 226) 907 = some (.iload_n 3, 1, 0, 0, 0) := by decide +kernel
theorem k226_908 : look (codL 226) 908 = some (.iconst 3, 1, 0, 0, 0) := by decide +kernel
theorem k226_909 : look (codL 226) 909 = some (.iadd, 1, 0, 0, 0) := by decide +kernel
theorem k226_910 : look (codL 226) 910 = some (.iaload, 1, 0, 0, 0) := by decide +kernel
theorem k226_911 : look (codL 226) 911 = some (.invokevirtual 121, 3, 206, 4, 0) := by decide +kernel
theorem k226_914 : look (codL 226) 914 = some (.if_icmp .eq 42, 3, 0, 0, 0) := by decide +kernel
theorem k226_917 : look (codL 226) 917 = some (.iconst 0, 1, 0, 0, 0) := by decide +kernel
theorem k226_918 : look (codL 226) 918 = some (.ireturn, 1, 0, 0, 0) := by decide +kernel
theorem k226_919 : look (codL 226) 919 = some (.aload_n 1, 1, 0, 0, 0) := by decide +kernel
theorem k226_920 : look (codL 226) 920 = some (.aload_n 0, 1, 0, 0, 0) := by decide +kernel
theorem k226_921 : look (codL 226) 921 = some (.iload_n 3, 1, 0, 0, 0) := by decide +kernel
theorem k226_922 : look (codL 226) 922 = some (.iconst 1, 1, 0, 0, 0) := by decide +kernel
theorem k226_923 : look (codL 226) 923 = some (.iadd, 1, 0, 0, 0) := by decide +kernel
theorem k226_924 : look (codL 226) 924 = some (.iaload, 1, 0, 0, 0) := by decide +kernel
theorem k226_925 : look (codL 226) 925 = some (.invokevirtual 122, 3, 132, 2, 0) := by decide +kernel
theorem k226_928 : look (codL 226) 928 = some (.aload_n 2, 1, 0, 0, 0) := by decide +kernel
theorem k226_929 : look (codL 226) 929 = some (.aload_n 0, 1, 0, 0, 0) := by decide +kernel
theorem k226_930 : look (codL 226) 930 = some (.iload_n 3, 1, 0, 0, 0) := by decide +kernel
theorem k226_931 : look (codL 226) 931 = some (.iconst 1, 1, 0, 0, 0) := by decide +kernel
theorem k226_932 : look (codL 226) 932 = some (.iadd, 1, 0, 0, 0) := by decide +kernel
theorem k226_933 : look (codL 226) 933 = some (.iaload, 1, 0, 0, 0) := by decide +kernel
theorem k226_934 : look (codL 226) 934 = some (.invokevirtual 125, 3, 208, 2, 0) := by decide +kernel
theorem k226_937 : look (codL 226) 937 = some (.if_icmp .eq 19, 3, 0, 0, 0) := by decide +kernel
theorem k226_940 : look (codL 226) 940 = some (.iconst 0, 1, 0, 0, 0) := by decide +kernel
theorem k226_941 : look (codL 226) 941 = some (.ireturn, 1, 0, 0, 0) := by decide +kernel
theorem k226_942 : look (codL 226) 942 = some (.aload_n 1, 1, 0, 0, 0) := by decide +kernel
theorem k226_943 : look (codL 226) 943 = some (.invokevirtual 126, 3, 133, 1, 0) := by decide +kernel
theorem k226_946 : look (codL 226) 946 = some (.aload_n 2, 1, 0, 0, 0) := by decide +kernel
theorem k226_947 : look (codL 226) 947 = some (.invokevirtual 130, 3, 209, 1, 0) := by decide +kernel
theorem k226_950 : look (codL 226) 950 = some (.lcmp, 1, 0, 0, 0) := by decide +kernel
theorem k226_951 : look (codL 226) 951 = some (.ifCond .eq 5, 3, 0, 0, 0) := by decide +kernel
theorem k226_954 : look (codL 226) 954 = some (.iconst 0, 1, 0, 0, 0) := by decide +kernel
theorem k226_955 : look (codL 226) 955 = some (.ireturn, 1, 0, 0, 0) := by decide +kernel
theorem k226_956 : look (codL 226) 956 = some (.iinc 3 4, 3, 0, 0, 0) := by decide +kernel
theorem k226_959 : look (codL 226) 959 = some (.goto (-941), 3, 0, 0, 0) := by decide +kernel
theorem k226_962 : look (codL 226) 962 = some (.iconst 1, 1, 0, 0, 0) := by decide +kernel
theorem k226_963 : look (codL 226) 963 = some (.ireturn, 1, 0, 0, 0) := by decide +kernel
