theorem k154_41 : look (codL 154) 41 = some (.if_icmp .ge 34, 3, 0, 0, 0) := by decide +kernel
theorem k154_44 : look (codL 154) 44 = some (.aload_n 0, 1, 0, 0, 0) := by decide +kernel
theorem k154_45 : look (codL 154) 45 = some (.getfield 28, 3, 10, 9, 0) := by decide +kernel
theorem k154_48 : look (codL 154) 48 = some (.bipush 6, 2, 0, 0, 0) := by decide +kernel
theorem k154_50 : look (codL 154) 50 = some (.iload 4, 2, 0, 0, 0) := by decide +kernel
theorem k154_52 : look (codL 154) 52 = some (.imul, 1, 0, 0, 0) := by decide +kernel
theorem k154_53 : look (codL 154) 53 = some (.iload 5, 2, 0, 0, 0) := by decide +kernel
theorem k154_55 : look (codL 154) 55 = some (.iadd, 1, 0, 0, 0) := by decide +kernel
theorem k154_56 : look (codL 154) 56 = some (.aload_n 0, 1, 0, 0, 0) := by decide +kernel
theorem k154_57 : look (codL 154) 57 = some (.getfield 16, 3, 10, 5, 0) := by decide +kernel
theorem k154_60 : look (codL 154) 60 = some (.bipush 6, 2, 0, 0, 0) := by decide +kernel
theorem k154_62 : look (codL 154) 62 = some (.iload_n 2, 1, 0, 0, 0) := by decide +kernel
theorem k154_63 : look (codL 154) 63 = some (.imul, 1, 0, 0, 0) := by decide +kernel
theorem k154_64 : look (codL 154) 64 = some (.iload 5, 2, 0, 0, 0) := by decide +kernel
theorem k154_66 : look (codL 154) 66 = some (.iadd, 1, 0, 0, 0) := by decide +kernel
theorem k154_67 : look (codL 154) 67 = some (.iaload, 1, 0, 0, 0) := by decide +kernel
theorem k154_68 : look (codL 154) 68 = some (.iastore, 1, 0, 0, 0) := by decide +kernel
theorem k154_69 : look (codL 154) 69 = some (.iinc 5 1, 3, 0, 0, 0) := by decide +kernel
theorem k154_72 : look (codL 154) 72 = some (.goto (-39), 3, 0, 0, 0) := by decide +kernel
theorem k154_75 : look (codL 154) 75 = some (.aload_n 0, 1, 0, 0, 0) := by decide +kernel
theorem k154_76 : look (codL 154) 76 = some (.dup, 1, 0, 0, 0) := by decide +kernel
theorem k154_77 : look (codL 154) 77 = some (.getfield 94, 3, 10, 2, 0) := by decide +kernel
theorem k154_80 : look (codL 154) 80 = some (.iconst 1, 1, 0, 0, 0) := by decide +kernel
theorem k154_81 : look (codL 154) 81 = some (.iadd, 1, 0, 0, 0) := by decide +kernel
theorem k154_82 : look (codL 154) 82 = some (.putfield 94, 3, 10, 2, 0) := by decide +kernel
theorem k154_85 : look (codL 154) 85 = some (.iload 4, 2, 0, 0, 0) := by decide +kernel
theorem k154_87 : look (codL 154) 87 = some (.ireturn, 1, 0, 0, 0) := by decide +kernel
theorem k155_0 : look (codL 155) 0 = some (.aload_n 0, 1, 0, 0, 0) := by decide +kernel
theorem k155_1 : look (codL 155) 1 = some (.iload_n 1, 1, 0, 0, 0) := by decide +kernel
theorem k155_2 : look (codL 155) 2 = some (.invokevirtual 104, 3, 143, 2, 0) := by decide +kernel
theorem k155_5 : look (codL 155) 5 = some (.ifCond .eq 21, 3, 0, 0, 0) := by decide +kernel
theorem k155_8 : look (codL 155) 8 = some (.aload_n 0, 1, 0, 0, 0) := by decide +kernel
theorem k155_9 : look (codL 155) 9 = some (.iload_n 2, 1, 0, 0, 0) := by decide +kernel
theorem k155_10 : look (codL 155) 10 = some (.invokevirtual 104, 3, 143, 2, 0) := by decide +kernel
theorem k155_13 : look (codL 155) 13 = some (.ifCond .eq 13, 3, 0, 0, 0) := by decide +kernel
theorem k155_16 : look (codL 155) 16 = some (.iload_n 3, 1, 0, 0, 0) := by decide +kernel
theorem k155_17 : look (codL 155) 17 = some (.iconst 0, 1, 0, 0, 0) := by decide +kernel
theorem k155_18 : look (codL 155) 18 = some (.bipush 99, 2, 0, 0, 0) := by decide +kernel
theorem k155_20 : look (codL 155) 20 = some (.invokestatic 90, 3, 136, 3, 0) := by decide +kernel
theorem k155_23 : look (codL 155) 23 = some (.ifCond .ne 8, 3, 0, 0, 0) := by decide +kernel
theorem k155_26 : look (codL 155) 26 = some (.aload_n 0, 1, 0, 0, 0) := by decide +kernel
theorem k155_27 : look (codL 155) 27 = some (.invokevirtual 110, 3, 133, 1, 0) := by decide +kernel
theorem k155_30 : look (codL 155) 30 = some (.ireturn, 1, 0, 0, 0) := by decide +kernel
theorem k155_31 : look (codL 155) 31 = some (.aload_n 0, 1, 0, 0, 0) := by decide +kernel
theorem k155_32 : look (codL 155) 32 = some (.getfield 94, 3, 10, 2, 0) := by decide +kernel
theorem k155_35 : look (codL 155) 35 = some (.bipush 16, 2, 0, 0, 0) := by decide +kernel
theorem k155_37 : look (codL 155) 37 = some (.if_icmp .ne 10, 3, 0, 0, 0) := by decide +kernel
theorem k155_40 : look (codL 155) 40 = some (.aload_n 0, 1, 0, 0, 0) := by decide +kernel
theorem k155_41 : look (codL 155) 41 = some (.invokevirtual 97, 3, 135, 1, 0) := by decide +kernel
theorem k155_44 : look (codL 155) 44 = some (.goto 10, 3, 0, 0, 0) := by decide +kernel
theorem k155_47 : look (codL 155) 47 = some (.aload_n 0, 1, 0, 0, 0) := by decide +kernel
theorem k155_48 : look (codL 155) 48 = some (.iload_n 1, 1, 0, 0, 0) := by decide +kernel
theorem k155_49 : look (codL 155) 49 = some (.iload_n 2, 1, 0, 0, 0) := by decide +kernel
theorem k155_50 : look (codL 155) 50 = some (.iload_n 3, 1, 0, 0, 0) := by decide +kernel
theorem k155_51 : look (codL 155) 51 = some (.invokevirtual 123, 3, 154, 4, 0) := by decide +kernel
theorem k155_54 : look (codL 155) 54 = some (.ireturn, 1, 0, 0, 0) := by decide +kernel
theorem k156_0 : look (codL 156) 0 = some (.iload_n 3, 1, 0, 0, 0) := by decide +kernel
theorem k156_1 : look (codL 156) 1 = some (.ifCond .ge 17, 3, 0, 0, 0) := by decide +kernel
theorem k156_4 : look (codL 156) 4 = some (.iload_n 3, 1, 0, 0, 0) := by decide +kernel
theorem k156_5 : look (codL 156) 5 = some (.bipush (-100), 2, 0, 0, 0) := by decide +kernel
theorem k156_7 : look (codL 156) 7 = some (.if_icmp .lt 7, 3, 0, 0, 0) := by decide +kernel
theorem k156_10 : look (codL 156) 10 = some (.iconst 1, 1, 0, 0, 0) := by decide +kernel
theorem k156_11 : look (codL 156) 11 = some (.goto 35, 3, 0, 0, 0) := by decide +kernel
theorem k156_14 : look (codL 156) 14 = some (.iconst 0, 1, 0, 0, 0) := by decide +kernel
theorem k156_15 : look (codL 156) 15 = some (.goto 31, 3, 0, 0, 0) := by decide +kernel
theorem k156_18 : look (codL 156) 18 = some (.iload_n 3, 1, 0, 0, 0) := by decide +kernel
theorem k156_19 : look (codL 156) 19 = some (.invokestatic 107, 3, 140, 1, 0) := by decide +kernel
theorem k156_22 : look (codL 156) 22 = some (.ifCond .eq 23, 3, 0, 0, 0) := by decide +kernel
theorem k156_25 : look (codL 156) 25 = some (.iload_n 3, 1, 0, 0, 0) := by decide +kernel
theorem k156_26 : look (codL 156) 26 = some (.invokestatic 71, 3, 137, 1, 0) := by decide +kernel
theorem k156_29 : look (codL 156) 29 = some (.aload_n 0, 1, 0, 0, 0) := by decide +kernel
theorem k156_30 : look (codL 156) 30 = some (.iload_n 1, 1, 0, 0, 0) := by decide +kernel
theorem k156_31 : look (codL 156) 31 = some (.iload_n 2, 1, 0, 0, 0) := by decide +kernel
theorem k156_32 : look (codL 156) 32 = some (.invokevirtual 127, 3, 145, 3, 0) := by decide +kernel
theorem k156_35 : look (codL 156) 35 = some (.invokestatic 71, 3, 137, 1, 0) := by decide +kernel
theorem k156_38 : look (codL 156) 38 = some (.if_icmp .ne 7, 3, 0, 0, 0) := by decide +kernel
theorem k156_41 : look (codL 156) 41 = some (.iconst 1, 1, 0, 0, 0) := by decide +kernel
theorem k156_42 : look (codL 156) 42 = some (.goto 4, 3, 0, 0, 0) := by decide +kernel
theorem k156_45 : look (codL 156) 45 = some (.iconst 0, 1, 0, 0, 0) := by decide +kernel
theorem k156_46 : look (codL 156) 46 = some (.ireturn, 1, 0, 0, 0) := by decide +kernel
theorem k157_0 : look (codL 157) 0 = some (.aload_n 0, 1, 0, 0, 0) := by decide +kernel
theorem k157_1 : look (codL 157) 1 = some (.iload_n 1, 1, 0, 0, 0) := by decide +kernel
theorem k157_2 : look (codL 157) 2 = some (.invokevirtual 130, 3, 144, 2, 0) := by decide +kernel
theorem k157_5 : look (codL 157) 5 = some (.ifCond .eq 28, 3, 0, 0, 0) := by decide +kernel
theorem k157_8 : look (codL 157) 8 = some (.iload_n 2, 1, 0, 0, 0) := by decide +kernel
theorem k157_9 : look (codL 157) 9 = some (.iconst 0, 1, 0, 0, 0) := by decide +kernel
theorem k157_10 : look (codL 157) 10 = some (.aload_n 0, 1, 0, 0, 0) := by decide +kernel
theorem k157_11 : look (codL 157) 11 = some (.iload_n 1, 1, 0, 0, 0) := by decide +kernel
theorem k157_12 : look (codL 157) 12 = some (.invokevirtual 133, 3, 146, 2, 0) := by decide +kernel
theorem k157_15 : look (codL 157) 15 = some (.iconst 1, 1, 0, 0, 0) := by decide +kernel
theorem k157_16 : look (codL 157) 16 = some (.isub, 1, 0, 0, 0) := by decide +kernel
theorem k157_17 : look (codL 157) 17 = some (.invokestatic 90, 3, 136, 3, 0) := by decide +kernel
theorem k157_20 : look (codL 157) 20 = some (.ifCond .eq 13, 3, 0, 0, 0) := by decide +kernel
theorem k157_23 : look (codL 157) 23 = some (.aload_n 0, 1, 0, 0, 0) := by decide +kernel
theorem k157_24 : look (codL 157) 24 = some (.iload_n 1, 1, 0, 0, 0) := by decide +kernel
theorem k157_25 : look (codL 157) 25 = some (.iload_n 2, 1, 0, 0, 0) := by decide +kernel
theorem k157_26 : look (codL 157) 26 = some (.iload_n 3, 1, 0, 0, 0) := by decide +kernel
theorem k157_27 : look (codL 157) 27 = some (.invokevirtual 136, 3, 156, 4, 0) := by decide +kernel
theorem k157_30 : look (codL 157) 30 = some (.ifCond .ne 8, 3, 0, 0, 0) := by decide +kernel
theorem k157_33 : look (codL 157) 33 = some (.aload_n 0, 1, 0, 0, 0) := by decide +kernel
theorem k157_34 : look (codL 157) 34 = some (.invokevirtual 110, 3, 133, 1, 0) := by decide +kernel
theorem k157_37 : look (codL 157) 37 = some (.ireturn, 1, 0, 0, 0) := by decide +kernel
theorem k157_38 : look (codL 157) 38 = some (.aload_n 0, 1, 0, 0, 0) := by decide +kernel
theorem k157_39 : look (codL 157) 39 = some (.iload_n 1, 1, 0, 0, 0) := by decide +kernel
theorem k157_40 : look (codL 157) 40 = some (.iload_n 2, 1, 0, 0, 0) := by decide +kernel
theorem k157_41 : look (codL 157) 41 = some (.invokevirtual 139, 3, 147, 3, 0) := by decide +kernel
theorem k157_44 : look (codL 157) 44 = some (.istore 4, 2, 0, 0, 0) := by decide +kernel
theorem k157_46 : look (codL 157) 46 = some (.aload_n 0, 1, 0, 0, 0) := by decide +kernel
theorem k157_47 : look (codL 157) 47 = some (.getfield 28, 3, 10, 9, 0) := by decide +kernel
theorem k157_50 : look (codL 157) 50 = some (.bipush 6, 2, 0, 0, 0) := by decide +kernel
theorem k157_52 : look (codL 157) 52 = some (.iload_n 1, 1, 0, 0, 0) := by decide +kernel
theorem k157_53 : look (codL 157) 53 = some (.imul, 1, 0, 0, 0) := by decide +kernel
theorem k157_54 : look (codL 157) 54 = some (.iload_n 2, 1, 0, 0, 0) := by decide +kernel
theorem k157_55 : look (codL 157) 55 = some (.iadd, 1, 0, 0, 0) := by decide +kernel
theorem k157_56 : look (codL 157) 56 = some (.iload_n 3, 1, 0, 0, 0) := by decide +kernel
theorem k157_57 : look (codL 157) 57 = some (.iastore, 1, 0, 0, 0) := by decide +kernel
theorem k157_58 : look (codL 157) 58 = some (.iload 4, 2, 0, 0, 0) := by decide +kernel
theorem k157_60 : look (codL 157) 60 = some (.ireturn, 1, 0, 0, 0) := by decide +kernel
theorem k158_0 : look (codL 158) 0 = some (.aload_n 0, 1, 0, 0, 0) := by decide +kernel
theorem k158_1 : look (codL 158) 1 = some (.iload_n 1, 1, 0, 0, 0) := by decide +kernel
theorem k158_2 : look (codL 158) 2 = some (.invokevirtual 130, 3, 144, 2, 0) := by decide +kernel
theorem k158_5 : look (codL 158) 5 = some (.ifCond .eq 13, 3, 0, 0, 0) := by decide +kernel
theorem k158_8 : look (codL 158) 8 = some (.iload_n 2, 1, 0, 0, 0) := by decide +kernel
theorem k158_9 : look (codL 158) 9 = some (.iconst 0, 1, 0, 0, 0) := by decide +kernel
theorem k158_10 : look (codL 158) 10 = some (.bipush 99, 2, 0, 0, 0) := by decide +kernel
theorem k158_12 : look (codL 158) 12 = some (.invokestatic 90, 3, 136, 3, 0) := by decide +kernel
theorem k158_15 : look (codL 158) 15 = some (.ifCond .ne 8, 3, 0, 0, 0) := by decide +kernel
theorem k158_18 : look (codL 158) 18 = some (.aload_n 0, 1, 0, 0, 0) := by decide +kernel
theorem k158_19 : look (codL 158) 19 = some (.invokevirtual 110, 3, 133, 1, 0) := by decide +kernel
theorem k158_22 : look (codL 158) 22 = some (.ireturn, 1, 0, 0, 0) := by decide +kernel
theorem k158_23 : look (codL 158) 23 = some (.aload_n 0, 1, 0, 0, 0) := by decide +kernel
theorem k158_24 : look (codL 158) 24 = some (.getfield 25, 3, 10, 8, 0) := by decide +kernel
theorem k158_27 : look (codL 158) 27 = some (.iload_n 1, 1, 0, 0, 0) := by decide +kernel
theorem k158_28 : look (codL 158) 28 = some (.iaload, 1, 0, 0, 0) := by decide +kernel
theorem k158_29 : look (codL 158) 29 = some (.istore_n 3, 1, 0, 0, 0) := by decide +kernel
theorem k158_30 : look (codL 158) 30 = some (.aload_n 0, 1, 0, 0, 0) := by decide +kernel
theorem k158_31 : look (codL 158) 31 = some (.getfield 25, 3, 10, 8, 0) := by decide +kernel
theorem k158_34 : look (codL 158) 34 = some (.iload_n 1, 1, 0, 0, 0) := by decide +kernel
theorem k158_35 : look (codL 158) 35 = some (.iload_n 2, 1, 0, 0, 0) := by decide +kernel
theorem k158_36 : look (codL 158) 36 = some (.iastore, 1, 0, 0, 0) := by decide +kernel
theorem k158_37 : look (codL 158) 37 = some (.iload_n 3, 1, 0, 0, 0) := by decide +kernel
theorem k158_38 : look (codL 158) 38 = some (.ireturn, 1, 0, 0, 0) := by decide +kernel
theorem k159_0 : look (codL 159) 0 = some (.iload_n 1, 1, 0, 0, 0) := by decide +kernel
theorem k159_1 : look (codL 159) 1 = some (.iconst 0, 1, 0, 0, 0) := by decide +kernel
theorem k159_2 : look (codL 159) 2 = some (.iconst 4, 1, 0, 0, 0) := by decide +kernel
theorem k159_3 : look (codL 159) 3 = some (.invokestatic 90, 3, 136, 3, 0) := by decide +kernel
theorem k159_6 : look (codL 159) 6 = some (.ifCond .ne 8, 3, 0, 0, 0) := by decide +kernel
theorem k159_9 : look (codL 159) 9 = some (.aload_n 0, 1, 0, 0, 0) := by decide +kernel
theorem k159_10 : look (codL 159) 10 = some (.invokevirtual 110, 3, 133, 1, 0) := by decide +kernel
theorem k159_13 : look (codL 159) 13 = some (.ireturn, 1, 0, 0, 0) := by decide +kernel
theorem k159_14 : look (codL 159) 14 = some (.aload_n 0, 1, 0, 0, 0) := by decide +kernel
theorem k159_15 : look (codL 159) 15 = some (.getfield 142, 3, 10, 3, 0) := by decide +kernel
theorem k159_18 : look (codL 159) 18 = some (.istore_n 2, 1, 0, 0, 0) := by decide +kernel
theorem k159_19 : look (codL 159) 19 = some (.aload_n 0, 1, 0, 0, 0) := by decide +kernel
theorem k159_20 : look (codL 159) 20 = some (.iload_n 1, 1, 0, 0, 0) := by decide +kernel
theorem k159_21 : look (codL 159) 21 = some (.putfield 142, 3, 10, 3, 0) := by decide +kernel
theorem k159_24 : look (codL 159) 24 = some (.iload_n 2, 1, 0, 0, 0) := by decide +kernel
theorem k159_25 : look (codL 159) 25 = some (.ireturn, 1, 0, 0, 0) := by decide +kernel
theorem k160_0 : look (codL 160) 0 = some (.iconst 0, 1, 0, 0, 0) := by decide +kernel
theorem k160_1 : look (codL 160) 1 = some (.istore_n 2, 1, 0, 0, 0) := by decide +kernel
theorem k160_2 : look (codL 160) 2 = some (.iconst 0, 1, 0, 0, 0) := by decide +kernel
theorem k160_3 : look (codL 160) 3 = some (.istore_n 3, 1, 0, 0, 0) := by decide +kernel
theorem k160_4 : look (codL 160) 4 = some (.iload_n 3, 1, 0, 0, 0) := by decide +kernel
theorem k160_5 : look (codL 160) 5 = some (.aload_n 0, 1, 0, 0, 0) := by decide +kernel
theorem k160_6 : look (codL 160) 6 = some (.getfield 94, 3, 10, 2, 0) := by decide +kernel
theorem k160_9 : look (codL 160) 9 = some (.if_icmp .ge 27, 3, 0, 0, 0) := by decide +kernel
theorem k160_12 : look (codL 160) 12 = some (.iload_n 2, 1, 0, 0, 0) := by decide +kernel
theorem k160_13 : look (codL 160) 13 = some (.aload_n 0, 1, 0, 0, 0) := by decide +kernel
theorem k160_14 : look (codL 160) 14 = some (.getfield 19, 3, 10, 6, 0) := by decide +kernel
theorem k160_17 : look (codL 160) 17 = some (.iload_n 3, 1, 0, 0, 0) := by decide +kernel
theorem k160_18 : look (codL 160) 18 = some (.iaload, 1, 0, 0, 0) := by decide +kernel
theorem k160_19 : look (codL 160) 19 = some (.iload_n 1, 1, 0, 0, 0) := by decide +kernel
theorem k160_20 : look (codL 160) 20 = some (.if_icmp .ne 7, 3, 0, 0, 0) := by decide +kernel
theorem k160_23 : look (codL 160) 23 = some (.iconst 1, 1, 0, 0, 0) := by decide +kernel
theorem k160_24 : look (codL 160) 24 = some (.goto 4, 3, 0, 0, 0) := by decide +kernel
theorem k160_27 : look (codL 160) 27 = some (.iconst 0, 1, 0, 0, 0) := by decide +kernel
theorem k160_28 : look (codL 160) 28 = some (.iadd, 1, 0, 0, 0) := by decide +kernel
theorem k160_29 : look (codL 160) 29 = some (.istore_n 2, 1, 0, 0, 0) := by decide +kernel
theorem k160_30 : look (codL 160) 30 = some (.iinc 3 1, 3, 0, 0, 0) := by decide +kernel
theorem k160_33 : look (codL 160) 33 = some (.goto (-29), 3, 0, 0, 0) := by decide +kernel
theorem k160_36 : look (codL 160) 36 = some (.iload_n 2, 1, 0, 0, 0) := by decide +kernel
theorem k160_37 : look (codL 160) 37 = some (.ireturn, 1, 0, 0, 0) := by decide +kernel
theorem k161_0 : look (codL 161) 0 = some (.iconst 0, 1, 0, 0, 0) := by decide +kernel
theorem k161_1 : look (codL 161) 1 = some (.istore_n 2, 1, 0, 0, 0) := by decide +kernel
theorem k161_2 : look (codL 161) 2 = some (.iconst 0, 1, 0, 0, 0) := by decide +kernel
theorem k161_3 : look (codL 161) 3 = some (.istore_n 3, 1, 0, 0, 0) := by decide +kernel
theorem k161_4 : look (codL 161) 4 = some (.iload_n 3, 1, 0, 0, 0) := by decide +kernel
theorem k161_5 : look (codL 161) 5 = some (.aload_n 0, 1, 0, 0, 0) := by decide +kernel
theorem k161_6 : look (codL 161) 6 = some (.getfield 94, 3, 10, 2, 0) := by decide +kernel
theorem k161_9 : look (codL 161) 9 = some (.if_icmp .ge 27, 3, 0, 0, 0) := by decide +kernel
theorem k161_12 : look (codL 161) 12 = some (.iload_n 2, 1, 0, 0, 0) := by decide +kernel
theorem k161_13 : look (codL 161) 13 = some (.aload_n 0, 1, 0, 0, 0) := by decide +kernel
theorem k161_14 : look (codL 161) 14 = some (.getfield 22, 3, 10, 7, 0) := by decide +kernel
theorem k161_17 : look (codL 161) 17 = some (.iload_n 3, 1, 0, 0, 0) := by decide +kernel
theorem k161_18 : look (codL 161) 18 = some (.iaload, 1, 0, 0, 0) := by decide +kernel
theorem k161_19 : look (codL 161) 19 = some (.iload_n 1, 1, 0, 0, 0) := by decide +kernel
theorem k161_20 : look (codL 161) 20 = some (.if_icmp .ne 7, 3, 0, 0, 0) := by decide +kernel
theorem k161_23 : look (codL 161) 23 = some (.iconst 1, 1, 0, 0, 0) := by decide +kernel
theorem k161_24 : look (codL 161) 24 = some (.goto 4, 3, 0, 0, 0) := by decide +kernel
theorem k161_27 : look (codL 161) 27 = some (.iconst 0, 1, 0, 0, 0) := by decide +kernel
theorem k161_28 : look (codL 161) 28 = some (.iadd, 1, 0, 0, 0) := by decide +kernel
theorem k161_29 : look (codL 161) 29 = some (.istore_n 2, 1, 0, 0, 0) := by decide +kernel
theorem k161_30 : look (codL 161) 30 = some (.iinc 3 1, 3, 0, 0, 0) := by decide +kernel
theorem k161_33 : look (codL 161) 33 = some (.goto (-29), 3, 0, 0, 0) := by decide +kernel
theorem k161_36 : look (codL 161) 36 = some (.iload_n 2, 1, 0, 0, 0) := by decide +kernel
theorem k161_37 : look (codL 161) 37 = some (.ireturn, 1, 0, 0, 0) := by decide +kernel
theorem k162_0 : look (codL 162) 0 = some (.aload_n 0, 1, 0, 0, 0) := by decide +kernel
theorem k162_1 : look (codL 162) 1 = some (.aload_n 0, 1, 0, 0, 0) := by decide +kernel
theorem k162_2 : look (codL 162) 2 = some (.getfield 19, 3, 10, 6, 0) := by decide +kernel
theorem k162_5 : look (codL 162) 5 = some (.iload_n 1, 1, 0, 0, 0) := by decide +kernel
theorem k162_6 : look (codL 162) 6 = some (.iaload, 1, 0, 0, 0) := by decide +kernel
theorem k162_7 : look (codL 162) 7 = some (.invokevirtual 145, 3, 160, 2, 0) := by decide +kernel
theorem k162_10 : look (codL 162) 10 = some (.iconst 1, 1, 0, 0, 0) := by decide +kernel
theorem k162_11 : look (codL 162) 11 = some (.if_icmp .ne 7, 3, 0, 0, 0) := by decide +kernel
theorem k162_14 : look (codL 162) 14 = some (.iconst 0, 1, 0, 0, 0) := by decide +kernel
theorem k162_15 : look (codL 162) 15 = some (.goto 22, 3, 0, 0, 0) := by decide +kernel
theorem k162_18 : look (codL 162) 18 = some (.aload_n 0, 1, 0, 0, 0) := by decide +kernel
theorem k162_19 : look (codL 162) 19 = some (.aload_n 0, 1, 0, 0, 0) := by decide +kernel
theorem k162_20 : look (codL 162) 20 = some (.getfield 22, 3, 10, 7, 0) := by decide +kernel
theorem k162_23 : look (codL 162) 23 = some (.iload_n 1, 1, 0, 0, 0) := by decide +kernel
theorem k162_24 : look (codL 162) 24 = some (.iaload, 1, 0, 0, 0) := by decide +kernel
theorem k162_25 : look (codL 162) 25 = some (.invokevirtual 148, 3, 161, 2, 0) := by decide +kernel
theorem k162_28 : look (codL 162) 28 = some (.iconst 1, 1, 0, 0, 0) := by decide +kernel
theorem k162_29 : look (codL 162) 29 = some (.if_icmp .ne 7, 3, 0, 0, 0) := by decide +kernel
theorem k162_32 : look (codL 162) 32 = some (.iconst 1, 1, 0, 0, 0) := by decide +kernel
theorem k162_33 : look (codL 162) 33 = some (.goto 4, 3, 0, 0, 0) := by decide +kernel
theorem k162_36 : look (codL 162) 36 = some (.iconst 2, 1, 0, 0, 0) := by decide +kernel
theorem k162_37 : look (codL 162) 37 = some (.ireturn, 1, 0, 0, 0) := by decide +kernel
theorem k163_0 : look (codL 163) 0 = some (.aload_n 0, 1, 0, 0, 0) := by decide +kernel
theorem k163_1 : look (codL 163) 1 = some (.iload_n 1, 1, 0, 0, 0) := by decide +kernel
theorem k163_2 : look (codL 163) 2 = some (.iload_n 2, 1, 0, 0, 0) := by decide +kernel
theorem k163_3 : look (codL 163) 3 = some (.invokevirtual 139, 3, 147, 3, 0) := by decide +kernel
theorem k163_6 : look (codL 163) 6 = some (.aload_n 0, 1, 0, 0, 0) := by decide +kernel
theorem k163_7 : look (codL 163) 7 = some (.iload_n 1, 1, 0, 0, 0) := by decide +kernel
theorem k163_8 : look (codL 163) 8 = some (.iload_n 2, 1, 0, 0, 0) := by decide +kernel
theorem k163_9 : look (codL 163) 9 = some (.invokevirtual 127, 3, 145, 3, 0) := by decide +kernel
theorem k163_12 : look (codL 163) 12 = some (.if_icmp .eq 7, 3, 0, 0, 0) := by decide +kernel
theorem k163_15 : look (codL 163) 15 = some (.iconst 1, 1, 0, 0, 0) := by decide +kernel
theorem k163_16 : look (codL 163) 16 = some (.goto 4, 3, 0, 0, 0) := by decide +kernel
theorem k163_19 : look (codL 163) 19 = some (.iconst 0, 1, 0, 0, 0) := by decide +kernel
theorem k163_20 : look (codL 163) 20 = some (.ireturn, 1, 0, 0, 0) := by decide +kernel
theorem k164_0 : look (codL 164) 0 = some (.iconst 0, 1, 0, 0, 0) := by decide +kernel
theorem k164_1 : look (codL 164) 1 = some (.istore_n 3, 1, 0, 0, 0) := by decide +kernel
theorem k164_2 : look (codL 164) 2 = some (.iconst 0, 1, 0, 0, 0) := by decide +kernel
theorem k164_3 : look (codL 164) 3 = some (.istore 4, 2, 0, 0, 0) := by decide +kernel
theorem k164_5 : look (codL 164) 5 = some (.iload 4, 2, 0, 0, 0) := by decide +kernel
theorem k164_7 : look (codL 164) 7 = some (.aload_n 0, 1, 0, 0, 0) := by decide +kernel
theorem k164_8 : look (codL 164) 8 = some (.iload_n 1, 1, 0, 0, 0) := by decide +kernel
theorem k164_9 : look (codL 164) 9 = some (.invokevirtual 133, 3, 146, 2, 0) := by decide +kernel
theorem k164_12 : look (codL 164) 12 = some (.if_icmp .ge 79, 3, 0, 0, 0) := by decide +kernel
theorem k164_15 : look (codL 164) 15 = some (.aload_n 0, 1, 0, 0, 0) := by decide +kernel
theorem k164_16 : look (codL 164) 16 = some (.iload_n 1, 1, 0, 0, 0) := by decide +kernel
theorem k164_17 : look (codL 164) 17 = some (.iload 4, 2, 0, 0, 0) := by decide +kernel
theorem k164_19 : look (codL 164) 19 = some (.invokevirtual 127, 3, 145, 3, 0) := by decide +kernel
theorem k164_22 : look (codL 164) 22 = some (.iload_n 2, 1, 0, 0, 0) := by decide +kernel
theorem k164_23 : look (codL 164) 23 = some (.invokestatic 151, 3, 142, 2, 0) := by decide +kernel
theorem k164_26 : look (codL 164) 26 = some (.ifCond .ne 27, 3, 0, 0, 0) := by decide +kernel
theorem k164_29 : look (codL 164) 29 = some (.aload_n 0, 1, 0, 0, 0) := by decide +kernel
theorem k164_30 : look (codL 164) 30 = some (.iload_n 1, 1, 0, 0, 0) := by decide +kernel
theorem k164_31 : look (codL 164) 31 = some (.iload 4, 2, 0, 0, 0) := by decide +kernel
theorem k164_33 : look (codL 164) 33 = some (.invokevirtual 139, 3, 147, 3, 0) := by decide +kernel
theorem k164_36 : look (codL 164) 36 = some (.ifCond .le 21, 3, 0, 0, 0) := by decide +kernel
theorem k164_39 : look (codL 164) 39 = some (.aload_n 0, 1, 0, 0, 0) := by decide +kernel
theorem k164_40 : look (codL 164) 40 = some (.iload_n 1, 1, 0, 0, 0) := by decide +kernel
theorem k164_41 : look (codL 164) 41 = some (.iload 4, 2, 0, 0, 0) := by decide +kernel
theorem k164_43 : look (codL 164) 43 = some (.invokevirtual 139, 3, 147, 3, 0) := by decide +kernel
theorem k164_46 : look (codL 164) 46 = some (.iload_n 2, 1, 0, 0, 0) := by decide +kernel
theorem k164_47 : look (codL 164) 47 = some (.invokestatic 151, 3, 142, 2, 0) := by decide +kernel
theorem k164_50 : look (codL 164) 50 = some (.ifCond .eq 7, 3, 0, 0, 0) := by decide +kernel
theorem k164_53 : look (codL 164) 53 = some (.iconst 1, 1, 0, 0, 0) := by decide +kernel
theorem k164_54 : look (codL 164) 54 = some (.goto 4, 3, 0, 0, 0) := by decide +kernel
theorem k164_57 : look (codL 164) 57 = some (.iconst 0, 1, 0, 0, 0) := by decide +kernel
theorem k164_58 : look (codL 164) 58 = some (.istore 5, 2, 0, 0, 0) := by decide +kernel
theorem k164_60 : look (codL 164) 60 = some (.iload_n 3, 1, 0, 0, 0) := by decide +kernel
theorem k164_61 : look (codL 164) 61 = some (.ifCond .ne 18, 3, 0, 0, 0) := by decide +kernel
theorem k164_64 : look (codL 164) 64 = some (.aload_n 0, 1, 0, 0, 0) := by decide +kernel
theorem k164_65 : look (codL 164) 65 = some (.iload_n 1, 1, 0, 0, 0) := by decide +kernel
theorem k164_66 : look (codL 164) 66 = some (.iload 4, 2, 0, 0, 0) := by decide +kernel
theorem k164_68 : look (codL 164) 68 = some (.invokevirtual 154, 3, 163, 3, 0) := by decide +kernel
theorem k164_71 : look (codL 164) 71 = some (.ifCond .eq 12, 3, 0, 0, 0) := by decide +kernel
theorem k164_74 : look (codL 164) 74 = some (.iload 5, 2, 0, 0, 0) := by decide +kernel
theorem k164_76 : look (codL 164) 76 = some (.ifCond .eq 7, 3, 0, 0, 0) := by decide +kernel
theorem k164_79 : look (codL 164) 79 = some (.iconst 1, 1, 0, 0, 0) := by decide +kernel
theorem k164_80 : look (codL 164) 80 = some (.goto 4, 3, 0, 0, 0) := by decide +kernel
theorem k164_83 : look (codL 164) 83 = some (.iconst 0, 1, 0, 0, 0) := by decide +kernel
theorem k164_84 : look (codL 164) 84 = some (.istore_n 3, 1, 0, 0, 0) := by decide +kernel
theorem k164_85 : look (codL 164) 85 = some (.iinc 4 1, 3, 0, 0, 0) := by decide +kernel
theorem k164_88 : look (codL 164) 88 = some (.goto (-83), 3, 0, 0, 0) := by decide +kernel
theorem k164_91 : look (codL 164) 91 = some (.iload_n 3, 1, 0, 0, 0) := by decide +kernel
theorem k164_92 : look (codL 164) 92 = some (.ireturn, 1, 0, 0, 0) := by decide +kernel
theorem k165_0 : look (codL 165) 0 = some (.iconst 1, 1, 0, 0, 0) := by decide +kernel
theorem k165_1 : look (codL 165) 1 = some (.istore_n 2, 1, 0, 0, 0) := by decide +kernel
theorem k165_2 : look (codL 165) 2 = some (.iconst 0, 1, 0, 0, 0) := by decide +kernel
theorem k165_3 : look (codL 165) 3 = some (.istore_n 3, 1, 0, 0, 0) := by decide +kernel
theorem k165_4 : look (codL 165) 4 = some (.iload_n 3, 1, 0, 0, 0) := by decide +kernel
theorem k165_5 : look (codL 165) 5 = some (.aload_n 0, 1, 0, 0, 0) := by decide +kernel
theorem k165_6 : look (codL 165) 6 = some (.iload_n 1, 1, 0, 0, 0) := by decide +kernel
theorem k165_7 : look (codL 165) 7 = some (.invokevirtual 133, 3, 146, 2, 0) := by decide +kernel
theorem k165_10 : look (codL 165) 10 = some (.if_icmp .ge 65, 3, 0, 0, 0) := by decide +kernel
theorem k165_13 : look (codL 165) 13 = some (.aload_n 0, 1, 0, 0, 0) := by decide +kernel
theorem k165_14 : look (codL 165) 14 = some (.iload_n 1, 1, 0, 0, 0) := by decide +kernel
theorem k165_15 : look (codL 165) 15 = some (.iload_n 3, 1, 0, 0, 0) := by decide +kernel
theorem k165_16 : look (codL 165) 16 = some (.invokevirtual 154, 3, 163, 3, 0) := by decide +kernel
theorem k165_19 : look (codL 165) 19 = some (.ifCond .eq 50, 3, 0, 0, 0) := by decide +kernel
theorem k165_22 : look (codL 165) 22 = some (.iload_n 2, 1, 0, 0, 0) := by decide +kernel
theorem k165_23 : look (codL 165) 23 = some (.ifCond .eq 44, 3, 0, 0, 0) := by decide +kernel
theorem k165_26 : look (codL 165) 26 = some (.aload_n 0, 1, 0, 0, 0) := by decide +kernel
theorem k165_27 : look (codL 165) 27 = some (.iload_n 1, 1, 0, 0, 0) := by decide +kernel
theorem k165_28 : look (codL 165) 28 = some (.aload_n 0, 1, 0, 0, 0) := by decide +kernel
theorem k165_29 : look (codL 165) 29 = some (.iload_n 1, 1, 0, 0, 0) := by decide +kernel
theorem k165_30 : look (codL 165) 30 = some (.iload_n 3, 1, 0, 0, 0) := by decide +kernel
theorem k165_31 : look (codL 165) 31 = some (.invokevirtual 127, 3, 145, 3, 0) := by decide +kernel
theorem k165_34 : look (codL 165) 34 = some (.invokevirtual 157, 3, 164, 3, 0) := by decide +kernel
theorem k165_37 : look (codL 165) 37 = some (.ifCond .ne 30, 3, 0, 0, 0) := by decide +kernel
theorem k165_40 : look (codL 165) 40 = some (.aload_n 0, 1, 0, 0, 0) := by decide +kernel
theorem k165_41 : look (codL 165) 41 = some (.iload_n 1, 1, 0, 0, 0) := by decide +kernel
theorem k165_42 : look (codL 165) 42 = some (.iload_n 3, 1, 0, 0, 0) := by decide +kernel
theorem k165_43 : look (codL 165) 43 = some (.invokevirtual 139, 3, 147, 3, 0) := by decide +kernel
theorem k165_46 : look (codL 165) 46 = some (.ifCond .lt 17, 3, 0, 0, 0) := by decide +kernel
theorem k165_49 : look (codL 165) 49 = some (.aload_n 0, 1, 0, 0, 0) := by decide +kernel
theorem k165_50 : look (codL 165) 50 = some (.iload_n 1, 1, 0, 0, 0) := by decide +kernel
theorem k165_51 : look (codL 165) 51 = some (.aload_n 0, 1, 0, 0, 0) := by decide +kernel
theorem k165_52 : look (codL 165) 52 = some (.iload_n 1, 1, 0, 0, 0) := by decide +kernel
theorem k165_53 : look (codL 165) 53 = some (.iload_n 3, 1, 0, 0, 0) := by decide +kernel
theorem k165_54 : look (codL 165) 54 = some (.invokevirtual 139, 3, 147, 3, 0) := by decide +kernel
theorem k165_57 : look (codL 165) 57 = some (.invokevirtual 157, 3, 164, 3, 0) := by decide +kernel
theorem k165_60 : look (codL 165) 60 = some (.ifCond .ne 7, 3, 0, 0, 0) := by decide +kernel
theorem k165_63 : look (codL 165) 63 = some (.iconst 1, 1, 0, 0, 0) := by decide +kernel
theorem k165_64 : look (codL 165) 64 = some (.goto 4, 3, 0, 0, 0) := by decide +kernel
theorem k165_67 : look (codL 165) 67 = some (.iconst 0, 1, 0, 0, 0) := by decide +kernel
theorem k165_68 : look (codL 165) 68 = some (.istore_n 2, 1, 0, 0, 0) := by decide +kernel
theorem k165_69 : look (codL 165) 69 = some (.iinc 3 1, 3, 0, 0, 0) := by decide +kernel
theorem k165_72 : look (codL 165) 72 = some (.goto (-68), 3, 0, 0, 0) := by decide +kernel
theorem k165_75 : look (codL 165) 75 = some (.iload_n 2, 1, 0, 0, 0) := by decide +kernel
theorem k165_76 : look (codL 165) 76 = some (.ireturn, 1, 0, 0, 0) := by decide +kernel
theorem k166_0 : look (codL 166) 0 = some (.aload_n 0, 1, 0, 0, 0) := by decide +kernel
theorem k166_1 : look (codL 166) 1 = some (.iload_n 1, 1, 0, 0, 0) := by decide +kernel
theorem k166_2 : look (codL 166) 2 = some (.invokevirtual 130, 3, 144, 2, 0) := by decide +kernel
theorem k166_5 : look (codL 166) 5 = some (.ifCond .eq 12, 3, 0, 0, 0) := by decide +kernel
theorem k166_8 : look (codL 166) 8 = some (.iload_n 2, 1, 0, 0, 0) := by decide +kernel
theorem k166_9 : look (codL 166) 9 = some (.iconst 0, 1, 0, 0, 0) := by decide +kernel
theorem k166_10 : look (codL 166) 10 = some (.iconst 4, 1, 0, 0, 0) := by decide +kernel
theorem k166_11 : look (codL 166) 11 = some (.invokestatic 90, 3, 136, 3, 0) := by decide +kernel
theorem k166_14 : look (codL 166) 14 = some (.ifCond .ne 8, 3, 0, 0, 0) := by decide +kernel
theorem k166_17 : look (codL 166) 17 = some (.aload_n 0, 1, 0, 0, 0) := by decide +kernel
theorem k166_18 : look (codL 166) 18 = some (.invokevirtual 110, 3, 133, 1, 0) := by decide +kernel
theorem k166_21 : look (codL 166) 21 = some (.ireturn, 1, 0, 0, 0) := by decide +kernel
theorem k166_22 : look (codL 166) 22 = some (.iload_n 2, 1, 0, 0, 0) := by decide +kernel
theorem k166_23 : look (codL 166) 23 = some (.tableswitch 64 0 3 #[29, 36, 43, 50], 29, 0, 0, 0) := by decide +kernel
theorem k166_52 : look (codL 166) 52 = some (.aload_n 0, 1, 0, 0, 0) := by decide +kernel
theorem k166_53 : look (codL 166) 53 = some (.getfield 19, 3, 10, 6, 0) := by decide +kernel
theorem k166_56 : look (codL 166) 56 = some (.iload_n 1, 1, 0, 0, 0) := by decide +kernel
theorem k166_57 : look (codL 166) 57 = some (.iaload, 1, 0, 0, 0) := by decide +kernel
theorem k166_58 : look (codL 166) 58 = some (.ireturn, 1, 0, 0, 0) := by decide +kernel
theorem k166_59 : look (codL 166) 59 = some (.aload_n 0, 1, 0, 0, 0) := by decide +kernel
theorem k166_60 : look (codL 166) 60 = some (.getfield 22, 3, 10, 7, 0) := by decide +kernel
theorem k166_63 : look (codL 166) 63 = some (.iload_n 1, 1, 0, 0, 0) := by decide +kernel
theorem k166_64 : look (codL 166) 64 = some (.iaload, 1, 0, 0, 0) := by decide +kernel
theorem k166_65 : look (codL 166) 65 = some (.ireturn, 1, 0, 0, 0) := by decide +kernel
theorem k166_66 : look (codL 166) 66 = some (.aload_n 0, 1, 0, 0, 0) := by decide +kernel
theorem k166_67 : look (codL 166) 67 = some (.getfield 25, 3, 10, 8, 0) := by decide +kernel
theorem k166_70 : look (codL 166) 70 = some (.iload_n 1, 1, 0, 0, 0) := by decide +kernel
theorem k166_71 : look (codL 166) 71 = some (.iaload, 1, 0, 0, 0) := by decide +kernel
theorem k166_72 : look (codL 166) 72 = some (.ireturn, 1, 0, 0, 0) := by decide +kernel
theorem k166_73 : look (codL 166) 73 = some (.aload_n 0, 1, 0, 0, 0) := by decide +kernel
theorem k166_74 : look (codL 166) 74 = some (.iload_n 1, 1, 0, 0, 0) := by decide +kernel
theorem k166_75 : look (codL 166) 75 = some (.invokevirtual 160, 3, 165, 2, 0) := by decide +kernel
theorem k166_78 : look (codL 166) 78 = some (.ifCond .eq 7, 3, 0, 0, 0) := by decide +kernel
theorem k166_81 : look (codL 166) 81 = some (.iconst 1, 1, 0, 0, 0) := by decide +kernel
theorem k166_82 : look (codL 166) 82 = some (.goto 4, 3, 0, 0, 0) := by decide +kernel
theorem k166_85 : look (codL 166) 85 = some (.iconst 0, 1, 0, 0, 0) := by decide +kernel
theorem k166_86 : look (codL 166) 86 = some (.ireturn, 1, 0, 0, 0) := by decide +kernel
theorem k166_87 : look (codL 166) 87 = some (.aload_n 0, 1, 0, 0, 0) := by decide +kernel
theorem k166_88 : look (codL 166) 88 = some (.iload_n 1, 1, 0, 0, 0) := by decide +kernel
theorem k166_89 : look (codL 166) 89 = some (.invokevirtual 163, 3, 162, 2, 0) := by decide +kernel
theorem k166_92 : look (codL 166) 92 = some (.ireturn, 1, 0, 0, 0) := by decide +kernel
theorem k167_0 : look (codL 167) 0 = some (.aload_n 0, 1, 0, 0, 0) := by decide +kernel
theorem k167_1 : look (codL 167) 1 = some (.iload_n 1, 1, 0, 0, 0) := by decide +kernel
theorem k167_2 : look (codL 167) 2 = some (.invokevirtual 104, 3, 143, 2, 0) := by decide +kernel
theorem k167_5 : look (codL 167) 5 = some (.ifCond .eq 12, 3, 0, 0, 0) := by decide +kernel
theorem k167_8 : look (codL 167) 8 = some (.iload_n 2, 1, 0, 0, 0) := by decide +kernel
theorem k167_9 : look (codL 167) 9 = some (.iconst 0, 1, 0, 0, 0) := by decide +kernel
theorem k167_10 : look (codL 167) 10 = some (.iconst 2, 1, 0, 0, 0) := by decide +kernel
theorem k167_11 : look (codL 167) 11 = some (.invokestatic 90, 3, 136, 3, 0) := by decide +kernel
theorem k167_14 : look (codL 167) 14 = some (.ifCond .ne 8, 3, 0, 0, 0) := by decide +kernel
theorem k167_17 : look (codL 167) 17 = some (.aload_n 0, 1, 0, 0, 0) := by decide +kernel
theorem k167_18 : look (codL 167) 18 = some (.invokevirtual 110, 3, 133, 1, 0) := by decide +kernel
theorem k167_21 : look (codL 167) 21 = some (.ireturn, 1, 0, 0, 0) := by decide +kernel
theorem k167_22 : look (codL 167) 22 = some (.iload_n 2, 1, 0, 0, 0) := by decide +kernel
theorem k167_23 : look (codL 167) 23 = some (.ifCond .ne 12, 3, 0, 0, 0) := by decide +kernel
theorem k167_26 : look (codL 167) 26 = some (.aload_n 0, 1, 0, 0, 0) := by decide +kernel
theorem k167_27 : look (codL 167) 27 = some (.getfield 13, 3, 10, 4, 0) := by decide +kernel
theorem k167_30 : look (codL 167) 30 = some (.iload_n 1, 1, 0, 0, 0) := by decide +kernel
theorem k167_31 : look (codL 167) 31 = some (.iaload, 1, 0, 0, 0) := by decide +kernel
theorem k167_32 : look (codL 167) 32 = some (.goto 21, 3, 0, 0, 0) := by decide +kernel
theorem k167_35 : look (codL 167) 35 = some (.iload_n 2, 1, 0, 0, 0) := by decide +kernel
theorem k167_36 : look (codL 167) 36 = some (.iconst 1, 1, 0, 0, 0) := by decide +kernel
theorem k167_37 : look (codL 167) 37 = some (.if_icmp .ne 11, 3, 0, 0, 0) := by decide +kernel
theorem k167_40 : look (codL 167) 40 = some (.aload_n 0, 1, 0, 0, 0) := by decide +kernel
theorem k167_41 : look (codL 167) 41 = some (.iload_n 1, 1, 0, 0, 0) := by decide +kernel
theorem k167_42 : look (codL 167) 42 = some (.invokevirtual 145, 3, 160, 2, 0) := by decide +kernel
theorem k167_45 : look (codL 167) 45 = some (.goto 8, 3, 0, 0, 0) := by decide +kernel
theorem k167_48 : look (codL 167) 48 = some (.aload_n 0, 1, 0, 0, 0) := by decide +kernel
theorem k167_49 : look (codL 167) 49 = some (.iload_n 1, 1, 0, 0, 0) := by decide +kernel
theorem k167_50 : look (codL 167) 50 = some (.invokevirtual 148, 3, 161, 2, 0) := by decide +kernel
theorem k167_53 : look (codL 167) 53 = some (.ireturn, 1, 0, 0, 0) := by decide +kernel
theorem k168_0 : look (codL 168) 0 = some (.aload_n 0, 1, 0, 0, 0) := by decide +kernel
theorem k168_1 : look (codL 168) 1 = some (.iload_n 1, 1, 0, 0, 0) := by decide +kernel
theorem k168_2 : look (codL 168) 2 = some (.invokevirtual 104, 3, 143, 2, 0) := by decide +kernel
theorem k168_5 : look (codL 168) 5 = some (.ifCond .eq 7, 3, 0, 0, 0) := by decide +kernel
theorem k168_8 : look (codL 168) 8 = some (.iload_n 2, 1, 0, 0, 0) := by decide +kernel
theorem k168_9 : look (codL 168) 9 = some (.ifCond .ge 8, 3, 0, 0, 0) := by decide +kernel
theorem k168_12 : look (codL 168) 12 = some (.aload_n 0, 1, 0, 0, 0) := by decide +kernel
theorem k168_13 : look (codL 168) 13 = some (.invokevirtual 110, 3, 133, 1, 0) := by decide +kernel
theorem k168_16 : look (codL 168) 16 = some (.ireturn, 1, 0, 0, 0) := by decide +kernel
theorem k168_17 : look (codL 168) 17 = some (.iload_n 2, 1, 0, 0, 0) := by decide +kernel
theorem k168_18 : look (codL 168) 18 = some (.aload_n 0, 1, 0, 0, 0) := by decide +kernel
theorem k168_19 : look (codL 168) 19 = some (.getfield 13, 3, 10, 4, 0) := by decide +kernel
theorem k168_22 : look (codL 168) 22 = some (.iload_n 1, 1, 0, 0, 0) := by decide +kernel
theorem k168_23 : look (codL 168) 23 = some (.iaload, 1, 0, 0, 0) := by decide +kernel
theorem k168_24 : look (codL 168) 24 = some (.if_icmp .ge 17, 3, 0, 0, 0) := by decide +kernel
theorem k168_27 : look (codL 168) 27 = some (.aload_n 0, 1, 0, 0, 0) := by decide +kernel
theorem k168_28 : look (codL 168) 28 = some (.getfield 16, 3, 10, 5, 0) := by decide +kernel
theorem k168_31 : look (codL 168) 31 = some (.bipush 6, 2, 0, 0, 0) := by decide +kernel
theorem k168_33 : look (codL 168) 33 = some (.iload_n 1, 1, 0, 0, 0) := by decide +kernel
theorem k168_34 : look (codL 168) 34 = some (.imul, 1, 0, 0, 0) := by decide +kernel
theorem k168_35 : look (codL 168) 35 = some (.iload_n 2, 1, 0, 0, 0) := by decide +kernel
theorem k168_36 : look (codL 168) 36 = some (.iadd, 1, 0, 0, 0) := by decide +kernel
theorem k168_37 : look (codL 168) 37 = some (.iaload, 1, 0, 0, 0) := by decide +kernel
theorem k168_38 : look (codL 168) 38 = some (.goto 6, 3, 0, 0, 0) := by decide +kernel
theorem k168_41 : look (codL 168) 41 = some (.sipush (-201), 3, 0, 0, 0) := by decide +kernel
theorem k168_44 : look (codL 168) 44 = some (.ireturn, 1, 0, 0, 0) := by decide +kernel
theorem k169_0 : look (codL 169) 0 = some (.aload_n 0, 1, 0, 0, 0) := by decide +kernel
theorem k169_1 : look (codL 169) 1 = some (.iload_n 1, 1, 0, 0, 0) := by decide +kernel
theorem k169_2 : look (codL 169) 2 = some (.invokevirtual 130, 3, 144, 2, 0) := by decide +kernel
theorem k169_5 : look (codL 169) 5 = some (.ifCond .eq 7, 3, 0, 0, 0) := by decide +kernel
theorem k169_8 : look (codL 169) 8 = some (.iload_n 2, 1, 0, 0, 0) := by decide +kernel
theorem k169_9 : look (codL 169) 9 = some (.ifCond .ge 8, 3, 0, 0, 0) := by decide +kernel
theorem k169_12 : look (codL 169) 12 = some (.aload_n 0, 1, 0, 0, 0) := by decide +kernel
theorem k169_13 : look (codL 169) 13 = some (.invokevirtual 110, 3, 133, 1, 0) := by decide +kernel
theorem k169_16 : look (codL 169) 16 = some (.ireturn, 1, 0, 0, 0) := by decide +kernel
theorem k169_17 : look (codL 169) 17 = some (.iload_n 2, 1, 0, 0, 0) := by decide +kernel
theorem k169_18 : look (codL 169) 18 = some (.aload_n 0, 1, 0, 0, 0) := by decide +kernel
theorem k169_19 : look (codL 169) 19 = some (.iload_n 1, 1, 0, 0, 0) := by decide +kernel
theorem k169_20 : look (codL 169) 20 = some (.invokevirtual 133, 3, 146, 2, 0) := by decide +kernel
theorem k169_23 : look (codL 169) 23 = some (.if_icmp .ge 12, 3, 0, 0, 0) := by decide +kernel
theorem k169_26 : look (codL 169) 26 = some (.aload_n 0, 1, 0, 0, 0) := by decide +kernel
theorem k169_27 : look (codL 169) 27 = some (.iload_n 1, 1, 0, 0, 0) := by decide +kernel
theorem k169_28 : look (codL 169) 28 = some (.iload_n 2, 1, 0, 0, 0) := by decide +kernel
theorem k169_29 : look (codL 169) 29 = some (.invokevirtual 139, 3, 147, 3, 0) := by decide +kernel
theorem k169_32 : look (codL 169) 32 = some (.goto 6, 3, 0, 0, 0) := by decide +kernel
theorem k169_35 : look (codL 169) 35 = some (.sipush (-201), 3, 0, 0, 0) := by decide +kernel
theorem k169_38 : look (codL 169) 38 = some (.ireturn, 1, 0, 0, 0) := by decide +kernel
theorem k170_0 : look (codL 170) 0 = some (.iload_n 0, 1, 0, 0, 0) := by decide +kernel
theorem k170_1 : look (codL 170) 1 = some (.iconst 3, 1, 0, 0, 0) := by decide +kernel
theorem k170_2 : look (codL 170) 2 = some (.if_icmp .ne 7, 3, 0, 0, 0) := by decide +kernel
theorem k170_5 : look (codL 170) 5 = some (.iload_n 1, 1, 0, 0, 0) := by decide +kernel
theorem k170_6 : look (codL 170) 6 = some (.goto 17, 3, 0, 0, 0) := by decide +kernel
theorem k170_9 : look (codL 170) 9 = some (.iload_n 0, 1, 0, 0, 0) := by decide +kernel
theorem k170_10 : look (codL 170) 10 = some (.iconst 4, 1, 0, 0, 0) := by decide +kernel
theorem k170_11 : look (codL 170) 11 = some (.if_icmp .ne 11, 3, 0, 0, 0) := by decide +kernel
theorem k170_14 : look (codL 170) 14 = some (.iload_n 1, 1, 0, 0, 0) := by decide +kernel
theorem k170_15 : look (codL 170) 15 = some (.iconst 1, 1, 0, 0, 0) := by decide +kernel
theorem k170_16 : look (codL 170) 16 = some (.iadd, 1, 0, 0, 0) := by decide +kernel
theorem k170_17 : look (codL 170) 17 = some (.iconst 2, 1, 0, 0, 0) := by decide +kernel
theorem k170_18 : look (codL 170) 18 = some (.idiv, 1, 0, 0, 0) := by decide +kernel
theorem k170_19 : look (codL 170) 19 = some (.goto 4, 3, 0, 0, 0) := by decide +kernel
theorem k170_22 : look (codL 170) 22 = some (.iconst 1, 1, 0, 0, 0) := by decide +kernel
theorem k170_23 : look (codL 170) 23 = some (.ireturn, 1, 0, 0, 0) := by decide +kernel
theorem k171_0 : look (codL 171) 0 = some (.iload_n 0, 1, 0, 0, 0) := by decide +kernel
theorem k171_1 : look (codL 171) 1 = some (.iconst 1, 1, 0, 0, 0) := by decide +kernel
theorem k171_2 : look (codL 171) 2 = some (.if_icmp .ne 7, 3, 0, 0, 0) := by decide +kernel
theorem k171_5 : look (codL 171) 5 = some (.iconst 1, 1, 0, 0, 0) := by decide +kernel
theorem k171_6 : look (codL 171) 6 = some (.goto 28, 3, 0, 0, 0) := by decide +kernel
theorem k171_9 : look (codL 171) 9 = some (.iload_n 0, 1, 0, 0, 0) := by decide +kernel
theorem k171_10 : look (codL 171) 10 = some (.iconst 2, 1, 0, 0, 0) := by decide +kernel
theorem k171_11 : look (codL 171) 11 = some (.if_icmp .ne 7, 3, 0, 0, 0) := by decide +kernel
theorem k171_14 : look (codL 171) 14 = some (.iconst 3, 1, 0, 0, 0) := by decide +kernel
theorem k171_15 : look (codL 171) 15 = some (.goto 19, 3, 0, 0, 0) := by decide +kernel
theorem k171_18 : look (codL 171) 18 = some (.iload_n 0, 1, 0, 0, 0) := by decide +kernel
theorem k171_19 : look (codL 171) 19 = some (.iconst 4, 1, 0, 0, 0) := by decide +kernel
theorem k171_20 : look (codL 171) 20 = some (.if_icmp .ne 13, 3, 0, 0, 0) := by decide +kernel
theorem k171_23 : look (codL 171) 23 = some (.iload_n 1, 1, 0, 0, 0) := by decide +kernel
theorem k171_24 : look (codL 171) 24 = some (.iconst 1, 1, 0, 0, 0) := by decide +kernel
theorem k171_25 : look (codL 171) 25 = some (.iadd, 1, 0, 0, 0) := by decide +kernel
theorem k171_26 : look (codL 171) 26 = some (.iconst 2, 1, 0, 0, 0) := by decide +kernel
theorem k171_27 : look (codL 171) 27 = some (.idiv, 1, 0, 0, 0) := by decide +kernel
theorem k171_28 : look (codL 171) 28 = some (.iconst 1, 1, 0, 0, 0) := by decide +kernel
theorem k171_29 : look (codL 171) 29 = some (.iadd, 1, 0, 0, 0) := by decide +kernel
theorem k171_30 : look (codL 171) 30 = some (.goto 4, 3, 0, 0, 0) := by decide +kernel
theorem k171_33 : look (codL 171) 33 = some (.iconst 0, 1, 0, 0, 0) := by decide +kernel
theorem k171_34 : look (codL 171) 34 = some (.ireturn, 1, 0, 0, 0) := by decide +kernel
theorem k172_0 : look (codL 172) 0 = some (.aload_n 0, 1, 0, 0, 0) := by decide +kernel
theorem k172_1 : look (codL 172) 1 = some (.getfield 31, 3, 10, 11, 0) := by decide +kernel
theorem k172_4 : look (codL 172) 4 = some (.aload_n 0, 1, 0, 0, 0) := by decide +kernel
theorem k172_5 : look (codL 172) 5 = some (.getfield 166, 3, 10, 10, 0) := by decide +kernel
theorem k172_8 : look (codL 172) 8 = some (.iload_n 1, 1, 0, 0, 0) := by decide +kernel
theorem k172_9 : look (codL 172) 9 = some (.iastore, 1, 0, 0, 0) := by decide +kernel
theorem k172_10 : look (codL 172) 10 = some (.aload_n 0, 1, 0, 0, 0) := by decide +kernel
theorem k172_11 : look (codL 172) 11 = some (.getfield 34, 3, 10, 12, 0) := by decide +kernel
theorem k172_14 : look (codL 172) 14 = some (.aload_n 0, 1, 0, 0, 0) := by decide +kernel
theorem k172_15 : look (codL 172) 15 = some (.getfield 166, 3, 10, 10, 0) := by decide +kernel
theorem k172_18 : look (codL 172) 18 = some (.iload_n 2, 1, 0, 0, 0) := by decide +kernel
theorem k172_19 : look (codL 172) 19 = some (.iastore, 1, 0, 0, 0) := by decide +kernel
theorem k172_20 : look (codL 172) 20 = some (.aload_n 0, 1, 0, 0, 0) := by decide +kernel
theorem k172_21 : look (codL 172) 21 = some (.getfield 37, 3, 10, 13, 0) := by decide +kernel
theorem k172_24 : look (codL 172) 24 = some (.aload_n 0, 1, 0, 0, 0) := by decide +kernel
theorem k172_25 : look (codL 172) 25 = some (.getfield 166, 3, 10, 10, 0) := by decide +kernel
theorem k172_28 : look (codL 172) 28 = some (.iload_n 3, 1, 0, 0, 0) := by decide +kernel
theorem k172_29 : look (codL 172) 29 = some (.iastore, 1, 0, 0, 0) := by decide +kernel
theorem k172_30 : look (codL 172) 30 = some (.aload_n 0, 1, 0, 0, 0) := by decide +kernel
theorem k172_31 : look (codL 172) 31 = some (.dup, 1, 0, 0, 0) := by decide +kernel
theorem k172_32 : look (codL 172) 32 = some (.getfield 166, 3, 10, 10, 0) := by decide +kernel
theorem k172_35 : look (codL 172) 35 = some (.iconst 1, 1, 0, 0, 0) := by decide +kernel
theorem k172_36 : look (codL 172) 36 = some (.iadd, 1, 0, 0, 0) := by decide +kernel
theorem k172_37 : look (codL 172) 37 = some (.putfield 166, 3, 10, 10, 0) := by decide +kernel
theorem k172_40 : look (codL 172) 40 = some (.return_, 1, 0, 0, 0) := by decide +kernel
theorem k173_0 : look (codL 173) 0 = some (.iconst 0, 1, 0, 0, 0) := by decide +kernel
theorem k173_1 : look (codL 173) 1 = some (.istore_n 3, 1, 0, 0, 0) := by decide +kernel
theorem k173_2 : look (codL 173) 2 = some (.iconst 0, 1, 0, 0, 0) := by decide +kernel
theorem k173_3 : look (codL 173) 3 = some (.istore 4, 2, 0, 0, 0) := by decide +kernel
theorem k173_5 : look (codL 173) 5 = some (.iload 4, 2, 0, 0, 0) := by decide +kernel
theorem k173_7 : look (codL 173) 7 = some (.iload_n 2, 1, 0, 0, 0) := by decide +kernel
theorem k173_8 : look (codL 173) 8 = some (.if_icmp .ge 40, 3, 0, 0, 0) := by decide +kernel
theorem k173_11 : look (codL 173) 11 = some (.iload_n 3, 1, 0, 0, 0) := by decide +kernel
theorem k173_12 : look (codL 173) 12 = some (.ifCond .ne 24, 3, 0, 0, 0) := by decide +kernel
theorem k173_15 : look (codL 173) 15 = some (.aload_n 0, 1, 0, 0, 0) := by decide +kernel
theorem k173_16 : look (codL 173) 16 = some (.getfield 40, 3, 10, 14, 0) := by decide +kernel
theorem k173_19 : look (codL 173) 19 = some (.iload 4, 2, 0, 0, 0) := by decide +kernel
theorem k173_21 : look (codL 173) 21 = some (.baload, 1, 0, 0, 0) := by decide +kernel
theorem k173_22 : look (codL 173) 22 = some (.ifCond .eq 18, 3, 0, 0, 0) := by decide +kernel
theorem k173_25 : look (codL 173) 25 = some (.aload_n 0, 1, 0, 0, 0) := by decide +kernel
theorem k173_26 : look (codL 173) 26 = some (.getfield 44, 3, 10, 15, 0) := by decide +kernel
theorem k173_29 : look (codL 173) 29 = some (.iload 4, 2, 0, 0, 0) := by decide +kernel
theorem k173_31 : look (codL 173) 31 = some (.iaload, 1, 0, 0, 0) := by decide +kernel
theorem k173_32 : look (codL 173) 32 = some (.iload_n 1, 1, 0, 0, 0) := by decide +kernel
theorem k173_33 : look (codL 173) 33 = some (.if_icmp .ne 7, 3, 0, 0, 0) := by decide +kernel
theorem k173_36 : look (codL 173) 36 = some (.iconst 1, 1, 0, 0, 0) := by decide +kernel
theorem k173_37 : look (codL 173) 37 = some (.goto 4, 3, 0, 0, 0) := by decide +kernel
theorem k173_40 : look (codL 173) 40 = some (.iconst 0, 1, 0, 0, 0) := by decide +kernel
theorem k173_41 : look (codL 173) 41 = some (.istore_n 3, 1, 0, 0, 0) := by decide +kernel
theorem k173_42 : look (codL 173) 42 = some (.iinc 4 1, 3, 0, 0, 0) := by decide +kernel
theorem k173_45 : look (codL 173) 45 = some (.goto (-40), 3, 0, 0, 0) := by decide +kernel
theorem k173_48 : look (codL 173) 48 = some (.iload_n 3, 1, 0, 0, 0) := by decide +kernel
theorem k173_49 : look (codL 173) 49 = some (.ireturn, 1, 0, 0, 0) := by decide +kernel
theorem k174_0 : look (codL 174) 0 = some (.iconst 0, 1, 0, 0, 0) := by decide +kernel
theorem k174_1 : look (codL 174) 1 = some (.istore_n 2, 1, 0, 0, 0) := by decide +kernel
theorem k174_2 : look (codL 174) 2 = some (.iconst 0, 1, 0, 0, 0) := by decide +kernel
theorem k174_3 : look (codL 174) 3 = some (.istore_n 3, 1, 0, 0, 0) := by decide +kernel
theorem k174_4 : look (codL 174) 4 = some (.iload_n 3, 1, 0, 0, 0) := by decide +kernel
theorem k174_5 : look (codL 174) 5 = some (.iload_n 1, 1, 0, 0, 0) := by decide +kernel
theorem k174_6 : look (codL 174) 6 = some (.if_icmp .ge 26, 3, 0, 0, 0) := by decide +kernel
theorem k174_9 : look (codL 174) 9 = some (.iload_n 2, 1, 0, 0, 0) := by decide +kernel
theorem k174_10 : look (codL 174) 10 = some (.aload_n 0, 1, 0, 0, 0) := by decide +kernel
theorem k174_11 : look (codL 174) 11 = some (.getfield 40, 3, 10, 14, 0) := by decide +kernel
theorem k174_14 : look (codL 174) 14 = some (.iload_n 3, 1, 0, 0, 0) := by decide +kernel
theorem k174_15 : look (codL 174) 15 = some (.baload, 1, 0, 0, 0) := by decide +kernel
theorem k174_16 : look (codL 174) 16 = some (.ifCond .eq 7, 3, 0, 0, 0) := by decide +kernel
theorem k174_19 : look (codL 174) 19 = some (.iconst 1, 1, 0, 0, 0) := by decide +kernel
theorem k174_20 : look (codL 174) 20 = some (.goto 4, 3, 0, 0, 0) := by decide +kernel
theorem k174_23 : look (codL 174) 23 = some (.iconst 0, 1, 0, 0, 0) := by decide +kernel
theorem k174_24 : look (codL 174) 24 = some (.iadd, 1, 0, 0, 0) := by decide +kernel
theorem k174_25 : look (codL 174) 25 = some (.istore_n 2, 1, 0, 0, 0) := by decide +kernel
theorem k174_26 : look (codL 174) 26 = some (.iinc 3 1, 3, 0, 0, 0) := by decide +kernel
theorem k174_29 : look (codL 174) 29 = some (.goto (-25), 3, 0, 0, 0) := by decide +kernel
theorem k174_32 : look (codL 174) 32 = some (.iload_n 2, 1, 0, 0, 0) := by decide +kernel
theorem k174_33 : look (codL 174) 33 = some (.ireturn, 1, 0, 0, 0) := by decide +kernel
theorem k175_0 : look (codL 175) 0 = some (.aload_n 0, 1, 0, 0, 0) := by decide +kernel
theorem k175_1 : look (codL 175) 1 = some (.iload_n 1, 1, 0, 0, 0) := by decide +kernel
theorem k175_2 : look (codL 175) 2 = some (.invokevirtual 133, 3, 146, 2, 0) := by decide +kernel
theorem k175_5 : look (codL 175) 5 = some (.istore_n 3, 1, 0, 0, 0) := by decide +kernel
theorem k175_6 : look (codL 175) 6 = some (.sipush (-201), 3, 0, 0, 0) := by decide +kernel
theorem k175_9 : look (codL 175) 9 = some (.istore 4, 2, 0, 0, 0) := by decide +kernel
theorem k175_11 : look (codL 175) 11 = some (.iconst 0, 1, 0, 0, 0) := by decide +kernel
theorem k175_12 : look (codL 175) 12 = some (.istore 5, 2, 0, 0, 0) := by decide +kernel
theorem k175_14 : look (codL 175) 14 = some (.iload 5, 2, 0, 0, 0) := by decide +kernel
theorem k175_16 : look (codL 175) 16 = some (.iload_n 3, 1, 0, 0, 0) := by decide +kernel
theorem k175_17 : look (codL 175) 17 = some (.if_icmp .ge 90, 3, 0, 0, 0) := by decide +kernel
theorem k175_20 : look (codL 175) 20 = some (.aload_n 0, 1, 0, 0, 0) := by decide +kernel
theorem k175_21 : look (codL 175) 21 = some (.getfield 40, 3, 10, 14, 0) := by decide +kernel
theorem k175_24 : look (codL 175) 24 = some (.iload 5, 2, 0, 0, 0) := by decide +kernel
theorem k175_26 : look (codL 175) 26 = some (.baload, 1, 0, 0, 0) := by decide +kernel
theorem k175_27 : look (codL 175) 27 = some (.ifCond .eq 26, 3, 0, 0, 0) := by decide +kernel
theorem k175_30 : look (codL 175) 30 = some (.iload_n 2, 1, 0, 0, 0) := by decide +kernel
theorem k175_31 : look (codL 175) 31 = some (.ifCond .eq 18, 3, 0, 0, 0) := by decide +kernel
theorem k175_34 : look (codL 175) 34 = some (.aload_n 0, 1, 0, 0, 0) := by decide +kernel
theorem k175_35 : look (codL 175) 35 = some (.aload_n 0, 1, 0, 0, 0) := by decide +kernel
theorem k175_36 : look (codL 175) 36 = some (.iload_n 1, 1, 0, 0, 0) := by decide +kernel
theorem k175_37 : look (codL 175) 37 = some (.iload 5, 2, 0, 0, 0) := by decide +kernel
theorem k175_39 : look (codL 175) 39 = some (.invokevirtual 127, 3, 145, 3, 0) := by decide +kernel
theorem k175_42 : look (codL 175) 42 = some (.iload_n 3, 1, 0, 0, 0) := by decide +kernel
theorem k175_43 : look (codL 175) 43 = some (.invokevirtual 169, 3, 173, 3, 0) := by decide +kernel
theorem k175_46 : look (codL 175) 46 = some (.ifCond .ne 7, 3, 0, 0, 0) := by decide +kernel
theorem k175_49 : look (codL 175) 49 = some (.iconst 1, 1, 0, 0, 0) := by decide +kernel
theorem k175_50 : look (codL 175) 50 = some (.goto 4, 3, 0, 0, 0) := by decide +kernel
theorem k175_53 : look (codL 175) 53 = some (.iconst 0, 1, 0, 0, 0) := by decide +kernel
theorem k175_54 : look (codL 175) 54 = some (.istore 6, 2, 0, 0, 0) := by decide +kernel
theorem k175_56 : look (codL 175) 56 = some (.iload 6, 2, 0, 0, 0) := by decide +kernel
theorem k175_58 : look (codL 175) 58 = some (.ifCond .eq 39, 3, 0, 0, 0) := by decide +kernel
theorem k175_61 : look (codL 175) 61 = some (.iload 4, 2, 0, 0, 0) := by decide +kernel
theorem k175_63 : look (codL 175) 63 = some (.sipush (-201), 3, 0, 0, 0) := by decide +kernel
theorem k175_66 : look (codL 175) 66 = some (.if_icmp .eq 26, 3, 0, 0, 0) := by decide +kernel
theorem k175_69 : look (codL 175) 69 = some (.aload_n 0, 1, 0, 0, 0) := by decide +kernel
theorem k175_70 : look (codL 175) 70 = some (.iload_n 1, 1, 0, 0, 0) := by decide +kernel
theorem k175_71 : look (codL 175) 71 = some (.iload 5, 2, 0, 0, 0) := by decide +kernel
theorem k175_73 : look (codL 175) 73 = some (.invokevirtual 127, 3, 145, 3, 0) := by decide +kernel
theorem k175_76 : look (codL 175) 76 = some (.invokestatic 79, 3, 138, 1, 0) := by decide +kernel
theorem k175_79 : look (codL 175) 79 = some (.aload_n 0, 1, 0, 0, 0) := by decide +kernel
theorem k175_80 : look (codL 175) 80 = some (.iload_n 1, 1, 0, 0, 0) := by decide +kernel
theorem k175_81 : look (codL 175) 81 = some (.iload 4, 2, 0, 0, 0) := by decide +kernel
theorem k175_83 : look (codL 175) 83 = some (.invokevirtual 127, 3, 145, 3, 0) := by decide +kernel
theorem k175_86 : look (codL 175) 86 = some (.invokestatic 79, 3, 138, 1, 0) := by decide +kernel
theorem k175_89 : look (codL 175) 89 = some (.if_icmp .ge 8, 3, 0, 0, 0) := by decide +kernel
theorem k175_92 : look (codL 175) 92 = some (.iload 5, 2, 0, 0, 0) := by decide +kernel
theorem k175_94 : look (codL 175) 94 = some (.goto 5, 3, 0, 0, 0) := by decide +kernel
theorem k175_97 : look (codL 175) 97 = some (.iload 4, 2, 0, 0, 0) := by decide +kernel
theorem k175_99 : look (codL 175) 99 = some (.istore 4, 2, 0, 0, 0) := by decide +kernel
theorem k175_101 : look (codL 175) 101 = some (.iinc 5 1, 3, 0, 0, 0) := by decide +kernel
theorem k175_104 : look (codL 175) 104 = some (.goto (-90), 3, 0, 0, 0) := by decide +kernel
theorem k175_107 : look (codL 175) 107 = some (.iload 4, 2, 0, 0, 0) := by decide +kernel
theorem k175_109 : look (codL 175) 109 = some (.ireturn, 1, 0, 0, 0) := by decide +kernel
theorem k176_0 : look (codL 176) 0 = some (.sipush (-201), 3, 0, 0, 0) := by decide +kernel
theorem k176_3 : look (codL 176) 3 = some (.istore_n 3, 1, 0, 0, 0) := by decide +kernel
theorem k176_4 : look (codL 176) 4 = some (.iconst 0, 1, 0, 0, 0) := by decide +kernel
theorem k176_5 : look (codL 176) 5 = some (.istore 4, 2, 0, 0, 0) := by decide +kernel
theorem k176_7 : look (codL 176) 7 = some (.iload 4, 2, 0, 0, 0) := by decide +kernel
theorem k176_9 : look (codL 176) 9 = some (.aload_n 0, 1, 0, 0, 0) := by decide +kernel
theorem k176_10 : look (codL 176) 10 = some (.iload_n 1, 1, 0, 0, 0) := by decide +kernel
theorem k176_11 : look (codL 176) 11 = some (.invokevirtual 133, 3, 146, 2, 0) := by decide +kernel
theorem k176_14 : look (codL 176) 14 = some (.if_icmp .ge 27, 3, 0, 0, 0) := by decide +kernel
theorem k176_17 : look (codL 176) 17 = some (.aload_n 0, 1, 0, 0, 0) := by decide +kernel
theorem k176_18 : look (codL 176) 18 = some (.iload_n 1, 1, 0, 0, 0) := by decide +kernel
theorem k176_19 : look (codL 176) 19 = some (.iload 4, 2, 0, 0, 0) := by decide +kernel
theorem k176_21 : look (codL 176) 21 = some (.invokevirtual 127, 3, 145, 3, 0) := by decide +kernel
theorem k176_24 : look (codL 176) 24 = some (.iload_n 2, 1, 0, 0, 0) := by decide +kernel
theorem k176_25 : look (codL 176) 25 = some (.if_icmp .ne 8, 3, 0, 0, 0) := by decide +kernel
theorem k176_28 : look (codL 176) 28 = some (.iload 4, 2, 0, 0, 0) := by decide +kernel
theorem k176_30 : look (codL 176) 30 = some (.goto 4, 3, 0, 0, 0) := by decide +kernel
theorem k176_33 : look (codL 176) 33 = some (.iload_n 3, 1, 0, 0, 0) := by decide +kernel
theorem k176_34 : look (codL 176) 34 = some (.istore_n 3, 1, 0, 0, 0) := by decide +kernel
theorem k176_35 : look (codL 176) 35 = some (.iinc 4 1, 3, 0, 0, 0) := by decide +kernel
theorem k176_38 : look (codL 176) 38 = some (.goto (-31), 3, 0, 0, 0) := by decide +kernel
theorem k176_41 : look (codL 176) 41 = some (.iload_n 3, 1, 0, 0, 0) := by decide +kernel
theorem k176_42 : look (codL 176) 42 = some (.ireturn, 1, 0, 0, 0) := by decide +kernel
theorem k177_0 : look (codL 177) 0 = some (.iconst 0, 1, 0, 0, 0) := by decide +kernel
theorem k177_1 : look (codL 177) 1 = some (.istore 4, 2, 0, 0, 0) := by decide +kernel
theorem k177_3 : look (codL 177) 3 = some (.iload 4, 2, 0, 0, 0) := by decide +kernel
theorem k177_5 : look (codL 177) 5 = some (.aload_n 0, 1, 0, 0, 0) := by decide +kernel
theorem k177_6 : look (codL 177) 6 = some (.iload_n 1, 1, 0, 0, 0) := by decide +kernel
theorem k177_7 : look (codL 177) 7 = some (.invokevirtual 133, 3, 146, 2, 0) := by decide +kernel
theorem k177_10 : look (codL 177) 10 = some (.if_icmp .ge 38, 3, 0, 0, 0) := by decide +kernel
theorem k177_13 : look (codL 177) 13 = some (.aload_n 0, 1, 0, 0, 0) := by decide +kernel
theorem k177_14 : look (codL 177) 14 = some (.getfield 44, 3, 10, 15, 0) := by decide +kernel
theorem k177_17 : look (codL 177) 17 = some (.iload 4, 2, 0, 0, 0) := by decide +kernel
theorem k177_19 : look (codL 177) 19 = some (.aload_n 0, 1, 0, 0, 0) := by decide +kernel
theorem k177_20 : look (codL 177) 20 = some (.getfield 44, 3, 10, 15, 0) := by decide +kernel
theorem k177_23 : look (codL 177) 23 = some (.iload 4, 2, 0, 0, 0) := by decide +kernel
theorem k177_25 : look (codL 177) 25 = some (.iaload, 1, 0, 0, 0) := by decide +kernel
theorem k177_26 : look (codL 177) 26 = some (.iload_n 2, 1, 0, 0, 0) := by decide +kernel
theorem k177_27 : look (codL 177) 27 = some (.if_icmp .ne 7, 3, 0, 0, 0) := by decide +kernel
theorem k177_30 : look (codL 177) 30 = some (.iload_n 3, 1, 0, 0, 0) := by decide +kernel
theorem k177_31 : look (codL 177) 31 = some (.goto 10, 3, 0, 0, 0) := by decide +kernel
theorem k177_34 : look (codL 177) 34 = some (.aload_n 0, 1, 0, 0, 0) := by decide +kernel
theorem k177_35 : look (codL 177) 35 = some (.getfield 44, 3, 10, 15, 0) := by decide +kernel
theorem k177_38 : look (codL 177) 38 = some (.iload 4, 2, 0, 0, 0) := by decide +kernel
theorem k177_40 : look (codL 177) 40 = some (.iaload, 1, 0, 0, 0) := by decide +kernel
theorem k177_41 : look (codL 177) 41 = some (.iastore, 1, 0, 0, 0) := by decide +kernel
theorem k177_42 : look (codL 177) 42 = some (.iinc 4 1, 3, 0, 0, 0) := by decide +kernel
theorem k177_45 : look (codL 177) 45 = some (.goto (-42), 3, 0, 0, 0) := by decide +kernel
theorem k177_48 : look (codL 177) 48 = some (.return_, 1, 0, 0, 0) := by decide +kernel
theorem k178_0 : look (codL 178) 0 = some (.aload_n 0, 1, 0, 0, 0) := by decide +kernel
theorem k178_1 : look (codL 178) 1 = some (.iload_n 1, 1, 0, 0, 0) := by decide +kernel
theorem k178_2 : look (codL 178) 2 = some (.iload_n 2, 1, 0, 0, 0) := by decide +kernel
theorem k178_3 : look (codL 178) 3 = some (.invokevirtual 127, 3, 145, 3, 0) := by decide +kernel
theorem k178_6 : look (codL 178) 6 = some (.istore_n 3, 1, 0, 0, 0) := by decide +kernel
theorem k178_7 : look (codL 178) 7 = some (.aload_n 0, 1, 0, 0, 0) := by decide +kernel
theorem k178_8 : look (codL 178) 8 = some (.getfield 44, 3, 10, 15, 0) := by decide +kernel
theorem k178_11 : look (codL 178) 11 = some (.iload_n 2, 1, 0, 0, 0) := by decide +kernel
theorem k178_12 : look (codL 178) 12 = some (.iaload, 1, 0, 0, 0) := by decide +kernel
theorem k178_13 : look (codL 178) 13 = some (.istore 4, 2, 0, 0, 0) := by decide +kernel
theorem k178_15 : look (codL 178) 15 = some (.aload_n 0, 1, 0, 0, 0) := by decide +kernel
theorem k178_16 : look (codL 178) 16 = some (.iconst 0, 1, 0, 0, 0) := by decide +kernel
theorem k178_17 : look (codL 178) 17 = some (.iload_n 3, 1, 0, 0, 0) := by decide +kernel
theorem k178_18 : look (codL 178) 18 = some (.iload 4, 2, 0, 0, 0) := by decide +kernel
theorem k178_20 : look (codL 178) 20 = some (.invokevirtual 172, 3, 172, 4, 0) := by decide +kernel
theorem k178_23 : look (codL 178) 23 = some (.aload_n 0, 1, 0, 0, 0) := by decide +kernel
theorem k178_24 : look (codL 178) 24 = some (.getfield 40, 3, 10, 14, 0) := by decide +kernel
theorem k178_27 : look (codL 178) 27 = some (.iload_n 2, 1, 0, 0, 0) := by decide +kernel
theorem k178_28 : look (codL 178) 28 = some (.iconst 0, 1, 0, 0, 0) := by decide +kernel
theorem k178_29 : look (codL 178) 29 = some (.bastore, 1, 0, 0, 0) := by decide +kernel
theorem k178_30 : look (codL 178) 30 = some (.aload_n 0, 1, 0, 0, 0) := by decide +kernel
theorem k178_31 : look (codL 178) 31 = some (.iload_n 1, 1, 0, 0, 0) := by decide +kernel
theorem k178_32 : look (codL 178) 32 = some (.iload 4, 2, 0, 0, 0) := by decide +kernel
theorem k178_34 : look (codL 178) 34 = some (.iload_n 3, 1, 0, 0, 0) := by decide +kernel
theorem k178_35 : look (codL 178) 35 = some (.invokevirtual 176, 3, 177, 4, 0) := by decide +kernel
theorem k178_38 : look (codL 178) 38 = some (.return_, 1, 0, 0, 0) := by decide +kernel
theorem k179_0 : look (codL 179) 0 = some (.aload_n 0, 1, 0, 0, 0) := by decide +kernel
theorem k179_1 : look (codL 179) 1 = some (.iload_n 1, 1, 0, 0, 0) := by decide +kernel
theorem k179_2 : look (codL 179) 2 = some (.iload_n 2, 1, 0, 0, 0) := by decide +kernel
theorem k179_3 : look (codL 179) 3 = some (.invokevirtual 127, 3, 145, 3, 0) := by decide +kernel
theorem k179_6 : look (codL 179) 6 = some (.istore 4, 2, 0, 0, 0) := by decide +kernel
theorem k179_8 : look (codL 179) 8 = some (.iload 4, 2, 0, 0, 0) := by decide +kernel
theorem k179_10 : look (codL 179) 10 = some (.invokestatic 71, 3, 137, 1, 0) := by decide +kernel
theorem k179_13 : look (codL 179) 13 = some (.istore 5, 2, 0, 0, 0) := by decide +kernel
theorem k179_15 : look (codL 179) 15 = some (.iconst 1, 1, 0, 0, 0) := by decide +kernel
theorem k179_16 : look (codL 179) 16 = some (.istore 6, 2, 0, 0, 0) := by decide +kernel
theorem k179_18 : look (codL 179) 18 = some (.aload_n 0, 1, 0, 0, 0) := by decide +kernel
theorem k179_19 : look (codL 179) 19 = some (.iload_n 1, 1, 0, 0, 0) := by decide +kernel
theorem k179_20 : look (codL 179) 20 = some (.aload_n 0, 1, 0, 0, 0) := by decide +kernel
theorem k179_21 : look (codL 179) 21 = some (.getfield 44, 3, 10, 15, 0) := by decide +kernel
theorem k179_24 : look (codL 179) 24 = some (.iload_n 2, 1, 0, 0, 0) := by decide +kernel
theorem k179_25 : look (codL 179) 25 = some (.iaload, 1, 0, 0, 0) := by decide +kernel
theorem k179_26 : look (codL 179) 26 = some (.invokevirtual 179, 3, 176, 3, 0) := by decide +kernel
theorem k179_29 : look (codL 179) 29 = some (.istore 7, 2, 0, 0, 0) := by decide +kernel
theorem k179_31 : look (codL 179) 31 = some (.iload 7, 2, 0, 0, 0) := by decide +kernel
theorem k179_33 : look (codL 179) 33 = some (.iload_n 2, 1, 0, 0, 0) := by decide +kernel
theorem k179_34 : look (codL 179) 34 = some (.if_icmp .eq 23, 3, 0, 0, 0) := by decide +kernel
theorem k179_37 : look (codL 179) 37 = some (.iinc 6 1, 3, 0, 0, 0) := by decide +kernel
theorem k179_40 : look (codL 179) 40 = some (.aload_n 0, 1, 0, 0, 0) := by decide +kernel
theorem k179_41 : look (codL 179) 41 = some (.iload_n 1, 1, 0, 0, 0) := by decide +kernel
theorem k179_42 : look (codL 179) 42 = some (.aload_n 0, 1, 0, 0, 0) := by decide +kernel
theorem k179_43 : look (codL 179) 43 = some (.getfield 44, 3, 10, 15, 0) := by decide +kernel
theorem k179_46 : look (codL 179) 46 = some (.iload 7, 2, 0, 0, 0) := by decide +kernel
theorem k179_48 : look (codL 179) 48 = some (.iaload, 1, 0, 0, 0) := by decide +kernel
theorem k179_49 : look (codL 179) 49 = some (.invokevirtual 179, 3, 176, 3, 0) := by decide +kernel
theorem k179_52 : look (codL 179) 52 = some (.istore 7, 2, 0, 0, 0) := by decide +kernel
theorem k179_54 : look (codL 179) 54 = some (.goto (-23), 3, 0, 0, 0) := by decide +kernel
theorem k179_57 : look (codL 179) 57 = some (.iload_n 3, 1, 0, 0, 0) := by decide +kernel
theorem k179_58 : look (codL 179) 58 = some (.iload 5, 2, 0, 0, 0) := by decide +kernel
theorem k179_60 : look (codL 179) 60 = some (.invokestatic 182, 3, 171, 2, 0) := by decide +kernel
theorem k179_63 : look (codL 179) 63 = some (.istore 7, 2, 0, 0, 0) := by decide +kernel
theorem k179_65 : look (codL 179) 65 = some (.iload 7, 2, 0, 0, 0) := by decide +kernel
theorem k179_67 : look (codL 179) 67 = some (.ifCond .eq 24, 3, 0, 0, 0) := by decide +kernel
theorem k179_70 : look (codL 179) 70 = some (.iload 6, 2, 0, 0, 0) := by decide +kernel
theorem k179_72 : look (codL 179) 72 = some (.iconst 1, 1, 0, 0, 0) := by decide +kernel
theorem k179_73 : look (codL 179) 73 = some (.isub, 1, 0, 0, 0) := by decide +kernel
theorem k179_74 : look (codL 179) 74 = some (.iload 7, 2, 0, 0, 0) := by decide +kernel
theorem k179_76 : look (codL 179) 76 = some (.imul, 1, 0, 0, 0) := by decide +kernel
theorem k179_77 : look (codL 179) 77 = some (.iload 6, 2, 0, 0, 0) := by decide +kernel
theorem k179_79 : look (codL 179) 79 = some (.iconst 1, 1, 0, 0, 0) := by decide +kernel
theorem k179_80 : look (codL 179) 80 = some (.iadd, 1, 0, 0, 0) := by decide +kernel
theorem k179_81 : look (codL 179) 81 = some (.iload_n 3, 1, 0, 0, 0) := by decide +kernel
theorem k179_82 : look (codL 179) 82 = some (.iload 5, 2, 0, 0, 0) := by decide +kernel
theorem k179_84 : look (codL 179) 84 = some (.invokestatic 185, 3, 170, 2, 0) := by decide +kernel
theorem k179_87 : look (codL 179) 87 = some (.imul, 1, 0, 0, 0) := by decide +kernel
theorem k179_88 : look (codL 179) 88 = some (.if_icmp .lt 30, 3, 0, 0, 0) := by decide +kernel
theorem k179_91 : look (codL 179) 91 = some (.aload_n 0, 1, 0, 0, 0) := by decide +kernel
theorem k179_92 : look (codL 179) 92 = some (.iconst 0, 1, 0, 0, 0) := by decide +kernel
theorem k179_93 : look (codL 179) 93 = some (.sipush 320, 3, 0, 0, 0) := by decide +kernel
theorem k179_96 : look (codL 179) 96 = some (.iload 5, 2, 0, 0, 0) := by decide +kernel
theorem k179_98 : look (codL 179) 98 = some (.iadd, 1, 0, 0, 0) := by decide +kernel
theorem k179_99 : look (codL 179) 99 = some (.iload 4, 2, 0, 0, 0) := by decide +kernel
theorem k179_101 : look (codL 179) 101 = some (.invokevirtual 172, 3, 172, 4, 0) := by decide +kernel
theorem k179_104 : look (codL 179) 104 = some (.aload_n 0, 1, 0, 0, 0) := by decide +kernel
theorem k179_105 : look (codL 179) 105 = some (.iload_n 1, 1, 0, 0, 0) := by decide +kernel
theorem k179_106 : look (codL 179) 106 = some (.iload 4, 2, 0, 0, 0) := by decide +kernel
theorem k179_108 : look (codL 179) 108 = some (.sipush 320, 3, 0, 0, 0) := by decide +kernel
theorem k179_111 : look (codL 179) 111 = some (.iload 5, 2, 0, 0, 0) := by decide +kernel
theorem k179_113 : look (codL 179) 113 = some (.iadd, 1, 0, 0, 0) := by decide +kernel
theorem k179_114 : look (codL 179) 114 = some (.invokevirtual 176, 3, 177, 4, 0) := by decide +kernel
theorem k179_117 : look (codL 179) 117 = some (.return_, 1, 0, 0, 0) := by decide +kernel
theorem k179_118 : look (codL 179) 118 = some (.iload_n 2, 1, 0, 0, 0) := by decide +kernel
theorem k179_119 : look (codL 179) 119 = some (.istore 8, 2, 0, 0, 0) := by decide +kernel
theorem k179_121 : look (codL 179) 121 = some (.iconst 1, 1, 0, 0, 0) := by decide +kernel
theorem k179_122 : look (codL 179) 122 = some (.istore 9, 2, 0, 0, 0) := by decide +kernel
theorem k179_124 : look (codL 179) 124 = some (.iload 9, 2, 0, 0, 0) := by decide +kernel
theorem k179_126 : look (codL 179) 126 = some (.iload 6, 2, 0, 0, 0) := by decide +kernel
theorem k179_128 : look (codL 179) 128 = some (.if_icmp .ge 50, 3, 0, 0, 0) := by decide +kernel
theorem k179_131 : look (codL 179) 131 = some (.aload_n 0, 1, 0, 0, 0) := by decide +kernel
theorem k179_132 : look (codL 179) 132 = some (.iconst 1, 1, 0, 0, 0) := by decide +kernel
theorem k179_133 : look (codL 179) 133 = some (.aload_n 0, 1, 0, 0, 0) := by decide +kernel
theorem k179_134 : look (codL 179) 134 = some (.iload_n 1, 1, 0, 0, 0) := by decide +kernel
theorem k179_135 : look (codL 179) 135 = some (.iload 8, 2, 0, 0, 0) := by decide +kernel
theorem k179_137 : look (codL 179) 137 = some (.invokevirtual 127, 3, 145, 3, 0) := by decide +kernel
theorem k179_140 : look (codL 179) 140 = some (.aload_n 0, 1, 0, 0, 0) := by decide +kernel
theorem k179_141 : look (codL 179) 141 = some (.getfield 44, 3, 10, 15, 0) := by decide +kernel
theorem k179_144 : look (codL 179) 144 = some (.iload 8, 2, 0, 0, 0) := by decide +kernel
theorem k179_146 : look (codL 179) 146 = some (.iaload, 1, 0, 0, 0) := by decide +kernel
theorem k179_147 : look (codL 179) 147 = some (.invokevirtual 172, 3, 172, 4, 0) := by decide +kernel
theorem k179_150 : look (codL 179) 150 = some (.aload_n 0, 1, 0, 0, 0) := by decide +kernel
theorem k179_151 : look (codL 179) 151 = some (.getfield 40, 3, 10, 14, 0) := by decide +kernel
theorem k179_154 : look (codL 179) 154 = some (.iload 8, 2, 0, 0, 0) := by decide +kernel
theorem k179_156 : look (codL 179) 156 = some (.iconst 0, 1, 0, 0, 0) := by decide +kernel
theorem k179_157 : look (codL 179) 157 = some (.bastore, 1, 0, 0, 0) := by decide +kernel
theorem k179_158 : look (codL 179) 158 = some (.aload_n 0, 1, 0, 0, 0) := by decide +kernel
theorem k179_159 : look (codL 179) 159 = some (.iload_n 1, 1, 0, 0, 0) := by decide +kernel
theorem k179_160 : look (codL 179) 160 = some (.aload_n 0, 1, 0, 0, 0) := by decide +kernel
theorem k179_161 : look (codL 179) 161 = some (.getfield 44, 3, 10, 15, 0) := by decide +kernel
theorem k179_164 : look (codL 179) 164 = some (.iload 8, 2, 0, 0, 0) := by decide +kernel
theorem k179_166 : look (codL 179) 166 = some (.iaload, 1, 0, 0, 0) := by decide +kernel
theorem k179_167 : look (codL 179) 167 = some (.invokevirtual 179, 3, 176, 3, 0) := by decide +kernel
theorem k179_170 : look (codL 179) 170 = some (.istore 8, 2, 0, 0, 0) := by decide +kernel
theorem k179_172 : look (codL 179) 172 = some (.iinc 9 1, 3, 0, 0, 0) := by decide +kernel
theorem k179_175 : look (codL 179) 175 = some (.goto (-51), 3, 0, 0, 0) := by decide +kernel
theorem k179_178 : look (codL 179) 178 = some (.aload_n 0, 1, 0, 0, 0) := by decide +kernel
theorem k179_179 : look (codL 179) 179 = some (.getfield 40, 3, 10, 14, 0) := by decide +kernel
theorem k179_182 : look (codL 179) 182 = some (.iload 8, 2, 0, 0, 0) := by decide +kernel
theorem k179_184 : look (codL 179) 184 = some (.iconst 0, 1, 0, 0, 0) := by decide +kernel
theorem k179_185 : look (codL 179) 185 = some (.bastore, 1, 0, 0, 0) := by decide +kernel
theorem k179_186 : look (codL 179) 186 = some (.return_, 1, 0, 0, 0) := by decide +kernel
theorem k180_0 : look (codL 180) 0 = some (.iconst 0, 1, 0, 0, 0) := by decide +kernel
theorem k180_1 : look (codL 180) 1 = some (.istore_n 2, 1, 0, 0, 0) := by decide +kernel
theorem k180_2 : look (codL 180) 2 = some (.iload_n 2, 1, 0, 0, 0) := by decide +kernel
theorem k180_3 : look (codL 180) 3 = some (.aload_n 0, 1, 0, 0, 0) := by decide +kernel
theorem k180_4 : look (codL 180) 4 = some (.iload_n 1, 1, 0, 0, 0) := by decide +kernel
theorem k180_5 : look (codL 180) 5 = some (.invokevirtual 133, 3, 146, 2, 0) := by decide +kernel
theorem k180_8 : look (codL 180) 8 = some (.if_icmp .ge 65, 3, 0, 0, 0) := by decide +kernel
theorem k180_11 : look (codL 180) 11 = some (.aload_n 0, 1, 0, 0, 0) := by decide +kernel
theorem k180_12 : look (codL 180) 12 = some (.getfield 40, 3, 10, 14, 0) := by decide +kernel
theorem k180_15 : look (codL 180) 15 = some (.iload_n 2, 1, 0, 0, 0) := by decide +kernel
theorem k180_16 : look (codL 180) 16 = some (.aload_n 0, 1, 0, 0, 0) := by decide +kernel
theorem k180_17 : look (codL 180) 17 = some (.iload_n 1, 1, 0, 0, 0) := by decide +kernel
theorem k180_18 : look (codL 180) 18 = some (.iload_n 2, 1, 0, 0, 0) := by decide +kernel
theorem k180_19 : look (codL 180) 19 = some (.invokevirtual 154, 3, 163, 3, 0) := by decide +kernel
theorem k180_22 : look (codL 180) 22 = some (.ifCond .eq 16, 3, 0, 0, 0) := by decide +kernel
theorem k180_25 : look (codL 180) 25 = some (.aload_n 0, 1, 0, 0, 0) := by decide +kernel
theorem k180_26 : look (codL 180) 26 = some (.iload_n 1, 1, 0, 0, 0) := by decide +kernel
theorem k180_27 : look (codL 180) 27 = some (.iload_n 2, 1, 0, 0, 0) := by decide +kernel
theorem k180_28 : look (codL 180) 28 = some (.invokevirtual 139, 3, 147, 3, 0) := by decide +kernel
theorem k180_31 : look (codL 180) 31 = some (.ifCond .le 7, 3, 0, 0, 0) := by decide +kernel
theorem k180_34 : look (codL 180) 34 = some (.iconst 1, 1, 0, 0, 0) := by decide +kernel
theorem k180_35 : look (codL 180) 35 = some (.goto 4, 3, 0, 0, 0) := by decide +kernel
theorem k180_38 : look (codL 180) 38 = some (.iconst 0, 1, 0, 0, 0) := by decide +kernel
theorem k180_39 : look (codL 180) 39 = some (.bastore, 1, 0, 0, 0) := by decide +kernel
theorem k180_40 : look (codL 180) 40 = some (.aload_n 0, 1, 0, 0, 0) := by decide +kernel
theorem k180_41 : look (codL 180) 41 = some (.getfield 44, 3, 10, 15, 0) := by decide +kernel
theorem k180_44 : look (codL 180) 44 = some (.iload_n 2, 1, 0, 0, 0) := by decide +kernel
theorem k180_45 : look (codL 180) 45 = some (.aload_n 0, 1, 0, 0, 0) := by decide +kernel
theorem k180_46 : look (codL 180) 46 = some (.getfield 40, 3, 10, 14, 0) := by decide +kernel
theorem k180_49 : look (codL 180) 49 = some (.iload_n 2, 1, 0, 0, 0) := by decide +kernel
theorem k180_50 : look (codL 180) 50 = some (.baload, 1, 0, 0, 0) := by decide +kernel
theorem k180_51 : look (codL 180) 51 = some (.ifCond .eq 12, 3, 0, 0, 0) := by decide +kernel
theorem k180_54 : look (codL 180) 54 = some (.aload_n 0, 1, 0, 0, 0) := by decide +kernel
theorem k180_55 : look (codL 180) 55 = some (.iload_n 1, 1, 0, 0, 0) := by decide +kernel
theorem k180_56 : look (codL 180) 56 = some (.iload_n 2, 1, 0, 0, 0) := by decide +kernel
theorem k180_57 : look (codL 180) 57 = some (.invokevirtual 139, 3, 147, 3, 0) := by decide +kernel
theorem k180_60 : look (codL 180) 60 = some (.goto 6, 3, 0, 0, 0) := by decide +kernel
theorem k180_63 : look (codL 180) 63 = some (.sipush (-201), 3, 0, 0, 0) := by decide +kernel
theorem k180_66 : look (codL 180) 66 = some (.iastore, 1, 0, 0, 0) := by decide +kernel
theorem k180_67 : look (codL 180) 67 = some (.iinc 2 1, 3, 0, 0, 0) := by decide +kernel
theorem k180_70 : look (codL 180) 70 = some (.goto (-68), 3, 0, 0, 0) := by decide +kernel
theorem k180_73 : look (codL 180) 73 = some (.return_, 1, 0, 0, 0) := by decide +kernel
theorem k181_0 : look (codL 181) 0 = some (.aload_n 0, 1, 0, 0, 0) := by decide +kernel
theorem k181_1 : look (codL 181) 1 = some (.iload_n 1, 1, 0, 0, 0) := by decide +kernel
theorem k181_2 : look (codL 181) 2 = some (.invokevirtual 133, 3, 146, 2, 0) := by decide +kernel
theorem k181_5 : look (codL 181) 5 = some (.istore_n 3, 1, 0, 0, 0) := by decide +kernel
theorem k181_6 : look (codL 181) 6 = some (.aload_n 0, 1, 0, 0, 0) := by decide +kernel
theorem k181_7 : look (codL 181) 7 = some (.iconst 0, 1, 0, 0, 0) := by decide +kernel
theorem k181_8 : look (codL 181) 8 = some (.putfield 166, 3, 10, 10, 0) := by decide +kernel
theorem k181_11 : look (codL 181) 11 = some (.aload_n 0, 1, 0, 0, 0) := by decide +kernel
theorem k181_12 : look (codL 181) 12 = some (.iload_n 1, 1, 0, 0, 0) := by decide +kernel
theorem k181_13 : look (codL 181) 13 = some (.invokevirtual 188, 3, 180, 2, 0) := by decide +kernel
theorem k181_16 : look (codL 181) 16 = some (.aload_n 0, 1, 0, 0, 0) := by decide +kernel
theorem k181_17 : look (codL 181) 17 = some (.iload_n 3, 1, 0, 0, 0) := by decide +kernel
theorem k181_18 : look (codL 181) 18 = some (.invokevirtual 192, 3, 174, 2, 0) := by decide +kernel
theorem k181_21 : look (codL 181) 21 = some (.ifCond .le 44, 3, 0, 0, 0) := by decide +kernel
theorem k181_24 : look (codL 181) 24 = some (.aload_n 0, 1, 0, 0, 0) := by decide +kernel
theorem k181_25 : look (codL 181) 25 = some (.iload_n 1, 1, 0, 0, 0) := by decide +kernel
theorem k181_26 : look (codL 181) 26 = some (.iconst 1, 1, 0, 0, 0) := by decide +kernel
theorem k181_27 : look (codL 181) 27 = some (.invokevirtual 195, 3, 175, 3, 0) := by decide +kernel
theorem k181_30 : look (codL 181) 30 = some (.istore 4, 2, 0, 0, 0) := by decide +kernel
theorem k181_32 : look (codL 181) 32 = some (.iload 4, 2, 0, 0, 0) := by decide +kernel
theorem k181_34 : look (codL 181) 34 = some (.sipush (-201), 3, 0, 0, 0) := by decide +kernel
theorem k181_37 : look (codL 181) 37 = some (.if_icmp .ne 18, 3, 0, 0, 0) := by decide +kernel
theorem k181_40 : look (codL 181) 40 = some (.aload_n 0, 1, 0, 0, 0) := by decide +kernel
theorem k181_41 : look (codL 181) 41 = some (.iload_n 1, 1, 0, 0, 0) := by decide +kernel
theorem k181_42 : look (codL 181) 42 = some (.aload_n 0, 1, 0, 0, 0) := by decide +kernel
theorem k181_43 : look (codL 181) 43 = some (.iload_n 1, 1, 0, 0, 0) := by decide +kernel
theorem k181_44 : look (codL 181) 44 = some (.iconst 0, 1, 0, 0, 0) := by decide +kernel
theorem k181_45 : look (codL 181) 45 = some (.invokevirtual 195, 3, 175, 3, 0) := by decide +kernel
theorem k181_48 : look (codL 181) 48 = some (.iload_n 2, 1, 0, 0, 0) := by decide +kernel
theorem k181_49 : look (codL 181) 49 = some (.invokevirtual 199, 3, 179, 4, 0) := by decide +kernel
theorem k181_52 : look (codL 181) 52 = some (.goto 10, 3, 0, 0, 0) := by decide +kernel
theorem k181_55 : look (codL 181) 55 = some (.aload_n 0, 1, 0, 0, 0) := by decide +kernel
theorem k181_56 : look (codL 181) 56 = some (.iload_n 1, 1, 0, 0, 0) := by decide +kernel
theorem k181_57 : look (codL 181) 57 = some (.iload 4, 2, 0, 0, 0) := by decide +kernel
theorem k181_59 : look (codL 181) 59 = some (.invokevirtual 202, 3, 178, 3, 0) := by decide +kernel
theorem k181_62 : look (codL 181) 62 = some (.goto (-46), 3, 0, 0, 0) := by decide +kernel
theorem k181_65 : look (codL 181) 65 = some (.iconst 0, 1, 0, 0, 0) := by decide +kernel
theorem k181_66 : look (codL 181) 66 = some (.istore 4, 2, 0, 0, 0) := by decide +kernel
theorem k181_68 : look (codL 181) 68 = some (.iload 4, 2, 0, 0, 0) := by decide +kernel
theorem k181_70 : look (codL 181) 70 = some (.bipush 32, 2, 0, 0, 0) := by decide +kernel
theorem k181_72 : look (codL 181) 72 = some (.if_icmp .ge 68, 3, 0, 0, 0) := by decide +kernel
theorem k181_75 : look (codL 181) 75 = some (.iconst 0, 1, 0, 0, 0) := by decide +kernel
theorem k181_76 : look (codL 181) 76 = some (.istore 5, 2, 0, 0, 0) := by decide +kernel
theorem k181_78 : look (codL 181) 78 = some (.iload 5, 2, 0, 0, 0) := by decide +kernel
theorem k181_80 : look (codL 181) 80 = some (.iload_n 3, 1, 0, 0, 0) := by decide +kernel
theorem k181_81 : look (codL 181) 81 = some (.if_icmp .ge 53, 3, 0, 0, 0) := by decide +kernel
theorem k181_84 : look (codL 181) 84 = some (.aload_n 0, 1, 0, 0, 0) := by decide +kernel
theorem k181_85 : look (codL 181) 85 = some (.iload_n 1, 1, 0, 0, 0) := by decide +kernel
theorem k181_86 : look (codL 181) 86 = some (.iload 5, 2, 0, 0, 0) := by decide +kernel
theorem k181_88 : look (codL 181) 88 = some (.invokevirtual 139, 3, 147, 3, 0) := by decide +kernel
theorem k181_91 : look (codL 181) 91 = some (.ifCond .ge 37, 3, 0, 0, 0) := by decide +kernel
theorem k181_94 : look (codL 181) 94 = some (.aload_n 0, 1, 0, 0, 0) := by decide +kernel
theorem k181_95 : look (codL 181) 95 = some (.iload_n 1, 1, 0, 0, 0) := by decide +kernel
theorem k181_96 : look (codL 181) 96 = some (.iload 5, 2, 0, 0, 0) := by decide +kernel
theorem k181_98 : look (codL 181) 98 = some (.invokevirtual 127, 3, 145, 3, 0) := by decide +kernel
theorem k181_101 : look (codL 181) 101 = some (.invokestatic 79, 3, 138, 1, 0) := by decide +kernel
theorem k181_104 : look (codL 181) 104 = some (.iload 4, 2, 0, 0, 0) := by decide +kernel
theorem k181_106 : look (codL 181) 106 = some (.if_icmp .ne 22, 3, 0, 0, 0) := by decide +kernel
theorem k181_109 : look (codL 181) 109 = some (.aload_n 0, 1, 0, 0, 0) := by decide +kernel
theorem k181_110 : look (codL 181) 110 = some (.iconst 2, 1, 0, 0, 0) := by decide +kernel
theorem k181_111 : look (codL 181) 111 = some (.aload_n 0, 1, 0, 0, 0) := by decide +kernel
theorem k181_112 : look (codL 181) 112 = some (.iload_n 1, 1, 0, 0, 0) := by decide +kernel
theorem k181_113 : look (codL 181) 113 = some (.iload 5, 2, 0, 0, 0) := by decide +kernel
theorem k181_115 : look (codL 181) 115 = some (.invokevirtual 127, 3, 145, 3, 0) := by decide +kernel
theorem k181_118 : look (codL 181) 118 = some (.aload_n 0, 1, 0, 0, 0) := by decide +kernel
theorem k181_119 : look (codL 181) 119 = some (.iload_n 1, 1, 0, 0, 0) := by decide +kernel
theorem k181_120 : look (codL 181) 120 = some (.iload 5, 2, 0, 0, 0) := by decide +kernel
theorem k181_122 : look (codL 181) 122 = some (.invokevirtual 139, 3, 147, 3, 0) := by decide +kernel
theorem k181_125 : look (codL 181) 125 = some (.invokevirtual 172, 3, 172, 4, 0) := by decide +kernel
theorem k181_128 : look (codL 181) 128 = some (.iinc 5 1, 3, 0, 0, 0) := by decide +kernel
theorem k181_131 : look (codL 181) 131 = some (.goto (-53), 3, 0, 0, 0) := by decide +kernel
theorem k181_134 : look (codL 181) 134 = some (.iinc 4 1, 3, 0, 0, 0) := by decide +kernel
theorem k181_137 : look (codL 181) 137 = some (.goto (-69), 3, 0, 0, 0) := by decide +kernel
theorem k181_140 : look (codL 181) 140 = some (.return_, 1, 0, 0, 0) := by decide +kernel
theorem k182_0 : look (codL 182) 0 = some (.aload_n 0, 1, 0, 0, 0) := by decide +kernel
theorem k182_1 : look (codL 182) 1 = some (.iload_n 1, 1, 0, 0, 0) := by decide +kernel
theorem k182_2 : look (codL 182) 2 = some (.iload_n 2, 1, 0, 0, 0) := by decide +kernel
theorem k182_3 : look (codL 182) 3 = some (.invokevirtual 206, 3, 181, 3, 0) := by decide +kernel
theorem k182_6 : look (codL 182) 6 = some (.iconst 0, 1, 0, 0, 0) := by decide +kernel
theorem k182_7 : look (codL 182) 7 = some (.istore_n 3, 1, 0, 0, 0) := by decide +kernel
theorem k182_8 : look (codL 182) 8 = some (.iconst 0, 1, 0, 0, 0) := by decide +kernel
theorem k182_9 : look (codL 182) 9 = some (.istore 4, 2, 0, 0, 0) := by decide +kernel
theorem k182_11 : look (codL 182) 11 = some (.iload 4, 2, 0, 0, 0) := by decide +kernel
theorem k182_13 : look (codL 182) 13 = some (.aload_n 0, 1, 0, 0, 0) := by decide +kernel
theorem k182_14 : look (codL 182) 14 = some (.getfield 166, 3, 10, 10, 0) := by decide +kernel
theorem k182_17 : look (codL 182) 17 = some (.if_icmp .ge 50, 3, 0, 0, 0) := by decide +kernel
theorem k182_20 : look (codL 182) 20 = some (.aload_n 0, 1, 0, 0, 0) := by decide +kernel
theorem k182_21 : look (codL 182) 21 = some (.getfield 34, 3, 10, 12, 0) := by decide +kernel
theorem k182_24 : look (codL 182) 24 = some (.iload 4, 2, 0, 0, 0) := by decide +kernel
theorem k182_26 : look (codL 182) 26 = some (.iaload, 1, 0, 0, 0) := by decide +kernel
theorem k182_27 : look (codL 182) 27 = some (.invokestatic 71, 3, 137, 1, 0) := by decide +kernel
theorem k182_30 : look (codL 182) 30 = some (.istore 5, 2, 0, 0, 0) := by decide +kernel
theorem k182_32 : look (codL 182) 32 = some (.iload_n 3, 1, 0, 0, 0) := by decide +kernel
theorem k182_33 : look (codL 182) 33 = some (.aload_n 0, 1, 0, 0, 0) := by decide +kernel
theorem k182_34 : look (codL 182) 34 = some (.getfield 31, 3, 10, 11, 0) := by decide +kernel
theorem k182_37 : look (codL 182) 37 = some (.iload 4, 2, 0, 0, 0) := by decide +kernel
theorem k182_39 : look (codL 182) 39 = some (.iaload, 1, 0, 0, 0) := by decide +kernel
theorem k182_40 : look (codL 182) 40 = some (.iconst 1, 1, 0, 0, 0) := by decide +kernel
theorem k182_41 : look (codL 182) 41 = some (.if_icmp .ne 12, 3, 0, 0, 0) := by decide +kernel
theorem k182_44 : look (codL 182) 44 = some (.iload_n 2, 1, 0, 0, 0) := by decide +kernel
theorem k182_45 : look (codL 182) 45 = some (.iload 5, 2, 0, 0, 0) := by decide +kernel
theorem k182_47 : look (codL 182) 47 = some (.invokestatic 182, 3, 171, 2, 0) := by decide +kernel
theorem k182_50 : look (codL 182) 50 = some (.goto 9, 3, 0, 0, 0) := by decide +kernel
theorem k182_53 : look (codL 182) 53 = some (.iload_n 2, 1, 0, 0, 0) := by decide +kernel
theorem k182_54 : look (codL 182) 54 = some (.iload 5, 2, 0, 0, 0) := by decide +kernel
theorem k182_56 : look (codL 182) 56 = some (.invokestatic 185, 3, 170, 2, 0) := by decide +kernel
theorem k182_59 : look (codL 182) 59 = some (.iadd, 1, 0, 0, 0) := by decide +kernel
theorem k182_60 : look (codL 182) 60 = some (.istore_n 3, 1, 0, 0, 0) := by decide +kernel
theorem k182_61 : look (codL 182) 61 = some (.iinc 4 1, 3, 0, 0, 0) := by decide +kernel
theorem k182_64 : look (codL 182) 64 = some (.goto (-53), 3, 0, 0, 0) := by decide +kernel
theorem k182_67 : look (codL 182) 67 = some (.iload_n 3, 1, 0, 0, 0) := by decide +kernel
theorem k182_68 : look (codL 182) 68 = some (.ireturn, 1, 0, 0, 0) := by decide +kernel
theorem k183_0 : look (codL 183) 0 = some (.iconst 0, 1, 0, 0, 0) := by decide +kernel
theorem k183_1 : look (codL 183) 1 = some (.istore_n 2, 1, 0, 0, 0) := by decide +kernel
theorem k183_2 : look (codL 183) 2 = some (.iconst 0, 1, 0, 0, 0) := by decide +kernel
theorem k183_3 : look (codL 183) 3 = some (.istore_n 3, 1, 0, 0, 0) := by decide +kernel
theorem k183_4 : look (codL 183) 4 = some (.iload_n 3, 1, 0, 0, 0) := by decide +kernel
theorem k183_5 : look (codL 183) 5 = some (.aload_n 0, 1, 0, 0, 0) := by decide +kernel
theorem k183_6 : look (codL 183) 6 = some (.getfield 166, 3, 10, 10, 0) := by decide +kernel
theorem k183_9 : look (codL 183) 9 = some (.if_icmp .ge 67, 3, 0, 0, 0) := by decide +kernel
theorem k183_12 : look (codL 183) 12 = some (.iload_n 1, 1, 0, 0, 0) := by decide +kernel
theorem k183_13 : look (codL 183) 13 = some (.ifCond .eq 37, 3, 0, 0, 0) := by decide +kernel
theorem k183_16 : look (codL 183) 16 = some (.iload_n 1, 1, 0, 0, 0) := by decide +kernel
theorem k183_17 : look (codL 183) 17 = some (.iconst 4, 1, 0, 0, 0) := by decide +kernel
theorem k183_18 : look (codL 183) 18 = some (.if_icmp .ne 15, 3, 0, 0, 0) := by decide +kernel
theorem k183_21 : look (codL 183) 21 = some (.aload_n 0, 1, 0, 0, 0) := by decide +kernel
theorem k183_22 : look (codL 183) 22 = some (.getfield 34, 3, 10, 12, 0) := by decide +kernel
theorem k183_25 : look (codL 183) 25 = some (.iload_n 3, 1, 0, 0, 0) := by decide +kernel
theorem k183_26 : look (codL 183) 26 = some (.iaload, 1, 0, 0, 0) := by decide +kernel
theorem k183_27 : look (codL 183) 27 = some (.sipush 320, 3, 0, 0, 0) := by decide +kernel
theorem k183_30 : look (codL 183) 30 = some (.if_icmp .ge 20, 3, 0, 0, 0) := by decide +kernel
theorem k183_33 : look (codL 183) 33 = some (.iload_n 1, 1, 0, 0, 0) := by decide +kernel
theorem k183_34 : look (codL 183) 34 = some (.iconst 4, 1, 0, 0, 0) := by decide +kernel
theorem k183_35 : look (codL 183) 35 = some (.if_icmp .ge 19, 3, 0, 0, 0) := by decide +kernel
theorem k183_38 : look (codL 183) 38 = some (.iload_n 1, 1, 0, 0, 0) := by decide +kernel
theorem k183_39 : look (codL 183) 39 = some (.iconst 1, 1, 0, 0, 0) := by decide +kernel
theorem k183_40 : look (codL 183) 40 = some (.isub, 1, 0, 0, 0) := by decide +kernel
theorem k183_41 : look (codL 183) 41 = some (.aload_n 0, 1, 0, 0, 0) := by decide +kernel
theorem k183_42 : look (codL 183) 42 = some (.getfield 31, 3, 10, 11, 0) := by decide +kernel
theorem k183_45 : look (codL 183) 45 = some (.iload_n 3, 1, 0, 0, 0) := by decide +kernel
theorem k183_46 : look (codL 183) 46 = some (.iaload, 1, 0, 0, 0) := by decide +kernel
theorem k183_47 : look (codL 183) 47 = some (.if_icmp .ne 7, 3, 0, 0, 0) := by decide +kernel
theorem k183_50 : look (codL 183) 50 = some (.iconst 1, 1, 0, 0, 0) := by decide +kernel
theorem k183_51 : look (codL 183) 51 = some (.goto 4, 3, 0, 0, 0) := by decide +kernel
theorem k183_54 : look (codL 183) 54 = some (.iconst 0, 1, 0, 0, 0) := by decide +kernel
theorem k183_55 : look (codL 183) 55 = some (.istore 4, 2, 0, 0, 0) := by decide +kernel
theorem k183_57 : look (codL 183) 57 = some (.iload_n 2, 1, 0, 0, 0) := by decide +kernel
theorem k183_58 : look (codL 183) 58 = some (.iload 4, 2, 0, 0, 0) := by decide +kernel
theorem k183_60 : look (codL 183) 60 = some (.ifCond .eq 7, 3, 0, 0, 0) := by decide +kernel
theorem k183_63 : look (codL 183) 63 = some (.iconst 1, 1, 0, 0, 0) := by decide +kernel
theorem k183_64 : look (codL 183) 64 = some (.goto 4, 3, 0, 0, 0) := by decide +kernel
theorem k183_67 : look (codL 183) 67 = some (.iconst 0, 1, 0, 0, 0) := by decide +kernel
theorem k183_68 : look (codL 183) 68 = some (.iadd, 1, 0, 0, 0) := by decide +kernel
theorem k183_69 : look (codL 183) 69 = some (.istore_n 2, 1, 0, 0, 0) := by decide +kernel
theorem k183_70 : look (codL 183) 70 = some (.iinc 3 1, 3, 0, 0, 0) := by decide +kernel
theorem k183_73 : look (codL 183) 73 = some (.goto (-69), 3, 0, 0, 0) := by decide +kernel
theorem k183_76 : look (codL 183) 76 = some (.iload_n 2, 1, 0, 0, 0) := by decide +kernel
theorem k183_77 : look (codL 183) 77 = some (.ireturn, 1, 0, 0, 0) := by decide +kernel
theorem k184_0 : look (codL 184) 0 = some (.aload_n 0, 1, 0, 0, 0) := by decide +kernel
theorem k184_1 : look (codL 184) 1 = some (.iload_n 1, 1, 0, 0, 0) := by decide +kernel
theorem k184_2 : look (codL 184) 2 = some (.invokevirtual 130, 3, 144, 2, 0) := by decide +kernel
theorem k184_5 : look (codL 184) 5 = some (.ifCond .eq 12, 3, 0, 0, 0) := by decide +kernel
theorem k184_8 : look (codL 184) 8 = some (.iload_n 2, 1, 0, 0, 0) := by decide +kernel
theorem k184_9 : look (codL 184) 9 = some (.iconst 0, 1, 0, 0, 0) := by decide +kernel
theorem k184_10 : look (codL 184) 10 = some (.iconst 4, 1, 0, 0, 0) := by decide +kernel
theorem k184_11 : look (codL 184) 11 = some (.invokestatic 90, 3, 136, 3, 0) := by decide +kernel
theorem k184_14 : look (codL 184) 14 = some (.ifCond .ne 8, 3, 0, 0, 0) := by decide +kernel
theorem k184_17 : look (codL 184) 17 = some (.aload_n 0, 1, 0, 0, 0) := by decide +kernel
theorem k184_18 : look (codL 184) 18 = some (.invokevirtual 110, 3, 133, 1, 0) := by decide +kernel
theorem k184_21 : look (codL 184) 21 = some (.ireturn, 1, 0, 0, 0) := by decide +kernel
theorem k184_22 : look (codL 184) 22 = some (.aload_n 0, 1, 0, 0, 0) := by decide +kernel
theorem k184_23 : look (codL 184) 23 = some (.iload_n 1, 1, 0, 0, 0) := by decide +kernel
theorem k184_24 : look (codL 184) 24 = some (.invokevirtual 160, 3, 165, 2, 0) := by decide +kernel
theorem k184_27 : look (codL 184) 27 = some (.ifCond .ne 8, 3, 0, 0, 0) := by decide +kernel
theorem k184_30 : look (codL 184) 30 = some (.aload_n 0, 1, 0, 0, 0) := by decide +kernel
theorem k184_31 : look (codL 184) 31 = some (.invokevirtual 116, 3, 134, 1, 0) := by decide +kernel
theorem k184_34 : look (codL 184) 34 = some (.ireturn, 1, 0, 0, 0) := by decide +kernel
theorem k184_35 : look (codL 184) 35 = some (.aload_n 0, 1, 0, 0, 0) := by decide +kernel
theorem k184_36 : look (codL 184) 36 = some (.iload_n 1, 1, 0, 0, 0) := by decide +kernel
theorem k184_37 : look (codL 184) 37 = some (.aload_n 0, 1, 0, 0, 0) := by decide +kernel
theorem k184_38 : look (codL 184) 38 = some (.getfield 142, 3, 10, 3, 0) := by decide +kernel
theorem k184_41 : look (codL 184) 41 = some (.invokevirtual 206, 3, 181, 3, 0) := by decide +kernel
theorem k184_44 : look (codL 184) 44 = some (.aload_n 0, 1, 0, 0, 0) := by decide +kernel
theorem k184_45 : look (codL 184) 45 = some (.iload_n 2, 1, 0, 0, 0) := by decide +kernel
theorem k184_46 : look (codL 184) 46 = some (.invokevirtual 209, 3, 183, 2, 0) := by decide +kernel
theorem k184_49 : look (codL 184) 49 = some (.ireturn, 1, 0, 0, 0) := by decide +kernel
theorem k185_0 : look (codL 185) 0 = some (.aload_n 0, 1, 0, 0, 0) := by decide +kernel
theorem k185_1 : look (codL 185) 1 = some (.iload_n 1, 1, 0, 0, 0) := by decide +kernel
theorem k185_2 : look (codL 185) 2 = some (.invokevirtual 130, 3, 144, 2, 0) := by decide +kernel
theorem k185_5 : look (codL 185) 5 = some (.ifCond .eq 16, 3, 0, 0, 0) := by decide +kernel
theorem k185_8 : look (codL 185) 8 = some (.iload_n 2, 1, 0, 0, 0) := by decide +kernel
theorem k185_9 : look (codL 185) 9 = some (.ifCond .lt 12, 3, 0, 0, 0) := by decide +kernel
theorem k185_12 : look (codL 185) 12 = some (.iload_n 3, 1, 0, 0, 0) := by decide +kernel
theorem k185_13 : look (codL 185) 13 = some (.iconst 0, 1, 0, 0, 0) := by decide +kernel
theorem k185_14 : look (codL 185) 14 = some (.iconst 2, 1, 0, 0, 0) := by decide +kernel
theorem k185_15 : look (codL 185) 15 = some (.invokestatic 90, 3, 136, 3, 0) := by decide +kernel
theorem k185_18 : look (codL 185) 18 = some (.ifCond .ne 8, 3, 0, 0, 0) := by decide +kernel
theorem k185_21 : look (codL 185) 21 = some (.aload_n 0, 1, 0, 0, 0) := by decide +kernel
theorem k185_22 : look (codL 185) 22 = some (.invokevirtual 110, 3, 133, 1, 0) := by decide +kernel
theorem k185_25 : look (codL 185) 25 = some (.ireturn, 1, 0, 0, 0) := by decide +kernel
theorem k185_26 : look (codL 185) 26 = some (.aload_n 0, 1, 0, 0, 0) := by decide +kernel
theorem k185_27 : look (codL 185) 27 = some (.iload_n 1, 1, 0, 0, 0) := by decide +kernel
theorem k185_28 : look (codL 185) 28 = some (.invokevirtual 160, 3, 165, 2, 0) := by decide +kernel
theorem k185_31 : look (codL 185) 31 = some (.ifCond .ne 8, 3, 0, 0, 0) := by decide +kernel
theorem k185_34 : look (codL 185) 34 = some (.aload_n 0, 1, 0, 0, 0) := by decide +kernel
theorem k185_35 : look (codL 185) 35 = some (.invokevirtual 116, 3, 134, 1, 0) := by decide +kernel
theorem k185_38 : look (codL 185) 38 = some (.ireturn, 1, 0, 0, 0) := by decide +kernel
theorem k185_39 : look (codL 185) 39 = some (.aload_n 0, 1, 0, 0, 0) := by decide +kernel
theorem k185_40 : look (codL 185) 40 = some (.iload_n 1, 1, 0, 0, 0) := by decide +kernel
theorem k185_41 : look (codL 185) 41 = some (.aload_n 0, 1, 0, 0, 0) := by decide +kernel
theorem k185_42 : look (codL 185) 42 = some (.getfield 142, 3, 10, 3, 0) := by decide +kernel
theorem k185_45 : look (codL 185) 45 = some (.invokevirtual 206, 3, 181, 3, 0) := by decide +kernel
theorem k185_48 : look (codL 185) 48 = some (.iload_n 2, 1, 0, 0, 0) := by decide +kernel
theorem k185_49 : look (codL 185) 49 = some (.aload_n 0, 1, 0, 0, 0) := by decide +kernel
theorem k185_50 : look (codL 185) 50 = some (.getfield 166, 3, 10, 10, 0) := by decide +kernel
theorem k185_53 : look (codL 185) 53 = some (.if_icmp .lt 7, 3, 0, 0, 0) := by decide +kernel
theorem k185_56 : look (codL 185) 56 = some (.sipush (-201), 3, 0, 0, 0) := by decide +kernel
theorem k185_59 : look (codL 185) 59 = some (.ireturn, 1, 0, 0, 0) := by decide +kernel
theorem k185_60 : look (codL 185) 60 = some (.iload_n 3, 1, 0, 0, 0) := by decide +kernel
theorem k185_61 : look (codL 185) 61 = some (.ifCond .ne 12, 3, 0, 0, 0) := by decide +kernel
theorem k185_64 : look (codL 185) 64 = some (.aload_n 0, 1, 0, 0, 0) := by decide +kernel
theorem k185_65 : look (codL 185) 65 = some (.getfield 31, 3, 10, 11, 0) := by decide +kernel
theorem k185_68 : look (codL 185) 68 = some (.iload_n 2, 1, 0, 0, 0) := by decide +kernel
theorem k185_69 : look (codL 185) 69 = some (.iaload, 1, 0, 0, 0) := by decide +kernel
theorem k185_70 : look (codL 185) 70 = some (.goto 23, 3, 0, 0, 0) := by decide +kernel
theorem k185_73 : look (codL 185) 73 = some (.iload_n 3, 1, 0, 0, 0) := by decide +kernel
theorem k185_74 : look (codL 185) 74 = some (.iconst 1, 1, 0, 0, 0) := by decide +kernel
theorem k185_75 : look (codL 185) 75 = some (.if_icmp .ne 12, 3, 0, 0, 0) := by decide +kernel
theorem k185_78 : look (codL 185) 78 = some (.aload_n 0, 1, 0, 0, 0) := by decide +kernel
theorem k185_79 : look (codL 185) 79 = some (.getfield 34, 3, 10, 12, 0) := by decide +kernel
theorem k185_82 : look (codL 185) 82 = some (.iload_n 2, 1, 0, 0, 0) := by decide +kernel
theorem k185_83 : look (codL 185) 83 = some (.iaload, 1, 0, 0, 0) := by decide +kernel
theorem k185_84 : look (codL 185) 84 = some (.goto 9, 3, 0, 0, 0) := by decide +kernel
theorem k185_87 : look (codL 185) 87 = some (.aload_n 0, 1, 0, 0, 0) := by decide +kernel
theorem k185_88 : look (codL 185) 88 = some (.getfield 37, 3, 10, 13, 0) := by decide +kernel
theorem k185_91 : look (codL 185) 91 = some (.iload_n 2, 1, 0, 0, 0) := by decide +kernel
theorem k185_92 : look (codL 185) 92 = some (.iaload, 1, 0, 0, 0) := by decide +kernel
theorem k185_93 : look (codL 185) 93 = some (.ireturn, 1, 0, 0, 0) := by decide +kernel
theorem k186_0 : look (codL 186) 0 = some (.aload_n 0, 1, 0, 0, 0) := by decide +kernel
theorem k186_1 : look (codL 186) 1 = some (.iload_n 1, 1, 0, 0, 0) := by decide +kernel
theorem k186_2 : look (codL 186) 2 = some (.invokevirtual 130, 3, 144, 2, 0) := by decide +kernel
theorem k186_5 : look (codL 186) 5 = some (.ifCond .ne 8, 3, 0, 0, 0) := by decide +kernel
theorem k186_8 : look (codL 186) 8 = some (.aload_n 0, 1, 0, 0, 0) := by decide +kernel
theorem k186_9 : look (codL 186) 9 = some (.invokevirtual 110, 3, 133, 1, 0) := by decide +kernel
theorem k186_12 : look (codL 186) 12 = some (.ireturn, 1, 0, 0, 0) := by decide +kernel
theorem k186_13 : look (codL 186) 13 = some (.aload_n 0, 1, 0, 0, 0) := by decide +kernel
theorem k186_14 : look (codL 186) 14 = some (.iload_n 1, 1, 0, 0, 0) := by decide +kernel
theorem k186_15 : look (codL 186) 15 = some (.invokevirtual 160, 3, 165, 2, 0) := by decide +kernel
theorem k186_18 : look (codL 186) 18 = some (.ifCond .eq 15, 3, 0, 0, 0) := by decide +kernel
theorem k186_21 : look (codL 186) 21 = some (.aload_n 0, 1, 0, 0, 0) := by decide +kernel
theorem k186_22 : look (codL 186) 22 = some (.iload_n 1, 1, 0, 0, 0) := by decide +kernel
theorem k186_23 : look (codL 186) 23 = some (.aload_n 0, 1, 0, 0, 0) := by decide +kernel
theorem k186_24 : look (codL 186) 24 = some (.getfield 142, 3, 10, 3, 0) := by decide +kernel
theorem k186_27 : look (codL 186) 27 = some (.invokevirtual 212, 3, 182, 3, 0) := by decide +kernel
theorem k186_30 : look (codL 186) 30 = some (.goto 7, 3, 0, 0, 0) := by decide +kernel
theorem k186_33 : look (codL 186) 33 = some (.aload_n 0, 1, 0, 0, 0) := by decide +kernel
theorem k186_34 : look (codL 186) 34 = some (.invokevirtual 116, 3, 134, 1, 0) := by decide +kernel
theorem k186_37 : look (codL 186) 37 = some (.ireturn, 1, 0, 0, 0) := by decide +kernel
theorem k187_0 : look (codL 187) 0 = some (.iconst 0, 1, 0, 0, 0) := by decide +kernel
theorem k187_1 : look (codL 187) 1 = some (.istore_n 3, 1, 0, 0, 0) := by decide +kernel
theorem k187_2 : look (codL 187) 2 = some (.iconst 0, 1, 0, 0, 0) := by decide +kernel
theorem k187_3 : look (codL 187) 3 = some (.istore 4, 2, 0, 0, 0) := by decide +kernel
theorem k187_5 : look (codL 187) 5 = some (.iload 4, 2, 0, 0, 0) := by decide +kernel
theorem k187_7 : look (codL 187) 7 = some (.aload_n 0, 1, 0, 0, 0) := by decide +kernel
theorem k187_8 : look (codL 187) 8 = some (.iload_n 1, 1, 0, 0, 0) := by decide +kernel
theorem k187_9 : look (codL 187) 9 = some (.invokevirtual 133, 3, 146, 2, 0) := by decide +kernel
theorem k187_12 : look (codL 187) 12 = some (.if_icmp .ge 38, 3, 0, 0, 0) := by decide +kernel
theorem k187_15 : look (codL 187) 15 = some (.iload_n 3, 1, 0, 0, 0) := by decide +kernel
theorem k187_16 : look (codL 187) 16 = some (.aload_n 0, 1, 0, 0, 0) := by decide +kernel
theorem k187_17 : look (codL 187) 17 = some (.getfield 40, 3, 10, 14, 0) := by decide +kernel
theorem k187_20 : look (codL 187) 20 = some (.iload 4, 2, 0, 0, 0) := by decide +kernel
theorem k187_22 : look (codL 187) 22 = some (.baload, 1, 0, 0, 0) := by decide +kernel
theorem k187_23 : look (codL 187) 23 = some (.ifCond .eq 18, 3, 0, 0, 0) := by decide +kernel
theorem k187_26 : look (codL 187) 26 = some (.aload_n 0, 1, 0, 0, 0) := by decide +kernel
theorem k187_27 : look (codL 187) 27 = some (.getfield 44, 3, 10, 15, 0) := by decide +kernel
theorem k187_30 : look (codL 187) 30 = some (.iload 4, 2, 0, 0, 0) := by decide +kernel
theorem k187_32 : look (codL 187) 32 = some (.iaload, 1, 0, 0, 0) := by decide +kernel
theorem k187_33 : look (codL 187) 33 = some (.iload_n 2, 1, 0, 0, 0) := by decide +kernel
theorem k187_34 : look (codL 187) 34 = some (.if_icmp .ne 7, 3, 0, 0, 0) := by decide +kernel
theorem k187_37 : look (codL 187) 37 = some (.iconst 1, 1, 0, 0, 0) := by decide +kernel
theorem k187_38 : look (codL 187) 38 = some (.goto 4, 3, 0, 0, 0) := by decide +kernel
theorem k187_41 : look (codL 187) 41 = some (.iconst 0, 1, 0, 0, 0) := by decide +kernel
theorem k187_42 : look (codL 187) 42 = some (.iadd, 1, 0, 0, 0) := by decide +kernel
theorem k187_43 : look (codL 187) 43 = some (.istore_n 3, 1, 0, 0, 0) := by decide +kernel
theorem k187_44 : look (codL 187) 44 = some (.iinc 4 1, 3, 0, 0, 0) := by decide +kernel
theorem k187_47 : look (codL 187) 47 = some (.goto (-42), 3, 0, 0, 0) := by decide +kernel
theorem k187_50 : look (codL 187) 50 = some (.iload_n 3, 1, 0, 0, 0) := by decide +kernel
theorem k187_51 : look (codL 187) 51 = some (.ireturn, 1, 0, 0, 0) := by decide +kernel
theorem k188_0 : look (codL 188) 0 = some (.iload_n 2, 1, 0, 0, 0) := by decide +kernel
theorem k188_1 : look (codL 188) 1 = some (.istore_n 3, 1, 0, 0, 0) := by decide +kernel
theorem k188_2 : look (codL 188) 2 = some (.iconst 0, 1, 0, 0, 0) := by decide +kernel
theorem k188_3 : look (codL 188) 3 = some (.istore 4, 2, 0, 0, 0) := by decide +kernel
theorem k188_5 : look (codL 188) 5 = some (.iconst 1, 1, 0, 0, 0) := by decide +kernel
theorem k188_6 : look (codL 188) 6 = some (.istore 5, 2, 0, 0, 0) := by decide +kernel
theorem k188_8 : look (codL 188) 8 = some (.iload 5, 2, 0, 0, 0) := by decide +kernel
theorem k188_10 : look (codL 188) 10 = some (.ifCond .eq 108, 3, 0, 0, 0) := by decide +kernel
theorem k188_13 : look (codL 188) 13 = some (.iload 4, 2, 0, 0, 0) := by decide +kernel
theorem k188_15 : look (codL 188) 15 = some (.ifCond .eq 8, 3, 0, 0, 0) := by decide +kernel
theorem k188_18 : look (codL 188) 18 = some (.iload_n 3, 1, 0, 0, 0) := by decide +kernel
theorem k188_19 : look (codL 188) 19 = some (.iload_n 2, 1, 0, 0, 0) := by decide +kernel
theorem k188_20 : look (codL 188) 20 = some (.if_icmp .eq 98, 3, 0, 0, 0) := by decide +kernel
theorem k188_23 : look (codL 188) 23 = some (.iload 4, 2, 0, 0, 0) := by decide +kernel
theorem k188_25 : look (codL 188) 25 = some (.bipush 6, 2, 0, 0, 0) := by decide +kernel
theorem k188_27 : look (codL 188) 27 = some (.if_icmp .gt 91, 3, 0, 0, 0) := by decide +kernel
theorem k188_30 : look (codL 188) 30 = some (.aload_n 0, 1, 0, 0, 0) := by decide +kernel
theorem k188_31 : look (codL 188) 31 = some (.getfield 40, 3, 10, 14, 0) := by decide +kernel
theorem k188_34 : look (codL 188) 34 = some (.iload_n 3, 1, 0, 0, 0) := by decide +kernel
theorem k188_35 : look (codL 188) 35 = some (.baload, 1, 0, 0, 0) := by decide +kernel
theorem k188_36 : look (codL 188) 36 = some (.ifCond .eq 22, 3, 0, 0, 0) := by decide +kernel
theorem k188_39 : look (codL 188) 39 = some (.aload_n 0, 1, 0, 0, 0) := by decide +kernel
theorem k188_40 : look (codL 188) 40 = some (.iload_n 1, 1, 0, 0, 0) := by decide +kernel
theorem k188_41 : look (codL 188) 41 = some (.aload_n 0, 1, 0, 0, 0) := by decide +kernel
theorem k188_42 : look (codL 188) 42 = some (.iload_n 1, 1, 0, 0, 0) := by decide +kernel
theorem k188_43 : look (codL 188) 43 = some (.iload_n 3, 1, 0, 0, 0) := by decide +kernel
theorem k188_44 : look (codL 188) 44 = some (.invokevirtual 127, 3, 145, 3, 0) := by decide +kernel
theorem k188_47 : look (codL 188) 47 = some (.invokevirtual 215, 3, 187, 3, 0) := by decide +kernel
theorem k188_50 : look (codL 188) 50 = some (.iconst 1, 1, 0, 0, 0) := by decide +kernel
theorem k188_51 : look (codL 188) 51 = some (.if_icmp .ne 7, 3, 0, 0, 0) := by decide +kernel
theorem k188_54 : look (codL 188) 54 = some (.iconst 1, 1, 0, 0, 0) := by decide +kernel
theorem k188_55 : look (codL 188) 55 = some (.goto 4, 3, 0, 0, 0) := by decide +kernel
theorem k188_58 : look (codL 188) 58 = some (.iconst 0, 1, 0, 0, 0) := by decide +kernel
theorem k188_59 : look (codL 188) 59 = some (.istore 5, 2, 0, 0, 0) := by decide +kernel
theorem k188_61 : look (codL 188) 61 = some (.iinc 4 1, 3, 0, 0, 0) := by decide +kernel
theorem k188_64 : look (codL 188) 64 = some (.iload 5, 2, 0, 0, 0) := by decide +kernel
theorem k188_66 : look (codL 188) 66 = some (.ifCond .eq 17, 3, 0, 0, 0) := by decide +kernel
theorem k188_69 : look (codL 188) 69 = some (.aload_n 0, 1, 0, 0, 0) := by decide +kernel
theorem k188_70 : look (codL 188) 70 = some (.iload_n 1, 1, 0, 0, 0) := by decide +kernel
theorem k188_71 : look (codL 188) 71 = some (.aload_n 0, 1, 0, 0, 0) := by decide +kernel
theorem k188_72 : look (codL 188) 72 = some (.getfield 44, 3, 10, 15, 0) := by decide +kernel
theorem k188_75 : look (codL 188) 75 = some (.iload_n 3, 1, 0, 0, 0) := by decide +kernel
theorem k188_76 : look (codL 188) 76 = some (.iaload, 1, 0, 0, 0) := by decide +kernel
theorem k188_77 : look (codL 188) 77 = some (.invokevirtual 179, 3, 176, 3, 0) := by decide +kernel
theorem k188_80 : look (codL 188) 80 = some (.goto 6, 3, 0, 0, 0) := by decide +kernel
theorem k188_83 : look (codL 188) 83 = some (.sipush (-201), 3, 0, 0, 0) := by decide +kernel
theorem k188_86 : look (codL 188) 86 = some (.istore 6, 2, 0, 0, 0) := by decide +kernel
theorem k188_88 : look (codL 188) 88 = some (.iload 6, 2, 0, 0, 0) := by decide +kernel
theorem k188_90 : look (codL 188) 90 = some (.sipush (-201), 3, 0, 0, 0) := by decide +kernel
theorem k188_93 : look (codL 188) 93 = some (.if_icmp .eq 7, 3, 0, 0, 0) := by decide +kernel
theorem k188_96 : look (codL 188) 96 = some (.iconst 1, 1, 0, 0, 0) := by decide +kernel
theorem k188_97 : look (codL 188) 97 = some (.goto 4, 3, 0, 0, 0) := by decide +kernel
theorem k188_100 : look (codL 188) 100 = some (.iconst 0, 1, 0, 0, 0) := by decide +kernel
theorem k188_101 : look (codL 188) 101 = some (.istore 5, 2, 0, 0, 0) := by decide +kernel
theorem k188_103 : look (codL 188) 103 = some (.iload 5, 2, 0, 0, 0) := by decide +kernel
theorem k188_105 : look (codL 188) 105 = some (.ifCond .eq 8, 3, 0, 0, 0) := by decide +kernel
theorem k188_108 : look (codL 188) 108 = some (.iload 6, 2, 0, 0, 0) := by decide +kernel
theorem k188_110 : look (codL 188) 110 = some (.goto 4, 3, 0, 0, 0) := by decide +kernel
theorem k188_113 : look (codL 188) 113 = some (.iload_n 3, 1, 0, 0, 0) := by decide +kernel
theorem k188_114 : look (codL 188) 114 = some (.istore_n 3, 1, 0, 0, 0) := by decide +kernel
theorem k188_115 : look (codL 188) 115 = some (.goto (-107), 3, 0, 0, 0) := by decide +kernel
theorem k188_118 : look (codL 188) 118 = some (.iload 5, 2, 0, 0, 0) := by decide +kernel
theorem k188_120 : look (codL 188) 120 = some (.ifCond .eq 13, 3, 0, 0, 0) := by decide +kernel
theorem k188_123 : look (codL 188) 123 = some (.iload_n 3, 1, 0, 0, 0) := by decide +kernel
theorem k188_124 : look (codL 188) 124 = some (.iload_n 2, 1, 0, 0, 0) := by decide +kernel
theorem k188_125 : look (codL 188) 125 = some (.if_icmp .ne 8, 3, 0, 0, 0) := by decide +kernel
theorem k188_128 : look (codL 188) 128 = some (.iload 4, 2, 0, 0, 0) := by decide +kernel
theorem k188_130 : look (codL 188) 130 = some (.goto 4, 3, 0, 0, 0) := by decide +kernel
theorem k188_133 : look (codL 188) 133 = some (.iconst 0, 1, 0, 0, 0) := by decide +kernel
theorem k188_134 : look (codL 188) 134 = some (.ireturn, 1, 0, 0, 0) := by decide +kernel
theorem k189_0 : look (codL 189) 0 = some (.aload_n 0, 1, 0, 0, 0) := by decide +kernel
theorem k189_1 : look (codL 189) 1 = some (.iload_n 1, 1, 0, 0, 0) := by decide +kernel
theorem k189_2 : look (codL 189) 2 = some (.invokevirtual 130, 3, 144, 2, 0) := by decide +kernel
theorem k189_5 : look (codL 189) 5 = some (.ifCond .eq 12, 3, 0, 0, 0) := by decide +kernel
theorem k189_8 : look (codL 189) 8 = some (.iload_n 2, 1, 0, 0, 0) := by decide +kernel
theorem k189_9 : look (codL 189) 9 = some (.iconst 0, 1, 0, 0, 0) := by decide +kernel
theorem k189_10 : look (codL 189) 10 = some (.iconst 2, 1, 0, 0, 0) := by decide +kernel
theorem k189_11 : look (codL 189) 11 = some (.invokestatic 90, 3, 136, 3, 0) := by decide +kernel
theorem k189_14 : look (codL 189) 14 = some (.ifCond .ne 8, 3, 0, 0, 0) := by decide +kernel
theorem k189_17 : look (codL 189) 17 = some (.aload_n 0, 1, 0, 0, 0) := by decide +kernel
theorem k189_18 : look (codL 189) 18 = some (.invokevirtual 110, 3, 133, 1, 0) := by decide +kernel
theorem k189_21 : look (codL 189) 21 = some (.ireturn, 1, 0, 0, 0) := by decide +kernel
theorem k189_22 : look (codL 189) 22 = some (.aload_n 0, 1, 0, 0, 0) := by decide +kernel
theorem k189_23 : look (codL 189) 23 = some (.iload_n 1, 1, 0, 0, 0) := by decide +kernel
theorem k189_24 : look (codL 189) 24 = some (.invokevirtual 160, 3, 165, 2, 0) := by decide +kernel
theorem k189_27 : look (codL 189) 27 = some (.ifCond .ne 8, 3, 0, 0, 0) := by decide +kernel
theorem k189_30 : look (codL 189) 30 = some (.aload_n 0, 1, 0, 0, 0) := by decide +kernel
theorem k189_31 : look (codL 189) 31 = some (.invokevirtual 116, 3, 134, 1, 0) := by decide +kernel
theorem k189_34 : look (codL 189) 34 = some (.ireturn, 1, 0, 0, 0) := by decide +kernel
theorem k189_35 : look (codL 189) 35 = some (.aload_n 0, 1, 0, 0, 0) := by decide +kernel
theorem k189_36 : look (codL 189) 36 = some (.iload_n 1, 1, 0, 0, 0) := by decide +kernel
theorem k189_37 : look (codL 189) 37 = some (.invokevirtual 188, 3, 180, 2, 0) := by decide +kernel
theorem k189_40 : look (codL 189) 40 = some (.iconst 0, 1, 0, 0, 0) := by decide +kernel
theorem k189_41 : look (codL 189) 41 = some (.istore_n 3, 1, 0, 0, 0) := by decide +kernel
theorem k189_42 : look (codL 189) 42 = some (.iconst 0, 1, 0, 0, 0) := by decide +kernel
theorem k189_43 : look (codL 189) 43 = some (.istore 4, 2, 0, 0, 0) := by decide +kernel
theorem k189_45 : look (codL 189) 45 = some (.iconst 0, 1, 0, 0, 0) := by decide +kernel
theorem k189_46 : look (codL 189) 46 = some (.istore 5, 2, 0, 0, 0) := by decide +kernel
theorem k189_48 : look (codL 189) 48 = some (.iconst 0, 1, 0, 0, 0) := by decide +kernel
theorem k189_49 : look (codL 189) 49 = some (.istore 6, 2, 0, 0, 0) := by decide +kernel
theorem k189_51 : look (codL 189) 51 = some (.iload 6, 2, 0, 0, 0) := by decide +kernel
theorem k189_53 : look (codL 189) 53 = some (.aload_n 0, 1, 0, 0, 0) := by decide +kernel
theorem k189_54 : look (codL 189) 54 = some (.iload_n 1, 1, 0, 0, 0) := by decide +kernel
theorem k189_55 : look (codL 189) 55 = some (.invokevirtual 133, 3, 146, 2, 0) := by decide +kernel
theorem k189_58 : look (codL 189) 58 = some (.if_icmp .ge 89, 3, 0, 0, 0) := by decide +kernel
theorem k189_61 : look (codL 189) 61 = some (.aload_n 0, 1, 0, 0, 0) := by decide +kernel
theorem k189_62 : look (codL 189) 62 = some (.getfield 40, 3, 10, 14, 0) := by decide +kernel
theorem k189_65 : look (codL 189) 65 = some (.iload 6, 2, 0, 0, 0) := by decide +kernel
theorem k189_67 : look (codL 189) 67 = some (.baload, 1, 0, 0, 0) := by decide +kernel
theorem k189_68 : look (codL 189) 68 = some (.ifCond .eq 13, 3, 0, 0, 0) := by decide +kernel
theorem k189_71 : look (codL 189) 71 = some (.aload_n 0, 1, 0, 0, 0) := by decide +kernel
theorem k189_72 : look (codL 189) 72 = some (.iload_n 1, 1, 0, 0, 0) := by decide +kernel
theorem k189_73 : look (codL 189) 73 = some (.iload 6, 2, 0, 0, 0) := by decide +kernel
theorem k189_75 : look (codL 189) 75 = some (.invokevirtual 218, 3, 188, 3, 0) := by decide +kernel
theorem k189_78 : look (codL 189) 78 = some (.goto 4, 3, 0, 0, 0) := by decide +kernel
theorem k189_81 : look (codL 189) 81 = some (.iconst 0, 1, 0, 0, 0) := by decide +kernel
theorem k189_82 : look (codL 189) 82 = some (.istore 7, 2, 0, 0, 0) := by decide +kernel
theorem k189_84 : look (codL 189) 84 = some (.iload 4, 2, 0, 0, 0) := by decide +kernel
theorem k189_86 : look (codL 189) 86 = some (.aload_n 0, 1, 0, 0, 0) := by decide +kernel
theorem k189_87 : look (codL 189) 87 = some (.getfield 40, 3, 10, 14, 0) := by decide +kernel
theorem k189_90 : look (codL 189) 90 = some (.iload 6, 2, 0, 0, 0) := by decide +kernel
theorem k189_92 : look (codL 189) 92 = some (.baload, 1, 0, 0, 0) := by decide +kernel
theorem k189_93 : look (codL 189) 93 = some (.ifCond .eq 12, 3, 0, 0, 0) := by decide +kernel
theorem k189_96 : look (codL 189) 96 = some (.iload 7, 2, 0, 0, 0) := by decide +kernel
theorem k189_98 : look (codL 189) 98 = some (.ifCond .ne 7, 3, 0, 0, 0) := by decide +kernel
theorem k189_101 : look (codL 189) 101 = some (.iconst 1, 1, 0, 0, 0) := by decide +kernel
theorem k189_102 : look (codL 189) 102 = some (.goto 4, 3, 0, 0, 0) := by decide +kernel
theorem k189_105 : look (codL 189) 105 = some (.iconst 0, 1, 0, 0, 0) := by decide +kernel
theorem k189_106 : look (codL 189) 106 = some (.iadd, 1, 0, 0, 0) := by decide +kernel
theorem k189_107 : look (codL 189) 107 = some (.istore 4, 2, 0, 0, 0) := by decide +kernel
theorem k189_109 : look (codL 189) 109 = some (.iload 7, 2, 0, 0, 0) := by decide +kernel
theorem k189_111 : look (codL 189) 111 = some (.iload_n 3, 1, 0, 0, 0) := by decide +kernel
theorem k189_112 : look (codL 189) 112 = some (.if_icmp .le 8, 3, 0, 0, 0) := by decide +kernel
theorem k189_115 : look (codL 189) 115 = some (.iload 7, 2, 0, 0, 0) := by decide +kernel
theorem k189_117 : look (codL 189) 117 = some (.goto 4, 3, 0, 0, 0) := by decide +kernel
theorem k189_120 : look (codL 189) 120 = some (.iload_n 3, 1, 0, 0, 0) := by decide +kernel
theorem k189_121 : look (codL 189) 121 = some (.istore_n 3, 1, 0, 0, 0) := by decide +kernel
theorem k189_122 : look (codL 189) 122 = some (.iload 5, 2, 0, 0, 0) := by decide +kernel
theorem k189_124 : look (codL 189) 124 = some (.iload 7, 2, 0, 0, 0) := by decide +kernel
theorem k189_126 : look (codL 189) 126 = some (.ifCond .le 11, 3, 0, 0, 0) := by decide +kernel
theorem k189_129 : look (codL 189) 129 = some (.bipush 60, 2, 0, 0, 0) := by decide +kernel
theorem k189_131 : look (codL 189) 131 = some (.iload 7, 2, 0, 0, 0) := by decide +kernel
theorem k189_133 : look (codL 189) 133 = some (.idiv, 1, 0, 0, 0) := by decide +kernel
theorem k189_134 : look (codL 189) 134 = some (.goto 4, 3, 0, 0, 0) := by decide +kernel
theorem k189_137 : look (codL 189) 137 = some (.iconst 0, 1, 0, 0, 0) := by decide +kernel
theorem k189_138 : look (codL 189) 138 = some (.iadd, 1, 0, 0, 0) := by decide +kernel
theorem k189_139 : look (codL 189) 139 = some (.istore 5, 2, 0, 0, 0) := by decide +kernel
theorem k189_141 : look (codL 189) 141 = some (.iinc 6 1, 3, 0, 0, 0) := by decide +kernel
theorem k189_144 : look (codL 189) 144 = some (.goto (-93), 3, 0, 0, 0) := by decide +kernel
theorem k189_147 : look (codL 189) 147 = some (.iload_n 2, 1, 0, 0, 0) := by decide +kernel
theorem k189_148 : look (codL 189) 148 = some (.ifCond .ne 11, 3, 0, 0, 0) := by decide +kernel
theorem k189_151 : look (codL 189) 151 = some (.iload 5, 2, 0, 0, 0) := by decide +kernel
theorem k189_153 : look (codL 189) 153 = some (.bipush 60, 2, 0, 0, 0) := by decide +kernel
theorem k189_155 : look (codL 189) 155 = some (.idiv, 1, 0, 0, 0) := by decide +kernel
theorem k189_156 : look (codL 189) 156 = some (.goto 14, 3, 0, 0, 0) := by decide +kernel
theorem k189_159 : look (codL 189) 159 = some (.iload_n 2, 1, 0, 0, 0) := by decide +kernel
theorem k189_160 : look (codL 189) 160 = some (.iconst 1, 1, 0, 0, 0) := by decide +kernel
theorem k189_161 : look (codL 189) 161 = some (.if_icmp .ne 7, 3, 0, 0, 0) := by decide +kernel
theorem k189_164 : look (codL 189) 164 = some (.iload_n 3, 1, 0, 0, 0) := by decide +kernel
theorem k189_165 : look (codL 189) 165 = some (.goto 5, 3, 0, 0, 0) := by decide +kernel
theorem k189_168 : look (codL 189) 168 = some (.iload 4, 2, 0, 0, 0) := by decide +kernel
theorem k189_170 : look (codL 189) 170 = some (.ireturn, 1, 0, 0, 0) := by decide +kernel
theorem k190_0 : look (codL 190) 0 = some (.aload_n 0, 1, 0, 0, 0) := by decide +kernel
theorem k190_1 : look (codL 190) 1 = some (.iload_n 1, 1, 0, 0, 0) := by decide +kernel
theorem k190_2 : look (codL 190) 2 = some (.invokevirtual 130, 3, 144, 2, 0) := by decide +kernel
theorem k190_5 : look (codL 190) 5 = some (.ifCond .eq 12, 3, 0, 0, 0) := by decide +kernel
theorem k190_8 : look (codL 190) 8 = some (.iload_n 2, 1, 0, 0, 0) := by decide +kernel
theorem k190_9 : look (codL 190) 9 = some (.iconst 0, 1, 0, 0, 0) := by decide +kernel
theorem k190_10 : look (codL 190) 10 = some (.iconst 1, 1, 0, 0, 0) := by decide +kernel
theorem k190_11 : look (codL 190) 11 = some (.invokestatic 90, 3, 136, 3, 0) := by decide +kernel
theorem k190_14 : look (codL 190) 14 = some (.ifCond .ne 8, 3, 0, 0, 0) := by decide +kernel
theorem k190_17 : look (codL 190) 17 = some (.aload_n 0, 1, 0, 0, 0) := by decide +kernel
theorem k190_18 : look (codL 190) 18 = some (.invokevirtual 110, 3, 133, 1, 0) := by decide +kernel
theorem k190_21 : look (codL 190) 21 = some (.ireturn, 1, 0, 0, 0) := by decide +kernel
theorem k190_22 : look (codL 190) 22 = some (.aload_n 0, 1, 0, 0, 0) := by decide +kernel
theorem k190_23 : look (codL 190) 23 = some (.iload_n 1, 1, 0, 0, 0) := by decide +kernel
theorem k190_24 : look (codL 190) 24 = some (.invokevirtual 160, 3, 165, 2, 0) := by decide +kernel
theorem k190_27 : look (codL 190) 27 = some (.ifCond .ne 8, 3, 0, 0, 0) := by decide +kernel
theorem k190_30 : look (codL 190) 30 = some (.aload_n 0, 1, 0, 0, 0) := by decide +kernel
theorem k190_31 : look (codL 190) 31 = some (.invokevirtual 116, 3, 134, 1, 0) := by decide +kernel
theorem k190_34 : look (codL 190) 34 = some (.ireturn, 1, 0, 0, 0) := by decide +kernel
theorem k190_35 : look (codL 190) 35 = some (.sipush (-201), 3, 0, 0, 0) := by decide +kernel
theorem k190_38 : look (codL 190) 38 = some (.istore_n 3, 1, 0, 0, 0) := by decide +kernel
theorem k190_39 : look (codL 190) 39 = some (.ldc 221, 2, 0, 0, 1048576) := by decide +kernel
theorem k190_41 : look (codL 190) 41 = some (.istore 4, 2, 0, 0, 0) := by decide +kernel
theorem k190_43 : look (codL 190) 43 = some (.iconst 0, 1, 0, 0, 0) := by decide +kernel
theorem k190_44 : look (codL 190) 44 = some (.istore 5, 2, 0, 0, 0) := by decide +kernel
theorem k190_46 : look (codL 190) 46 = some (.iload 5, 2, 0, 0, 0) := by decide +kernel
theorem k190_48 : look (codL 190) 48 = some (.iconst 5, 1, 0, 0, 0) := by decide +kernel
theorem k190_49 : look (codL 190) 49 = some (.if_icmp .ge 48, 3, 0, 0, 0) := by decide +kernel
theorem k190_52 : look (codL 190) 52 = some (.aload_n 0, 1, 0, 0, 0) := by decide +kernel
theorem k190_53 : look (codL 190) 53 = some (.iload_n 1, 1, 0, 0, 0) := by decide +kernel
theorem k190_54 : look (codL 190) 54 = some (.iload 5, 2, 0, 0, 0) := by decide +kernel
theorem k190_56 : look (codL 190) 56 = some (.invokevirtual 212, 3, 182, 3, 0) := by decide +kernel
theorem k190_59 : look (codL 190) 59 = some (.istore 6, 2, 0, 0, 0) := by decide +kernel
theorem k190_61 : look (codL 190) 61 = some (.iload 6, 2, 0, 0, 0) := by decide +kernel
theorem k190_63 : look (codL 190) 63 = some (.iload 4, 2, 0, 0, 0) := by decide +kernel
theorem k190_65 : look (codL 190) 65 = some (.if_icmp .ge 8, 3, 0, 0, 0) := by decide +kernel
theorem k190_68 : look (codL 190) 68 = some (.iload 5, 2, 0, 0, 0) := by decide +kernel
theorem k190_70 : look (codL 190) 70 = some (.goto 4, 3, 0, 0, 0) := by decide +kernel
theorem k190_73 : look (codL 190) 73 = some (.iload_n 3, 1, 0, 0, 0) := by decide +kernel
theorem k190_74 : look (codL 190) 74 = some (.istore_n 3, 1, 0, 0, 0) := by decide +kernel
theorem k190_75 : look (codL 190) 75 = some (.iload 6, 2, 0, 0, 0) := by decide +kernel
theorem k190_77 : look (codL 190) 77 = some (.iload 4, 2, 0, 0, 0) := by decide +kernel
theorem k190_79 : look (codL 190) 79 = some (.if_icmp .ge 8, 3, 0, 0, 0) := by decide +kernel
theorem k190_82 : look (codL 190) 82 = some (.iload 6, 2, 0, 0, 0) := by decide +kernel
theorem k190_84 : look (codL 190) 84 = some (.goto 5, 3, 0, 0, 0) := by decide +kernel
theorem k190_87 : look (codL 190) 87 = some (.iload 4, 2, 0, 0, 0) := by decide +kernel
theorem k190_89 : look (codL 190) 89 = some (.istore 4, 2, 0, 0, 0) := by decide +kernel
theorem k190_91 : look (codL 190) 91 = some (.iinc 5 1, 3, 0, 0, 0) := by decide +kernel
theorem k190_94 : look (codL 190) 94 = some (.goto (-48), 3, 0, 0, 0) := by decide +kernel
theorem k190_97 : look (codL 190) 97 = some (.iload_n 2, 1, 0, 0, 0) := by decide +kernel
theorem k190_98 : look (codL 190) 98 = some (.ifCond .ne 7, 3, 0, 0, 0) := by decide +kernel
theorem k190_101 : look (codL 190) 101 = some (.iload_n 3, 1, 0, 0, 0) := by decide +kernel
theorem k190_102 : look (codL 190) 102 = some (.goto 5, 3, 0, 0, 0) := by decide +kernel
theorem k190_105 : look (codL 190) 105 = some (.iload 4, 2, 0, 0, 0) := by decide +kernel
theorem k190_107 : look (codL 190) 107 = some (.ireturn, 1, 0, 0, 0) := by decide +kernel
theorem k191_0 : look (codL 191) 0 = some (.aload_n 0, 1, 0, 0, 0) := by decide +kernel
theorem k191_1 : look (codL 191) 1 = some (.iload_n 1, 1, 0, 0, 0) := by decide +kernel
theorem k191_2 : look (codL 191) 2 = some (.invokevirtual 130, 3, 144, 2, 0) := by decide +kernel
theorem k191_5 : look (codL 191) 5 = some (.ifCond .eq 10, 3, 0, 0, 0) := by decide +kernel
theorem k191_8 : look (codL 191) 8 = some (.iload_n 2, 1, 0, 0, 0) := by decide +kernel
theorem k191_9 : look (codL 191) 9 = some (.invokestatic 75, 3, 139, 1, 0) := by decide +kernel
theorem k191_12 : look (codL 191) 12 = some (.ifCond .ne 8, 3, 0, 0, 0) := by decide +kernel
theorem k191_15 : look (codL 191) 15 = some (.aload_n 0, 1, 0, 0, 0) := by decide +kernel
theorem k191_16 : look (codL 191) 16 = some (.invokevirtual 110, 3, 133, 1, 0) := by decide +kernel
theorem k191_19 : look (codL 191) 19 = some (.ireturn, 1, 0, 0, 0) := by decide +kernel
theorem k191_20 : look (codL 191) 20 = some (.iconst 0, 1, 0, 0, 0) := by decide +kernel
theorem k191_21 : look (codL 191) 21 = some (.istore_n 3, 1, 0, 0, 0) := by decide +kernel
theorem k191_22 : look (codL 191) 22 = some (.iload_n 3, 1, 0, 0, 0) := by decide +kernel
theorem k191_23 : look (codL 191) 23 = some (.bipush 32, 2, 0, 0, 0) := by decide +kernel
theorem k191_25 : look (codL 191) 25 = some (.if_icmp .ge 104, 3, 0, 0, 0) := by decide +kernel
theorem k191_28 : look (codL 191) 28 = some (.iconst 1, 1, 0, 0, 0) := by decide +kernel
theorem k191_29 : look (codL 191) 29 = some (.istore 4, 2, 0, 0, 0) := by decide +kernel
theorem k191_31 : look (codL 191) 31 = some (.iconst 0, 1, 0, 0, 0) := by decide +kernel
theorem k191_32 : look (codL 191) 32 = some (.istore 5, 2, 0, 0, 0) := by decide +kernel
theorem k191_34 : look (codL 191) 34 = some (.iload 5, 2, 0, 0, 0) := by decide +kernel
theorem k191_36 : look (codL 191) 36 = some (.aload_n 0, 1, 0, 0, 0) := by decide +kernel
theorem k191_37 : look (codL 191) 37 = some (.iload_n 1, 1, 0, 0, 0) := by decide +kernel
theorem k191_38 : look (codL 191) 38 = some (.invokevirtual 133, 3, 146, 2, 0) := by decide +kernel
theorem k191_41 : look (codL 191) 41 = some (.if_icmp .ge 69, 3, 0, 0, 0) := by decide +kernel
theorem k191_44 : look (codL 191) 44 = some (.iload 4, 2, 0, 0, 0) := by decide +kernel
theorem k191_46 : look (codL 191) 46 = some (.ifCond .eq 55, 3, 0, 0, 0) := by decide +kernel
theorem k191_49 : look (codL 191) 49 = some (.aload_n 0, 1, 0, 0, 0) := by decide +kernel
theorem k191_50 : look (codL 191) 50 = some (.iload_n 1, 1, 0, 0, 0) := by decide +kernel
theorem k191_51 : look (codL 191) 51 = some (.iload 5, 2, 0, 0, 0) := by decide +kernel
theorem k191_53 : look (codL 191) 53 = some (.invokevirtual 127, 3, 145, 3, 0) := by decide +kernel
theorem k191_56 : look (codL 191) 56 = some (.bipush 10, 2, 0, 0, 0) := by decide +kernel
theorem k191_58 : look (codL 191) 58 = some (.iload_n 3, 1, 0, 0, 0) := by decide +kernel
theorem k191_59 : look (codL 191) 59 = some (.imul, 1, 0, 0, 0) := by decide +kernel
theorem k191_60 : look (codL 191) 60 = some (.iload_n 2, 1, 0, 0, 0) := by decide +kernel
theorem k191_61 : look (codL 191) 61 = some (.iadd, 1, 0, 0, 0) := by decide +kernel
theorem k191_62 : look (codL 191) 62 = some (.invokestatic 82, 3, 141, 2, 0) := by decide +kernel
theorem k191_65 : look (codL 191) 65 = some (.ifCond .ne 36, 3, 0, 0, 0) := by decide +kernel
theorem k191_68 : look (codL 191) 68 = some (.aload_n 0, 1, 0, 0, 0) := by decide +kernel
theorem k191_69 : look (codL 191) 69 = some (.iload_n 1, 1, 0, 0, 0) := by decide +kernel
theorem k191_70 : look (codL 191) 70 = some (.iload 5, 2, 0, 0, 0) := by decide +kernel
theorem k191_72 : look (codL 191) 72 = some (.invokevirtual 139, 3, 147, 3, 0) := by decide +kernel
theorem k191_75 : look (codL 191) 75 = some (.ifCond .lt 22, 3, 0, 0, 0) := by decide +kernel
theorem k191_78 : look (codL 191) 78 = some (.aload_n 0, 1, 0, 0, 0) := by decide +kernel
theorem k191_79 : look (codL 191) 79 = some (.iload_n 1, 1, 0, 0, 0) := by decide +kernel
theorem k191_80 : look (codL 191) 80 = some (.iload 5, 2, 0, 0, 0) := by decide +kernel
theorem k191_82 : look (codL 191) 82 = some (.invokevirtual 139, 3, 147, 3, 0) := by decide +kernel
theorem k191_85 : look (codL 191) 85 = some (.bipush 10, 2, 0, 0, 0) := by decide +kernel
theorem k191_87 : look (codL 191) 87 = some (.iload_n 3, 1, 0, 0, 0) := by decide +kernel
theorem k191_88 : look (codL 191) 88 = some (.imul, 1, 0, 0, 0) := by decide +kernel
theorem k191_89 : look (codL 191) 89 = some (.iload_n 2, 1, 0, 0, 0) := by decide +kernel
theorem k191_90 : look (codL 191) 90 = some (.iadd, 1, 0, 0, 0) := by decide +kernel
theorem k191_91 : look (codL 191) 91 = some (.invokestatic 82, 3, 141, 2, 0) := by decide +kernel
theorem k191_94 : look (codL 191) 94 = some (.ifCond .ne 7, 3, 0, 0, 0) := by decide +kernel
theorem k191_97 : look (codL 191) 97 = some (.iconst 1, 1, 0, 0, 0) := by decide +kernel
theorem k191_98 : look (codL 191) 98 = some (.goto 4, 3, 0, 0, 0) := by decide +kernel
theorem k191_101 : look (codL 191) 101 = some (.iconst 0, 1, 0, 0, 0) := by decide +kernel
theorem k191_102 : look (codL 191) 102 = some (.istore 4, 2, 0, 0, 0) := by decide +kernel
theorem k191_104 : look (codL 191) 104 = some (.iinc 5 1, 3, 0, 0, 0) := by decide +kernel
theorem k191_107 : look (codL 191) 107 = some (.goto (-73), 3, 0, 0, 0) := by decide +kernel
theorem k191_110 : look (codL 191) 110 = some (.iload 4, 2, 0, 0, 0) := by decide +kernel
theorem k191_112 : look (codL 191) 112 = some (.ifCond .eq 10, 3, 0, 0, 0) := by decide +kernel
theorem k191_115 : look (codL 191) 115 = some (.bipush 10, 2, 0, 0, 0) := by decide +kernel
theorem k191_117 : look (codL 191) 117 = some (.iload_n 3, 1, 0, 0, 0) := by decide +kernel
theorem k191_118 : look (codL 191) 118 = some (.imul, 1, 0, 0, 0) := by decide +kernel
theorem k191_119 : look (codL 191) 119 = some (.iload_n 2, 1, 0, 0, 0) := by decide +kernel
theorem k191_120 : look (codL 191) 120 = some (.iadd, 1, 0, 0, 0) := by decide +kernel
theorem k191_121 : look (codL 191) 121 = some (.ireturn, 1, 0, 0, 0) := by decide +kernel
theorem k191_122 : look (codL 191) 122 = some (.iload_n 3, 1, 0, 0, 0) := by decide +kernel
theorem k191_123 : look (codL 191) 123 = some (.iload_n 2, 1, 0, 0, 0) := by decide +kernel
theorem k191_124 : look (codL 191) 124 = some (.iadd, 1, 0, 0, 0) := by decide +kernel
theorem k191_125 : look (codL 191) 125 = some (.istore_n 3, 1, 0, 0, 0) := by decide +kernel
theorem k191_126 : look (codL 191) 126 = some (.goto (-104), 3, 0, 0, 0) := by decide +kernel
theorem k191_129 : look (codL 191) 129 = some (.sipush (-201), 3, 0, 0, 0) := by decide +kernel
theorem k191_132 : look (codL 191) 132 = some (.ireturn, 1, 0, 0, 0) := by decide +kernel
theorem k192_0 : look (codL 192) 0 = some (.aload_n 0, 1, 0, 0, 0) := by decide +kernel
theorem k192_1 : look (codL 192) 1 = some (.aload_n 0, 1, 0, 0, 0) := by decide +kernel
theorem k192_2 : look (codL 192) 2 = some (.getfield 166, 3, 10, 10, 0) := by decide +kernel
theorem k192_5 : look (codL 192) 5 = some (.putfield 222, 3, 10, 16, 0) := by decide +kernel
theorem k192_8 : look (codL 192) 8 = some (.iconst 0, 1, 0, 0, 0) := by decide +kernel
theorem k192_9 : look (codL 192) 9 = some (.istore_n 1, 1, 0, 0, 0) := by decide +kernel
theorem k192_10 : look (codL 192) 10 = some (.iload_n 1, 1, 0, 0, 0) := by decide +kernel
theorem k192_11 : look (codL 192) 11 = some (.aload_n 0, 1, 0, 0, 0) := by decide +kernel
theorem k192_12 : look (codL 192) 12 = some (.getfield 166, 3, 10, 10, 0) := by decide +kernel
theorem k192_15 : look (codL 192) 15 = some (.if_icmp .ge 45, 3, 0, 0, 0) := by decide +kernel
theorem k192_18 : look (codL 192) 18 = some (.aload_n 0, 1, 0, 0, 0) := by decide +kernel
theorem k192_19 : look (codL 192) 19 = some (.getfield 47, 3, 10, 17, 0) := by decide +kernel
theorem k192_22 : look (codL 192) 22 = some (.iload_n 1, 1, 0, 0, 0) := by decide +kernel
theorem k192_23 : look (codL 192) 23 = some (.aload_n 0, 1, 0, 0, 0) := by decide +kernel
theorem k192_24 : look (codL 192) 24 = some (.getfield 31, 3, 10, 11, 0) := by decide +kernel
theorem k192_27 : look (codL 192) 27 = some (.iload_n 1, 1, 0, 0, 0) := by decide +kernel
theorem k192_28 : look (codL 192) 28 = some (.iaload, 1, 0, 0, 0) := by decide +kernel
theorem k192_29 : look (codL 192) 29 = some (.iastore, 1, 0, 0, 0) := by decide +kernel
theorem k192_30 : look (codL 192) 30 = some (.aload_n 0, 1, 0, 0, 0) := by decide +kernel
theorem k192_31 : look (codL 192) 31 = some (.getfield 50, 3, 10, 18, 0) := by decide +kernel
theorem k192_34 : look (codL 192) 34 = some (.iload_n 1, 1, 0, 0, 0) := by decide +kernel
theorem k192_35 : look (codL 192) 35 = some (.aload_n 0, 1, 0, 0, 0) := by decide +kernel
theorem k192_36 : look (codL 192) 36 = some (.getfield 34, 3, 10, 12, 0) := by decide +kernel
theorem k192_39 : look (codL 192) 39 = some (.iload_n 1, 1, 0, 0, 0) := by decide +kernel
theorem k192_40 : look (codL 192) 40 = some (.iaload, 1, 0, 0, 0) := by decide +kernel
theorem k192_41 : look (codL 192) 41 = some (.iastore, 1, 0, 0, 0) := by decide +kernel
theorem k192_42 : look (codL 192) 42 = some (.aload_n 0, 1, 0, 0, 0) := by decide +kernel
theorem k192_43 : look (codL 192) 43 = some (.getfield 53, 3, 10, 19, 0) := by decide +kernel
theorem k192_46 : look (codL 192) 46 = some (.iload_n 1, 1, 0, 0, 0) := by decide +kernel
theorem k192_47 : look (codL 192) 47 = some (.aload_n 0, 1, 0, 0, 0) := by decide +kernel
theorem k192_48 : look (codL 192) 48 = some (.getfield 37, 3, 10, 13, 0) := by decide +kernel
theorem k192_51 : look (codL 192) 51 = some (.iload_n 1, 1, 0, 0, 0) := by decide +kernel
theorem k192_52 : look (codL 192) 52 = some (.iaload, 1, 0, 0, 0) := by decide +kernel
theorem k192_53 : look (codL 192) 53 = some (.iastore, 1, 0, 0, 0) := by decide +kernel
theorem k192_54 : look (codL 192) 54 = some (.iinc 1 1, 3, 0, 0, 0) := by decide +kernel
theorem k192_57 : look (codL 192) 57 = some (.goto (-47), 3, 0, 0, 0) := by decide +kernel
theorem k192_60 : look (codL 192) 60 = some (.return_, 1, 0, 0, 0) := by decide +kernel
theorem k193_0 : look (codL 193) 0 = some (.iconst 0, 1, 0, 0, 0) := by decide +kernel
theorem k193_1 : look (codL 193) 1 = some (.istore_n 1, 1, 0, 0, 0) := by decide +kernel
theorem k193_2 : look (codL 193) 2 = some (.iconst 1, 1, 0, 0, 0) := by decide +kernel
theorem k193_3 : look (codL 193) 3 = some (.istore_n 2, 1, 0, 0, 0) := by decide +kernel
theorem k193_4 : look (codL 193) 4 = some (.iload_n 2, 1, 0, 0, 0) := by decide +kernel
theorem k193_5 : look (codL 193) 5 = some (.ifCond .eq 107, 3, 0, 0, 0) := by decide +kernel
theorem k193_8 : look (codL 193) 8 = some (.iload_n 1, 1, 0, 0, 0) := by decide +kernel
theorem k193_9 : look (codL 193) 9 = some (.aload_n 0, 1, 0, 0, 0) := by decide +kernel
theorem k193_10 : look (codL 193) 10 = some (.getfield 166, 3, 10, 10, 0) := by decide +kernel
theorem k193_13 : look (codL 193) 13 = some (.if_icmp .ge 99, 3, 0, 0, 0) := by decide +kernel
theorem k193_16 : look (codL 193) 16 = some (.iload_n 1, 1, 0, 0, 0) := by decide +kernel
theorem k193_17 : look (codL 193) 17 = some (.aload_n 0, 1, 0, 0, 0) := by decide +kernel
theorem k193_18 : look (codL 193) 18 = some (.getfield 222, 3, 10, 16, 0) := by decide +kernel
theorem k193_21 : look (codL 193) 21 = some (.if_icmp .ge 91, 3, 0, 0, 0) := by decide +kernel
theorem k193_24 : look (codL 193) 24 = some (.aload_n 0, 1, 0, 0, 0) := by decide +kernel
theorem k193_25 : look (codL 193) 25 = some (.getfield 166, 3, 10, 10, 0) := by decide +kernel
theorem k193_28 : look (codL 193) 28 = some (.iconst 1, 1, 0, 0, 0) := by decide +kernel
theorem k193_29 : look (codL 193) 29 = some (.isub, 1, 0, 0, 0) := by decide +kernel
theorem k193_30 : look (codL 193) 30 = some (.iload_n 1, 1, 0, 0, 0) := by decide +kernel
theorem k193_31 : look (codL 193) 31 = some (.isub, 1, 0, 0, 0) := by decide +kernel
theorem k193_32 : look (codL 193) 32 = some (.istore_n 3, 1, 0, 0, 0) := by decide +kernel
theorem k193_33 : look (codL 193) 33 = some (.aload_n 0, 1, 0, 0, 0) := by decide +kernel
theorem k193_34 : look (codL 193) 34 = some (.getfield 222, 3, 10, 16, 0) := by decide +kernel
theorem k193_37 : look (codL 193) 37 = some (.iconst 1, 1, 0, 0, 0) := by decide +kernel
theorem k193_38 : look (codL 193) 38 = some (.isub, 1, 0, 0, 0) := by decide +kernel
theorem k193_39 : look (codL 193) 39 = some (.iload_n 1, 1, 0, 0, 0) := by decide +kernel
theorem k193_40 : look (codL 193) 40 = some (.isub, 1, 0, 0, 0) := by decide +kernel
theorem k193_41 : look (codL 193) 41 = some (.istore 4, 2, 0, 0, 0) := by decide +kernel
theorem k193_43 : look (codL 193) 43 = some (.aload_n 0, 1, 0, 0, 0) := by decide +kernel
theorem k193_44 : look (codL 193) 44 = some (.getfield 31, 3, 10, 11, 0) := by decide +kernel
theorem k193_47 : look (codL 193) 47 = some (.iload_n 3, 1, 0, 0, 0) := by decide +kernel
theorem k193_48 : look (codL 193) 48 = some (.iaload, 1, 0, 0, 0) := by decide +kernel
theorem k193_49 : look (codL 193) 49 = some (.aload_n 0, 1, 0, 0, 0) := by decide +kernel
theorem k193_50 : look (codL 193) 50 = some (.getfield 47, 3, 10, 17, 0) := by decide +kernel
theorem k193_53 : look (codL 193) 53 = some (.iload 4, 2, 0, 0, 0) := by decide +kernel
theorem k193_55 : look (codL 193) 55 = some (.iaload, 1, 0, 0, 0) := by decide +kernel
theorem k193_56 : look (codL 193) 56 = some (.if_icmp .ne 39, 3, 0, 0, 0) := by decide +kernel
theorem k193_59 : look (codL 193) 59 = some (.aload_n 0, 1, 0, 0, 0) := by decide +kernel
theorem k193_60 : look (codL 193) 60 = some (.getfield 34, 3, 10, 12, 0) := by decide +kernel
theorem k193_63 : look (codL 193) 63 = some (.iload_n 3, 1, 0, 0, 0) := by decide +kernel
theorem k193_64 : look (codL 193) 64 = some (.iaload, 1, 0, 0, 0) := by decide +kernel
theorem k193_65 : look (codL 193) 65 = some (.aload_n 0, 1, 0, 0, 0) := by decide +kernel
theorem k193_66 : look (codL 193) 66 = some (.getfield 50, 3, 10, 18, 0) := by decide +kernel
theorem k193_69 : look (codL 193) 69 = some (.iload 4, 2, 0, 0, 0) := by decide +kernel
theorem k193_71 : look (codL 193) 71 = some (.iaload, 1, 0, 0, 0) := by decide +kernel
theorem k193_72 : look (codL 193) 72 = some (.if_icmp .ne 23, 3, 0, 0, 0) := by decide +kernel
theorem k193_75 : look (codL 193) 75 = some (.aload_n 0, 1, 0, 0, 0) := by decide +kernel
theorem k193_76 : look (codL 193) 76 = some (.getfield 37, 3, 10, 13, 0) := by decide +kernel
theorem k193_79 : look (codL 193) 79 = some (.iload_n 3, 1, 0, 0, 0) := by decide +kernel
theorem k193_80 : look (codL 193) 80 = some (.iaload, 1, 0, 0, 0) := by decide +kernel
theorem k193_81 : look (codL 193) 81 = some (.aload_n 0, 1, 0, 0, 0) := by decide +kernel
theorem k193_82 : look (codL 193) 82 = some (.getfield 53, 3, 10, 19, 0) := by decide +kernel
theorem k193_85 : look (codL 193) 85 = some (.iload 4, 2, 0, 0, 0) := by decide +kernel
theorem k193_87 : look (codL 193) 87 = some (.iaload, 1, 0, 0, 0) := by decide +kernel
theorem k193_88 : look (codL 193) 88 = some (.if_icmp .ne 7, 3, 0, 0, 0) := by decide +kernel
theorem k193_91 : look (codL 193) 91 = some (.iconst 1, 1, 0, 0, 0) := by decide +kernel
theorem k193_92 : look (codL 193) 92 = some (.goto 4, 3, 0, 0, 0) := by decide +kernel
theorem k193_95 : look (codL 193) 95 = some (.iconst 0, 1, 0, 0, 0) := by decide +kernel
theorem k193_96 : look (codL 193) 96 = some (.istore_n 2, 1, 0, 0, 0) := by decide +kernel
theorem k193_97 : look (codL 193) 97 = some (.iload_n 1, 1, 0, 0, 0) := by decide +kernel
theorem k193_98 : look (codL 193) 98 = some (.iload_n 2, 1, 0, 0, 0) := by decide +kernel
theorem k193_99 : look (codL 193) 99 = some (.ifCond .eq 7, 3, 0, 0, 0) := by decide +kernel
theorem k193_102 : look (codL 193) 102 = some (.iconst 1, 1, 0, 0, 0) := by decide +kernel
theorem k193_103 : look (codL 193) 103 = some (.goto 4, 3, 0, 0, 0) := by decide +kernel
theorem k193_106 : look (codL 193) 106 = some (.iconst 0, 1, 0, 0, 0) := by decide +kernel
theorem k193_107 : look (codL 193) 107 = some (.iadd, 1, 0, 0, 0) := by decide +kernel
theorem k193_108 : look (codL 193) 108 = some (.istore_n 1, 1, 0, 0, 0) := by decide +kernel
theorem k193_109 : look (codL 193) 109 = some (.goto (-105), 3, 0, 0, 0) := by decide +kernel
theorem k193_112 : look (codL 193) 112 = some (.iload_n 1, 1, 0, 0, 0) := by decide +kernel
theorem k193_113 : look (codL 193) 113 = some (.ireturn, 1, 0, 0, 0) := by decide +kernel
theorem k194_0 : look (codL 194) 0 = some (.aload_n 0, 1, 0, 0, 0) := by decide +kernel
theorem k194_1 : look (codL 194) 1 = some (.iload_n 1, 1, 0, 0, 0) := by decide +kernel
theorem k194_2 : look (codL 194) 2 = some (.invokevirtual 104, 3, 143, 2, 0) := by decide +kernel
theorem k194_5 : look (codL 194) 5 = some (.ifCond .ne 8, 3, 0, 0, 0) := by decide +kernel
theorem k194_8 : look (codL 194) 8 = some (.aload_n 0, 1, 0, 0, 0) := by decide +kernel
theorem k194_9 : look (codL 194) 9 = some (.invokevirtual 110, 3, 133, 1, 0) := by decide +kernel
theorem k194_12 : look (codL 194) 12 = some (.ireturn, 1, 0, 0, 0) := by decide +kernel
theorem k194_13 : look (codL 194) 13 = some (.iconst 1, 1, 0, 0, 0) := by decide +kernel
theorem k194_14 : look (codL 194) 14 = some (.istore_n 2, 1, 0, 0, 0) := by decide +kernel
theorem k194_15 : look (codL 194) 15 = some (.iconst 0, 1, 0, 0, 0) := by decide +kernel
theorem k194_16 : look (codL 194) 16 = some (.istore_n 3, 1, 0, 0, 0) := by decide +kernel
theorem k194_17 : look (codL 194) 17 = some (.iload_n 3, 1, 0, 0, 0) := by decide +kernel
theorem k194_18 : look (codL 194) 18 = some (.aload_n 0, 1, 0, 0, 0) := by decide +kernel
theorem k194_19 : look (codL 194) 19 = some (.getfield 94, 3, 10, 2, 0) := by decide +kernel
theorem k194_22 : look (codL 194) 22 = some (.if_icmp .ge 37, 3, 0, 0, 0) := by decide +kernel
theorem k194_25 : look (codL 194) 25 = some (.iload_n 2, 1, 0, 0, 0) := by decide +kernel
theorem k194_26 : look (codL 194) 26 = some (.ifCond .eq 25, 3, 0, 0, 0) := by decide +kernel
theorem k194_29 : look (codL 194) 29 = some (.aload_n 0, 1, 0, 0, 0) := by decide +kernel
theorem k194_30 : look (codL 194) 30 = some (.getfield 22, 3, 10, 7, 0) := by decide +kernel
theorem k194_33 : look (codL 194) 33 = some (.iload_n 3, 1, 0, 0, 0) := by decide +kernel
theorem k194_34 : look (codL 194) 34 = some (.iaload, 1, 0, 0, 0) := by decide +kernel
theorem k194_35 : look (codL 194) 35 = some (.iload_n 1, 1, 0, 0, 0) := by decide +kernel
theorem k194_36 : look (codL 194) 36 = some (.if_icmp .ne 11, 3, 0, 0, 0) := by decide +kernel
theorem k194_39 : look (codL 194) 39 = some (.aload_n 0, 1, 0, 0, 0) := by decide +kernel
theorem k194_40 : look (codL 194) 40 = some (.iload_n 3, 1, 0, 0, 0) := by decide +kernel
theorem k194_41 : look (codL 194) 41 = some (.invokevirtual 160, 3, 165, 2, 0) := by decide +kernel
theorem k194_44 : look (codL 194) 44 = some (.ifCond .eq 7, 3, 0, 0, 0) := by decide +kernel
theorem k194_47 : look (codL 194) 47 = some (.iconst 1, 1, 0, 0, 0) := by decide +kernel
theorem k194_48 : look (codL 194) 48 = some (.goto 4, 3, 0, 0, 0) := by decide +kernel
theorem k194_51 : look (codL 194) 51 = some (.iconst 0, 1, 0, 0, 0) := by decide +kernel
theorem k194_52 : look (codL 194) 52 = some (.istore_n 2, 1, 0, 0, 0) := by decide +kernel
theorem k194_53 : look (codL 194) 53 = some (.iinc 3 1, 3, 0, 0, 0) := by decide +kernel
theorem k194_56 : look (codL 194) 56 = some (.goto (-39), 3, 0, 0, 0) := by decide +kernel
theorem k194_59 : look (codL 194) 59 = some (.iload_n 2, 1, 0, 0, 0) := by decide +kernel
theorem k194_60 : look (codL 194) 60 = some (.ifCond .ne 8, 3, 0, 0, 0) := by decide +kernel
theorem k194_63 : look (codL 194) 63 = some (.aload_n 0, 1, 0, 0, 0) := by decide +kernel
theorem k194_64 : look (codL 194) 64 = some (.invokevirtual 116, 3, 134, 1, 0) := by decide +kernel
theorem k194_67 : look (codL 194) 67 = some (.ireturn, 1, 0, 0, 0) := by decide +kernel
theorem k194_68 : look (codL 194) 68 = some (.iconst 0, 1, 0, 0, 0) := by decide +kernel
theorem k194_69 : look (codL 194) 69 = some (.istore_n 3, 1, 0, 0, 0) := by decide +kernel
theorem k194_70 : look (codL 194) 70 = some (.iconst 1, 1, 0, 0, 0) := by decide +kernel
theorem k194_71 : look (codL 194) 71 = some (.istore 4, 2, 0, 0, 0) := by decide +kernel
theorem k194_73 : look (codL 194) 73 = some (.iconst 0, 1, 0, 0, 0) := by decide +kernel
theorem k194_74 : look (codL 194) 74 = some (.istore 5, 2, 0, 0, 0) := by decide +kernel
theorem k194_76 : look (codL 194) 76 = some (.iload 5, 2, 0, 0, 0) := by decide +kernel
theorem k194_78 : look (codL 194) 78 = some (.aload_n 0, 1, 0, 0, 0) := by decide +kernel
theorem k194_79 : look (codL 194) 79 = some (.getfield 94, 3, 10, 2, 0) := by decide +kernel
theorem k194_82 : look (codL 194) 82 = some (.if_icmp .ge 69, 3, 0, 0, 0) := by decide +kernel
theorem k194_85 : look (codL 194) 85 = some (.aload_n 0, 1, 0, 0, 0) := by decide +kernel
theorem k194_86 : look (codL 194) 86 = some (.getfield 22, 3, 10, 7, 0) := by decide +kernel
theorem k194_89 : look (codL 194) 89 = some (.iload 5, 2, 0, 0, 0) := by decide +kernel
theorem k194_91 : look (codL 194) 91 = some (.iaload, 1, 0, 0, 0) := by decide +kernel
theorem k194_92 : look (codL 194) 92 = some (.iload_n 1, 1, 0, 0, 0) := by decide +kernel
theorem k194_93 : look (codL 194) 93 = some (.if_icmp .ne 52, 3, 0, 0, 0) := by decide +kernel
theorem k194_96 : look (codL 194) 96 = some (.aload_n 0, 1, 0, 0, 0) := by decide +kernel
theorem k194_97 : look (codL 194) 97 = some (.iload 5, 2, 0, 0, 0) := by decide +kernel
theorem k194_99 : look (codL 194) 99 = some (.aload_n 0, 1, 0, 0, 0) := by decide +kernel
theorem k194_100 : look (codL 194) 100 = some (.getfield 142, 3, 10, 3, 0) := by decide +kernel
theorem k194_103 : look (codL 194) 103 = some (.invokevirtual 206, 3, 181, 3, 0) := by decide +kernel
theorem k194_106 : look (codL 194) 106 = some (.iload 4, 2, 0, 0, 0) := by decide +kernel
theorem k194_108 : look (codL 194) 108 = some (.ifCond .eq 18, 3, 0, 0, 0) := by decide +kernel
theorem k194_111 : look (codL 194) 111 = some (.aload_n 0, 1, 0, 0, 0) := by decide +kernel
theorem k194_112 : look (codL 194) 112 = some (.invokevirtual 225, 3, 192, 1, 0) := by decide +kernel
theorem k194_115 : look (codL 194) 115 = some (.aload_n 0, 1, 0, 0, 0) := by decide +kernel
theorem k194_116 : look (codL 194) 116 = some (.getfield 166, 3, 10, 10, 0) := by decide +kernel
theorem k194_119 : look (codL 194) 119 = some (.istore_n 3, 1, 0, 0, 0) := by decide +kernel
theorem k194_120 : look (codL 194) 120 = some (.iconst 0, 1, 0, 0, 0) := by decide +kernel
theorem k194_121 : look (codL 194) 121 = some (.istore 4, 2, 0, 0, 0) := by decide +kernel
theorem k194_123 : look (codL 194) 123 = some (.goto 22, 3, 0, 0, 0) := by decide +kernel
theorem k194_126 : look (codL 194) 126 = some (.aload_n 0, 1, 0, 0, 0) := by decide +kernel
theorem k194_127 : look (codL 194) 127 = some (.invokevirtual 228, 3, 193, 1, 0) := by decide +kernel
theorem k194_130 : look (codL 194) 130 = some (.istore 6, 2, 0, 0, 0) := by decide +kernel
theorem k194_132 : look (codL 194) 132 = some (.iload 6, 2, 0, 0, 0) := by decide +kernel
theorem k194_134 : look (codL 194) 134 = some (.iload_n 3, 1, 0, 0, 0) := by decide +kernel
theorem k194_135 : look (codL 194) 135 = some (.if_icmp .ge 8, 3, 0, 0, 0) := by decide +kernel
theorem k194_138 : look (codL 194) 138 = some (.iload 6, 2, 0, 0, 0) := by decide +kernel
theorem k194_140 : look (codL 194) 140 = some (.goto 4, 3, 0, 0, 0) := by decide +kernel
theorem k194_143 : look (codL 194) 143 = some (.iload_n 3, 1, 0, 0, 0) := by decide +kernel
theorem k194_144 : look (codL 194) 144 = some (.istore_n 3, 1, 0, 0, 0) := by decide +kernel
theorem k194_145 : look (codL 194) 145 = some (.iinc 5 1, 3, 0, 0, 0) := by decide +kernel
theorem k194_148 : look (codL 194) 148 = some (.goto (-72), 3, 0, 0, 0) := by decide +kernel
theorem k194_151 : look (codL 194) 151 = some (.iload_n 3, 1, 0, 0, 0) := by decide +kernel
theorem k194_152 : look (codL 194) 152 = some (.ireturn, 1, 0, 0, 0) := by decide +kernel
theorem k195_0 : look (codL 195) 0 = some (.lload_n 0, 1, 0, 0, 0) := by decide +kernel
theorem k195_1 : look (codL 195) 1 = some (.ldc2_w 231, 3, 0, 0, 1103515245) := by decide +kernel
theorem k195_4 : look (codL 195) 4 = some (.lmul, 1, 0, 0, 0) := by decide +kernel
theorem k195_5 : look (codL 195) 5 = some (.ldc2_w 233, 3, 0, 0, 12345) := by decide +kernel
theorem k195_8 : look (codL 195) 8 = some (.ladd, 1, 0, 0, 0) := by decide +kernel
theorem k195_9 : look (codL 195) 9 = some (.ldc2_w 235, 3, 0, 0, 2147483648) := by decide +kernel
theorem k195_12 : look (codL 195) 12 = some (.lrem, 1, 0, 0, 0) := by decide +kernel
theorem k195_13 : look (codL 195) 13 = some (.lreturn, 1, 0, 0, 0) := by decide +kernel
theorem k196_0 : look (codL 196) 0 = some (.iload_n 0, 1, 0, 0, 0) := by decide +kernel
theorem k196_1 : look (codL 196) 1 = some (.sipush 320, 3, 0, 0, 0) := by decide +kernel
theorem k196_4 : look (codL 196) 4 = some (.if_icmp .lt 8, 3, 0, 0, 0) := by decide +kernel
theorem k196_7 : look (codL 196) 7 = some (.bipush 32, 2, 0, 0, 0) := by decide +kernel
theorem k196_9 : look (codL 196) 9 = some (.goto 7, 3, 0, 0, 0) := by decide +kernel
theorem k196_12 : look (codL 196) 12 = some (.iload_n 0, 1, 0, 0, 0) := by decide +kernel
theorem k196_13 : look (codL 196) 13 = some (.invokestatic 79, 3, 138, 1, 0) := by decide +kernel
theorem k196_16 : look (codL 196) 16 = some (.ireturn, 1, 0, 0, 0) := by decide +kernel
theorem k197_0 : look (codL 197) 0 = some (.iconst 0, 1, 0, 0, 0) := by decide +kernel
theorem k197_1 : look (codL 197) 1 = some (.istore_n 3, 1, 0, 0, 0) := by decide +kernel
theorem k197_2 : look (codL 197) 2 = some (.iload_n 3, 1, 0, 0, 0) := by decide +kernel
theorem k197_3 : look (codL 197) 3 = some (.iload_n 1, 1, 0, 0, 0) := by decide +kernel
theorem k197_4 : look (codL 197) 4 = some (.invokestatic 71, 3, 137, 1, 0) := by decide +kernel
theorem k197_7 : look (codL 197) 7 = some (.if_icmp .ge 29, 3, 0, 0, 0) := by decide +kernel
theorem k197_10 : look (codL 197) 10 = some (.aload_n 0, 1, 0, 0, 0) := by decide +kernel
theorem k197_11 : look (codL 197) 11 = some (.getfield 56, 3, 10, 20, 0) := by decide +kernel
theorem k197_14 : look (codL 197) 14 = some (.iload_n 1, 1, 0, 0, 0) := by decide +kernel
theorem k197_15 : look (codL 197) 15 = some (.invokestatic 79, 3, 138, 1, 0) := by decide +kernel
theorem k197_18 : look (codL 197) 18 = some (.iload_n 3, 1, 0, 0, 0) := by decide +kernel
theorem k197_19 : look (codL 197) 19 = some (.iadd, 1, 0, 0, 0) := by decide +kernel
theorem k197_20 : look (codL 197) 20 = some (.iload_n 3, 1, 0, 0, 0) := by decide +kernel
theorem k197_21 : look (codL 197) 21 = some (.ifCond .ne 7, 3, 0, 0, 0) := by decide +kernel
theorem k197_24 : look (codL 197) 24 = some (.iload_n 2, 1, 0, 0, 0) := by decide +kernel
theorem k197_25 : look (codL 197) 25 = some (.goto 4, 3, 0, 0, 0) := by decide +kernel
theorem k197_28 : look (codL 197) 28 = some (.iconst 0, 1, 0, 0, 0) := by decide +kernel
theorem k197_29 : look (codL 197) 29 = some (.iastore, 1, 0, 0, 0) := by decide +kernel
theorem k197_30 : look (codL 197) 30 = some (.iinc 3 1, 3, 0, 0, 0) := by decide +kernel
theorem k197_33 : look (codL 197) 33 = some (.goto (-31), 3, 0, 0, 0) := by decide +kernel
theorem k197_36 : look (codL 197) 36 = some (.return_, 1, 0, 0, 0) := by decide +kernel
theorem k198_0 : look (codL 198) 0 = some (.aload_n 0, 1, 0, 0, 0) := by decide +kernel
theorem k198_1 : look (codL 198) 1 = some (.getfield 34, 3, 10, 12, 0) := by decide +kernel
theorem k198_4 : look (codL 198) 4 = some (.iload_n 1, 1, 0, 0, 0) := by decide +kernel
theorem k198_5 : look (codL 198) 5 = some (.iaload, 1, 0, 0, 0) := by decide +kernel
theorem k198_6 : look (codL 198) 6 = some (.invokestatic 237, 3, 196, 1, 0) := by decide +kernel
theorem k198_9 : look (codL 198) 9 = some (.istore_n 2, 1, 0, 0, 0) := by decide +kernel
theorem k198_10 : look (codL 198) 10 = some (.aload_n 0, 1, 0, 0, 0) := by decide +kernel
theorem k198_11 : look (codL 198) 11 = some (.getfield 31, 3, 10, 11, 0) := by decide +kernel
theorem k198_14 : look (codL 198) 14 = some (.iload_n 1, 1, 0, 0, 0) := by decide +kernel
theorem k198_15 : look (codL 198) 15 = some (.iaload, 1, 0, 0, 0) := by decide +kernel
theorem k198_16 : look (codL 198) 16 = some (.iconst 2, 1, 0, 0, 0) := by decide +kernel
theorem k198_17 : look (codL 198) 17 = some (.if_icmp .ne 22, 3, 0, 0, 0) := by decide +kernel
theorem k198_20 : look (codL 198) 20 = some (.aload_n 0, 1, 0, 0, 0) := by decide +kernel
theorem k198_21 : look (codL 198) 21 = some (.aload_n 0, 1, 0, 0, 0) := by decide +kernel
theorem k198_22 : look (codL 198) 22 = some (.getfield 34, 3, 10, 12, 0) := by decide +kernel
theorem k198_25 : look (codL 198) 25 = some (.iload_n 1, 1, 0, 0, 0) := by decide +kernel
theorem k198_26 : look (codL 198) 26 = some (.iaload, 1, 0, 0, 0) := by decide +kernel
theorem k198_27 : look (codL 198) 27 = some (.iconst (-1), 1, 0, 0, 0) := by decide +kernel
theorem k198_28 : look (codL 198) 28 = some (.aload_n 0, 1, 0, 0, 0) := by decide +kernel
theorem k198_29 : look (codL 198) 29 = some (.getfield 37, 3, 10, 13, 0) := by decide +kernel
theorem k198_32 : look (codL 198) 32 = some (.iload_n 1, 1, 0, 0, 0) := by decide +kernel
theorem k198_33 : look (codL 198) 33 = some (.iaload, 1, 0, 0, 0) := by decide +kernel
theorem k198_34 : look (codL 198) 34 = some (.isub, 1, 0, 0, 0) := by decide +kernel
theorem k198_35 : look (codL 198) 35 = some (.invokevirtual 240, 3, 197, 3, 0) := by decide +kernel
theorem k198_38 : look (codL 198) 38 = some (.return_, 1, 0, 0, 0) := by decide +kernel
theorem k198_39 : look (codL 198) 39 = some (.aload_n 0, 1, 0, 0, 0) := by decide +kernel
theorem k198_40 : look (codL 198) 40 = some (.getfield 37, 3, 10, 13, 0) := by decide +kernel
theorem k198_43 : look (codL 198) 43 = some (.iload_n 1, 1, 0, 0, 0) := by decide +kernel
theorem k198_44 : look (codL 198) 44 = some (.iaload, 1, 0, 0, 0) := by decide +kernel
theorem k198_45 : look (codL 198) 45 = some (.invokestatic 237, 3, 196, 1, 0) := by decide +kernel
theorem k198_48 : look (codL 198) 48 = some (.istore_n 3, 1, 0, 0, 0) := by decide +kernel
theorem k198_49 : look (codL 198) 49 = some (.iconst 0, 1, 0, 0, 0) := by decide +kernel
theorem k198_50 : look (codL 198) 50 = some (.istore 4, 2, 0, 0, 0) := by decide +kernel
theorem k198_52 : look (codL 198) 52 = some (.iload 4, 2, 0, 0, 0) := by decide +kernel
theorem k198_54 : look (codL 198) 54 = some (.aload_n 0, 1, 0, 0, 0) := by decide +kernel
theorem k198_55 : look (codL 198) 55 = some (.getfield 34, 3, 10, 12, 0) := by decide +kernel
theorem k198_58 : look (codL 198) 58 = some (.iload_n 1, 1, 0, 0, 0) := by decide +kernel
theorem k198_59 : look (codL 198) 59 = some (.iaload, 1, 0, 0, 0) := by decide +kernel
theorem k198_60 : look (codL 198) 60 = some (.invokestatic 71, 3, 137, 1, 0) := by decide +kernel
theorem k198_63 : look (codL 198) 63 = some (.if_icmp .ge 71, 3, 0, 0, 0) := by decide +kernel
theorem k198_66 : look (codL 198) 66 = some (.aload_n 0, 1, 0, 0, 0) := by decide +kernel
theorem k198_67 : look (codL 198) 67 = some (.getfield 56, 3, 10, 20, 0) := by decide +kernel
theorem k198_70 : look (codL 198) 70 = some (.iload_n 2, 1, 0, 0, 0) := by decide +kernel
theorem k198_71 : look (codL 198) 71 = some (.iload 4, 2, 0, 0, 0) := by decide +kernel
theorem k198_73 : look (codL 198) 73 = some (.iadd, 1, 0, 0, 0) := by decide +kernel
theorem k198_74 : look (codL 198) 74 = some (.iaload, 1, 0, 0, 0) := by decide +kernel
theorem k198_75 : look (codL 198) 75 = some (.istore 5, 2, 0, 0, 0) := by decide +kernel
theorem k198_77 : look (codL 198) 77 = some (.aload_n 0, 1, 0, 0, 0) := by decide +kernel
theorem k198_78 : look (codL 198) 78 = some (.getfield 56, 3, 10, 20, 0) := by decide +kernel
theorem k198_81 : look (codL 198) 81 = some (.iload_n 2, 1, 0, 0, 0) := by decide +kernel
theorem k198_82 : look (codL 198) 82 = some (.iload 4, 2, 0, 0, 0) := by decide +kernel
theorem k198_84 : look (codL 198) 84 = some (.iadd, 1, 0, 0, 0) := by decide +kernel
theorem k198_85 : look (codL 198) 85 = some (.aload_n 0, 1, 0, 0, 0) := by decide +kernel
theorem k198_86 : look (codL 198) 86 = some (.getfield 56, 3, 10, 20, 0) := by decide +kernel
theorem k198_89 : look (codL 198) 89 = some (.iload_n 3, 1, 0, 0, 0) := by decide +kernel
theorem k198_90 : look (codL 198) 90 = some (.iload 4, 2, 0, 0, 0) := by decide +kernel
theorem k198_92 : look (codL 198) 92 = some (.iadd, 1, 0, 0, 0) := by decide +kernel
theorem k198_93 : look (codL 198) 93 = some (.iaload, 1, 0, 0, 0) := by decide +kernel
theorem k198_94 : look (codL 198) 94 = some (.iastore, 1, 0, 0, 0) := by decide +kernel
theorem k198_95 : look (codL 198) 95 = some (.aload_n 0, 1, 0, 0, 0) := by decide +kernel
theorem k198_96 : look (codL 198) 96 = some (.getfield 56, 3, 10, 20, 0) := by decide +kernel
theorem k198_99 : look (codL 198) 99 = some (.iload_n 3, 1, 0, 0, 0) := by decide +kernel
theorem k198_100 : look (codL 198) 100 = some (.iload 4, 2, 0, 0, 0) := by decide +kernel
theorem k198_102 : look (codL 198) 102 = some (.iadd, 1, 0, 0, 0) := by decide +kernel
theorem k198_103 : look (codL 198) 103 = some (.aload_n 0, 1, 0, 0, 0) := by decide +kernel
theorem k198_104 : look (codL 198) 104 = some (.getfield 31, 3, 10, 11, 0) := by decide +kernel
theorem k198_107 : look (codL 198) 107 = some (.iload_n 1, 1, 0, 0, 0) := by decide +kernel
theorem k198_108 : look (codL 198) 108 = some (.iaload, 1, 0, 0, 0) := by decide +kernel
theorem k198_109 : look (codL 198) 109 = some (.iconst 1, 1, 0, 0, 0) := by decide +kernel
theorem k198_110 : look (codL 198) 110 = some (.if_icmp .ne 8, 3, 0, 0, 0) := by decide +kernel
theorem k198_113 : look (codL 198) 113 = some (.iload 5, 2, 0, 0, 0) := by decide +kernel
theorem k198_115 : look (codL 198) 115 = some (.goto 12, 3, 0, 0, 0) := by decide +kernel
theorem k198_118 : look (codL 198) 118 = some (.aload_n 0, 1, 0, 0, 0) := by decide +kernel
theorem k198_119 : look (codL 198) 119 = some (.getfield 56, 3, 10, 20, 0) := by decide +kernel
theorem k198_122 : look (codL 198) 122 = some (.iload_n 3, 1, 0, 0, 0) := by decide +kernel
theorem k198_123 : look (codL 198) 123 = some (.iload 4, 2, 0, 0, 0) := by decide +kernel
theorem k198_125 : look (codL 198) 125 = some (.iadd, 1, 0, 0, 0) := by decide +kernel
theorem k198_126 : look (codL 198) 126 = some (.iaload, 1, 0, 0, 0) := by decide +kernel
theorem k198_127 : look (codL 198) 127 = some (.iastore, 1, 0, 0, 0) := by decide +kernel
theorem k198_128 : look (codL 198) 128 = some (.iinc 4 1, 3, 0, 0, 0) := by decide +kernel
theorem k198_131 : look (codL 198) 131 = some (.goto (-79), 3, 0, 0, 0) := by decide +kernel
theorem k198_134 : look (codL 198) 134 = some (.return_, 1, 0, 0, 0) := by decide +kernel
theorem k199_0 : look (codL 199) 0 = some (.iconst 0, 1, 0, 0, 0) := by decide +kernel
theorem k199_1 : look (codL 199) 1 = some (.istore_n 2, 1, 0, 0, 0) := by decide +kernel
theorem k199_2 : look (codL 199) 2 = some (.iload_n 2, 1, 0, 0, 0) := by decide +kernel
theorem k199_3 : look (codL 199) 3 = some (.bipush 32, 2, 0, 0, 0) := by decide +kernel
theorem k199_5 : look (codL 199) 5 = some (.if_icmp .ge 21, 3, 0, 0, 0) := by decide +kernel
theorem k199_8 : look (codL 199) 8 = some (.aload_n 0, 1, 0, 0, 0) := by decide +kernel
theorem k199_9 : look (codL 199) 9 = some (.getfield 59, 3, 10, 21, 0) := by decide +kernel
theorem k199_12 : look (codL 199) 12 = some (.iload_n 2, 1, 0, 0, 0) := by decide +kernel
theorem k199_13 : look (codL 199) 13 = some (.aload_n 0, 1, 0, 0, 0) := by decide +kernel
theorem k199_14 : look (codL 199) 14 = some (.getfield 56, 3, 10, 20, 0) := by decide +kernel
theorem k199_17 : look (codL 199) 17 = some (.iload_n 2, 1, 0, 0, 0) := by decide +kernel
theorem k199_18 : look (codL 199) 18 = some (.iaload, 1, 0, 0, 0) := by decide +kernel
theorem k199_19 : look (codL 199) 19 = some (.iastore, 1, 0, 0, 0) := by decide +kernel
theorem k199_20 : look (codL 199) 20 = some (.iinc 2 1, 3, 0, 0, 0) := by decide +kernel
theorem k199_23 : look (codL 199) 23 = some (.goto (-21), 3, 0, 0, 0) := by decide +kernel
theorem k199_26 : look (codL 199) 26 = some (.iconst 0, 1, 0, 0, 0) := by decide +kernel
theorem k199_27 : look (codL 199) 27 = some (.istore_n 2, 1, 0, 0, 0) := by decide +kernel
theorem k199_28 : look (codL 199) 28 = some (.iload_n 2, 1, 0, 0, 0) := by decide +kernel
theorem k199_29 : look (codL 199) 29 = some (.aload_n 0, 1, 0, 0, 0) := by decide +kernel
theorem k199_30 : look (codL 199) 30 = some (.iload_n 1, 1, 0, 0, 0) := by decide +kernel
theorem k199_31 : look (codL 199) 31 = some (.invokevirtual 133, 3, 146, 2, 0) := by decide +kernel
theorem k199_34 : look (codL 199) 34 = some (.if_icmp .ge 84, 3, 0, 0, 0) := by decide +kernel
theorem k199_37 : look (codL 199) 37 = some (.aload_n 0, 1, 0, 0, 0) := by decide +kernel
theorem k199_38 : look (codL 199) 38 = some (.iload_n 1, 1, 0, 0, 0) := by decide +kernel
theorem k199_39 : look (codL 199) 39 = some (.iload_n 2, 1, 0, 0, 0) := by decide +kernel
theorem k199_40 : look (codL 199) 40 = some (.invokevirtual 127, 3, 145, 3, 0) := by decide +kernel
theorem k199_43 : look (codL 199) 43 = some (.istore_n 3, 1, 0, 0, 0) := by decide +kernel
theorem k199_44 : look (codL 199) 44 = some (.aload_n 0, 1, 0, 0, 0) := by decide +kernel
theorem k199_45 : look (codL 199) 45 = some (.iload_n 1, 1, 0, 0, 0) := by decide +kernel
theorem k199_46 : look (codL 199) 46 = some (.iload_n 2, 1, 0, 0, 0) := by decide +kernel
theorem k199_47 : look (codL 199) 47 = some (.invokevirtual 139, 3, 147, 3, 0) := by decide +kernel
theorem k199_50 : look (codL 199) 50 = some (.istore 4, 2, 0, 0, 0) := by decide +kernel
theorem k199_52 : look (codL 199) 52 = some (.iload 4, 2, 0, 0, 0) := by decide +kernel
theorem k199_54 : look (codL 199) 54 = some (.ifCond .ge 15, 3, 0, 0, 0) := by decide +kernel
theorem k199_57 : look (codL 199) 57 = some (.aload_n 0, 1, 0, 0, 0) := by decide +kernel
theorem k199_58 : look (codL 199) 58 = some (.iload_n 3, 1, 0, 0, 0) := by decide +kernel
theorem k199_59 : look (codL 199) 59 = some (.iconst (-1), 1, 0, 0, 0) := by decide +kernel
theorem k199_60 : look (codL 199) 60 = some (.iload 4, 2, 0, 0, 0) := by decide +kernel
theorem k199_62 : look (codL 199) 62 = some (.isub, 1, 0, 0, 0) := by decide +kernel
theorem k199_63 : look (codL 199) 63 = some (.invokevirtual 240, 3, 197, 3, 0) := by decide +kernel
theorem k199_66 : look (codL 199) 66 = some (.goto 46, 3, 0, 0, 0) := by decide +kernel
theorem k199_69 : look (codL 199) 69 = some (.iconst 0, 1, 0, 0, 0) := by decide +kernel
theorem k199_70 : look (codL 199) 70 = some (.istore 5, 2, 0, 0, 0) := by decide +kernel
theorem k199_72 : look (codL 199) 72 = some (.iload 5, 2, 0, 0, 0) := by decide +kernel
theorem k199_74 : look (codL 199) 74 = some (.iload_n 3, 1, 0, 0, 0) := by decide +kernel
theorem k199_75 : look (codL 199) 75 = some (.invokestatic 71, 3, 137, 1, 0) := by decide +kernel
theorem k199_78 : look (codL 199) 78 = some (.if_icmp .ge 34, 3, 0, 0, 0) := by decide +kernel
theorem k199_81 : look (codL 199) 81 = some (.aload_n 0, 1, 0, 0, 0) := by decide +kernel
theorem k199_82 : look (codL 199) 82 = some (.getfield 56, 3, 10, 20, 0) := by decide +kernel
theorem k199_85 : look (codL 199) 85 = some (.iload_n 3, 1, 0, 0, 0) := by decide +kernel
theorem k199_86 : look (codL 199) 86 = some (.invokestatic 79, 3, 138, 1, 0) := by decide +kernel
theorem k199_89 : look (codL 199) 89 = some (.iload 5, 2, 0, 0, 0) := by decide +kernel
theorem k199_91 : look (codL 199) 91 = some (.iadd, 1, 0, 0, 0) := by decide +kernel
theorem k199_92 : look (codL 199) 92 = some (.aload_n 0, 1, 0, 0, 0) := by decide +kernel
theorem k199_93 : look (codL 199) 93 = some (.getfield 59, 3, 10, 21, 0) := by decide +kernel
theorem k199_96 : look (codL 199) 96 = some (.iload 4, 2, 0, 0, 0) := by decide +kernel
theorem k199_98 : look (codL 199) 98 = some (.invokestatic 79, 3, 138, 1, 0) := by decide +kernel
theorem k199_101 : look (codL 199) 101 = some (.iload 5, 2, 0, 0, 0) := by decide +kernel
theorem k199_103 : look (codL 199) 103 = some (.iadd, 1, 0, 0, 0) := by decide +kernel
theorem k199_104 : look (codL 199) 104 = some (.iaload, 1, 0, 0, 0) := by decide +kernel
theorem k199_105 : look (codL 199) 105 = some (.iastore, 1, 0, 0, 0) := by decide +kernel
theorem k199_106 : look (codL 199) 106 = some (.iinc 5 1, 3, 0, 0, 0) := by decide +kernel
theorem k199_109 : look (codL 199) 109 = some (.goto (-37), 3, 0, 0, 0) := by decide +kernel
theorem k199_112 : look (codL 199) 112 = some (.iinc 2 1, 3, 0, 0, 0) := by decide +kernel
theorem k199_115 : look (codL 199) 115 = some (.goto (-87), 3, 0, 0, 0) := by decide +kernel
theorem k199_118 : look (codL 199) 118 = some (.return_, 1, 0, 0, 0) := by decide +kernel
theorem k200_0 : look (codL 200) 0 = some (.aload_n 0, 1, 0, 0, 0) := by decide +kernel
theorem k200_1 : look (codL 200) 1 = some (.iload_n 1, 1, 0, 0, 0) := by decide +kernel
theorem k200_2 : look (codL 200) 2 = some (.invokevirtual 130, 3, 144, 2, 0) := by decide +kernel
theorem k200_5 : look (codL 200) 5 = some (.ifCond .eq 22, 3, 0, 0, 0) := by decide +kernel
theorem k200_8 : look (codL 200) 8 = some (.iload_n 2, 1, 0, 0, 0) := by decide +kernel
theorem k200_9 : look (codL 200) 9 = some (.iconst 0, 1, 0, 0, 0) := by decide +kernel
theorem k200_10 : look (codL 200) 10 = some (.ldc 243, 2, 0, 0, 999999) := by decide +kernel
theorem k200_12 : look (codL 200) 12 = some (.invokestatic 90, 3, 136, 3, 0) := by decide +kernel
theorem k200_15 : look (codL 200) 15 = some (.ifCond .eq 12, 3, 0, 0, 0) := by decide +kernel
theorem k200_18 : look (codL 200) 18 = some (.iload_n 3, 1, 0, 0, 0) := by decide +kernel
theorem k200_19 : look (codL 200) 19 = some (.iconst 0, 1, 0, 0, 0) := by decide +kernel
theorem k200_20 : look (codL 200) 20 = some (.iconst 1, 1, 0, 0, 0) := by decide +kernel
theorem k200_21 : look (codL 200) 21 = some (.invokestatic 90, 3, 136, 3, 0) := by decide +kernel
theorem k200_24 : look (codL 200) 24 = some (.ifCond .ne 9, 3, 0, 0, 0) := by decide +kernel
theorem k200_27 : look (codL 200) 27 = some (.aload_n 0, 1, 0, 0, 0) := by decide +kernel
theorem k200_28 : look (codL 200) 28 = some (.invokevirtual 110, 3, 133, 1, 0) := by decide +kernel
theorem k200_31 : look (codL 200) 31 = some (.i2l, 1, 0, 0, 0) := by decide +kernel
theorem k200_32 : look (codL 200) 32 = some (.lreturn, 1, 0, 0, 0) := by decide +kernel
theorem k200_33 : look (codL 200) 33 = some (.aload_n 0, 1, 0, 0, 0) := by decide +kernel
theorem k200_34 : look (codL 200) 34 = some (.iload_n 1, 1, 0, 0, 0) := by decide +kernel
theorem k200_35 : look (codL 200) 35 = some (.invokevirtual 160, 3, 165, 2, 0) := by decide +kernel
theorem k200_38 : look (codL 200) 38 = some (.ifCond .ne 9, 3, 0, 0, 0) := by decide +kernel
theorem k200_41 : look (codL 200) 41 = some (.aload_n 0, 1, 0, 0, 0) := by decide +kernel
theorem k200_42 : look (codL 200) 42 = some (.invokevirtual 116, 3, 134, 1, 0) := by decide +kernel
theorem k200_45 : look (codL 200) 45 = some (.i2l, 1, 0, 0, 0) := by decide +kernel
theorem k200_46 : look (codL 200) 46 = some (.lreturn, 1, 0, 0, 0) := by decide +kernel
theorem k200_47 : look (codL 200) 47 = some (.iload_n 2, 1, 0, 0, 0) := by decide +kernel
theorem k200_48 : look (codL 200) 48 = some (.i2l, 1, 0, 0, 0) := by decide +kernel
theorem k200_49 : look (codL 200) 49 = some (.lstore 4, 2, 0, 0, 0) := by decide +kernel
theorem k200_51 : look (codL 200) 51 = some (.iconst 0, 1, 0, 0, 0) := by decide +kernel
theorem k200_52 : look (codL 200) 52 = some (.istore 6, 2, 0, 0, 0) := by decide +kernel
theorem k200_54 : look (codL 200) 54 = some (.iload 6, 2, 0, 0, 0) := by decide +kernel
theorem k200_56 : look (codL 200) 56 = some (.bipush 32, 2, 0, 0, 0) := by decide +kernel
theorem k200_58 : look (codL 200) 58 = some (.if_icmp .ge 34, 3, 0, 0, 0) := by decide +kernel
theorem k200_61 : look (codL 200) 61 = some (.lload 4, 2, 0, 0, 0) := by decide +kernel
theorem k200_63 : look (codL 200) 63 = some (.invokestatic 244, 3, 195, 1, 0) := by decide +kernel
theorem k200_66 : look (codL 200) 66 = some (.lstore 4, 2, 0, 0, 0) := by decide +kernel
theorem k200_68 : look (codL 200) 68 = some (.aload_n 0, 1, 0, 0, 0) := by decide +kernel
theorem k200_69 : look (codL 200) 69 = some (.getfield 56, 3, 10, 20, 0) := by decide +kernel
theorem k200_72 : look (codL 200) 72 = some (.iload 6, 2, 0, 0, 0) := by decide +kernel
theorem k200_74 : look (codL 200) 74 = some (.lload 4, 2, 0, 0, 0) := by decide +kernel
theorem k200_76 : look (codL 200) 76 = some (.ldc2_w 248, 3, 0, 0, 65536) := by decide +kernel
theorem k200_79 : look (codL 200) 79 = some (.ldiv, 1, 0, 0, 0) := by decide +kernel
theorem k200_80 : look (codL 200) 80 = some (.ldc2_w 250, 3, 0, 0, 256) := by decide +kernel
theorem k200_83 : look (codL 200) 83 = some (.lrem, 1, 0, 0, 0) := by decide +kernel
theorem k200_84 : look (codL 200) 84 = some (.l2i, 1, 0, 0, 0) := by decide +kernel
theorem k200_85 : look (codL 200) 85 = some (.iastore, 1, 0, 0, 0) := by decide +kernel
theorem k200_86 : look (codL 200) 86 = some (.iinc 6 1, 3, 0, 0, 0) := by decide +kernel
theorem k200_89 : look (codL 200) 89 = some (.goto (-35), 3, 0, 0, 0) := by decide +kernel
theorem k200_92 : look (codL 200) 92 = some (.iload_n 3, 1, 0, 0, 0) := by decide +kernel
theorem k200_93 : look (codL 200) 93 = some (.ifCond .ne 11, 3, 0, 0, 0) := by decide +kernel
theorem k200_96 : look (codL 200) 96 = some (.aload_n 0, 1, 0, 0, 0) := by decide +kernel
theorem k200_97 : look (codL 200) 97 = some (.iload_n 1, 1, 0, 0, 0) := by decide +kernel
theorem k200_98 : look (codL 200) 98 = some (.invokevirtual 252, 3, 199, 2, 0) := by decide +kernel
theorem k200_101 : look (codL 200) 101 = some (.goto 36, 3, 0, 0, 0) := by decide +kernel
theorem k200_104 : look (codL 200) 104 = some (.aload_n 0, 1, 0, 0, 0) := by decide +kernel
theorem k200_105 : look (codL 200) 105 = some (.iload_n 1, 1, 0, 0, 0) := by decide +kernel
theorem k200_106 : look (codL 200) 106 = some (.aload_n 0, 1, 0, 0, 0) := by decide +kernel
theorem k200_107 : look (codL 200) 107 = some (.getfield 142, 3, 10, 3, 0) := by decide +kernel
theorem k200_110 : look (codL 200) 110 = some (.invokevirtual 206, 3, 181, 3, 0) := by decide +kernel
theorem k200_113 : look (codL 200) 113 = some (.iconst 0, 1, 0, 0, 0) := by decide +kernel
theorem k200_114 : look (codL 200) 114 = some (.istore 6, 2, 0, 0, 0) := by decide +kernel
theorem k200_116 : look (codL 200) 116 = some (.iload 6, 2, 0, 0, 0) := by decide +kernel
theorem k200_118 : look (codL 200) 118 = some (.aload_n 0, 1, 0, 0, 0) := by decide +kernel
theorem k200_119 : look (codL 200) 119 = some (.getfield 166, 3, 10, 10, 0) := by decide +kernel
theorem k200_122 : look (codL 200) 122 = some (.if_icmp .ge 15, 3, 0, 0, 0) := by decide +kernel
theorem k200_125 : look (codL 200) 125 = some (.aload_n 0, 1, 0, 0, 0) := by decide +kernel
theorem k200_126 : look (codL 200) 126 = some (.iload 6, 2, 0, 0, 0) := by decide +kernel
theorem k200_128 : look (codL 200) 128 = some (.invokevirtual 255, 3, 198, 2, 0) := by decide +kernel
theorem k200_131 : look (codL 200) 131 = some (.iinc 6 1, 3, 0, 0, 0) := by decide +kernel
theorem k200_134 : look (codL 200) 134 = some (.goto (-18), 3, 0, 0, 0) := by decide +kernel
theorem k200_137 : look (codL 200) 137 = some (.lconst 1, 1, 0, 0, 0) := by decide +kernel
theorem k200_138 : look (codL 200) 138 = some (.lstore 6, 2, 0, 0, 0) := by decide +kernel
theorem k200_140 : look (codL 200) 140 = some (.iconst 0, 1, 0, 0, 0) := by decide +kernel
theorem k200_141 : look (codL 200) 141 = some (.istore 8, 2, 0, 0, 0) := by decide +kernel
theorem k200_143 : look (codL 200) 143 = some (.iload 8, 2, 0, 0, 0) := by decide +kernel
theorem k200_145 : look (codL 200) 145 = some (.bipush 32, 2, 0, 0, 0) := by decide +kernel
theorem k200_147 : look (codL 200) 147 = some (.if_icmp .ge 26, 3, 0, 0, 0) := by decide +kernel
theorem k200_150 : look (codL 200) 150 = some (.ldc2_w 258, 3, 0, 0, 31) := by decide +kernel
theorem k200_153 : look (codL 200) 153 = some (.lload 6, 2, 0, 0, 0) := by decide +kernel
theorem k200_155 : look (codL 200) 155 = some (.lmul, 1, 0, 0, 0) := by decide +kernel
theorem k200_156 : look (codL 200) 156 = some (.aload_n 0, 1, 0, 0, 0) := by decide +kernel
theorem k200_157 : look (codL 200) 157 = some (.getfield 56, 3, 10, 20, 0) := by decide +kernel
theorem k200_160 : look (codL 200) 160 = some (.iload 8, 2, 0, 0, 0) := by decide +kernel
theorem k200_162 : look (codL 200) 162 = some (.iaload, 1, 0, 0, 0) := by decide +kernel
theorem k200_163 : look (codL 200) 163 = some (.i2l, 1, 0, 0, 0) := by decide +kernel
theorem k200_164 : look (codL 200) 164 = some (.ladd, 1, 0, 0, 0) := by decide +kernel
theorem k200_165 : look (codL 200) 165 = some (.lstore 6, 2, 0, 0, 0) := by decide +kernel
theorem k200_167 : look (codL 200) 167 = some (.iinc 8 1, 3, 0, 0, 0) := by decide +kernel
theorem k200_170 : look (codL 200) 170 = some (.goto (-27), 3, 0, 0, 0) := by decide +kernel
theorem k200_173 : look (codL 200) 173 = some (.lload 6, 2, 0, 0, 0) := by decide +kernel
theorem k200_175 : look (codL 200) 175 = some (.lreturn, 1, 0, 0, 0) := by decide +kernel
theorem k201_0 : look (codL 201) 0 = some (.iload_n 1, 1, 0, 0, 0) := by decide +kernel
theorem k201_1 : look (codL 201) 1 = some (.iconst 0, 1, 0, 0, 0) := by decide +kernel
theorem k201_2 : look (codL 201) 2 = some (.iconst 3, 1, 0, 0, 0) := by decide +kernel
theorem k201_3 : look (codL 201) 3 = some (.invokestatic 90, 3, 136, 3, 0) := by decide +kernel
theorem k201_6 : look (codL 201) 6 = some (.ifCond .ne 8, 3, 0, 0, 0) := by decide +kernel
theorem k201_9 : look (codL 201) 9 = some (.aload_n 0, 1, 0, 0, 0) := by decide +kernel
theorem k201_10 : look (codL 201) 10 = some (.invokevirtual 110, 3, 133, 1, 0) := by decide +kernel
theorem k201_13 : look (codL 201) 13 = some (.ireturn, 1, 0, 0, 0) := by decide +kernel
theorem k201_14 : look (codL 201) 14 = some (.iconst 0, 1, 0, 0, 0) := by decide +kernel
theorem k201_15 : look (codL 201) 15 = some (.istore_n 2, 1, 0, 0, 0) := by decide +kernel
theorem k201_16 : look (codL 201) 16 = some (.iconst 0, 1, 0, 0, 0) := by decide +kernel
theorem k201_17 : look (codL 201) 17 = some (.istore_n 3, 1, 0, 0, 0) := by decide +kernel
theorem k201_18 : look (codL 201) 18 = some (.iload_n 3, 1, 0, 0, 0) := by decide +kernel
theorem k201_19 : look (codL 201) 19 = some (.aload_n 0, 1, 0, 0, 0) := by decide +kernel
theorem k201_20 : look (codL 201) 20 = some (.getfield 94, 3, 10, 2, 0) := by decide +kernel
theorem k201_23 : look (codL 201) 23 = some (.if_icmp .ge 132, 3, 0, 0, 0) := by decide +kernel
theorem k201_26 : look (codL 201) 26 = some (.aload_n 0, 1, 0, 0, 0) := by decide +kernel
theorem k201_27 : look (codL 201) 27 = some (.iload_n 3, 1, 0, 0, 0) := by decide +kernel
theorem k201_28 : look (codL 201) 28 = some (.invokevirtual 160, 3, 165, 2, 0) := by decide +kernel
theorem k201_31 : look (codL 201) 31 = some (.istore 4, 2, 0, 0, 0) := by decide +kernel
theorem k201_33 : look (codL 201) 33 = some (.iload 4, 2, 0, 0, 0) := by decide +kernel
theorem k201_35 : look (codL 201) 35 = some (.ifCond .eq 15, 3, 0, 0, 0) := by decide +kernel
theorem k201_38 : look (codL 201) 38 = some (.aload_n 0, 1, 0, 0, 0) := by decide +kernel
theorem k201_39 : look (codL 201) 39 = some (.iload_n 3, 1, 0, 0, 0) := by decide +kernel
theorem k201_40 : look (codL 201) 40 = some (.aload_n 0, 1, 0, 0, 0) := by decide +kernel
theorem k201_41 : look (codL 201) 41 = some (.getfield 142, 3, 10, 3, 0) := by decide +kernel
theorem k201_44 : look (codL 201) 44 = some (.invokevirtual 212, 3, 182, 3, 0) := by decide +kernel
theorem k201_47 : look (codL 201) 47 = some (.goto 4, 3, 0, 0, 0) := by decide +kernel
theorem k201_50 : look (codL 201) 50 = some (.iconst 0, 1, 0, 0, 0) := by decide +kernel
theorem k201_51 : look (codL 201) 51 = some (.istore 5, 2, 0, 0, 0) := by decide +kernel
theorem k201_53 : look (codL 201) 53 = some (.iload 4, 2, 0, 0, 0) := by decide +kernel
theorem k201_55 : look (codL 201) 55 = some (.ifCond .eq 23, 3, 0, 0, 0) := by decide +kernel
theorem k201_58 : look (codL 201) 58 = some (.aload_n 0, 1, 0, 0, 0) := by decide +kernel
theorem k201_59 : look (codL 201) 59 = some (.getfield 166, 3, 10, 10, 0) := by decide +kernel
theorem k201_62 : look (codL 201) 62 = some (.ifCond .le 16, 3, 0, 0, 0) := by decide +kernel
theorem k201_65 : look (codL 201) 65 = some (.aload_n 0, 1, 0, 0, 0) := by decide +kernel
theorem k201_66 : look (codL 201) 66 = some (.iload_n 3, 1, 0, 0, 0) := by decide +kernel
theorem k201_67 : look (codL 201) 67 = some (.invokevirtual 163, 3, 162, 2, 0) := by decide +kernel
theorem k201_70 : look (codL 201) 70 = some (.iconst 2, 1, 0, 0, 0) := by decide +kernel
theorem k201_71 : look (codL 201) 71 = some (.if_icmp .ne 7, 3, 0, 0, 0) := by decide +kernel
theorem k201_74 : look (codL 201) 74 = some (.iconst 1, 1, 0, 0, 0) := by decide +kernel
theorem k201_75 : look (codL 201) 75 = some (.goto 4, 3, 0, 0, 0) := by decide +kernel
theorem k201_78 : look (codL 201) 78 = some (.iconst 0, 1, 0, 0, 0) := by decide +kernel
theorem k201_79 : look (codL 201) 79 = some (.istore 6, 2, 0, 0, 0) := by decide +kernel
theorem k201_81 : look (codL 201) 81 = some (.iload_n 2, 1, 0, 0, 0) := by decide +kernel
theorem k201_82 : look (codL 201) 82 = some (.iload_n 1, 1, 0, 0, 0) := by decide +kernel
theorem k201_83 : look (codL 201) 83 = some (.ifCond .ne 15, 3, 0, 0, 0) := by decide +kernel
theorem k201_86 : look (codL 201) 86 = some (.iload 5, 2, 0, 0, 0) := by decide +kernel
theorem k201_88 : look (codL 201) 88 = some (.aload_n 0, 1, 0, 0, 0) := by decide +kernel
theorem k201_89 : look (codL 201) 89 = some (.getfield 25, 3, 10, 8, 0) := by decide +kernel
theorem k201_92 : look (codL 201) 92 = some (.iload_n 3, 1, 0, 0, 0) := by decide +kernel
theorem k201_93 : look (codL 201) 93 = some (.iaload, 1, 0, 0, 0) := by decide +kernel
theorem k201_94 : look (codL 201) 94 = some (.imul, 1, 0, 0, 0) := by decide +kernel
theorem k201_95 : look (codL 201) 95 = some (.goto 52, 3, 0, 0, 0) := by decide +kernel
theorem k201_98 : look (codL 201) 98 = some (.iload_n 1, 1, 0, 0, 0) := by decide +kernel
theorem k201_99 : look (codL 201) 99 = some (.iconst 1, 1, 0, 0, 0) := by decide +kernel
theorem k201_100 : look (codL 201) 100 = some (.if_icmp .ne 16, 3, 0, 0, 0) := by decide +kernel
theorem k201_103 : look (codL 201) 103 = some (.iload 6, 2, 0, 0, 0) := by decide +kernel
theorem k201_105 : look (codL 201) 105 = some (.ifCond .eq 7, 3, 0, 0, 0) := by decide +kernel
theorem k201_108 : look (codL 201) 108 = some (.iconst 1, 1, 0, 0, 0) := by decide +kernel
theorem k201_109 : look (codL 201) 109 = some (.goto 38, 3, 0, 0, 0) := by decide +kernel
theorem k201_112 : look (codL 201) 112 = some (.iconst 0, 1, 0, 0, 0) := by decide +kernel
theorem k201_113 : look (codL 201) 113 = some (.goto 34, 3, 0, 0, 0) := by decide +kernel
theorem k201_116 : look (codL 201) 116 = some (.iload_n 1, 1, 0, 0, 0) := by decide +kernel
theorem k201_117 : look (codL 201) 117 = some (.iconst 2, 1, 0, 0, 0) := by decide +kernel
theorem k201_118 : look (codL 201) 118 = some (.if_icmp .ne 16, 3, 0, 0, 0) := by decide +kernel
theorem k201_121 : look (codL 201) 121 = some (.iload 4, 2, 0, 0, 0) := by decide +kernel
theorem k201_123 : look (codL 201) 123 = some (.ifCond .eq 7, 3, 0, 0, 0) := by decide +kernel
theorem k201_126 : look (codL 201) 126 = some (.iconst 0, 1, 0, 0, 0) := by decide +kernel
theorem k201_127 : look (codL 201) 127 = some (.goto 20, 3, 0, 0, 0) := by decide +kernel
theorem k201_130 : look (codL 201) 130 = some (.iconst 1, 1, 0, 0, 0) := by decide +kernel
theorem k201_131 : look (codL 201) 131 = some (.goto 16, 3, 0, 0, 0) := by decide +kernel
theorem k201_134 : look (codL 201) 134 = some (.iload 4, 2, 0, 0, 0) := by decide +kernel
theorem k201_136 : look (codL 201) 136 = some (.ifCond .eq 10, 3, 0, 0, 0) := by decide +kernel
theorem k201_139 : look (codL 201) 139 = some (.aload_n 0, 1, 0, 0, 0) := by decide +kernel
theorem k201_140 : look (codL 201) 140 = some (.getfield 166, 3, 10, 10, 0) := by decide +kernel
theorem k201_143 : look (codL 201) 143 = some (.goto 4, 3, 0, 0, 0) := by decide +kernel
theorem k201_146 : look (codL 201) 146 = some (.iconst 0, 1, 0, 0, 0) := by decide +kernel
theorem k201_147 : look (codL 201) 147 = some (.iadd, 1, 0, 0, 0) := by decide +kernel
theorem k201_148 : look (codL 201) 148 = some (.istore_n 2, 1, 0, 0, 0) := by decide +kernel
theorem k201_149 : look (codL 201) 149 = some (.iinc 3 1, 3, 0, 0, 0) := by decide +kernel
theorem k201_152 : look (codL 201) 152 = some (.goto (-134), 3, 0, 0, 0) := by decide +kernel
theorem k201_155 : look (codL 201) 155 = some (.iload_n 2, 1, 0, 0, 0) := by decide +kernel
theorem k201_156 : look (codL 201) 156 = some (.ireturn, 1, 0, 0, 0) := by decide +kernel
theorem k202_0 : look (codL 202) 0 = some (.sipush (-201), 3, 0, 0, 0) := by decide +kernel
theorem k202_3 : look (codL 202) 3 = some (.istore_n 1, 1, 0, 0, 0) := by decide +kernel
theorem k202_4 : look (codL 202) 4 = some (.iconst (-1), 1, 0, 0, 0) := by decide +kernel
theorem k202_5 : look (codL 202) 5 = some (.istore_n 2, 1, 0, 0, 0) := by decide +kernel
theorem k202_6 : look (codL 202) 6 = some (.iconst 0, 1, 0, 0, 0) := by decide +kernel
theorem k202_7 : look (codL 202) 7 = some (.istore_n 3, 1, 0, 0, 0) := by decide +kernel
theorem k202_8 : look (codL 202) 8 = some (.iload_n 3, 1, 0, 0, 0) := by decide +kernel
theorem k202_9 : look (codL 202) 9 = some (.aload_n 0, 1, 0, 0, 0) := by decide +kernel
theorem k202_10 : look (codL 202) 10 = some (.getfield 94, 3, 10, 2, 0) := by decide +kernel
theorem k202_13 : look (codL 202) 13 = some (.if_icmp .ge 64, 3, 0, 0, 0) := by decide +kernel
theorem k202_16 : look (codL 202) 16 = some (.aload_n 0, 1, 0, 0, 0) := by decide +kernel
theorem k202_17 : look (codL 202) 17 = some (.iload_n 3, 1, 0, 0, 0) := by decide +kernel
theorem k202_18 : look (codL 202) 18 = some (.invokevirtual 160, 3, 165, 2, 0) := by decide +kernel
theorem k202_21 : look (codL 202) 21 = some (.ifCond .eq 22, 3, 0, 0, 0) := by decide +kernel
theorem k202_24 : look (codL 202) 24 = some (.aload_n 0, 1, 0, 0, 0) := by decide +kernel
theorem k202_25 : look (codL 202) 25 = some (.iload_n 3, 1, 0, 0, 0) := by decide +kernel
theorem k202_26 : look (codL 202) 26 = some (.aload_n 0, 1, 0, 0, 0) := by decide +kernel
theorem k202_27 : look (codL 202) 27 = some (.getfield 142, 3, 10, 3, 0) := by decide +kernel
theorem k202_30 : look (codL 202) 30 = some (.invokevirtual 212, 3, 182, 3, 0) := by decide +kernel
theorem k202_33 : look (codL 202) 33 = some (.aload_n 0, 1, 0, 0, 0) := by decide +kernel
theorem k202_34 : look (codL 202) 34 = some (.getfield 25, 3, 10, 8, 0) := by decide +kernel
theorem k202_37 : look (codL 202) 37 = some (.iload_n 3, 1, 0, 0, 0) := by decide +kernel
theorem k202_38 : look (codL 202) 38 = some (.iaload, 1, 0, 0, 0) := by decide +kernel
theorem k202_39 : look (codL 202) 39 = some (.imul, 1, 0, 0, 0) := by decide +kernel
theorem k202_40 : look (codL 202) 40 = some (.goto 4, 3, 0, 0, 0) := by decide +kernel
theorem k202_43 : look (codL 202) 43 = some (.iconst (-1), 1, 0, 0, 0) := by decide +kernel
theorem k202_44 : look (codL 202) 44 = some (.istore 4, 2, 0, 0, 0) := by decide +kernel
theorem k202_46 : look (codL 202) 46 = some (.iload 4, 2, 0, 0, 0) := by decide +kernel
theorem k202_48 : look (codL 202) 48 = some (.iload_n 2, 1, 0, 0, 0) := by decide +kernel
theorem k202_49 : look (codL 202) 49 = some (.if_icmp .le 7, 3, 0, 0, 0) := by decide +kernel
theorem k202_52 : look (codL 202) 52 = some (.iload_n 3, 1, 0, 0, 0) := by decide +kernel
theorem k202_53 : look (codL 202) 53 = some (.goto 4, 3, 0, 0, 0) := by decide +kernel
theorem k202_56 : look (codL 202) 56 = some (.iload_n 1, 1, 0, 0, 0) := by decide +kernel
theorem k202_57 : look (codL 202) 57 = some (.istore_n 1, 1, 0, 0, 0) := by decide +kernel
theorem k202_58 : look (codL 202) 58 = some (.iload 4, 2, 0, 0, 0) := by decide +kernel
theorem k202_60 : look (codL 202) 60 = some (.iload_n 2, 1, 0, 0, 0) := by decide +kernel
theorem k202_61 : look (codL 202) 61 = some (.if_icmp .le 8, 3, 0, 0, 0) := by decide +kernel
theorem k202_64 : look (codL 202) 64 = some (.iload 4, 2, 0, 0, 0) := by decide +kernel
theorem k202_66 : look (codL 202) 66 = some (.goto 4, 3, 0, 0, 0) := by decide +kernel
theorem k202_69 : look (codL 202) 69 = some (.iload_n 2, 1, 0, 0, 0) := by decide +kernel
theorem k202_70 : look (codL 202) 70 = some (.istore_n 2, 1, 0, 0, 0) := by decide +kernel
theorem k202_71 : look (codL 202) 71 = some (.iinc 3 1, 3, 0, 0, 0) := by decide +kernel
theorem k202_74 : look (codL 202) 74 = some (.goto (-66), 3, 0, 0, 0) := by decide +kernel
theorem k202_77 : look (codL 202) 77 = some (.iload_n 1, 1, 0, 0, 0) := by decide +kernel
theorem k202_78 : look (codL 202) 78 = some (.ireturn, 1, 0, 0, 0) := by decide +kernel
theorem k203_0 : look (codL 203) 0 = some (.aload_n 0, 1, 0, 0, 0) := by decide +kernel
theorem k203_1 : look (codL 203) 1 = some (.iload_n 1, 1, 0, 0, 0) := by decide +kernel
theorem k203_2 : look (codL 203) 2 = some (.invokevirtual 104, 3, 143, 2, 0) := by decide +kernel
theorem k203_5 : look (codL 203) 5 = some (.ifCond .eq 11, 3, 0, 0, 0) := by decide +kernel
theorem k203_8 : look (codL 203) 8 = some (.aload_n 0, 1, 0, 0, 0) := by decide +kernel
theorem k203_9 : look (codL 203) 9 = some (.iload_n 2, 1, 0, 0, 0) := by decide +kernel
theorem k203_10 : look (codL 203) 10 = some (.invokevirtual 104, 3, 143, 2, 0) := by decide +kernel
theorem k203_13 : look (codL 203) 13 = some (.ifCond .ne 8, 3, 0, 0, 0) := by decide +kernel
theorem k203_16 : look (codL 203) 16 = some (.aload_n 0, 1, 0, 0, 0) := by decide +kernel
theorem k203_17 : look (codL 203) 17 = some (.invokevirtual 110, 3, 133, 1, 0) := by decide +kernel
theorem k203_20 : look (codL 203) 20 = some (.ireturn, 1, 0, 0, 0) := by decide +kernel
theorem k203_21 : look (codL 203) 21 = some (.iconst 0, 1, 0, 0, 0) := by decide +kernel
theorem k203_22 : look (codL 203) 22 = some (.istore_n 3, 1, 0, 0, 0) := by decide +kernel
theorem k203_23 : look (codL 203) 23 = some (.iload_n 3, 1, 0, 0, 0) := by decide +kernel
theorem k203_24 : look (codL 203) 24 = some (.aload_n 0, 1, 0, 0, 0) := by decide +kernel
theorem k203_25 : look (codL 203) 25 = some (.getfield 86, 3, 10, 1, 0) := by decide +kernel
theorem k203_28 : look (codL 203) 28 = some (.if_icmp .ge 26, 3, 0, 0, 0) := by decide +kernel
theorem k203_31 : look (codL 203) 31 = some (.aload_n 0, 1, 0, 0, 0) := by decide +kernel
theorem k203_32 : look (codL 203) 32 = some (.getfield 62, 3, 10, 22, 0) := by decide +kernel
theorem k203_35 : look (codL 203) 35 = some (.iload_n 3, 1, 0, 0, 0) := by decide +kernel
theorem k203_36 : look (codL 203) 36 = some (.iload_n 3, 1, 0, 0, 0) := by decide +kernel
theorem k203_37 : look (codL 203) 37 = some (.iload_n 1, 1, 0, 0, 0) := by decide +kernel
theorem k203_38 : look (codL 203) 38 = some (.if_icmp .ne 7, 3, 0, 0, 0) := by decide +kernel
theorem k203_41 : look (codL 203) 41 = some (.iconst 0, 1, 0, 0, 0) := by decide +kernel
theorem k203_42 : look (codL 203) 42 = some (.goto 5, 3, 0, 0, 0) := by decide +kernel
theorem k203_45 : look (codL 203) 45 = some (.ldc 221, 2, 0, 0, 1048576) := by decide +kernel
theorem k203_47 : look (codL 203) 47 = some (.iastore, 1, 0, 0, 0) := by decide +kernel
theorem k203_48 : look (codL 203) 48 = some (.iinc 3 1, 3, 0, 0, 0) := by decide +kernel
theorem k203_51 : look (codL 203) 51 = some (.goto (-28), 3, 0, 0, 0) := by decide +kernel
theorem k203_54 : look (codL 203) 54 = some (.iconst 0, 1, 0, 0, 0) := by decide +kernel
theorem k203_55 : look (codL 203) 55 = some (.istore_n 3, 1, 0, 0, 0) := by decide +kernel
theorem k203_56 : look (codL 203) 56 = some (.iload_n 3, 1, 0, 0, 0) := by decide +kernel
theorem k203_57 : look (codL 203) 57 = some (.aload_n 0, 1, 0, 0, 0) := by decide +kernel
theorem k203_58 : look (codL 203) 58 = some (.getfield 86, 3, 10, 1, 0) := by decide +kernel
theorem k203_61 : look (codL 203) 61 = some (.if_icmp .ge 89, 3, 0, 0, 0) := by decide +kernel
theorem k203_64 : look (codL 203) 64 = some (.iconst 0, 1, 0, 0, 0) := by decide +kernel
theorem k203_65 : look (codL 203) 65 = some (.istore 4, 2, 0, 0, 0) := by decide +kernel
theorem k203_67 : look (codL 203) 67 = some (.iload 4, 2, 0, 0, 0) := by decide +kernel
theorem k203_69 : look (codL 203) 69 = some (.aload_n 0, 1, 0, 0, 0) := by decide +kernel
theorem k203_70 : look (codL 203) 70 = some (.getfield 94, 3, 10, 2, 0) := by decide +kernel
theorem k203_73 : look (codL 203) 73 = some (.if_icmp .ge 71, 3, 0, 0, 0) := by decide +kernel
theorem k203_76 : look (codL 203) 76 = some (.aload_n 0, 1, 0, 0, 0) := by decide +kernel
theorem k203_77 : look (codL 203) 77 = some (.getfield 62, 3, 10, 22, 0) := by decide +kernel
theorem k203_80 : look (codL 203) 80 = some (.aload_n 0, 1, 0, 0, 0) := by decide +kernel
theorem k203_81 : look (codL 203) 81 = some (.getfield 19, 3, 10, 6, 0) := by decide +kernel
theorem k203_84 : look (codL 203) 84 = some (.iload 4, 2, 0, 0, 0) := by decide +kernel
theorem k203_86 : look (codL 203) 86 = some (.iaload, 1, 0, 0, 0) := by decide +kernel
theorem k203_87 : look (codL 203) 87 = some (.iaload, 1, 0, 0, 0) := by decide +kernel
theorem k203_88 : look (codL 203) 88 = some (.iconst 1, 1, 0, 0, 0) := by decide +kernel
theorem k203_89 : look (codL 203) 89 = some (.iadd, 1, 0, 0, 0) := by decide +kernel
theorem k203_90 : look (codL 203) 90 = some (.istore 5, 2, 0, 0, 0) := by decide +kernel
theorem k203_92 : look (codL 203) 92 = some (.aload_n 0, 1, 0, 0, 0) := by decide +kernel
theorem k203_93 : look (codL 203) 93 = some (.getfield 62, 3, 10, 22, 0) := by decide +kernel
theorem k203_96 : look (codL 203) 96 = some (.aload_n 0, 1, 0, 0, 0) := by decide +kernel
theorem k203_97 : look (codL 203) 97 = some (.getfield 22, 3, 10, 7, 0) := by decide +kernel
theorem k203_100 : look (codL 203) 100 = some (.iload 4, 2, 0, 0, 0) := by decide +kernel
theorem k203_102 : look (codL 203) 102 = some (.iaload, 1, 0, 0, 0) := by decide +kernel
theorem k203_103 : look (codL 203) 103 = some (.iload 5, 2, 0, 0, 0) := by decide +kernel
theorem k203_105 : look (codL 203) 105 = some (.aload_n 0, 1, 0, 0, 0) := by decide +kernel
theorem k203_106 : look (codL 203) 106 = some (.getfield 62, 3, 10, 22, 0) := by decide +kernel
theorem k203_109 : look (codL 203) 109 = some (.aload_n 0, 1, 0, 0, 0) := by decide +kernel
theorem k203_110 : look (codL 203) 110 = some (.getfield 22, 3, 10, 7, 0) := by decide +kernel
theorem k203_113 : look (codL 203) 113 = some (.iload 4, 2, 0, 0, 0) := by decide +kernel
theorem k203_115 : look (codL 203) 115 = some (.iaload, 1, 0, 0, 0) := by decide +kernel
theorem k203_116 : look (codL 203) 116 = some (.iaload, 1, 0, 0, 0) := by decide +kernel
theorem k203_117 : look (codL 203) 117 = some (.if_icmp .ge 8, 3, 0, 0, 0) := by decide +kernel
theorem k203_120 : look (codL 203) 120 = some (.iload 5, 2, 0, 0, 0) := by decide +kernel
theorem k203_122 : look (codL 203) 122 = some (.goto 15, 3, 0, 0, 0) := by decide +kernel
theorem k203_125 : look (codL 203) 125 = some (.aload_n 0, 1, 0, 0, 0) := by decide +kernel
theorem k203_126 : look (codL 203) 126 = some (.getfield 62, 3, 10, 22, 0) := by decide +kernel
theorem k203_129 : look (codL 203) 129 = some (.aload_n 0, 1, 0, 0, 0) := by decide +kernel
theorem k203_130 : look (codL 203) 130 = some (.getfield 22, 3, 10, 7, 0) := by decide +kernel
theorem k203_133 : look (codL 203) 133 = some (.iload 4, 2, 0, 0, 0) := by decide +kernel
theorem k203_135 : look (codL 203) 135 = some (.iaload, 1, 0, 0, 0) := by decide +kernel
theorem k203_136 : look (codL 203) 136 = some (.iaload, 1, 0, 0, 0) := by decide +kernel
theorem k203_137 : look (codL 203) 137 = some (.iastore, 1, 0, 0, 0) := by decide +kernel
theorem k203_138 : look (codL 203) 138 = some (.iinc 4 1, 3, 0, 0, 0) := by decide +kernel
theorem k203_141 : look (codL 203) 141 = some (.goto (-74), 3, 0, 0, 0) := by decide +kernel
theorem k203_144 : look (codL 203) 144 = some (.iinc 3 1, 3, 0, 0, 0) := by decide +kernel
theorem k203_147 : look (codL 203) 147 = some (.goto (-91), 3, 0, 0, 0) := by decide +kernel
theorem k203_150 : look (codL 203) 150 = some (.aload_n 0, 1, 0, 0, 0) := by decide +kernel
theorem k203_151 : look (codL 203) 151 = some (.getfield 62, 3, 10, 22, 0) := by decide +kernel
theorem k203_154 : look (codL 203) 154 = some (.iload_n 2, 1, 0, 0, 0) := by decide +kernel
theorem k203_155 : look (codL 203) 155 = some (.iaload, 1, 0, 0, 0) := by decide +kernel
theorem k203_156 : look (codL 203) 156 = some (.ldc 221, 2, 0, 0, 1048576) := by decide +kernel
theorem k203_158 : look (codL 203) 158 = some (.if_icmp .lt 9, 3, 0, 0, 0) := by decide +kernel
theorem k203_161 : look (codL 203) 161 = some (.sipush (-201), 3, 0, 0, 0) := by decide +kernel
theorem k203_164 : look (codL 203) 164 = some (.goto 9, 3, 0, 0, 0) := by decide +kernel
theorem k203_167 : look (codL 203) 167 = some (.aload_n 0, 1, 0, 0, 0) := by decide +kernel
theorem k203_168 : look (codL 203) 168 = some (.getfield 62, 3, 10, 22, 0) := by decide +kernel
theorem k203_171 : look (codL 203) 171 = some (.iload_n 2, 1, 0, 0, 0) := by decide +kernel
theorem k203_172 : look (codL 203) 172 = some (.iaload, 1, 0, 0, 0) := by decide +kernel
theorem k203_173 : look (codL 203) 173 = some (.ireturn, 1, 0, 0, 0) := by decide +kernel
theorem k204_0 : look (codL 204) 0 = some (.iload_n 1, 1, 0, 0, 0) := by decide +kernel
theorem k204_1 : look (codL 204) 1 = some (.iconst 0, 1, 0, 0, 0) := by decide +kernel
theorem k204_2 : look (codL 204) 2 = some (.ldc 243, 2, 0, 0, 999999) := by decide +kernel
theorem k204_4 : look (codL 204) 4 = some (.invokestatic 90, 3, 136, 3, 0) := by decide +kernel
theorem k204_7 : look (codL 204) 7 = some (.ifCond .eq 23, 3, 0, 0, 0) := by decide +kernel
theorem k204_10 : look (codL 204) 10 = some (.iload_n 2, 1, 0, 0, 0) := by decide +kernel
theorem k204_11 : look (codL 204) 11 = some (.iconst 0, 1, 0, 0, 0) := by decide +kernel
theorem k204_12 : look (codL 204) 12 = some (.bipush 6, 2, 0, 0, 0) := by decide +kernel
theorem k204_14 : look (codL 204) 14 = some (.invokestatic 90, 3, 136, 3, 0) := by decide +kernel
theorem k204_17 : look (codL 204) 17 = some (.ifCond .eq 13, 3, 0, 0, 0) := by decide +kernel
theorem k204_20 : look (codL 204) 20 = some (.iload_n 3, 1, 0, 0, 0) := by decide +kernel
theorem k204_21 : look (codL 204) 21 = some (.iconst 0, 1, 0, 0, 0) := by decide +kernel
theorem k204_22 : look (codL 204) 22 = some (.bipush 16, 2, 0, 0, 0) := by decide +kernel
theorem k204_24 : look (codL 204) 24 = some (.invokestatic 90, 3, 136, 3, 0) := by decide +kernel
theorem k204_27 : look (codL 204) 27 = some (.ifCond .ne 8, 3, 0, 0, 0) := by decide +kernel
theorem k204_30 : look (codL 204) 30 = some (.aload_n 0, 1, 0, 0, 0) := by decide +kernel
theorem k204_31 : look (codL 204) 31 = some (.invokevirtual 110, 3, 133, 1, 0) := by decide +kernel
theorem k204_34 : look (codL 204) 34 = some (.ireturn, 1, 0, 0, 0) := by decide +kernel
theorem k204_35 : look (codL 204) 35 = some (.aload_n 0, 1, 0, 0, 0) := by decide +kernel
theorem k204_36 : look (codL 204) 36 = some (.iconst 0, 1, 0, 0, 0) := by decide +kernel
theorem k204_37 : look (codL 204) 37 = some (.putfield 86, 3, 10, 1, 0) := by decide +kernel
theorem k204_40 : look (codL 204) 40 = some (.aload_n 0, 1, 0, 0, 0) := by decide +kernel
theorem k204_41 : look (codL 204) 41 = some (.iconst 0, 1, 0, 0, 0) := by decide +kernel
theorem k204_42 : look (codL 204) 42 = some (.putfield 94, 3, 10, 2, 0) := by decide +kernel
theorem k204_45 : look (codL 204) 45 = some (.iload_n 1, 1, 0, 0, 0) := by decide +kernel
theorem k204_46 : look (codL 204) 46 = some (.i2l, 1, 0, 0, 0) := by decide +kernel
theorem k204_47 : look (codL 204) 47 = some (.lstore 4, 2, 0, 0, 0) := by decide +kernel
theorem k204_49 : look (codL 204) 49 = some (.iconst 0, 1, 0, 0, 0) := by decide +kernel
theorem k204_50 : look (codL 204) 50 = some (.istore 6, 2, 0, 0, 0) := by decide +kernel
theorem k204_52 : look (codL 204) 52 = some (.iload 6, 2, 0, 0, 0) := by decide +kernel
theorem k204_54 : look (codL 204) 54 = some (.bipush 8, 2, 0, 0, 0) := by decide +kernel
theorem k204_56 : look (codL 204) 56 = some (.if_icmp .ge 82, 3, 0, 0, 0) := by decide +kernel
theorem k204_59 : look (codL 204) 59 = some (.aload_n 0, 1, 0, 0, 0) := by decide +kernel
theorem k204_60 : look (codL 204) 60 = some (.invokevirtual 101, 3, 149, 1, 0) := by decide +kernel
theorem k204_63 : look (codL 204) 63 = some (.pop, 1, 0, 0, 0) := by decide +kernel
theorem k204_64 : look (codL 204) 64 = some (.iconst 0, 1, 0, 0, 0) := by decide +kernel
theorem k204_65 : look (codL 204) 65 = some (.istore 7, 2, 0, 0, 0) := by decide +kernel
theorem k204_67 : look (codL 204) 67 = some (.iload 7, 2, 0, 0, 0) := by decide +kernel
theorem k204_69 : look (codL 204) 69 = some (.iload_n 2, 1, 0, 0, 0) := by decide +kernel
theorem k204_70 : look (codL 204) 70 = some (.if_icmp .ge 62, 3, 0, 0, 0) := by decide +kernel
theorem k204_73 : look (codL 204) 73 = some (.lload 4, 2, 0, 0, 0) := by decide +kernel
theorem k204_75 : look (codL 204) 75 = some (.invokestatic 244, 3, 195, 1, 0) := by decide +kernel
theorem k204_78 : look (codL 204) 78 = some (.lstore 4, 2, 0, 0, 0) := by decide +kernel
theorem k204_80 : look (codL 204) 80 = some (.lload 4, 2, 0, 0, 0) := by decide +kernel
theorem k204_82 : look (codL 204) 82 = some (.ldc2_w 248, 3, 0, 0, 65536) := by decide +kernel
theorem k204_85 : look (codL 204) 85 = some (.ldiv, 1, 0, 0, 0) := by decide +kernel
theorem k204_86 : look (codL 204) 86 = some (.ldc2_w 260, 3, 0, 0, 3) := by decide +kernel
theorem k204_89 : look (codL 204) 89 = some (.lrem, 1, 0, 0, 0) := by decide +kernel
theorem k204_90 : look (codL 204) 90 = some (.l2i, 1, 0, 0, 0) := by decide +kernel
theorem k204_91 : look (codL 204) 91 = some (.istore 8, 2, 0, 0, 0) := by decide +kernel
theorem k204_93 : look (codL 204) 93 = some (.aload_n 0, 1, 0, 0, 0) := by decide +kernel
theorem k204_94 : look (codL 204) 94 = some (.iload 6, 2, 0, 0, 0) := by decide +kernel
theorem k204_96 : look (codL 204) 96 = some (.bipush 40, 2, 0, 0, 0) := by decide +kernel
theorem k204_98 : look (codL 204) 98 = some (.iload 7, 2, 0, 0, 0) := by decide +kernel
theorem k204_100 : look (codL 204) 100 = some (.imul, 1, 0, 0, 0) := by decide +kernel
theorem k204_101 : look (codL 204) 101 = some (.iload 8, 2, 0, 0, 0) := by decide +kernel
theorem k204_103 : look (codL 204) 103 = some (.ifCond .ne 7, 3, 0, 0, 0) := by decide +kernel
theorem k204_106 : look (codL 204) 106 = some (.iconst 4, 1, 0, 0, 0) := by decide +kernel
theorem k204_107 : look (codL 204) 107 = some (.goto 14, 3, 0, 0, 0) := by decide +kernel
theorem k204_110 : look (codL 204) 110 = some (.iload 8, 2, 0, 0, 0) := by decide +kernel
theorem k204_112 : look (codL 204) 112 = some (.iconst 1, 1, 0, 0, 0) := by decide +kernel
theorem k204_113 : look (codL 204) 113 = some (.if_icmp .ne 7, 3, 0, 0, 0) := by decide +kernel
theorem k204_116 : look (codL 204) 116 = some (.iconst 2, 1, 0, 0, 0) := by decide +kernel
theorem k204_117 : look (codL 204) 117 = some (.goto 4, 3, 0, 0, 0) := by decide +kernel
theorem k204_120 : look (codL 204) 120 = some (.iconst 1, 1, 0, 0, 0) := by decide +kernel
theorem k204_121 : look (codL 204) 121 = some (.iadd, 1, 0, 0, 0) := by decide +kernel
theorem k204_122 : look (codL 204) 122 = some (.invokevirtual 119, 3, 152, 3, 0) := by decide +kernel
theorem k204_125 : look (codL 204) 125 = some (.pop, 1, 0, 0, 0) := by decide +kernel
theorem k204_126 : look (codL 204) 126 = some (.iinc 7 1, 3, 0, 0, 0) := by decide +kernel
theorem k204_129 : look (codL 204) 129 = some (.goto (-62), 3, 0, 0, 0) := by decide +kernel
theorem k204_132 : look (codL 204) 132 = some (.iinc 6 1, 3, 0, 0, 0) := by decide +kernel
theorem k204_135 : look (codL 204) 135 = some (.goto (-83), 3, 0, 0, 0) := by decide +kernel
theorem k204_138 : look (codL 204) 138 = some (.iconst 0, 1, 0, 0, 0) := by decide +kernel
theorem k204_139 : look (codL 204) 139 = some (.istore 6, 2, 0, 0, 0) := by decide +kernel
theorem k204_141 : look (codL 204) 141 = some (.iload 6, 2, 0, 0, 0) := by decide +kernel
theorem k204_143 : look (codL 204) 143 = some (.iload_n 3, 1, 0, 0, 0) := by decide +kernel
theorem k204_144 : look (codL 204) 144 = some (.if_icmp .ge 169, 3, 0, 0, 0) := by decide +kernel
theorem k204_147 : look (codL 204) 147 = some (.lload 4, 2, 0, 0, 0) := by decide +kernel
theorem k204_149 : look (codL 204) 149 = some (.invokestatic 244, 3, 195, 1, 0) := by decide +kernel
theorem k204_152 : look (codL 204) 152 = some (.lstore 4, 2, 0, 0, 0) := by decide +kernel
theorem k204_154 : look (codL 204) 154 = some (.lload 4, 2, 0, 0, 0) := by decide +kernel
theorem k204_156 : look (codL 204) 156 = some (.ldc2_w 248, 3, 0, 0, 65536) := by decide +kernel
theorem k204_159 : look (codL 204) 159 = some (.ldiv, 1, 0, 0, 0) := by decide +kernel
theorem k204_160 : look (codL 204) 160 = some (.ldc2_w 262, 3, 0, 0, 8) := by decide +kernel
theorem k204_163 : look (codL 204) 163 = some (.lrem, 1, 0, 0, 0) := by decide +kernel
theorem k204_164 : look (codL 204) 164 = some (.l2i, 1, 0, 0, 0) := by decide +kernel
theorem k204_165 : look (codL 204) 165 = some (.istore 7, 2, 0, 0, 0) := by decide +kernel
theorem k204_167 : look (codL 204) 167 = some (.lload 4, 2, 0, 0, 0) := by decide +kernel
theorem k204_169 : look (codL 204) 169 = some (.invokestatic 244, 3, 195, 1, 0) := by decide +kernel
theorem k204_172 : look (codL 204) 172 = some (.lstore 4, 2, 0, 0, 0) := by decide +kernel
theorem k204_174 : look (codL 204) 174 = some (.lload 4, 2, 0, 0, 0) := by decide +kernel
theorem k204_176 : look (codL 204) 176 = some (.ldc2_w 248, 3, 0, 0, 65536) := by decide +kernel
theorem k204_179 : look (codL 204) 179 = some (.ldiv, 1, 0, 0, 0) := by decide +kernel
theorem k204_180 : look (codL 204) 180 = some (.ldc2_w 262, 3, 0, 0, 8) := by decide +kernel
theorem k204_183 : look (codL 204) 183 = some (.lrem, 1, 0, 0, 0) := by decide +kernel
theorem k204_184 : look (codL 204) 184 = some (.l2i, 1, 0, 0, 0) := by decide +kernel
theorem k204_185 : look (codL 204) 185 = some (.istore 8, 2, 0, 0, 0) := by decide +kernel
theorem k204_187 : look (codL 204) 187 = some (.lload 4, 2, 0, 0, 0) := by decide +kernel
theorem k204_189 : look (codL 204) 189 = some (.invokestatic 244, 3, 195, 1, 0) := by decide +kernel
theorem k204_192 : look (codL 204) 192 = some (.lstore 4, 2, 0, 0, 0) := by decide +kernel
theorem k204_194 : look (codL 204) 194 = some (.aload_n 0, 1, 0, 0, 0) := by decide +kernel
theorem k204_195 : look (codL 204) 195 = some (.iload 7, 2, 0, 0, 0) := by decide +kernel
theorem k204_197 : look (codL 204) 197 = some (.iload 8, 2, 0, 0, 0) := by decide +kernel
theorem k204_199 : look (codL 204) 199 = some (.lload 4, 2, 0, 0, 0) := by decide +kernel
theorem k204_201 : look (codL 204) 201 = some (.ldc2_w 248, 3, 0, 0, 65536) := by decide +kernel
theorem k204_204 : look (codL 204) 204 = some (.ldiv, 1, 0, 0, 0) := by decide +kernel
theorem k204_205 : look (codL 204) 205 = some (.ldc2_w 264, 3, 0, 0, 100) := by decide +kernel
theorem k204_208 : look (codL 204) 208 = some (.lrem, 1, 0, 0, 0) := by decide +kernel
theorem k204_209 : look (codL 204) 209 = some (.l2i, 1, 0, 0, 0) := by decide +kernel
theorem k204_210 : look (codL 204) 210 = some (.invokevirtual 123, 3, 154, 4, 0) := by decide +kernel
theorem k204_213 : look (codL 204) 213 = some (.istore 9, 2, 0, 0, 0) := by decide +kernel
theorem k204_215 : look (codL 204) 215 = some (.iconst 0, 1, 0, 0, 0) := by decide +kernel
theorem k204_216 : look (codL 204) 216 = some (.istore 10, 2, 0, 0, 0) := by decide +kernel
theorem k204_218 : look (codL 204) 218 = some (.iload 10, 2, 0, 0, 0) := by decide +kernel
theorem k204_220 : look (codL 204) 220 = some (.iload_n 2, 1, 0, 0, 0) := by decide +kernel
theorem k204_221 : look (codL 204) 221 = some (.if_icmp .ge 86, 3, 0, 0, 0) := by decide +kernel
theorem k204_224 : look (codL 204) 224 = some (.lload 4, 2, 0, 0, 0) := by decide +kernel
theorem k204_226 : look (codL 204) 226 = some (.invokestatic 244, 3, 195, 1, 0) := by decide +kernel
theorem k204_229 : look (codL 204) 229 = some (.lstore 4, 2, 0, 0, 0) := by decide +kernel
theorem k204_231 : look (codL 204) 231 = some (.lload 4, 2, 0, 0, 0) := by decide +kernel
theorem k204_233 : look (codL 204) 233 = some (.ldc2_w 248, 3, 0, 0, 65536) := by decide +kernel
theorem k204_236 : look (codL 204) 236 = some (.ldiv, 1, 0, 0, 0) := by decide +kernel
theorem k204_237 : look (codL 204) 237 = some (.ldc2_w 262, 3, 0, 0, 8) := by decide +kernel
theorem k204_240 : look (codL 204) 240 = some (.lrem, 1, 0, 0, 0) := by decide +kernel
theorem k204_241 : look (codL 204) 241 = some (.l2i, 1, 0, 0, 0) := by decide +kernel
theorem k204_242 : look (codL 204) 242 = some (.istore 11, 2, 0, 0, 0) := by decide +kernel
theorem k204_244 : look (codL 204) 244 = some (.lload 4, 2, 0, 0, 0) := by decide +kernel
theorem k204_246 : look (codL 204) 246 = some (.ldc2_w 266, 3, 0, 0, 1024) := by decide +kernel
theorem k204_249 : look (codL 204) 249 = some (.ldiv, 1, 0, 0, 0) := by decide +kernel
theorem k204_250 : look (codL 204) 250 = some (.ldc2_w 264, 3, 0, 0, 100) := by decide +kernel
theorem k204_253 : look (codL 204) 253 = some (.lrem, 1, 0, 0, 0) := by decide +kernel
theorem k204_254 : look (codL 204) 254 = some (.l2i, 1, 0, 0, 0) := by decide +kernel
theorem k204_255 : look (codL 204) 255 = some (.istore 12, 2, 0, 0, 0) := by decide +kernel
theorem k204_257 : look (codL 204) 257 = some (.aload_n 0, 1, 0, 0, 0) := by decide +kernel
theorem k204_258 : look (codL 204) 258 = some (.getfield 28, 3, 10, 9, 0) := by decide +kernel
theorem k204_261 : look (codL 204) 261 = some (.bipush 6, 2, 0, 0, 0) := by decide +kernel
theorem k204_263 : look (codL 204) 263 = some (.iload 9, 2, 0, 0, 0) := by decide +kernel
theorem k204_265 : look (codL 204) 265 = some (.imul, 1, 0, 0, 0) := by decide +kernel
theorem k204_266 : look (codL 204) 266 = some (.iload 10, 2, 0, 0, 0) := by decide +kernel
theorem k204_268 : look (codL 204) 268 = some (.iadd, 1, 0, 0, 0) := by decide +kernel
theorem k204_269 : look (codL 204) 269 = some (.iload 11, 2, 0, 0, 0) := by decide +kernel
theorem k204_271 : look (codL 204) 271 = some (.bipush 7, 2, 0, 0, 0) := by decide +kernel
theorem k204_273 : look (codL 204) 273 = some (.if_icmp .ne 10, 3, 0, 0, 0) := by decide +kernel
theorem k204_276 : look (codL 204) 276 = some (.iconst (-1), 1, 0, 0, 0) := by decide +kernel
theorem k204_277 : look (codL 204) 277 = some (.iload 12, 2, 0, 0, 0) := by decide +kernel
theorem k204_279 : look (codL 204) 279 = some (.isub, 1, 0, 0, 0) := by decide +kernel
theorem k204_280 : look (codL 204) 280 = some (.goto 20, 3, 0, 0, 0) := by decide +kernel
theorem k204_283 : look (codL 204) 283 = some (.bipush 40, 2, 0, 0, 0) := by decide +kernel
theorem k204_285 : look (codL 204) 285 = some (.iload 11, 2, 0, 0, 0) := by decide +kernel
theorem k204_287 : look (codL 204) 287 = some (.imul, 1, 0, 0, 0) := by decide +kernel
theorem k204_288 : look (codL 204) 288 = some (.aload_n 0, 1, 0, 0, 0) := by decide +kernel
theorem k204_289 : look (codL 204) 289 = some (.iload 9, 2, 0, 0, 0) := by decide +kernel
theorem k204_291 : look (codL 204) 291 = some (.iload 10, 2, 0, 0, 0) := by decide +kernel
theorem k204_293 : look (codL 204) 293 = some (.invokevirtual 127, 3, 145, 3, 0) := by decide +kernel
theorem k204_296 : look (codL 204) 296 = some (.invokestatic 71, 3, 137, 1, 0) := by decide +kernel
theorem k204_299 : look (codL 204) 299 = some (.iadd, 1, 0, 0, 0) := by decide +kernel
theorem k204_300 : look (codL 204) 300 = some (.iastore, 1, 0, 0, 0) := by decide +kernel
theorem k204_301 : look (codL 204) 301 = some (.iinc 10 1, 3, 0, 0, 0) := by decide +kernel
theorem k204_304 : look (codL 204) 304 = some (.goto (-86), 3, 0, 0, 0) := by decide +kernel
theorem k204_307 : look (codL 204) 307 = some (.iinc 6 1, 3, 0, 0, 0) := by decide +kernel
theorem k204_310 : look (codL 204) 310 = some (.goto (-169), 3, 0, 0, 0) := by decide +kernel
theorem k204_313 : look (codL 204) 313 = some (.iload_n 3, 1, 0, 0, 0) := by decide +kernel
theorem k204_314 : look (codL 204) 314 = some (.ireturn, 1, 0, 0, 0) := by decide +kernel
theorem k205_0 : look (codL 205) 0 = some (.iload_n 1, 1, 0, 0, 0) := by decide +kernel
theorem k205_1 : look (codL 205) 1 = some (.iconst 3, 1, 0, 0, 0) := by decide +kernel
theorem k205_2 : look (codL 205) 2 = some (.if_icmp .ge 12, 3, 0, 0, 0) := by decide +kernel
theorem k205_5 : look (codL 205) 5 = some (.aload_n 0, 1, 0, 0, 0) := by decide +kernel
theorem k205_6 : look (codL 205) 6 = some (.getfield 7, 3, 10, 0, 0) := by decide +kernel
theorem k205_9 : look (codL 205) 9 = some (.iload_n 1, 1, 0, 0, 0) := by decide +kernel
theorem k205_10 : look (codL 205) 10 = some (.iaload, 1, 0, 0, 0) := by decide +kernel
theorem k205_11 : look (codL 205) 11 = some (.goto 43, 3, 0, 0, 0) := by decide +kernel
theorem k205_14 : look (codL 205) 14 = some (.iload_n 1, 1, 0, 0, 0) := by decide +kernel
theorem k205_15 : look (codL 205) 15 = some (.iconst 3, 1, 0, 0, 0) := by decide +kernel
theorem k205_16 : look (codL 205) 16 = some (.if_icmp .ne 10, 3, 0, 0, 0) := by decide +kernel
theorem k205_19 : look (codL 205) 19 = some (.aload_n 0, 1, 0, 0, 0) := by decide +kernel
theorem k205_20 : look (codL 205) 20 = some (.getfield 268, 3, 10, 24, 0) := by decide +kernel
theorem k205_23 : look (codL 205) 23 = some (.goto 31, 3, 0, 0, 0) := by decide +kernel
theorem k205_26 : look (codL 205) 26 = some (.iload_n 1, 1, 0, 0, 0) := by decide +kernel
theorem k205_27 : look (codL 205) 27 = some (.iconst 4, 1, 0, 0, 0) := by decide +kernel
theorem k205_28 : look (codL 205) 28 = some (.if_icmp .ne 10, 3, 0, 0, 0) := by decide +kernel
theorem k205_31 : look (codL 205) 31 = some (.aload_n 0, 1, 0, 0, 0) := by decide +kernel
theorem k205_32 : look (codL 205) 32 = some (.getfield 86, 3, 10, 1, 0) := by decide +kernel
theorem k205_35 : look (codL 205) 35 = some (.goto 19, 3, 0, 0, 0) := by decide +kernel
theorem k205_38 : look (codL 205) 38 = some (.iload_n 1, 1, 0, 0, 0) := by decide +kernel
theorem k205_39 : look (codL 205) 39 = some (.iconst 5, 1, 0, 0, 0) := by decide +kernel
theorem k205_40 : look (codL 205) 40 = some (.if_icmp .ne 10, 3, 0, 0, 0) := by decide +kernel
theorem k205_43 : look (codL 205) 43 = some (.aload_n 0, 1, 0, 0, 0) := by decide +kernel
theorem k205_44 : look (codL 205) 44 = some (.getfield 94, 3, 10, 2, 0) := by decide +kernel
theorem k205_47 : look (codL 205) 47 = some (.goto 7, 3, 0, 0, 0) := by decide +kernel
theorem k205_50 : look (codL 205) 50 = some (.aload_n 0, 1, 0, 0, 0) := by decide +kernel
theorem k205_51 : look (codL 205) 51 = some (.getfield 142, 3, 10, 3, 0) := by decide +kernel
theorem k205_54 : look (codL 205) 54 = some (.ireturn, 1, 0, 0, 0) := by decide +kernel
theorem k206_0 : look (codL 206) 0 = some (.iload_n 1, 1, 0, 0, 0) := by decide +kernel
theorem k206_1 : look (codL 206) 1 = some (.iconst 0, 1, 0, 0, 0) := by decide +kernel
theorem k206_2 : look (codL 206) 2 = some (.bipush 6, 2, 0, 0, 0) := by decide +kernel
theorem k206_4 : look (codL 206) 4 = some (.invokestatic 90, 3, 136, 3, 0) := by decide +kernel
theorem k206_7 : look (codL 206) 7 = some (.ifCond .eq 11, 3, 0, 0, 0) := by decide +kernel
theorem k206_10 : look (codL 206) 10 = some (.aload_n 0, 1, 0, 0, 0) := by decide +kernel
theorem k206_11 : look (codL 206) 11 = some (.iload_n 1, 1, 0, 0, 0) := by decide +kernel
theorem k206_12 : look (codL 206) 12 = some (.invokevirtual 271, 3, 205, 2, 0) := by decide +kernel
theorem k206_15 : look (codL 206) 15 = some (.goto 7, 3, 0, 0, 0) := by decide +kernel
theorem k206_18 : look (codL 206) 18 = some (.aload_n 0, 1, 0, 0, 0) := by decide +kernel
theorem k206_19 : look (codL 206) 19 = some (.invokevirtual 110, 3, 133, 1, 0) := by decide +kernel
theorem k206_22 : look (codL 206) 22 = some (.ireturn, 1, 0, 0, 0) := by decide +kernel
theorem k207_0 : look (codL 207) 0 = some (.ldc2_w 274, 3, 0, 0, 1913) := by decide +kernel
theorem k207_3 : look (codL 207) 3 = some (.lstore_n 1, 1, 0, 0, 0) := by decide +kernel
theorem k207_4 : look (codL 207) 4 = some (.iconst 0, 1, 0, 0, 0) := by decide +kernel
theorem k207_5 : look (codL 207) 5 = some (.istore_n 3, 1, 0, 0, 0) := by decide +kernel
theorem k207_6 : look (codL 207) 6 = some (.iload_n 3, 1, 0, 0, 0) := by decide +kernel
theorem k207_7 : look (codL 207) 7 = some (.bipush 7, 2, 0, 0, 0) := by decide +kernel
theorem k207_9 : look (codL 207) 9 = some (.if_icmp .ge 22, 3, 0, 0, 0) := by decide +kernel
theorem k207_12 : look (codL 207) 12 = some (.ldc2_w 258, 3, 0, 0, 31) := by decide +kernel
theorem k207_15 : look (codL 207) 15 = some (.lload_n 1, 1, 0, 0, 0) := by decide +kernel
theorem k207_16 : look (codL 207) 16 = some (.lmul, 1, 0, 0, 0) := by decide +kernel
theorem k207_17 : look (codL 207) 17 = some (.aload_n 0, 1, 0, 0, 0) := by decide +kernel
theorem k207_18 : look (codL 207) 18 = some (.iload_n 3, 1, 0, 0, 0) := by decide +kernel
theorem k207_19 : look (codL 207) 19 = some (.invokevirtual 271, 3, 205, 2, 0) := by decide +kernel
theorem k207_22 : look (codL 207) 22 = some (.i2l, 1, 0, 0, 0) := by decide +kernel
theorem k207_23 : look (codL 207) 23 = some (.ladd, 1, 0, 0, 0) := by decide +kernel
theorem k207_24 : look (codL 207) 24 = some (.lstore_n 1, 1, 0, 0, 0) := by decide +kernel
theorem k207_25 : look (codL 207) 25 = some (.iinc 3 1, 3, 0, 0, 0) := by decide +kernel
theorem k207_28 : look (codL 207) 28 = some (.goto (-22), 3, 0, 0, 0) := by decide +kernel
theorem k207_31 : look (codL 207) 31 = some (.iconst 0, 1, 0, 0, 0) := by decide +kernel
theorem k207_32 : look (codL 207) 32 = some (.istore_n 3, 1, 0, 0, 0) := by decide +kernel
theorem k207_33 : look (codL 207) 33 = some (.iload_n 3, 1, 0, 0, 0) := by decide +kernel
theorem k207_34 : look (codL 207) 34 = some (.aload_n 0, 1, 0, 0, 0) := by decide +kernel
theorem k207_35 : look (codL 207) 35 = some (.getfield 86, 3, 10, 1, 0) := by decide +kernel
theorem k207_38 : look (codL 207) 38 = some (.if_icmp .ge 63, 3, 0, 0, 0) := by decide +kernel
theorem k207_41 : look (codL 207) 41 = some (.ldc2_w 258, 3, 0, 0, 31) := by decide +kernel
theorem k207_44 : look (codL 207) 44 = some (.lload_n 1, 1, 0, 0, 0) := by decide +kernel
theorem k207_45 : look (codL 207) 45 = some (.lmul, 1, 0, 0, 0) := by decide +kernel
theorem k207_46 : look (codL 207) 46 = some (.aload_n 0, 1, 0, 0, 0) := by decide +kernel
theorem k207_47 : look (codL 207) 47 = some (.getfield 13, 3, 10, 4, 0) := by decide +kernel
theorem k207_50 : look (codL 207) 50 = some (.iload_n 3, 1, 0, 0, 0) := by decide +kernel
theorem k207_51 : look (codL 207) 51 = some (.iaload, 1, 0, 0, 0) := by decide +kernel
theorem k207_52 : look (codL 207) 52 = some (.i2l, 1, 0, 0, 0) := by decide +kernel
theorem k207_53 : look (codL 207) 53 = some (.ladd, 1, 0, 0, 0) := by decide +kernel
theorem k207_54 : look (codL 207) 54 = some (.lstore_n 1, 1, 0, 0, 0) := by decide +kernel
theorem k207_55 : look (codL 207) 55 = some (.iconst 0, 1, 0, 0, 0) := by decide +kernel
theorem k207_56 : look (codL 207) 56 = some (.istore 4, 2, 0, 0, 0) := by decide +kernel
theorem k207_58 : look (codL 207) 58 = some (.iload 4, 2, 0, 0, 0) := by decide +kernel
theorem k207_60 : look (codL 207) 60 = some (.aload_n 0, 1, 0, 0, 0) := by decide +kernel
theorem k207_61 : look (codL 207) 61 = some (.getfield 13, 3, 10, 4, 0) := by decide +kernel
theorem k207_64 : look (codL 207) 64 = some (.iload_n 3, 1, 0, 0, 0) := by decide +kernel
theorem k207_65 : look (codL 207) 65 = some (.iaload, 1, 0, 0, 0) := by decide +kernel
theorem k207_66 : look (codL 207) 66 = some (.if_icmp .ge 29, 3, 0, 0, 0) := by decide +kernel
theorem k207_69 : look (codL 207) 69 = some (.ldc2_w 258, 3, 0, 0, 31) := by decide +kernel
theorem k207_72 : look (codL 207) 72 = some (.lload_n 1, 1, 0, 0, 0) := by decide +kernel
theorem k207_73 : look (codL 207) 73 = some (.lmul, 1, 0, 0, 0) := by decide +kernel
theorem k207_74 : look (codL 207) 74 = some (.aload_n 0, 1, 0, 0, 0) := by decide +kernel
theorem k207_75 : look (codL 207) 75 = some (.getfield 16, 3, 10, 5, 0) := by decide +kernel
theorem k207_78 : look (codL 207) 78 = some (.bipush 6, 2, 0, 0, 0) := by decide +kernel
theorem k207_80 : look (codL 207) 80 = some (.iload_n 3, 1, 0, 0, 0) := by decide +kernel
theorem k207_81 : look (codL 207) 81 = some (.imul, 1, 0, 0, 0) := by decide +kernel
theorem k207_82 : look (codL 207) 82 = some (.iload 4, 2, 0, 0, 0) := by decide +kernel
theorem k207_84 : look (codL 207) 84 = some (.iadd, 1, 0, 0, 0) := by decide +kernel
theorem k207_85 : look (codL 207) 85 = some (.iaload, 1, 0, 0, 0) := by decide +kernel
theorem k207_86 : look (codL 207) 86 = some (.i2l, 1, 0, 0, 0) := by decide +kernel
theorem k207_87 : look (codL 207) 87 = some (.ladd, 1, 0, 0, 0) := by decide +kernel
theorem k207_88 : look (codL 207) 88 = some (.lstore_n 1, 1, 0, 0, 0) := by decide +kernel
theorem k207_89 : look (codL 207) 89 = some (.iinc 4 1, 3, 0, 0, 0) := by decide +kernel
theorem k207_92 : look (codL 207) 92 = some (.goto (-34), 3, 0, 0, 0) := by decide +kernel
theorem k207_95 : look (codL 207) 95 = some (.iinc 3 1, 3, 0, 0, 0) := by decide +kernel
theorem k207_98 : look (codL 207) 98 = some (.goto (-65), 3, 0, 0, 0) := by decide +kernel
theorem k207_101 : look (codL 207) 101 = some (.iconst 0, 1, 0, 0, 0) := by decide +kernel
theorem k207_102 : look (codL 207) 102 = some (.istore_n 3, 1, 0, 0, 0) := by decide +kernel
theorem k207_103 : look (codL 207) 103 = some (.iload_n 3, 1, 0, 0, 0) := by decide +kernel
theorem k207_104 : look (codL 207) 104 = some (.aload_n 0, 1, 0, 0, 0) := by decide +kernel
theorem k207_105 : look (codL 207) 105 = some (.getfield 94, 3, 10, 2, 0) := by decide +kernel
theorem k207_108 : look (codL 207) 108 = some (.if_icmp .ge 85, 3, 0, 0, 0) := by decide +kernel
theorem k207_111 : look (codL 207) 111 = some (.ldc2_w 258, 3, 0, 0, 31) := by decide +kernel
theorem k207_114 : look (codL 207) 114 = some (.lload_n 1, 1, 0, 0, 0) := by decide +kernel
theorem k207_115 : look (codL 207) 115 = some (.lmul, 1, 0, 0, 0) := by decide +kernel
theorem k207_116 : look (codL 207) 116 = some (.aload_n 0, 1, 0, 0, 0) := by decide +kernel
theorem k207_117 : look (codL 207) 117 = some (.getfield 19, 3, 10, 6, 0) := by decide +kernel
theorem k207_120 : look (codL 207) 120 = some (.iload_n 3, 1, 0, 0, 0) := by decide +kernel
theorem k207_121 : look (codL 207) 121 = some (.iaload, 1, 0, 0, 0) := by decide +kernel
theorem k207_122 : look (codL 207) 122 = some (.i2l, 1, 0, 0, 0) := by decide +kernel
theorem k207_123 : look (codL 207) 123 = some (.ladd, 1, 0, 0, 0) := by decide +kernel
theorem k207_124 : look (codL 207) 124 = some (.lstore_n 1, 1, 0, 0, 0) := by decide +kernel
theorem k207_125 : look (codL 207) 125 = some (.ldc2_w 258, 3, 0, 0, 31) := by decide +kernel
theorem k207_128 : look (codL 207) 128 = some (.lload_n 1, 1, 0, 0, 0) := by decide +kernel
theorem k207_129 : look (codL 207) 129 = some (.lmul, 1, 0, 0, 0) := by decide +kernel
theorem k207_130 : look (codL 207) 130 = some (.aload_n 0, 1, 0, 0, 0) := by decide +kernel
theorem k207_131 : look (codL 207) 131 = some (.getfield 22, 3, 10, 7, 0) := by decide +kernel
theorem k207_134 : look (codL 207) 134 = some (.iload_n 3, 1, 0, 0, 0) := by decide +kernel
theorem k207_135 : look (codL 207) 135 = some (.iaload, 1, 0, 0, 0) := by decide +kernel
theorem k207_136 : look (codL 207) 136 = some (.i2l, 1, 0, 0, 0) := by decide +kernel
theorem k207_137 : look (codL 207) 137 = some (.ladd, 1, 0, 0, 0) := by decide +kernel
theorem k207_138 : look (codL 207) 138 = some (.lstore_n 1, 1, 0, 0, 0) := by decide +kernel
theorem k207_139 : look (codL 207) 139 = some (.ldc2_w 258, 3, 0, 0, 31) := by decide +kernel
theorem k207_142 : look (codL 207) 142 = some (.lload_n 1, 1, 0, 0, 0) := by decide +kernel
theorem k207_143 : look (codL 207) 143 = some (.lmul, 1, 0, 0, 0) := by decide +kernel
theorem k207_144 : look (codL 207) 144 = some (.aload_n 0, 1, 0, 0, 0) := by decide +kernel
theorem k207_145 : look (codL 207) 145 = some (.getfield 25, 3, 10, 8, 0) := by decide +kernel
theorem k207_148 : look (codL 207) 148 = some (.iload_n 3, 1, 0, 0, 0) := by decide +kernel
theorem k207_149 : look (codL 207) 149 = some (.iaload, 1, 0, 0, 0) := by decide +kernel
theorem k207_150 : look (codL 207) 150 = some (.i2l, 1, 0, 0, 0) := by decide +kernel
theorem k207_151 : look (codL 207) 151 = some (.ladd, 1, 0, 0, 0) := by decide +kernel
theorem k207_152 : look (codL 207) 152 = some (.lstore_n 1, 1, 0, 0, 0) := by decide +kernel
theorem k207_153 : look (codL 207) 153 = some (.iconst 0, 1, 0, 0, 0) := by decide +kernel
theorem k207_154 : look (codL 207) 154 = some (.istore 4, 2, 0, 0, 0) := by decide +kernel
theorem k207_156 : look (codL 207) 156 = some (.iload 4, 2, 0, 0, 0) := by decide +kernel
theorem k207_158 : look (codL 207) 158 = some (.aload_n 0, 1, 0, 0, 0) := by decide +kernel
theorem k207_159 : look (codL 207) 159 = some (.iload_n 3, 1, 0, 0, 0) := by decide +kernel
theorem k207_160 : look (codL 207) 160 = some (.invokevirtual 133, 3, 146, 2, 0) := by decide +kernel
theorem k207_163 : look (codL 207) 163 = some (.if_icmp .ge 24, 3, 0, 0, 0) := by decide +kernel
theorem k207_166 : look (codL 207) 166 = some (.ldc2_w 258, 3, 0, 0, 31) := by decide +kernel
theorem k207_169 : look (codL 207) 169 = some (.lload_n 1, 1, 0, 0, 0) := by decide +kernel
theorem k207_170 : look (codL 207) 170 = some (.lmul, 1, 0, 0, 0) := by decide +kernel
theorem k207_171 : look (codL 207) 171 = some (.aload_n 0, 1, 0, 0, 0) := by decide +kernel
theorem k207_172 : look (codL 207) 172 = some (.iload_n 3, 1, 0, 0, 0) := by decide +kernel
theorem k207_173 : look (codL 207) 173 = some (.iload 4, 2, 0, 0, 0) := by decide +kernel
theorem k207_175 : look (codL 207) 175 = some (.invokevirtual 139, 3, 147, 3, 0) := by decide +kernel
theorem k207_178 : look (codL 207) 178 = some (.i2l, 1, 0, 0, 0) := by decide +kernel
theorem k207_179 : look (codL 207) 179 = some (.ladd, 1, 0, 0, 0) := by decide +kernel
theorem k207_180 : look (codL 207) 180 = some (.lstore_n 1, 1, 0, 0, 0) := by decide +kernel
theorem k207_181 : look (codL 207) 181 = some (.iinc 4 1, 3, 0, 0, 0) := by decide +kernel
theorem k207_184 : look (codL 207) 184 = some (.goto (-28), 3, 0, 0, 0) := by decide +kernel
theorem k207_187 : look (codL 207) 187 = some (.iinc 3 1, 3, 0, 0, 0) := by decide +kernel
theorem k207_190 : look (codL 207) 190 = some (.goto (-87), 3, 0, 0, 0) := by decide +kernel
theorem k207_193 : look (codL 207) 193 = some (.lload_n 1, 1, 0, 0, 0) := by decide +kernel
theorem k207_194 : look (codL 207) 194 = some (.lreturn, 1, 0, 0, 0) := by decide +kernel
theorem k208_0 : look (codL 208) 0 = some (.iload_n 1, 1, 0, 0, 0) := by decide +kernel
theorem k208_1 : look (codL 208) 1 = some (.iconst 0, 1, 0, 0, 0) := by decide +kernel
theorem k208_2 : look (codL 208) 2 = some (.bipush 127, 2, 0, 0, 0) := by decide +kernel
theorem k208_4 : look (codL 208) 4 = some (.invokestatic 90, 3, 136, 3, 0) := by decide +kernel
theorem k208_7 : look (codL 208) 7 = some (.ifCond .ne 8, 3, 0, 0, 0) := by decide +kernel
theorem k208_10 : look (codL 208) 10 = some (.aload_n 0, 1, 0, 0, 0) := by decide +kernel
theorem k208_11 : look (codL 208) 11 = some (.invokevirtual 110, 3, 133, 1, 0) := by decide +kernel
theorem k208_14 : look (codL 208) 14 = some (.ireturn, 1, 0, 0, 0) := by decide +kernel
theorem k208_15 : look (codL 208) 15 = some (.aload_n 0, 1, 0, 0, 0) := by decide +kernel
theorem k208_16 : look (codL 208) 16 = some (.getfield 268, 3, 10, 24, 0) := by decide +kernel
theorem k208_19 : look (codL 208) 19 = some (.bipush 120, 2, 0, 0, 0) := by decide +kernel
theorem k208_21 : look (codL 208) 21 = some (.if_icmp .ne 8, 3, 0, 0, 0) := by decide +kernel
theorem k208_24 : look (codL 208) 24 = some (.aload_n 0, 1, 0, 0, 0) := by decide +kernel
theorem k208_25 : look (codL 208) 25 = some (.invokevirtual 97, 3, 135, 1, 0) := by decide +kernel
theorem k208_28 : look (codL 208) 28 = some (.ireturn, 1, 0, 0, 0) := by decide +kernel
theorem k208_29 : look (codL 208) 29 = some (.aload_n 0, 1, 0, 0, 0) := by decide +kernel
theorem k208_30 : look (codL 208) 30 = some (.getfield 65, 3, 10, 23, 0) := by decide +kernel
theorem k208_33 : look (codL 208) 33 = some (.aload_n 0, 1, 0, 0, 0) := by decide +kernel
theorem k208_34 : look (codL 208) 34 = some (.getfield 268, 3, 10, 24, 0) := by decide +kernel
theorem k208_37 : look (codL 208) 37 = some (.iload_n 1, 1, 0, 0, 0) := by decide +kernel
theorem k208_38 : look (codL 208) 38 = some (.iastore, 1, 0, 0, 0) := by decide +kernel
theorem k208_39 : look (codL 208) 39 = some (.aload_n 0, 1, 0, 0, 0) := by decide +kernel
theorem k208_40 : look (codL 208) 40 = some (.dup, 1, 0, 0, 0) := by decide +kernel
theorem k208_41 : look (codL 208) 41 = some (.getfield 268, 3, 10, 24, 0) := by decide +kernel
theorem k208_44 : look (codL 208) 44 = some (.iconst 1, 1, 0, 0, 0) := by decide +kernel
theorem k208_45 : look (codL 208) 45 = some (.iadd, 1, 0, 0, 0) := by decide +kernel
theorem k208_46 : look (codL 208) 46 = some (.putfield 268, 3, 10, 24, 0) := by decide +kernel
theorem k208_49 : look (codL 208) 49 = some (.aload_n 0, 1, 0, 0, 0) := by decide +kernel
theorem k208_50 : look (codL 208) 50 = some (.getfield 268, 3, 10, 24, 0) := by decide +kernel
theorem k208_53 : look (codL 208) 53 = some (.ireturn, 1, 0, 0, 0) := by decide +kernel
theorem k209_0 : look (codL 209) 0 = some (.aload_n 0, 1, 0, 0, 0) := by decide +kernel
theorem k209_1 : look (codL 209) 1 = some (.getfield 268, 3, 10, 24, 0) := by decide +kernel
theorem k209_4 : look (codL 209) 4 = some (.istore_n 1, 1, 0, 0, 0) := by decide +kernel
theorem k209_5 : look (codL 209) 5 = some (.aload_n 0, 1, 0, 0, 0) := by decide +kernel
theorem k209_6 : look (codL 209) 6 = some (.iconst 0, 1, 0, 0, 0) := by decide +kernel
theorem k209_7 : look (codL 209) 7 = some (.putfield 268, 3, 10, 24, 0) := by decide +kernel
theorem k209_10 : look (codL 209) 10 = some (.iload_n 1, 1, 0, 0, 0) := by decide +kernel
theorem k209_11 : look (codL 209) 11 = some (.ireturn, 1, 0, 0, 0) := by decide +kernel
theorem k210_0 : look (codL 210) 0 = some (.aload_n 0, 1, 0, 0, 0) := by decide +kernel
theorem k210_1 : look (codL 210) 1 = some (.getfield 276, 3, 10, 25, 0) := by decide +kernel
theorem k210_4 : look (codL 210) 4 = some (.aload_n 0, 1, 0, 0, 0) := by decide +kernel
theorem k210_5 : look (codL 210) 5 = some (.getfield 268, 3, 10, 24, 0) := by decide +kernel
theorem k210_8 : look (codL 210) 8 = some (.if_icmp .ge 15, 3, 0, 0, 0) := by decide +kernel
theorem k210_11 : look (codL 210) 11 = some (.aload_n 0, 1, 0, 0, 0) := by decide +kernel
theorem k210_12 : look (codL 210) 12 = some (.getfield 65, 3, 10, 23, 0) := by decide +kernel
theorem k210_15 : look (codL 210) 15 = some (.aload_n 0, 1, 0, 0, 0) := by decide +kernel
theorem k210_16 : look (codL 210) 16 = some (.getfield 276, 3, 10, 25, 0) := by decide +kernel
theorem k210_19 : look (codL 210) 19 = some (.iaload, 1, 0, 0, 0) := by decide +kernel
theorem k210_20 : look (codL 210) 20 = some (.goto 6, 3, 0, 0, 0) := by decide +kernel
theorem k210_23 : look (codL 210) 23 = some (.sipush (-201), 3, 0, 0, 0) := by decide +kernel
theorem k210_26 : look (codL 210) 26 = some (.ireturn, 1, 0, 0, 0) := by decide +kernel
theorem k211_0 : look (codL 211) 0 = some (.aload_n 0, 1, 0, 0, 0) := by decide +kernel
theorem k211_1 : look (codL 211) 1 = some (.invokevirtual 279, 3, 210, 1, 0) := by decide +kernel
theorem k211_4 : look (codL 211) 4 = some (.bipush 32, 2, 0, 0, 0) := by decide +kernel
theorem k211_6 : look (codL 211) 6 = some (.if_icmp .ne 16, 3, 0, 0, 0) := by decide +kernel
theorem k211_9 : look (codL 211) 9 = some (.aload_n 0, 1, 0, 0, 0) := by decide +kernel
theorem k211_10 : look (codL 211) 10 = some (.dup, 1, 0, 0, 0) := by decide +kernel
theorem k211_11 : look (codL 211) 11 = some (.getfield 276, 3, 10, 25, 0) := by decide +kernel
theorem k211_14 : look (codL 211) 14 = some (.iconst 1, 1, 0, 0, 0) := by decide +kernel
theorem k211_15 : look (codL 211) 15 = some (.iadd, 1, 0, 0, 0) := by decide +kernel
theorem k211_16 : look (codL 211) 16 = some (.putfield 276, 3, 10, 25, 0) := by decide +kernel
theorem k211_19 : look (codL 211) 19 = some (.goto (-19), 3, 0, 0, 0) := by decide +kernel
theorem k211_22 : look (codL 211) 22 = some (.return_, 1, 0, 0, 0) := by decide +kernel
theorem k212_0 : look (codL 212) 0 = some (.iload_n 0, 1, 0, 0, 0) := by decide +kernel
theorem k212_1 : look (codL 212) 1 = some (.bipush 48, 2, 0, 0, 0) := by decide +kernel
theorem k212_3 : look (codL 212) 3 = some (.bipush 57, 2, 0, 0, 0) := by decide +kernel
theorem k212_5 : look (codL 212) 5 = some (.invokestatic 90, 3, 136, 3, 0) := by decide +kernel
theorem k212_8 : look (codL 212) 8 = some (.ireturn, 1, 0, 0, 0) := by decide +kernel
theorem k213_0 : look (codL 213) 0 = some (.iconst 0, 1, 0, 0, 0) := by decide +kernel
theorem k213_1 : look (codL 213) 1 = some (.istore_n 2, 1, 0, 0, 0) := by decide +kernel
theorem k213_2 : look (codL 213) 2 = some (.iload_n 1, 1, 0, 0, 0) := by decide +kernel
theorem k213_3 : look (codL 213) 3 = some (.iload_n 2, 1, 0, 0, 0) := by decide +kernel
theorem k213_4 : look (codL 213) 4 = some (.iadd, 1, 0, 0, 0) := by decide +kernel
theorem k213_5 : look (codL 213) 5 = some (.aload_n 0, 1, 0, 0, 0) := by decide +kernel
theorem k213_6 : look (codL 213) 6 = some (.getfield 268, 3, 10, 24, 0) := by decide +kernel
theorem k213_9 : look (codL 213) 9 = some (.if_icmp .ge 23, 3, 0, 0, 0) := by decide +kernel
theorem k213_12 : look (codL 213) 12 = some (.aload_n 0, 1, 0, 0, 0) := by decide +kernel
theorem k213_13 : look (codL 213) 13 = some (.getfield 65, 3, 10, 23, 0) := by decide +kernel
theorem k213_16 : look (codL 213) 16 = some (.iload_n 1, 1, 0, 0, 0) := by decide +kernel
theorem k213_17 : look (codL 213) 17 = some (.iload_n 2, 1, 0, 0, 0) := by decide +kernel
theorem k213_18 : look (codL 213) 18 = some (.iadd, 1, 0, 0, 0) := by decide +kernel
theorem k213_19 : look (codL 213) 19 = some (.iaload, 1, 0, 0, 0) := by decide +kernel
theorem k213_20 : look (codL 213) 20 = some (.invokestatic 282, 3, 212, 1, 0) := by decide +kernel
theorem k213_23 : look (codL 213) 23 = some (.ifCond .eq 9, 3, 0, 0, 0) := by decide +kernel
theorem k213_26 : look (codL 213) 26 = some (.iinc 2 1, 3, 0, 0, 0) := by decide +kernel
theorem k213_29 : look (codL 213) 29 = some (.goto (-27), 3, 0, 0, 0) := by decide +kernel
theorem k213_32 : look (codL 213) 32 = some (.iload_n 2, 1, 0, 0, 0) := by decide +kernel
theorem k213_33 : look (codL 213) 33 = some (.ireturn, 1, 0, 0, 0) := by decide +kernel
theorem k214_0 : look (codL 214) 0 = some (.aload_n 0, 1, 0, 0, 0) := by decide +kernel
theorem k214_1 : look (codL 214) 1 = some (.invokevirtual 285, 3, 211, 1, 0) := by decide +kernel
theorem k214_4 : look (codL 214) 4 = some (.aload_n 0, 1, 0, 0, 0) := by decide +kernel
theorem k214_5 : look (codL 214) 5 = some (.aload_n 0, 1, 0, 0, 0) := by decide +kernel
theorem k214_6 : look (codL 214) 6 = some (.getfield 276, 3, 10, 25, 0) := by decide +kernel
theorem k214_9 : look (codL 214) 9 = some (.invokevirtual 288, 3, 213, 2, 0) := by decide +kernel
theorem k214_12 : look (codL 214) 12 = some (.istore_n 3, 1, 0, 0, 0) := by decide +kernel
theorem k214_13 : look (codL 214) 13 = some (.iconst 0, 1, 0, 0, 0) := by decide +kernel
theorem k214_14 : look (codL 214) 14 = some (.istore 4, 2, 0, 0, 0) := by decide +kernel
theorem k214_16 : look (codL 214) 16 = some (.iconst 0, 1, 0, 0, 0) := by decide +kernel
theorem k214_17 : look (codL 214) 17 = some (.istore 5, 2, 0, 0, 0) := by decide +kernel
theorem k214_19 : look (codL 214) 19 = some (.iload 5, 2, 0, 0, 0) := by decide +kernel
theorem k214_21 : look (codL 214) 21 = some (.iload_n 3, 1, 0, 0, 0) := by decide +kernel
theorem k214_22 : look (codL 214) 22 = some (.if_icmp .ge 38, 3, 0, 0, 0) := by decide +kernel
theorem k214_25 : look (codL 214) 25 = some (.iload 5, 2, 0, 0, 0) := by decide +kernel
theorem k214_27 : look (codL 214) 27 = some (.iconst 3, 1, 0, 0, 0) := by decide +kernel
theorem k214_28 : look (codL 214) 28 = some (.if_icmp .ge 32, 3, 0, 0, 0) := by decide +kernel
theorem k214_31 : look (codL 214) 31 = some (.bipush 10, 2, 0, 0, 0) := by decide +kernel
theorem k214_33 : look (codL 214) 33 = some (.iload 4, 2, 0, 0, 0) := by decide +kernel
theorem k214_35 : look (codL 214) 35 = some (.imul, 1, 0, 0, 0) := by decide +kernel
theorem k214_36 : look (codL 214) 36 = some (.aload_n 0, 1, 0, 0, 0) := by decide +kernel
theorem k214_37 : look (codL 214) 37 = some (.getfield 65, 3, 10, 23, 0) := by decide +kernel
theorem k214_40 : look (codL 214) 40 = some (.aload_n 0, 1, 0, 0, 0) := by decide +kernel
theorem k214_41 : look (codL 214) 41 = some (.getfield 276, 3, 10, 25, 0) := by decide +kernel
theorem k214_44 : look (codL 214) 44 = some (.iload 5, 2, 0, 0, 0) := by decide +kernel
theorem k214_46 : look (codL 214) 46 = some (.iadd, 1, 0, 0, 0) := by decide +kernel
theorem k214_47 : look (codL 214) 47 = some (.iaload, 1, 0, 0, 0) := by decide +kernel
theorem k214_48 : look (codL 214) 48 = some (.iadd, 1, 0, 0, 0) := by decide +kernel
theorem k214_49 : look (codL 214) 49 = some (.bipush 48, 2, 0, 0, 0) := by decide +kernel
theorem k214_51 : look (codL 214) 51 = some (.isub, 1, 0, 0, 0) := by decide +kernel
theorem k214_52 : look (codL 214) 52 = some (.istore 4, 2, 0, 0, 0) := by decide +kernel
theorem k214_54 : look (codL 214) 54 = some (.iinc 5 1, 3, 0, 0, 0) := by decide +kernel
theorem k214_57 : look (codL 214) 57 = some (.goto (-38), 3, 0, 0, 0) := by decide +kernel
theorem k214_60 : look (codL 214) 60 = some (.iload_n 3, 1, 0, 0, 0) := by decide +kernel
theorem k214_61 : look (codL 214) 61 = some (.iconst 1, 1, 0, 0, 0) := by decide +kernel
theorem k214_62 : look (codL 214) 62 = some (.iconst 3, 1, 0, 0, 0) := by decide +kernel
theorem k214_63 : look (codL 214) 63 = some (.invokestatic 90, 3, 136, 3, 0) := by decide +kernel
theorem k214_66 : look (codL 214) 66 = some (.ifCond .eq 13, 3, 0, 0, 0) := by decide +kernel
theorem k214_69 : look (codL 214) 69 = some (.iload 4, 2, 0, 0, 0) := by decide +kernel
theorem k214_71 : look (codL 214) 71 = some (.iload_n 1, 1, 0, 0, 0) := by decide +kernel
theorem k214_72 : look (codL 214) 72 = some (.iload_n 2, 1, 0, 0, 0) := by decide +kernel
theorem k214_73 : look (codL 214) 73 = some (.invokestatic 90, 3, 136, 3, 0) := by decide +kernel
theorem k214_76 : look (codL 214) 76 = some (.ifCond .ne 5, 3, 0, 0, 0) := by decide +kernel
theorem k214_79 : look (codL 214) 79 = some (.iconst 0, 1, 0, 0, 0) := by decide +kernel
theorem k214_80 : look (codL 214) 80 = some (.ireturn, 1, 0, 0, 0) := by decide +kernel
theorem k214_81 : look (codL 214) 81 = some (.aload_n 0, 1, 0, 0, 0) := by decide +kernel
theorem k214_82 : look (codL 214) 82 = some (.iload 4, 2, 0, 0, 0) := by decide +kernel
theorem k214_84 : look (codL 214) 84 = some (.putfield 291, 3, 10, 26, 0) := by decide +kernel
theorem k214_87 : look (codL 214) 87 = some (.aload_n 0, 1, 0, 0, 0) := by decide +kernel
theorem k214_88 : look (codL 214) 88 = some (.dup, 1, 0, 0, 0) := by decide +kernel
theorem k214_89 : look (codL 214) 89 = some (.getfield 276, 3, 10, 25, 0) := by decide +kernel
theorem k214_92 : look (codL 214) 92 = some (.iload_n 3, 1, 0, 0, 0) := by decide +kernel
theorem k214_93 : look (codL 214) 93 = some (.iadd, 1, 0, 0, 0) := by decide +kernel
theorem k214_94 : look (codL 214) 94 = some (.putfield 276, 3, 10, 25, 0) := by decide +kernel
theorem k214_97 : look (codL 214) 97 = some (.iconst 1, 1, 0, 0, 0) := by decide +kernel
theorem k214_98 : look (codL 214) 98 = some (.ireturn, 1, 0, 0, 0) := by decide +kernel
theorem k215_0 : look (codL 215) 0 = some (.aload_n 0, 1, 0, 0, 0) := by decide +kernel
theorem k215_1 : look (codL 215) 1 = some (.invokevirtual 285, 3, 211, 1, 0) := by decide +kernel
theorem k215_4 : look (codL 215) 4 = some (.aload_n 0, 1, 0, 0, 0) := by decide +kernel
theorem k215_5 : look (codL 215) 5 = some (.invokevirtual 279, 3, 210, 1, 0) := by decide +kernel
theorem k215_8 : look (codL 215) 8 = some (.bipush 59, 2, 0, 0, 0) := by decide +kernel
theorem k215_10 : look (codL 215) 10 = some (.if_icmp .eq 5, 3, 0, 0, 0) := by decide +kernel
theorem k215_13 : look (codL 215) 13 = some (.iconst 0, 1, 0, 0, 0) := by decide +kernel
theorem k215_14 : look (codL 215) 14 = some (.ireturn, 1, 0, 0, 0) := by decide +kernel
theorem k215_15 : look (codL 215) 15 = some (.aload_n 0, 1, 0, 0, 0) := by decide +kernel
theorem k215_16 : look (codL 215) 16 = some (.dup, 1, 0, 0, 0) := by decide +kernel
theorem k215_17 : look (codL 215) 17 = some (.getfield 276, 3, 10, 25, 0) := by decide +kernel
theorem k215_20 : look (codL 215) 20 = some (.iconst 1, 1, 0, 0, 0) := by decide +kernel
theorem k215_21 : look (codL 215) 21 = some (.iadd, 1, 0, 0, 0) := by decide +kernel
theorem k215_22 : look (codL 215) 22 = some (.putfield 276, 3, 10, 25, 0) := by decide +kernel
theorem k215_25 : look (codL 215) 25 = some (.iconst 1, 1, 0, 0, 0) := by decide +kernel
theorem k215_26 : look (codL 215) 26 = some (.ireturn, 1, 0, 0, 0) := by decide +kernel
theorem k216_0 : look (codL 216) 0 = some (.aload_n 0, 1, 0, 0, 0) := by decide +kernel
theorem k216_1 : look (codL 216) 1 = some (.getfield 86, 3, 10, 1, 0) := by decide +kernel
theorem k216_4 : look (codL 216) 4 = some (.bipush 10, 2, 0, 0, 0) := by decide +kernel
theorem k216_6 : look (codL 216) 6 = some (.if_icmp .ne 5, 3, 0, 0, 0) := by decide +kernel
theorem k216_9 : look (codL 216) 9 = some (.iconst 0, 1, 0, 0, 0) := by decide +kernel
theorem k216_10 : look (codL 216) 10 = some (.ireturn, 1, 0, 0, 0) := by decide +kernel
theorem k216_11 : look (codL 216) 11 = some (.aload_n 0, 1, 0, 0, 0) := by decide +kernel
theorem k216_12 : look (codL 216) 12 = some (.dup, 1, 0, 0, 0) := by decide +kernel
theorem k216_13 : look (codL 216) 13 = some (.getfield 276, 3, 10, 25, 0) := by decide +kernel
theorem k216_16 : look (codL 216) 16 = some (.iconst 1, 1, 0, 0, 0) := by decide +kernel
theorem k216_17 : look (codL 216) 17 = some (.iadd, 1, 0, 0, 0) := by decide +kernel
theorem k216_18 : look (codL 216) 18 = some (.putfield 276, 3, 10, 25, 0) := by decide +kernel
theorem k216_21 : look (codL 216) 21 = some (.aload_n 0, 1, 0, 0, 0) := by decide +kernel
theorem k216_22 : look (codL 216) 22 = some (.invokevirtual 101, 3, 149, 1, 0) := by decide +kernel
theorem k216_25 : look (codL 216) 25 = some (.istore_n 1, 1, 0, 0, 0) := by decide +kernel
theorem k216_26 : look (codL 216) 26 = some (.aload_n 0, 1, 0, 0, 0) := by decide +kernel
theorem k216_27 : look (codL 216) 27 = some (.invokevirtual 285, 3, 211, 1, 0) := by decide +kernel
theorem k216_30 : look (codL 216) 30 = some (.aload_n 0, 1, 0, 0, 0) := by decide +kernel
theorem k216_31 : look (codL 216) 31 = some (.invokevirtual 279, 3, 210, 1, 0) := by decide +kernel
theorem k216_34 : look (codL 216) 34 = some (.invokestatic 282, 3, 212, 1, 0) := by decide +kernel
theorem k216_37 : look (codL 216) 37 = some (.ifCond .eq 78, 3, 0, 0, 0) := by decide +kernel
theorem k216_40 : look (codL 216) 40 = some (.aload_n 0, 1, 0, 0, 0) := by decide +kernel
theorem k216_41 : look (codL 216) 41 = some (.getfield 276, 3, 10, 25, 0) := by decide +kernel
theorem k216_44 : look (codL 216) 44 = some (.istore_n 2, 1, 0, 0, 0) := by decide +kernel
theorem k216_45 : look (codL 216) 45 = some (.aload_n 0, 1, 0, 0, 0) := by decide +kernel
theorem k216_46 : look (codL 216) 46 = some (.getfield 13, 3, 10, 4, 0) := by decide +kernel
theorem k216_49 : look (codL 216) 49 = some (.iload_n 1, 1, 0, 0, 0) := by decide +kernel
theorem k216_50 : look (codL 216) 50 = some (.iaload, 1, 0, 0, 0) := by decide +kernel
theorem k216_51 : look (codL 216) 51 = some (.bipush 6, 2, 0, 0, 0) := by decide +kernel
theorem k216_53 : look (codL 216) 53 = some (.if_icmp .eq 14, 3, 0, 0, 0) := by decide +kernel
theorem k216_56 : look (codL 216) 56 = some (.aload_n 0, 1, 0, 0, 0) := by decide +kernel
theorem k216_57 : look (codL 216) 57 = some (.iconst 0, 1, 0, 0, 0) := by decide +kernel
theorem k216_58 : look (codL 216) 58 = some (.sipush 999, 3, 0, 0, 0) := by decide +kernel
theorem k216_61 : look (codL 216) 61 = some (.invokevirtual 294, 3, 214, 3, 0) := by decide +kernel
theorem k216_64 : look (codL 216) 64 = some (.ifCond .ne 5, 3, 0, 0, 0) := by decide +kernel
theorem k216_67 : look (codL 216) 67 = some (.iconst 0, 1, 0, 0, 0) := by decide +kernel
theorem k216_68 : look (codL 216) 68 = some (.ireturn, 1, 0, 0, 0) := by decide +kernel
theorem k216_69 : look (codL 216) 69 = some (.aload_n 0, 1, 0, 0, 0) := by decide +kernel
theorem k216_70 : look (codL 216) 70 = some (.getfield 291, 3, 10, 26, 0) := by decide +kernel
theorem k216_73 : look (codL 216) 73 = some (.invokestatic 107, 3, 140, 1, 0) := by decide +kernel
theorem k216_76 : look (codL 216) 76 = some (.ifCond .eq 15, 3, 0, 0, 0) := by decide +kernel
theorem k216_79 : look (codL 216) 79 = some (.aload_n 0, 1, 0, 0, 0) := by decide +kernel
theorem k216_80 : look (codL 216) 80 = some (.iload_n 1, 1, 0, 0, 0) := by decide +kernel
theorem k216_81 : look (codL 216) 81 = some (.aload_n 0, 1, 0, 0, 0) := by decide +kernel
theorem k216_82 : look (codL 216) 82 = some (.getfield 291, 3, 10, 26, 0) := by decide +kernel
theorem k216_85 : look (codL 216) 85 = some (.invokevirtual 113, 3, 151, 3, 0) := by decide +kernel
theorem k216_88 : look (codL 216) 88 = some (.ifCond .eq 10, 3, 0, 0, 0) := by decide +kernel
theorem k216_91 : look (codL 216) 91 = some (.aload_n 0, 1, 0, 0, 0) := by decide +kernel
theorem k216_92 : look (codL 216) 92 = some (.iload_n 2, 1, 0, 0, 0) := by decide +kernel
theorem k216_93 : look (codL 216) 93 = some (.putfield 276, 3, 10, 25, 0) := by decide +kernel
theorem k216_96 : look (codL 216) 96 = some (.iconst 0, 1, 0, 0, 0) := by decide +kernel
theorem k216_97 : look (codL 216) 97 = some (.ireturn, 1, 0, 0, 0) := by decide +kernel
theorem k216_98 : look (codL 216) 98 = some (.aload_n 0, 1, 0, 0, 0) := by decide +kernel
theorem k216_99 : look (codL 216) 99 = some (.iload_n 1, 1, 0, 0, 0) := by decide +kernel
theorem k216_100 : look (codL 216) 100 = some (.aload_n 0, 1, 0, 0, 0) := by decide +kernel
theorem k216_101 : look (codL 216) 101 = some (.getfield 291, 3, 10, 26, 0) := by decide +kernel
theorem k216_104 : look (codL 216) 104 = some (.invokevirtual 119, 3, 152, 3, 0) := by decide +kernel
theorem k216_107 : look (codL 216) 107 = some (.pop, 1, 0, 0, 0) := by decide +kernel
theorem k216_108 : look (codL 216) 108 = some (.aload_n 0, 1, 0, 0, 0) := by decide +kernel
theorem k216_109 : look (codL 216) 109 = some (.invokevirtual 285, 3, 211, 1, 0) := by decide +kernel
theorem k216_112 : look (codL 216) 112 = some (.goto (-82), 3, 0, 0, 0) := by decide +kernel
theorem k216_115 : look (codL 216) 115 = some (.aload_n 0, 1, 0, 0, 0) := by decide +kernel
theorem k216_116 : look (codL 216) 116 = some (.invokevirtual 297, 3, 215, 1, 0) := by decide +kernel
theorem k216_119 : look (codL 216) 119 = some (.ireturn, 1, 0, 0, 0) := by decide +kernel
theorem k217_0 : look (codL 217) 0 = some (.aload_n 0, 1, 0, 0, 0) := by decide +kernel
theorem k217_1 : look (codL 217) 1 = some (.aload_n 0, 1, 0, 0, 0) := by decide +kernel
theorem k217_2 : look (codL 217) 2 = some (.getfield 276, 3, 10, 25, 0) := by decide +kernel
theorem k217_5 : look (codL 217) 5 = some (.iconst 1, 1, 0, 0, 0) := by decide +kernel
theorem k217_6 : look (codL 217) 6 = some (.iadd, 1, 0, 0, 0) := by decide +kernel
theorem k217_7 : look (codL 217) 7 = some (.invokevirtual 288, 3, 213, 2, 0) := by decide +kernel
theorem k217_10 : look (codL 217) 10 = some (.istore_n 1, 1, 0, 0, 0) := by decide +kernel
theorem k217_11 : look (codL 217) 11 = some (.iconst 0, 1, 0, 0, 0) := by decide +kernel
theorem k217_12 : look (codL 217) 12 = some (.istore_n 2, 1, 0, 0, 0) := by decide +kernel
theorem k217_13 : look (codL 217) 13 = some (.iconst 0, 1, 0, 0, 0) := by decide +kernel
theorem k217_14 : look (codL 217) 14 = some (.istore_n 3, 1, 0, 0, 0) := by decide +kernel
theorem k217_15 : look (codL 217) 15 = some (.iload_n 3, 1, 0, 0, 0) := by decide +kernel
theorem k217_16 : look (codL 217) 16 = some (.iload_n 1, 1, 0, 0, 0) := by decide +kernel
theorem k217_17 : look (codL 217) 17 = some (.if_icmp .ge 36, 3, 0, 0, 0) := by decide +kernel
theorem k217_20 : look (codL 217) 20 = some (.iload_n 3, 1, 0, 0, 0) := by decide +kernel
theorem k217_21 : look (codL 217) 21 = some (.iconst 3, 1, 0, 0, 0) := by decide +kernel
theorem k217_22 : look (codL 217) 22 = some (.if_icmp .ge 31, 3, 0, 0, 0) := by decide +kernel
theorem k217_25 : look (codL 217) 25 = some (.bipush 10, 2, 0, 0, 0) := by decide +kernel
theorem k217_27 : look (codL 217) 27 = some (.iload_n 2, 1, 0, 0, 0) := by decide +kernel
theorem k217_28 : look (codL 217) 28 = some (.imul, 1, 0, 0, 0) := by decide +kernel
theorem k217_29 : look (codL 217) 29 = some (.aload_n 0, 1, 0, 0, 0) := by decide +kernel
theorem k217_30 : look (codL 217) 30 = some (.getfield 65, 3, 10, 23, 0) := by decide +kernel
theorem k217_33 : look (codL 217) 33 = some (.aload_n 0, 1, 0, 0, 0) := by decide +kernel
theorem k217_34 : look (codL 217) 34 = some (.getfield 276, 3, 10, 25, 0) := by decide +kernel
theorem k217_37 : look (codL 217) 37 = some (.iconst 1, 1, 0, 0, 0) := by decide +kernel
theorem k217_38 : look (codL 217) 38 = some (.iadd, 1, 0, 0, 0) := by decide +kernel
theorem k217_39 : look (codL 217) 39 = some (.iload_n 3, 1, 0, 0, 0) := by decide +kernel
theorem k217_40 : look (codL 217) 40 = some (.iadd, 1, 0, 0, 0) := by decide +kernel
theorem k217_41 : look (codL 217) 41 = some (.iaload, 1, 0, 0, 0) := by decide +kernel
theorem k217_42 : look (codL 217) 42 = some (.iadd, 1, 0, 0, 0) := by decide +kernel
theorem k217_43 : look (codL 217) 43 = some (.bipush 48, 2, 0, 0, 0) := by decide +kernel
theorem k217_45 : look (codL 217) 45 = some (.isub, 1, 0, 0, 0) := by decide +kernel
theorem k217_46 : look (codL 217) 46 = some (.istore_n 2, 1, 0, 0, 0) := by decide +kernel
theorem k217_47 : look (codL 217) 47 = some (.iinc 3 1, 3, 0, 0, 0) := by decide +kernel
theorem k217_50 : look (codL 217) 50 = some (.goto (-35), 3, 0, 0, 0) := by decide +kernel
theorem k217_53 : look (codL 217) 53 = some (.iload_n 1, 1, 0, 0, 0) := by decide +kernel
theorem k217_54 : look (codL 217) 54 = some (.iconst 1, 1, 0, 0, 0) := by decide +kernel
theorem k217_55 : look (codL 217) 55 = some (.iconst 3, 1, 0, 0, 0) := by decide +kernel
theorem k217_56 : look (codL 217) 56 = some (.invokestatic 90, 3, 136, 3, 0) := by decide +kernel
theorem k217_59 : look (codL 217) 59 = some (.ifCond .eq 9, 3, 0, 0, 0) := by decide +kernel
theorem k217_62 : look (codL 217) 62 = some (.iload_n 2, 1, 0, 0, 0) := by decide +kernel
theorem k217_63 : look (codL 217) 63 = some (.bipush 99, 2, 0, 0, 0) := by decide +kernel
theorem k217_65 : look (codL 217) 65 = some (.if_icmp .le 5, 3, 0, 0, 0) := by decide +kernel
theorem k217_68 : look (codL 217) 68 = some (.iconst 0, 1, 0, 0, 0) := by decide +kernel
theorem k217_69 : look (codL 217) 69 = some (.ireturn, 1, 0, 0, 0) := by decide +kernel
theorem k217_70 : look (codL 217) 70 = some (.aload_n 0, 1, 0, 0, 0) := by decide +kernel
theorem k217_71 : look (codL 217) 71 = some (.dup, 1, 0, 0, 0) := by decide +kernel
theorem k217_72 : look (codL 217) 72 = some (.getfield 276, 3, 10, 25, 0) := by decide +kernel
theorem k217_75 : look (codL 217) 75 = some (.iload_n 1, 1, 0, 0, 0) := by decide +kernel
theorem k217_76 : look (codL 217) 76 = some (.iconst 1, 1, 0, 0, 0) := by decide +kernel
theorem k217_77 : look (codL 217) 77 = some (.iadd, 1, 0, 0, 0) := by decide +kernel
theorem k217_78 : look (codL 217) 78 = some (.iadd, 1, 0, 0, 0) := by decide +kernel
theorem k217_79 : look (codL 217) 79 = some (.putfield 276, 3, 10, 25, 0) := by decide +kernel
theorem k217_82 : look (codL 217) 82 = some (.iconst (-1), 1, 0, 0, 0) := by decide +kernel
theorem k217_83 : look (codL 217) 83 = some (.iload_n 2, 1, 0, 0, 0) := by decide +kernel
theorem k217_84 : look (codL 217) 84 = some (.isub, 1, 0, 0, 0) := by decide +kernel
theorem k217_85 : look (codL 217) 85 = some (.ireturn, 1, 0, 0, 0) := by decide +kernel
theorem k218_0 : look (codL 218) 0 = some (.aload_n 0, 1, 0, 0, 0) := by decide +kernel
theorem k218_1 : look (codL 218) 1 = some (.invokevirtual 285, 3, 211, 1, 0) := by decide +kernel
theorem k218_4 : look (codL 218) 4 = some (.aload_n 0, 1, 0, 0, 0) := by decide +kernel
theorem k218_5 : look (codL 218) 5 = some (.getfield 276, 3, 10, 25, 0) := by decide +kernel
theorem k218_8 : look (codL 218) 8 = some (.istore_n 3, 1, 0, 0, 0) := by decide +kernel
theorem k218_9 : look (codL 218) 9 = some (.iconst 0, 1, 0, 0, 0) := by decide +kernel
theorem k218_10 : look (codL 218) 10 = some (.istore 4, 2, 0, 0, 0) := by decide +kernel
theorem k218_12 : look (codL 218) 12 = some (.aload_n 0, 1, 0, 0, 0) := by decide +kernel
theorem k218_13 : look (codL 218) 13 = some (.invokevirtual 279, 3, 210, 1, 0) := by decide +kernel
theorem k218_16 : look (codL 218) 16 = some (.bipush 35, 2, 0, 0, 0) := by decide +kernel
theorem k218_18 : look (codL 218) 18 = some (.if_icmp .ne 12, 3, 0, 0, 0) := by decide +kernel
theorem k218_21 : look (codL 218) 21 = some (.aload_n 0, 1, 0, 0, 0) := by decide +kernel
theorem k218_22 : look (codL 218) 22 = some (.invokevirtual 301, 3, 217, 1, 0) := by decide +kernel
theorem k218_25 : look (codL 218) 25 = some (.istore 4, 2, 0, 0, 0) := by decide +kernel
theorem k218_27 : look (codL 218) 27 = some (.goto 20, 3, 0, 0, 0) := by decide +kernel
theorem k218_30 : look (codL 218) 30 = some (.aload_n 0, 1, 0, 0, 0) := by decide +kernel
theorem k218_31 : look (codL 218) 31 = some (.iconst 0, 1, 0, 0, 0) := by decide +kernel
theorem k218_32 : look (codL 218) 32 = some (.sipush 999, 3, 0, 0, 0) := by decide +kernel
theorem k218_35 : look (codL 218) 35 = some (.invokevirtual 294, 3, 214, 3, 0) := by decide +kernel
theorem k218_38 : look (codL 218) 38 = some (.ifCond .eq 9, 3, 0, 0, 0) := by decide +kernel
theorem k218_41 : look (codL 218) 41 = some (.aload_n 0, 1, 0, 0, 0) := by decide +kernel
theorem k218_42 : look (codL 218) 42 = some (.getfield 291, 3, 10, 26, 0) := by decide +kernel
theorem k218_45 : look (codL 218) 45 = some (.istore 4, 2, 0, 0, 0) := by decide +kernel
theorem k218_47 : look (codL 218) 47 = some (.iload 4, 2, 0, 0, 0) := by decide +kernel
theorem k218_49 : look (codL 218) 49 = some (.ifCond .eq 14, 3, 0, 0, 0) := by decide +kernel
theorem k218_52 : look (codL 218) 52 = some (.aload_n 0, 1, 0, 0, 0) := by decide +kernel
theorem k218_53 : look (codL 218) 53 = some (.iload_n 1, 1, 0, 0, 0) := by decide +kernel
theorem k218_54 : look (codL 218) 54 = some (.iload_n 2, 1, 0, 0, 0) := by decide +kernel
theorem k218_55 : look (codL 218) 55 = some (.iload 4, 2, 0, 0, 0) := by decide +kernel
theorem k218_57 : look (codL 218) 57 = some (.invokevirtual 136, 3, 156, 4, 0) := by decide +kernel
theorem k218_60 : look (codL 218) 60 = some (.ifCond .ne 10, 3, 0, 0, 0) := by decide +kernel
theorem k218_63 : look (codL 218) 63 = some (.aload_n 0, 1, 0, 0, 0) := by decide +kernel
theorem k218_64 : look (codL 218) 64 = some (.iload_n 3, 1, 0, 0, 0) := by decide +kernel
theorem k218_65 : look (codL 218) 65 = some (.putfield 276, 3, 10, 25, 0) := by decide +kernel
theorem k218_68 : look (codL 218) 68 = some (.iconst 0, 1, 0, 0, 0) := by decide +kernel
theorem k218_69 : look (codL 218) 69 = some (.ireturn, 1, 0, 0, 0) := by decide +kernel
theorem k218_70 : look (codL 218) 70 = some (.aload_n 0, 1, 0, 0, 0) := by decide +kernel
theorem k218_71 : look (codL 218) 71 = some (.getfield 28, 3, 10, 9, 0) := by decide +kernel
theorem k218_74 : look (codL 218) 74 = some (.bipush 6, 2, 0, 0, 0) := by decide +kernel
theorem k218_76 : look (codL 218) 76 = some (.iload_n 1, 1, 0, 0, 0) := by decide +kernel
theorem k218_77 : look (codL 218) 77 = some (.imul, 1, 0, 0, 0) := by decide +kernel
theorem k218_78 : look (codL 218) 78 = some (.iload_n 2, 1, 0, 0, 0) := by decide +kernel
theorem k218_79 : look (codL 218) 79 = some (.iadd, 1, 0, 0, 0) := by decide +kernel
theorem k218_80 : look (codL 218) 80 = some (.iload 4, 2, 0, 0, 0) := by decide +kernel
theorem k218_82 : look (codL 218) 82 = some (.iastore, 1, 0, 0, 0) := by decide +kernel
theorem k218_83 : look (codL 218) 83 = some (.iconst 1, 1, 0, 0, 0) := by decide +kernel
theorem k218_84 : look (codL 218) 84 = some (.ireturn, 1, 0, 0, 0) := by decide +kernel
theorem k219_0 : look (codL 219) 0 = some (.aload_n 0, 1, 0, 0, 0) := by decide +kernel
theorem k219_1 : look (codL 219) 1 = some (.getfield 94, 3, 10, 2, 0) := by decide +kernel
theorem k219_4 : look (codL 219) 4 = some (.bipush 16, 2, 0, 0, 0) := by decide +kernel
theorem k219_6 : look (codL 219) 6 = some (.if_icmp .ne 5, 3, 0, 0, 0) := by decide +kernel
theorem k219_9 : look (codL 219) 9 = some (.iconst 0, 1, 0, 0, 0) := by decide +kernel
theorem k219_10 : look (codL 219) 10 = some (.ireturn, 1, 0, 0, 0) := by decide +kernel
theorem k219_11 : look (codL 219) 11 = some (.aload_n 0, 1, 0, 0, 0) := by decide +kernel
theorem k219_12 : look (codL 219) 12 = some (.dup, 1, 0, 0, 0) := by decide +kernel
theorem k219_13 : look (codL 219) 13 = some (.getfield 276, 3, 10, 25, 0) := by decide +kernel
theorem k219_16 : look (codL 219) 16 = some (.iconst 1, 1, 0, 0, 0) := by decide +kernel
theorem k219_17 : look (codL 219) 17 = some (.iadd, 1, 0, 0, 0) := by decide +kernel
theorem k219_18 : look (codL 219) 18 = some (.putfield 276, 3, 10, 25, 0) := by decide +kernel
theorem k219_21 : look (codL 219) 21 = some (.aload_n 0, 1, 0, 0, 0) := by decide +kernel
theorem k219_22 : look (codL 219) 22 = some (.iconst 0, 1, 0, 0, 0) := by decide +kernel
theorem k219_23 : look (codL 219) 23 = some (.aload_n 0, 1, 0, 0, 0) := by decide +kernel
theorem k219_24 : look (codL 219) 24 = some (.getfield 86, 3, 10, 1, 0) := by decide +kernel
theorem k219_27 : look (codL 219) 27 = some (.iconst 1, 1, 0, 0, 0) := by decide +kernel
theorem k219_28 : look (codL 219) 28 = some (.isub, 1, 0, 0, 0) := by decide +kernel
theorem k219_29 : look (codL 219) 29 = some (.invokevirtual 294, 3, 214, 3, 0) := by decide +kernel
theorem k219_32 : look (codL 219) 32 = some (.ifCond .ne 5, 3, 0, 0, 0) := by decide +kernel
theorem k219_35 : look (codL 219) 35 = some (.iconst 0, 1, 0, 0, 0) := by decide +kernel
theorem k219_36 : look (codL 219) 36 = some (.ireturn, 1, 0, 0, 0) := by decide +kernel
theorem k219_37 : look (codL 219) 37 = some (.aload_n 0, 1, 0, 0, 0) := by decide +kernel
theorem k219_38 : look (codL 219) 38 = some (.getfield 291, 3, 10, 26, 0) := by decide +kernel
theorem k219_41 : look (codL 219) 41 = some (.istore_n 1, 1, 0, 0, 0) := by decide +kernel
theorem k219_42 : look (codL 219) 42 = some (.aload_n 0, 1, 0, 0, 0) := by decide +kernel
theorem k219_43 : look (codL 219) 43 = some (.iconst 0, 1, 0, 0, 0) := by decide +kernel
theorem k219_44 : look (codL 219) 44 = some (.aload_n 0, 1, 0, 0, 0) := by decide +kernel
theorem k219_45 : look (codL 219) 45 = some (.getfield 86, 3, 10, 1, 0) := by decide +kernel
theorem k219_48 : look (codL 219) 48 = some (.iconst 1, 1, 0, 0, 0) := by decide +kernel
theorem k219_49 : look (codL 219) 49 = some (.isub, 1, 0, 0, 0) := by decide +kernel
theorem k219_50 : look (codL 219) 50 = some (.invokevirtual 294, 3, 214, 3, 0) := by decide +kernel
theorem k219_53 : look (codL 219) 53 = some (.ifCond .ne 5, 3, 0, 0, 0) := by decide +kernel
theorem k219_56 : look (codL 219) 56 = some (.iconst 0, 1, 0, 0, 0) := by decide +kernel
theorem k219_57 : look (codL 219) 57 = some (.ireturn, 1, 0, 0, 0) := by decide +kernel
theorem k219_58 : look (codL 219) 58 = some (.aload_n 0, 1, 0, 0, 0) := by decide +kernel
theorem k219_59 : look (codL 219) 59 = some (.getfield 291, 3, 10, 26, 0) := by decide +kernel
theorem k219_62 : look (codL 219) 62 = some (.istore_n 2, 1, 0, 0, 0) := by decide +kernel
theorem k219_63 : look (codL 219) 63 = some (.aload_n 0, 1, 0, 0, 0) := by decide +kernel
theorem k219_64 : look (codL 219) 64 = some (.iconst 0, 1, 0, 0, 0) := by decide +kernel
theorem k219_65 : look (codL 219) 65 = some (.bipush 99, 2, 0, 0, 0) := by decide +kernel
theorem k219_67 : look (codL 219) 67 = some (.invokevirtual 294, 3, 214, 3, 0) := by decide +kernel
theorem k219_70 : look (codL 219) 70 = some (.ifCond .ne 5, 3, 0, 0, 0) := by decide +kernel
theorem k219_73 : look (codL 219) 73 = some (.iconst 0, 1, 0, 0, 0) := by decide +kernel
theorem k219_74 : look (codL 219) 74 = some (.ireturn, 1, 0, 0, 0) := by decide +kernel
theorem k219_75 : look (codL 219) 75 = some (.aload_n 0, 1, 0, 0, 0) := by decide +kernel
theorem k219_76 : look (codL 219) 76 = some (.iload_n 1, 1, 0, 0, 0) := by decide +kernel
theorem k219_77 : look (codL 219) 77 = some (.iload_n 2, 1, 0, 0, 0) := by decide +kernel
theorem k219_78 : look (codL 219) 78 = some (.aload_n 0, 1, 0, 0, 0) := by decide +kernel
theorem k219_79 : look (codL 219) 79 = some (.getfield 291, 3, 10, 26, 0) := by decide +kernel
theorem k219_82 : look (codL 219) 82 = some (.invokevirtual 123, 3, 154, 4, 0) := by decide +kernel
theorem k219_85 : look (codL 219) 85 = some (.istore_n 3, 1, 0, 0, 0) := by decide +kernel
theorem k219_86 : look (codL 219) 86 = some (.aload_n 0, 1, 0, 0, 0) := by decide +kernel
theorem k219_87 : look (codL 219) 87 = some (.invokevirtual 285, 3, 211, 1, 0) := by decide +kernel
theorem k219_90 : look (codL 219) 90 = some (.aload_n 0, 1, 0, 0, 0) := by decide +kernel
theorem k219_91 : look (codL 219) 91 = some (.invokevirtual 279, 3, 210, 1, 0) := by decide +kernel
theorem k219_94 : look (codL 219) 94 = some (.bipush 58, 2, 0, 0, 0) := by decide +kernel
theorem k219_96 : look (codL 219) 96 = some (.if_icmp .eq 8, 3, 0, 0, 0) := by decide +kernel
theorem k219_99 : look (codL 219) 99 = some (.aload_n 0, 1, 0, 0, 0) := by decide +kernel
theorem k219_100 : look (codL 219) 100 = some (.invokevirtual 297, 3, 215, 1, 0) := by decide +kernel
theorem k219_103 : look (codL 219) 103 = some (.ireturn, 1, 0, 0, 0) := by decide +kernel
theorem k219_104 : look (codL 219) 104 = some (.aload_n 0, 1, 0, 0, 0) := by decide +kernel
theorem k219_105 : look (codL 219) 105 = some (.iload_n 3, 1, 0, 0, 0) := by decide +kernel
theorem k219_106 : look (codL 219) 106 = some (.invokevirtual 133, 3, 146, 2, 0) := by decide +kernel
theorem k219_109 : look (codL 219) 109 = some (.ifCond .ne 5, 3, 0, 0, 0) := by decide +kernel
theorem k219_112 : look (codL 219) 112 = some (.iconst 0, 1, 0, 0, 0) := by decide +kernel
theorem k219_113 : look (codL 219) 113 = some (.ireturn, 1, 0, 0, 0) := by decide +kernel
theorem k219_114 : look (codL 219) 114 = some (.aload_n 0, 1, 0, 0, 0) := by decide +kernel
theorem k219_115 : look (codL 219) 115 = some (.dup, 1, 0, 0, 0) := by decide +kernel
theorem k219_116 : look (codL 219) 116 = some (.getfield 276, 3, 10, 25, 0) := by decide +kernel
theorem k219_119 : look (codL 219) 119 = some (.iconst 1, 1, 0, 0, 0) := by decide +kernel
theorem k219_120 : look (codL 219) 120 = some (.iadd, 1, 0, 0, 0) := by decide +kernel
theorem k219_121 : look (codL 219) 121 = some (.putfield 276, 3, 10, 25, 0) := by decide +kernel
theorem k219_124 : look (codL 219) 124 = some (.iconst 0, 1, 0, 0, 0) := by decide +kernel
theorem k219_125 : look (codL 219) 125 = some (.istore 4, 2, 0, 0, 0) := by decide +kernel
theorem k219_127 : look (codL 219) 127 = some (.iload 4, 2, 0, 0, 0) := by decide +kernel
theorem k219_129 : look (codL 219) 129 = some (.aload_n 0, 1, 0, 0, 0) := by decide +kernel
theorem k219_130 : look (codL 219) 130 = some (.iload_n 3, 1, 0, 0, 0) := by decide +kernel
theorem k219_131 : look (codL 219) 131 = some (.invokevirtual 133, 3, 146, 2, 0) := by decide +kernel
theorem k219_134 : look (codL 219) 134 = some (.if_icmp .ge 21, 3, 0, 0, 0) := by decide +kernel
theorem k219_137 : look (codL 219) 137 = some (.aload_n 0, 1, 0, 0, 0) := by decide +kernel
theorem k219_138 : look (codL 219) 138 = some (.iload_n 3, 1, 0, 0, 0) := by decide +kernel
theorem k219_139 : look (codL 219) 139 = some (.iload 4, 2, 0, 0, 0) := by decide +kernel
theorem k219_141 : look (codL 219) 141 = some (.invokevirtual 304, 3, 218, 3, 0) := by decide +kernel
theorem k219_144 : look (codL 219) 144 = some (.ifCond .ne 5, 3, 0, 0, 0) := by decide +kernel
theorem k219_147 : look (codL 219) 147 = some (.iconst 0, 1, 0, 0, 0) := by decide +kernel
theorem k219_148 : look (codL 219) 148 = some (.ireturn, 1, 0, 0, 0) := by decide +kernel
theorem k219_149 : look (codL 219) 149 = some (.iinc 4 1, 3, 0, 0, 0) := by decide +kernel
theorem k219_152 : look (codL 219) 152 = some (.goto (-25), 3, 0, 0, 0) := by decide +kernel
theorem k219_155 : look (codL 219) 155 = some (.aload_n 0, 1, 0, 0, 0) := by decide +kernel
theorem k219_156 : look (codL 219) 156 = some (.invokevirtual 297, 3, 215, 1, 0) := by decide +kernel
theorem k219_159 : look (codL 219) 159 = some (.ireturn, 1, 0, 0, 0) := by decide +kernel
theorem k220_0 : look (codL 220) 0 = some (.aload_n 0, 1, 0, 0, 0) := by decide +kernel
theorem k220_1 : look (codL 220) 1 = some (.iconst 0, 1, 0, 0, 0) := by decide +kernel
theorem k220_2 : look (codL 220) 2 = some (.putfield 276, 3, 10, 25, 0) := by decide +kernel
theorem k220_5 : look (codL 220) 5 = some (.aload_n 0, 1, 0, 0, 0) := by decide +kernel
theorem k220_6 : look (codL 220) 6 = some (.iconst 0, 1, 0, 0, 0) := by decide +kernel
theorem k220_7 : look (codL 220) 7 = some (.putfield 86, 3, 10, 1, 0) := by decide +kernel
theorem k220_10 : look (codL 220) 10 = some (.aload_n 0, 1, 0, 0, 0) := by decide +kernel
theorem k220_11 : look (codL 220) 11 = some (.iconst 0, 1, 0, 0, 0) := by decide +kernel
theorem k220_12 : look (codL 220) 12 = some (.putfield 94, 3, 10, 2, 0) := by decide +kernel
theorem k220_15 : look (codL 220) 15 = some (.iconst 0, 1, 0, 0, 0) := by decide +kernel
theorem k220_16 : look (codL 220) 16 = some (.istore_n 1, 1, 0, 0, 0) := by decide +kernel
theorem k220_17 : look (codL 220) 17 = some (.aload_n 0, 1, 0, 0, 0) := by decide +kernel
theorem k220_18 : look (codL 220) 18 = some (.invokevirtual 285, 3, 211, 1, 0) := by decide +kernel
theorem k220_21 : look (codL 220) 21 = some (.aload_n 0, 1, 0, 0, 0) := by decide +kernel
theorem k220_22 : look (codL 220) 22 = some (.getfield 276, 3, 10, 25, 0) := by decide +kernel
theorem k220_25 : look (codL 220) 25 = some (.aload_n 0, 1, 0, 0, 0) := by decide +kernel
theorem k220_26 : look (codL 220) 26 = some (.getfield 268, 3, 10, 24, 0) := by decide +kernel
theorem k220_29 : look (codL 220) 29 = some (.if_icmp .ge 52, 3, 0, 0, 0) := by decide +kernel
theorem k220_32 : look (codL 220) 32 = some (.aload_n 0, 1, 0, 0, 0) := by decide +kernel
theorem k220_33 : look (codL 220) 33 = some (.invokevirtual 279, 3, 210, 1, 0) := by decide +kernel
theorem k220_36 : look (codL 220) 36 = some (.bipush 98, 2, 0, 0, 0) := by decide +kernel
theorem k220_38 : look (codL 220) 38 = some (.if_icmp .ne 13, 3, 0, 0, 0) := by decide +kernel
theorem k220_41 : look (codL 220) 41 = some (.aload_n 0, 1, 0, 0, 0) := by decide +kernel
theorem k220_42 : look (codL 220) 42 = some (.invokevirtual 307, 3, 216, 1, 0) := by decide +kernel
theorem k220_45 : look (codL 220) 45 = some (.ifCond .ne 26, 3, 0, 0, 0) := by decide +kernel
theorem k220_48 : look (codL 220) 48 = some (.goto 19, 3, 0, 0, 0) := by decide +kernel
theorem k220_51 : look (codL 220) 51 = some (.aload_n 0, 1, 0, 0, 0) := by decide +kernel
theorem k220_52 : look (codL 220) 52 = some (.invokevirtual 279, 3, 210, 1, 0) := by decide +kernel
theorem k220_55 : look (codL 220) 55 = some (.bipush 101, 2, 0, 0, 0) := by decide +kernel
theorem k220_57 : look (codL 220) 57 = some (.if_icmp .ne 10, 3, 0, 0, 0) := by decide +kernel
theorem k220_60 : look (codL 220) 60 = some (.aload_n 0, 1, 0, 0, 0) := by decide +kernel
theorem k220_61 : look (codL 220) 61 = some (.invokevirtual 310, 3, 219, 1, 0) := by decide +kernel
theorem k220_64 : look (codL 220) 64 = some (.ifCond .ne 7, 3, 0, 0, 0) := by decide +kernel
theorem k220_67 : look (codL 220) 67 = some (.sipush (-201), 3, 0, 0, 0) := by decide +kernel
theorem k220_70 : look (codL 220) 70 = some (.ireturn, 1, 0, 0, 0) := by decide +kernel
theorem k220_71 : look (codL 220) 71 = some (.iinc 1 1, 3, 0, 0, 0) := by decide +kernel
theorem k220_74 : look (codL 220) 74 = some (.aload_n 0, 1, 0, 0, 0) := by decide +kernel
theorem k220_75 : look (codL 220) 75 = some (.invokevirtual 285, 3, 211, 1, 0) := by decide +kernel
theorem k220_78 : look (codL 220) 78 = some (.goto (-57), 3, 0, 0, 0) := by decide +kernel
theorem k220_81 : look (codL 220) 81 = some (.iload_n 1, 1, 0, 0, 0) := by decide +kernel
theorem k220_82 : look (codL 220) 82 = some (.ifCond .ne 9, 3, 0, 0, 0) := by decide +kernel
theorem k220_85 : look (codL 220) 85 = some (.sipush (-201), 3, 0, 0, 0) := by decide +kernel
theorem k220_88 : look (codL 220) 88 = some (.goto 4, 3, 0, 0, 0) := by decide +kernel
theorem k220_91 : look (codL 220) 91 = some (.iload_n 1, 1, 0, 0, 0) := by decide +kernel
theorem k220_92 : look (codL 220) 92 = some (.ireturn, 1, 0, 0, 0) := by decide +kernel
theorem k221_0 : look (codL 221) 0 = some (.aload_n 0, 1, 0, 0, 0) := by decide +kernel
theorem k221_1 : look (codL 221) 1 = some (.getfield 68, 3, 10, 27, 0) := by decide +kernel
theorem k221_4 : look (codL 221) 4 = some (.iconst 0, 1, 0, 0, 0) := by decide +kernel
theorem k221_5 : look (codL 221) 5 = some (.aload_n 0, 1, 0, 0, 0) := by decide +kernel
theorem k221_6 : look (codL 221) 6 = some (.getfield 86, 3, 10, 1, 0) := by decide +kernel
theorem k221_9 : look (codL 221) 9 = some (.iastore, 1, 0, 0, 0) := by decide +kernel
theorem k221_10 : look (codL 221) 10 = some (.aload_n 0, 1, 0, 0, 0) := by decide +kernel
theorem k221_11 : look (codL 221) 11 = some (.getfield 68, 3, 10, 27, 0) := by decide +kernel
theorem k221_14 : look (codL 221) 14 = some (.iconst 1, 1, 0, 0, 0) := by decide +kernel
theorem k221_15 : look (codL 221) 15 = some (.aload_n 0, 1, 0, 0, 0) := by decide +kernel
theorem k221_16 : look (codL 221) 16 = some (.getfield 94, 3, 10, 2, 0) := by decide +kernel
theorem k221_19 : look (codL 221) 19 = some (.iastore, 1, 0, 0, 0) := by decide +kernel
theorem k221_20 : look (codL 221) 20 = some (.iconst 0, 1, 0, 0, 0) := by decide +kernel
theorem k221_21 : look (codL 221) 21 = some (.istore_n 1, 1, 0, 0, 0) := by decide +kernel
theorem k221_22 : look (codL 221) 22 = some (.iload_n 1, 1, 0, 0, 0) := by decide +kernel
theorem k221_23 : look (codL 221) 23 = some (.bipush 10, 2, 0, 0, 0) := by decide +kernel
theorem k221_25 : look (codL 221) 25 = some (.if_icmp .ge 23, 3, 0, 0, 0) := by decide +kernel
theorem k221_28 : look (codL 221) 28 = some (.aload_n 0, 1, 0, 0, 0) := by decide +kernel
theorem k221_29 : look (codL 221) 29 = some (.getfield 68, 3, 10, 27, 0) := by decide +kernel
theorem k221_32 : look (codL 221) 32 = some (.iconst 2, 1, 0, 0, 0) := by decide +kernel
theorem k221_33 : look (codL 221) 33 = some (.iload_n 1, 1, 0, 0, 0) := by decide +kernel
theorem k221_34 : look (codL 221) 34 = some (.iadd, 1, 0, 0, 0) := by decide +kernel
theorem k221_35 : look (codL 221) 35 = some (.aload_n 0, 1, 0, 0, 0) := by decide +kernel
theorem k221_36 : look (codL 221) 36 = some (.getfield 13, 3, 10, 4, 0) := by decide +kernel
theorem k221_39 : look (codL 221) 39 = some (.iload_n 1, 1, 0, 0, 0) := by decide +kernel
theorem k221_40 : look (codL 221) 40 = some (.iaload, 1, 0, 0, 0) := by decide +kernel
theorem k221_41 : look (codL 221) 41 = some (.iastore, 1, 0, 0, 0) := by decide +kernel
theorem k221_42 : look (codL 221) 42 = some (.iinc 1 1, 3, 0, 0, 0) := by decide +kernel
theorem k221_45 : look (codL 221) 45 = some (.goto (-23), 3, 0, 0, 0) := by decide +kernel
theorem k221_48 : look (codL 221) 48 = some (.iconst 0, 1, 0, 0, 0) := by decide +kernel
theorem k221_49 : look (codL 221) 49 = some (.istore_n 1, 1, 0, 0, 0) := by decide +kernel
theorem k221_50 : look (codL 221) 50 = some (.iload_n 1, 1, 0, 0, 0) := by decide +kernel
theorem k221_51 : look (codL 221) 51 = some (.bipush 60, 2, 0, 0, 0) := by decide +kernel
theorem k221_53 : look (codL 221) 53 = some (.if_icmp .ge 24, 3, 0, 0, 0) := by decide +kernel
theorem k221_56 : look (codL 221) 56 = some (.aload_n 0, 1, 0, 0, 0) := by decide +kernel
theorem k221_57 : look (codL 221) 57 = some (.getfield 68, 3, 10, 27, 0) := by decide +kernel
theorem k221_60 : look (codL 221) 60 = some (.bipush 12, 2, 0, 0, 0) := by decide +kernel
theorem k221_62 : look (codL 221) 62 = some (.iload_n 1, 1, 0, 0, 0) := by decide +kernel
theorem k221_63 : look (codL 221) 63 = some (.iadd, 1, 0, 0, 0) := by decide +kernel
theorem k221_64 : look (codL 221) 64 = some (.aload_n 0, 1, 0, 0, 0) := by decide +kernel
theorem k221_65 : look (codL 221) 65 = some (.getfield 16, 3, 10, 5, 0) := by decide +kernel
theorem k221_68 : look (codL 221) 68 = some (.iload_n 1, 1, 0, 0, 0) := by decide +kernel
theorem k221_69 : look (codL 221) 69 = some (.iaload, 1, 0, 0, 0) := by decide +kernel
theorem k221_70 : look (codL 221) 70 = some (.iastore, 1, 0, 0, 0) := by decide +kernel
theorem k221_71 : look (codL 221) 71 = some (.iinc 1 1, 3, 0, 0, 0) := by decide +kernel
theorem k221_74 : look (codL 221) 74 = some (.goto (-24), 3, 0, 0, 0) := by decide +kernel
theorem k221_77 : look (codL 221) 77 = some (.iconst 0, 1, 0, 0, 0) := by decide +kernel
theorem k221_78 : look (codL 221) 78 = some (.istore_n 1, 1, 0, 0, 0) := by decide +kernel
theorem k221_79 : look (codL 221) 79 = some (.iload_n 1, 1, 0, 0, 0) := by decide +kernel
theorem k221_80 : look (codL 221) 80 = some (.bipush 16, 2, 0, 0, 0) := by decide +kernel
theorem k221_82 : look (codL 221) 82 = some (.if_icmp .ge 54, 3, 0, 0, 0) := by decide +kernel
theorem k221_85 : look (codL 221) 85 = some (.aload_n 0, 1, 0, 0, 0) := by decide +kernel
theorem k221_86 : look (codL 221) 86 = some (.getfield 68, 3, 10, 27, 0) := by decide +kernel
theorem k221_89 : look (codL 221) 89 = some (.bipush 72, 2, 0, 0, 0) := by decide +kernel
theorem k221_91 : look (codL 221) 91 = some (.iload_n 1, 1, 0, 0, 0) := by decide +kernel
theorem k221_92 : look (codL 221) 92 = some (.iadd, 1, 0, 0, 0) := by decide +kernel
theorem k221_93 : look (codL 221) 93 = some (.aload_n 0, 1, 0, 0, 0) := by decide +kernel
theorem k221_94 : look (codL 221) 94 = some (.getfield 19, 3, 10, 6, 0) := by decide +kernel
theorem k221_97 : look (codL 221) 97 = some (.iload_n 1, 1, 0, 0, 0) := by decide +kernel
theorem k221_98 : look (codL 221) 98 = some (.iaload, 1, 0, 0, 0) := by decide +kernel
theorem k221_99 : look (codL 221) 99 = some (.iastore, 1, 0, 0, 0) := by decide +kernel
theorem k221_100 : look (codL 221) 100 = some (.aload_n 0, 1, 0, 0, 0) := by decide +kernel
theorem k221_101 : look (codL 221) 101 = some (.getfield 68, 3, 10, 27, 0) := by decide +kernel
theorem k221_104 : look (codL 221) 104 = some (.bipush 88, 2, 0, 0, 0) := by decide +kernel
theorem k221_106 : look (codL 221) 106 = some (.iload_n 1, 1, 0, 0, 0) := by decide +kernel
theorem k221_107 : look (codL 221) 107 = some (.iadd, 1, 0, 0, 0) := by decide +kernel
theorem k221_108 : look (codL 221) 108 = some (.aload_n 0, 1, 0, 0, 0) := by decide +kernel
theorem k221_109 : look (codL 221) 109 = some (.getfield 22, 3, 10, 7, 0) := by decide +kernel
theorem k221_112 : look (codL 221) 112 = some (.iload_n 1, 1, 0, 0, 0) := by decide +kernel
theorem k221_113 : look (codL 221) 113 = some (.iaload, 1, 0, 0, 0) := by decide +kernel
theorem k221_114 : look (codL 221) 114 = some (.iastore, 1, 0, 0, 0) := by decide +kernel
theorem k221_115 : look (codL 221) 115 = some (.aload_n 0, 1, 0, 0, 0) := by decide +kernel
theorem k221_116 : look (codL 221) 116 = some (.getfield 68, 3, 10, 27, 0) := by decide +kernel
theorem k221_119 : look (codL 221) 119 = some (.bipush 104, 2, 0, 0, 0) := by decide +kernel
theorem k221_121 : look (codL 221) 121 = some (.iload_n 1, 1, 0, 0, 0) := by decide +kernel
theorem k221_122 : look (codL 221) 122 = some (.iadd, 1, 0, 0, 0) := by decide +kernel
theorem k221_123 : look (codL 221) 123 = some (.aload_n 0, 1, 0, 0, 0) := by decide +kernel
theorem k221_124 : look (codL 221) 124 = some (.getfield 25, 3, 10, 8, 0) := by decide +kernel
theorem k221_127 : look (codL 221) 127 = some (.iload_n 1, 1, 0, 0, 0) := by decide +kernel
theorem k221_128 : look (codL 221) 128 = some (.iaload, 1, 0, 0, 0) := by decide +kernel
theorem k221_129 : look (codL 221) 129 = some (.iastore, 1, 0, 0, 0) := by decide +kernel
theorem k221_130 : look (codL 221) 130 = some (.iinc 1 1, 3, 0, 0, 0) := by decide +kernel
theorem k221_133 : look (codL 221) 133 = some (.goto (-54), 3, 0, 0, 0) := by decide +kernel
theorem k221_136 : look (codL 221) 136 = some (.iconst 0, 1, 0, 0, 0) := by decide +kernel
theorem k221_137 : look (codL 221) 137 = some (.istore_n 1, 1, 0, 0, 0) := by decide +kernel
theorem k221_138 : look (codL 221) 138 = some (.iload_n 1, 1, 0, 0, 0) := by decide +kernel
theorem k221_139 : look (codL 221) 139 = some (.bipush 96, 2, 0, 0, 0) := by decide +kernel
theorem k221_141 : look (codL 221) 141 = some (.if_icmp .ge 24, 3, 0, 0, 0) := by decide +kernel
theorem k221_144 : look (codL 221) 144 = some (.aload_n 0, 1, 0, 0, 0) := by decide +kernel
theorem k221_145 : look (codL 221) 145 = some (.getfield 68, 3, 10, 27, 0) := by decide +kernel
theorem k221_148 : look (codL 221) 148 = some (.bipush 120, 2, 0, 0, 0) := by decide +kernel
theorem k221_150 : look (codL 221) 150 = some (.iload_n 1, 1, 0, 0, 0) := by decide +kernel
theorem k221_151 : look (codL 221) 151 = some (.iadd, 1, 0, 0, 0) := by decide +kernel
theorem k221_152 : look (codL 221) 152 = some (.aload_n 0, 1, 0, 0, 0) := by decide +kernel
theorem k221_153 : look (codL 221) 153 = some (.getfield 28, 3, 10, 9, 0) := by decide +kernel
theorem k221_156 : look (codL 221) 156 = some (.iload_n 1, 1, 0, 0, 0) := by decide +kernel
theorem k221_157 : look (codL 221) 157 = some (.iaload, 1, 0, 0, 0) := by decide +kernel
theorem k221_158 : look (codL 221) 158 = some (.iastore, 1, 0, 0, 0) := by decide +kernel
theorem k221_159 : look (codL 221) 159 = some (.iinc 1 1, 3, 0, 0, 0) := by decide +kernel
theorem k221_162 : look (codL 221) 162 = some (.goto (-24), 3, 0, 0, 0) := by decide +kernel
theorem k221_165 : look (codL 221) 165 = some (.return_, 1, 0, 0, 0) := by decide +kernel
theorem k222_0 : look (codL 222) 0 = some (.aload_n 0, 1, 0, 0, 0) := by decide +kernel
theorem k222_1 : look (codL 222) 1 = some (.aload_n 0, 1, 0, 0, 0) := by decide +kernel
theorem k222_2 : look (codL 222) 2 = some (.getfield 68, 3, 10, 27, 0) := by decide +kernel
theorem k222_5 : look (codL 222) 5 = some (.iconst 0, 1, 0, 0, 0) := by decide +kernel
theorem k222_6 : look (codL 222) 6 = some (.iaload, 1, 0, 0, 0) := by decide +kernel
theorem k222_7 : look (codL 222) 7 = some (.putfield 86, 3, 10, 1, 0) := by decide +kernel
theorem k222_10 : look (codL 222) 10 = some (.aload_n 0, 1, 0, 0, 0) := by decide +kernel
theorem k222_11 : look (codL 222) 11 = some (.aload_n 0, 1, 0, 0, 0) := by decide +kernel
theorem k222_12 : look (codL 222) 12 = some (.getfield 68, 3, 10, 27, 0) := by decide +kernel
theorem k222_15 : look (codL 222) 15 = some (.iconst 1, 1, 0, 0, 0) := by decide +kernel
theorem k222_16 : look (codL 222) 16 = some (.iaload, 1, 0, 0, 0) := by decide +kernel
theorem k222_17 : look (codL 222) 17 = some (.putfield 94, 3, 10, 2, 0) := by decide +kernel
theorem k222_20 : look (codL 222) 20 = some (.iconst 0, 1, 0, 0, 0) := by decide +kernel
theorem k222_21 : look (codL 222) 21 = some (.istore_n 1, 1, 0, 0, 0) := by decide +kernel
theorem k222_22 : look (codL 222) 22 = some (.iload_n 1, 1, 0, 0, 0) := by decide +kernel
theorem k222_23 : look (codL 222) 23 = some (.bipush 10, 2, 0, 0, 0) := by decide +kernel
theorem k222_25 : look (codL 222) 25 = some (.if_icmp .ge 23, 3, 0, 0, 0) := by decide +kernel
theorem k222_28 : look (codL 222) 28 = some (.aload_n 0, 1, 0, 0, 0) := by decide +kernel
theorem k222_29 : look (codL 222) 29 = some (.getfield 13, 3, 10, 4, 0) := by decide +kernel
theorem k222_32 : look (codL 222) 32 = some (.iload_n 1, 1, 0, 0, 0) := by decide +kernel
theorem k222_33 : look (codL 222) 33 = some (.aload_n 0, 1, 0, 0, 0) := by decide +kernel
theorem k222_34 : look (codL 222) 34 = some (.getfield 68, 3, 10, 27, 0) := by decide +kernel
theorem k222_37 : look (codL 222) 37 = some (.iconst 2, 1, 0, 0, 0) := by decide +kernel
theorem k222_38 : look (codL 222) 38 = some (.iload_n 1, 1, 0, 0, 0) := by decide +kernel
theorem k222_39 : look (codL 222) 39 = some (.iadd, 1, 0, 0, 0) := by decide +kernel
theorem k222_40 : look (codL 222) 40 = some (.iaload, 1, 0, 0, 0) := by decide +kernel
theorem k222_41 : look (codL 222) 41 = some (.iastore, 1, 0, 0, 0) := by decide +kernel
theorem k222_42 : look (codL 222) 42 = some (.iinc 1 1, 3, 0, 0, 0) := by decide +kernel
theorem k222_45 : look (codL 222) 45 = some (.goto (-23), 3, 0, 0, 0) := by decide +kernel
theorem k222_48 : look (codL 222) 48 = some (.iconst 0, 1, 0, 0, 0) := by decide +kernel
theorem k222_49 : look (codL 222) 49 = some (.istore_n 1, 1, 0, 0, 0) := by decide +kernel
theorem k222_50 : look (codL 222) 50 = some (.iload_n 1, 1, 0, 0, 0) := by decide +kernel
theorem k222_51 : look (codL 222) 51 = some (.bipush 60, 2, 0, 0, 0) := by decide +kernel
theorem k222_53 : look (codL 222) 53 = some (.if_icmp .ge 24, 3, 0, 0, 0) := by decide +kernel
theorem k222_56 : look (codL 222) 56 = some (.aload_n 0, 1, 0, 0, 0) := by decide +kernel
theorem k222_57 : look (codL 222) 57 = some (.getfield 16, 3, 10, 5, 0) := by decide +kernel
theorem k222_60 : look (codL 222) 60 = some (.iload_n 1, 1, 0, 0, 0) := by decide +kernel
theorem k222_61 : look (codL 222) 61 = some (.aload_n 0, 1, 0, 0, 0) := by decide +kernel
theorem k222_62 : look (codL 222) 62 = some (.getfield 68, 3, 10, 27, 0) := by decide +kernel
theorem k222_65 : look (codL 222) 65 = some (.bipush 12, 2, 0, 0, 0) := by decide +kernel
theorem k222_67 : look (codL 222) 67 = some (.iload_n 1, 1, 0, 0, 0) := by decide +kernel
theorem k222_68 : look (codL 222) 68 = some (.iadd, 1, 0, 0, 0) := by decide +kernel
theorem k222_69 : look (codL 222) 69 = some (.iaload, 1, 0, 0, 0) := by decide +kernel
theorem k222_70 : look (codL 222) 70 = some (.iastore, 1, 0, 0, 0) := by decide +kernel
theorem k222_71 : look (codL 222) 71 = some (.iinc 1 1, 3, 0, 0, 0) := by decide +kernel
theorem k222_74 : look (codL 222) 74 = some (.goto (-24), 3, 0, 0, 0) := by decide +kernel
theorem k222_77 : look (codL 222) 77 = some (.iconst 0, 1, 0, 0, 0) := by decide +kernel
theorem k222_78 : look (codL 222) 78 = some (.istore_n 1, 1, 0, 0, 0) := by decide +kernel
theorem k222_79 : look (codL 222) 79 = some (.iload_n 1, 1, 0, 0, 0) := by decide +kernel
theorem k222_80 : look (codL 222) 80 = some (.bipush 16, 2, 0, 0, 0) := by decide +kernel
theorem k222_82 : look (codL 222) 82 = some (.if_icmp .ge 54, 3, 0, 0, 0) := by decide +kernel
theorem k222_85 : look (codL 222) 85 = some (.aload_n 0, 1, 0, 0, 0) := by decide +kernel
theorem k222_86 : look (codL 222) 86 = some (.getfield 19, 3, 10, 6, 0) := by decide +kernel
theorem k222_89 : look (codL 222) 89 = some (.iload_n 1, 1, 0, 0, 0) := by decide +kernel
theorem k222_90 : look (codL 222) 90 = some (.aload_n 0, 1, 0, 0, 0) := by decide +kernel
theorem k222_91 : look (codL 222) 91 = some (.getfield 68, 3, 10, 27, 0) := by decide +kernel
theorem k222_94 : look (codL 222) 94 = some (.bipush 72, 2, 0, 0, 0) := by decide +kernel
theorem k222_96 : look (codL 222) 96 = some (.iload_n 1, 1, 0, 0, 0) := by decide +kernel
theorem k222_97 : look (codL 222) 97 = some (.iadd, 1, 0, 0, 0) := by decide +kernel
theorem k222_98 : look (codL 222) 98 = some (.iaload, 1, 0, 0, 0) := by decide +kernel
theorem k222_99 : look (codL 222) 99 = some (.iastore, 1, 0, 0, 0) := by decide +kernel
theorem k222_100 : look (codL 222) 100 = some (.aload_n 0, 1, 0, 0, 0) := by decide +kernel
theorem k222_101 : look (codL 222) 101 = some (.getfield 22, 3, 10, 7, 0) := by decide +kernel
theorem k222_104 : look (codL 222) 104 = some (.iload_n 1, 1, 0, 0, 0) := by decide +kernel
theorem k222_105 : look (codL 222) 105 = some (.aload_n 0, 1, 0, 0, 0) := by decide +kernel
theorem k222_106 : look (codL 222) 106 = some (.getfield 68, 3, 10, 27, 0) := by decide +kernel
theorem k222_109 : look (codL 222) 109 = some (.bipush 88, 2, 0, 0, 0) := by decide +kernel
theorem k222_111 : look (codL 222) 111 = some (.iload_n 1, 1, 0, 0, 0) := by decide +kernel
theorem k222_112 : look (codL 222) 112 = some (.iadd, 1, 0, 0, 0) := by decide +kernel
theorem k222_113 : look (codL 222) 113 = some (.iaload, 1, 0, 0, 0) := by decide +kernel
theorem k222_114 : look (codL 222) 114 = some (.iastore, 1, 0, 0, 0) := by decide +kernel
theorem k222_115 : look (codL 222) 115 = some (.aload_n 0, 1, 0, 0, 0) := by decide +kernel
theorem k222_116 : look (codL 222) 116 = some (.getfield 25, 3, 10, 8, 0) := by decide +kernel
theorem k222_119 : look (codL 222) 119 = some (.iload_n 1, 1, 0, 0, 0) := by decide +kernel
theorem k222_120 : look (codL 222) 120 = some (.aload_n 0, 1, 0, 0, 0) := by decide +kernel
theorem k222_121 : look (codL 222) 121 = some (.getfield 68, 3, 10, 27, 0) := by decide +kernel
theorem k222_124 : look (codL 222) 124 = some (.bipush 104, 2, 0, 0, 0) := by decide +kernel
theorem k222_126 : look (codL 222) 126 = some (.iload_n 1, 1, 0, 0, 0) := by decide +kernel
theorem k222_127 : look (codL 222) 127 = some (.iadd, 1, 0, 0, 0) := by decide +kernel
theorem k222_128 : look (codL 222) 128 = some (.iaload, 1, 0, 0, 0) := by decide +kernel
theorem k222_129 : look (codL 222) 129 = some (.iastore, 1, 0, 0, 0) := by decide +kernel
theorem k222_130 : look (codL 222) 130 = some (.iinc 1 1, 3, 0, 0, 0) := by decide +kernel
theorem k222_133 : look (codL 222) 133 = some (.goto (-54), 3, 0, 0, 0) := by decide +kernel
theorem k222_136 : look (codL 222) 136 = some (.iconst 0, 1, 0, 0, 0) := by decide +kernel
theorem k222_137 : look (codL 222) 137 = some (.istore_n 1, 1, 0, 0, 0) := by decide +kernel
theorem k222_138 : look (codL 222) 138 = some (.iload_n 1, 1, 0, 0, 0) := by decide +kernel
theorem k222_139 : look (codL 222) 139 = some (.bipush 96, 2, 0, 0, 0) := by decide +kernel
theorem k222_141 : look (codL 222) 141 = some (.if_icmp .ge 24, 3, 0, 0, 0) := by decide +kernel
theorem k222_144 : look (codL 222) 144 = some (.aload_n 0, 1, 0, 0, 0) := by decide +kernel
theorem k222_145 : look (codL 222) 145 = some (.getfield 28, 3, 10, 9, 0) := by decide +kernel
theorem k222_148 : look (codL 222) 148 = some (.iload_n 1, 1, 0, 0, 0) := by decide +kernel
theorem k222_149 : look (codL 222) 149 = some (.aload_n 0, 1, 0, 0, 0) := by decide +kernel
theorem k222_150 : look (codL 222) 150 = some (.getfield 68, 3, 10, 27, 0) := by decide +kernel
theorem k222_153 : look (codL 222) 153 = some (.bipush 120, 2, 0, 0, 0) := by decide +kernel
theorem k222_155 : look (codL 222) 155 = some (.iload_n 1, 1, 0, 0, 0) := by decide +kernel
theorem k222_156 : look (codL 222) 156 = some (.iadd, 1, 0, 0, 0) := by decide +kernel
theorem k222_157 : look (codL 222) 157 = some (.iaload, 1, 0, 0, 0) := by decide +kernel
theorem k222_158 : look (codL 222) 158 = some (.iastore, 1, 0, 0, 0) := by decide +kernel
theorem k222_159 : look (codL 222) 159 = some (.iinc 1 1, 3, 0, 0, 0) := by decide +kernel
theorem k222_162 : look (codL 222) 162 = some (.goto (-24), 3, 0, 0, 0) := by decide +kernel
theorem k222_165 : look (codL 222) 165 = some (.return_, 1, 0, 0, 0) := by decide +kernel
theorem k223_0 : look (codL 223) 0 = some (.aload_n 0, 1, 0, 0, 0) := by decide +kernel
theorem k223_1 : look (codL 223) 1 = some (.invokevirtual 313, 3, 221, 1, 0) := by decide +kernel
theorem k223_4 : look (codL 223) 4 = some (.aload_n 0, 1, 0, 0, 0) := by decide +kernel
theorem k223_5 : look (codL 223) 5 = some (.invokevirtual 316, 3, 220, 1, 0) := by decide +kernel
theorem k223_8 : look (codL 223) 8 = some (.istore_n 1, 1, 0, 0, 0) := by decide +kernel
theorem k223_9 : look (codL 223) 9 = some (.iload_n 1, 1, 0, 0, 0) := by decide +kernel
theorem k223_10 : look (codL 223) 10 = some (.ifCond .ge 16, 3, 0, 0, 0) := by decide +kernel
theorem k223_13 : look (codL 223) 13 = some (.aload_n 0, 1, 0, 0, 0) := by decide +kernel
theorem k223_14 : look (codL 223) 14 = some (.invokevirtual 319, 3, 222, 1, 0) := by decide +kernel
theorem k223_17 : look (codL 223) 17 = some (.sipush (-300), 3, 0, 0, 0) := by decide +kernel
theorem k223_20 : look (codL 223) 20 = some (.aload_n 0, 1, 0, 0, 0) := by decide +kernel
theorem k223_21 : look (codL 223) 21 = some (.getfield 276, 3, 10, 25, 0) := by decide +kernel
theorem k223_24 : look (codL 223) 24 = some (.isub, 1, 0, 0, 0) := by decide +kernel
theorem k223_25 : look (codL 223) 25 = some (.ireturn, 1, 0, 0, 0) := by decide +kernel
theorem k223_26 : look (codL 223) 26 = some (.iload_n 1, 1, 0, 0, 0) := by decide +kernel
theorem k223_27 : look (codL 223) 27 = some (.ireturn, 1, 0, 0, 0) := by decide +kernel
theorem k224_0 : look (codL 224) 0 = some (.new 7, 3, 9, 0, 0) := by decide +kernel
theorem k224_3 : look (codL 224) 3 = some (.dup, 1, 0, 0, 0) := by decide +kernel
theorem k224_4 : look (codL 224) 4 = some (.invokespecial 9, 3, 90, 1, 0) := by decide +kernel
theorem k224_7 : look (codL 224) 7 = some (.astore_n 1, 1, 0, 0, 0) := by decide +kernel
theorem k224_8 : look (codL 224) 8 = some (.new 10, 3, 10, 0, 0) := by decide +kernel
theorem k224_11 : look (codL 224) 11 = some (.dup, 1, 0, 0, 0) := by decide +kernel
theorem k224_12 : look (codL 224) 12 = some (.invokespecial 12, 3, 132, 1, 0) := by decide +kernel
theorem k224_15 : look (codL 224) 15 = some (.astore_n 2, 1, 0, 0, 0) := by decide +kernel
theorem k224_16 : look (codL 224) 16 = some (.iconst 0, 1, 0, 0, 0) := by decide +kernel
theorem k224_17 : look (codL 224) 17 = some (.istore_n 3, 1, 0, 0, 0) := by decide +kernel
theorem k224_18 : look (codL 224) 18 = some (.iload_n 3, 1, 0, 0, 0) := by decide +kernel
theorem k224_19 : look (codL 224) 19 = some (.aload_n 0, 1, 0, 0, 0) := by decide +kernel
theorem k224_20 : look (codL 224) 20 = some (.arraylength, 1, 0, 0, 0) := by decide +kernel
theorem k224_21 : look (codL 224) 21 = some (.iconst 4, 1, 0, 0, 0) := by decide +kernel
theorem k224_22 : look (codL 224) 22 = some (.isub, 1, 0, 0, 0) := by decide +kernel
theorem k224_23 : look (codL 224) 23 = some (.if_icmp .gt 939, 3, 0, 0, 0) := by decide +kernel
theorem k224_26 : look (codL 224) 26 = some (.aload_n 0, 1, 0, 0, 0) := by decide +kernel
theorem k224_27 : look (codL 224) 27 = some (.iload_n 3, 1, 0, 0, 0) := by decide +kernel
theorem k224_28 : look (codL 224) 28 = some (.iaload, 1, 0, 0, 0) := by decide +kernel
theorem k224_29 : look (codL 224) 29 = some (.bipush 31, 2, 0, 0, 0) := by decide +kernel
theorem k224_31 : look (codL 224) 31 = some (.iand, 1, 0, 0, 0) := by decide +kernel
theorem k224_32 : look (codL 224) 32 = some (.tableswitch 924 0 27 #[128, 141, 154, 187, 230, 273, 306, 329, 362, 395, 428, 461, 484, 497, 510, 543, 586, 609, 642, 675, 708, 731, 775, 798, 811, 844, 887, 910], 128, 0, 0, 0) := by decide +kernel
theorem k224_160 : look (codL 224) 160 = some (.aload_n 1, 1, 0, 0, 0) := by decide +kernel
theorem k224_161 : look (codL 224) 161 = some (.invokevirtual 13, 3, 91, 1, 0) := by decide +kernel
theorem k224_164 : look (codL 224) 164 = some (.aload_n 2, 1, 0, 0, 0) := by decide +kernel
theorem k224_165 : look (codL 224) 165 = some (.invokevirtual 17, 3, 148, 1, 0) := by decide +kernel
theorem k224_168 : look (codL 224) 168 = some (.if_icmp .eq 788, 3, 0, 0, 0) := by decide +kernel
theorem k224_171 : look (codL 224) 171 = some (.iconst 0, 1, 0, 0, 0) := by decide +kernel
theorem k224_172 : look (codL 224) 172 = some (.ireturn, 1, 0, 0, 0) := by decide +kernel
theorem k224_173 : look (codL 224) 173 = some (.aload_n 1, 1, 0, 0, 0) := by decide +kernel
theorem k224_174 : look (codL 224) 174 = some (.invokevirtual 18, 3, 93, 1, 0) := by decide +kernel
theorem k224_177 : look (codL 224) 177 = some (.aload_n 2, 1, 0, 0, 0) := by decide +kernel
theorem k224_178 : look (codL 224) 178 = some (.invokevirtual 21, 3, 150, 1, 0) := by decide +kernel
theorem k224_181 : look (codL 224) 181 = some (.if_icmp .eq 775, 3, 0, 0, 0) := by decide +kernel
theorem k224_184 : look (codL 224) 184 = some (.iconst 0, 1, 0, 0, 0) := by decide +kernel
theorem k224_185 : look (codL 224) 185 = some (.ireturn, 1, 0, 0, 0) := by decide +kernel
theorem k224_186 : look (codL 224) 186 = some (.aload_n 1, 1, 0, 0, 0) := by decide +kernel
theorem k224_187 : look (codL 224) 187 = some (.aload_n 0, 1, 0, 0, 0) := by decide +kernel
theorem k224_188 : look (codL 224) 188 = some (.iload_n 3, 1, 0, 0, 0) := by decide +kernel
theorem k224_189 : look (codL 224) 189 = some (.iconst 1, 1, 0, 0, 0) := by decide +kernel
theorem k224_190 : look (codL 224) 190 = some (.iadd, 1, 0, 0, 0) := by decide +kernel
theorem k224_191 : look (codL 224) 191 = some (.iaload, 1, 0, 0, 0) := by decide +kernel
theorem k224_192 : look (codL 224) 192 = some (.aload_n 0, 1, 0, 0, 0) := by decide +kernel
theorem k224_193 : look (codL 224) 193 = some (.iload_n 3, 1, 0, 0, 0) := by decide +kernel
theorem k224_194 : look (codL 224) 194 = some (.iconst 2, 1, 0, 0, 0) := by decide +kernel
theorem k224_195 : look (codL 224) 195 = some (.iadd, 1, 0, 0, 0) := by decide +kernel
theorem k224_196 : look (codL 224) 196 = some (.iaload, 1, 0, 0, 0) := by decide +kernel
theorem k224_197 : look (codL 224) 197 = some (.invokevirtual 22, 3, 94, 3, 0) := by decide +kernel
theorem k224_200 : look (codL 224) 200 = some (.aload_n 2, 1, 0, 0, 0) := by decide +kernel
theorem k224_201 : look (codL 224) 201 = some (.aload_n 0, 1, 0, 0, 0) := by decide +kernel
theorem k224_202 : look (codL 224) 202 = some (.iload_n 3, 1, 0, 0, 0) := by decide +kernel
theorem k224_203 : look (codL 224) 203 = some (.iconst 1, 1, 0, 0, 0) := by decide +kernel
theorem k224_204 : look (codL 224) 204 = some (.iadd, 1, 0, 0, 0) := by decide +kernel
theorem k224_205 : look (codL 224) 205 = some (.iaload, 1, 0, 0, 0) := by decide +kernel
theorem k224_206 : look (codL 224) 206 = some (.aload_n 0, 1, 0, 0, 0) := by decide +kernel
theorem k224_207 : look (codL 224) 207 = some (.iload_n 3, 1, 0, 0, 0) := by decide +kernel
theorem k224_208 : look (codL 224) 208 = some (.iconst 2, 1, 0, 0, 0) := by decide +kernel
theorem k224_209 : look (codL 224) 209 = some (.iadd, 1, 0, 0, 0) := by decide +kernel
theorem k224_210 : look (codL 224) 210 = some (.iaload, 1, 0, 0, 0) := by decide +kernel
theorem k224_211 : look (codL 224) 211 = some (.invokevirtual 26, 3, 153, 3, 0) := by decide +kernel
theorem k224_214 : look (codL 224) 214 = some (.if_icmp .eq 742, 3, 0, 0, 0) := by decide +kernel
theorem k224_217 : look (codL 224) 217 = some (.iconst 0, 1, 0, 0, 0) := by decide +kernel
theorem k224_218 : look (codL 224) 218 = some (.ireturn, 1, 0, 0, 0) := by decide +kernel
theorem k224_219 : look (codL 224) 219 = some (.aload_n 1, 1, 0, 0, 0) := by decide +kernel
theorem k224_220 : look (codL 224) 220 = some (.aload_n 0, 1, 0, 0, 0) := by decide +kernel
theorem k224_221 : look (codL 224) 221 = some (.iload_n 3, 1, 0, 0, 0) := by decide +kernel
theorem k224_222 : look (codL 224) 222 = some (.iconst 1, 1, 0, 0, 0) := by decide +kernel
theorem k224_223 : look (codL 224) 223 = some (.iadd, 1, 0, 0, 0) := by decide +kernel
theorem k224_224 : look (codL 224) 224 = some (.iaload, 1, 0, 0, 0) := by decide +kernel
theorem k224_225 : look (codL 224) 225 = some (.aload_n 0, 1, 0, 0, 0) := by decide +kernel
theorem k224_226 : look (codL 224) 226 = some (.iload_n 3, 1, 0, 0, 0) := by decide +kernel
theorem k224_227 : look (codL 224) 227 = some (.iconst 2, 1, 0, 0, 0) := by decide +kernel
theorem k224_228 : look (codL 224) 228 = some (.iadd, 1, 0, 0, 0) := by decide +kernel
theorem k224_229 : look (codL 224) 229 = some (.iaload, 1, 0, 0, 0) := by decide +kernel
theorem k224_230 : look (codL 224) 230 = some (.aload_n 0, 1, 0, 0, 0) := by decide +kernel
theorem k224_231 : look (codL 224) 231 = some (.iload_n 3, 1, 0, 0, 0) := by decide +kernel
theorem k224_232 : look (codL 224) 232 = some (.iconst 3, 1, 0, 0, 0) := by decide +kernel
theorem k224_233 : look (codL 224) 233 = some (.iadd, 1, 0, 0, 0) := by decide +kernel
theorem k224_234 : look (codL 224) 234 = some (.iaload, 1, 0, 0, 0) := by decide +kernel
theorem k224_235 : look (codL 224) 235 = some (.invokevirtual 27, 3, 95, 4, 0) := by decide +kernel
theorem k224_238 : look (codL 224) 238 = some (.aload_n 2, 1, 0, 0, 0) := by decide +kernel
theorem k224_239 : look (codL 224) 239 = some (.aload_n 0, 1, 0, 0, 0) := by decide +kernel
theorem k224_240 : look (codL 224) 240 = some (.iload_n 3, 1, 0, 0, 0) := by decide +kernel
theorem k224_241 : look (codL 224) 241 = some (.iconst 1, 1, 0, 0, 0) := by decide +kernel
theorem k224_242 : look (codL 224) 242 = some (.iadd, 1, 0, 0, 0) := by decide +kernel
theorem k224_243 : look (codL 224) 243 = some (.iaload, 1, 0, 0, 0) := by decide +kernel
theorem k224_244 : look (codL 224) 244 = some (.aload_n 0, 1, 0, 0, 0) := by decide +kernel
theorem k224_245 : look (codL 224) 245 = some (.iload_n 3, 1, 0, 0, 0) := by decide +kernel
theorem k224_246 : look (codL 224) 246 = some (.iconst 2, 1, 0, 0, 0) := by decide +kernel
theorem k224_247 : look (codL 224) 247 = some (.iadd, 1, 0, 0, 0) := by decide +kernel
theorem k224_248 : look (codL 224) 248 = some (.iaload, 1, 0, 0, 0) := by decide +kernel
theorem k224_249 : look (codL 224) 249 = some (.aload_n 0, 1, 0, 0, 0) := by decide +kernel
theorem k224_250 : look (codL 224) 250 = some (.iload_n 3, 1, 0, 0, 0) := by decide +kernel
theorem k224_251 : look (codL 224) 251 = some (.iconst 3, 1, 0, 0, 0) := by decide +kernel
theorem k224_252 : look (codL 224) 252 = some (.iadd, 1, 0, 0, 0) := by decide +kernel
theorem k224_253 : look (codL 224) 253 = some (.iaload, 1, 0, 0, 0) := by decide +kernel
theorem k224_254 : look (codL 224) 254 = some (.invokevirtual 31, 3, 155, 4, 0) := by decide +kernel
theorem k224_257 : look (codL 224) 257 = some (.if_icmp .eq 699, 3, 0, 0, 0) := by decide +kernel
theorem k224_260 : look (codL 224) 260 = some (.iconst 0, 1, 0, 0, 0) := by decide +kernel
theorem k224_261 : look (codL 224) 261 = some (.ireturn, 1, 0, 0, 0) := by decide +kernel
theorem k224_262 : look (codL 224) 262 = some (.aload_n 1, 1, 0, 0, 0) := by decide +kernel
theorem k224_263 : look (codL 224) 263 = some (.aload_n 0, 1, 0, 0, 0) := by decide +kernel
theorem k224_264 : look (codL 224) 264 = some (.iload_n 3, 1, 0, 0, 0) := by decide +kernel
theorem k224_265 : look (codL 224) 265 = some (.iconst 1, 1, 0, 0, 0) := by decide +kernel
theorem k224_266 : look (codL 224) 266 = some (.iadd, 1, 0, 0, 0) := by decide +kernel
theorem k224_267 : look (codL 224) 267 = some (.iaload, 1, 0, 0, 0) := by decide +kernel
theorem k224_268 : look (codL 224) 268 = some (.aload_n 0, 1, 0, 0, 0) := by decide +kernel
theorem k224_269 : look (codL 224) 269 = some (.iload_n 3, 1, 0, 0, 0) := by decide +kernel
theorem k224_270 : look (codL 224) 270 = some (.iconst 2, 1, 0, 0, 0) := by decide +kernel
theorem k224_271 : look (codL 224) 271 = some (.iadd, 1, 0, 0, 0) := by decide +kernel
theorem k224_272 : look (codL 224) 272 = some (.iaload, 1, 0, 0, 0) := by decide +kernel
theorem k224_273 : look (codL 224) 273 = some (.aload_n 0, 1, 0, 0, 0) := by decide +kernel
theorem k224_274 : look (codL 224) 274 = some (.iload_n 3, 1, 0, 0, 0) := by decide +kernel
theorem k224_275 : look (codL 224) 275 = some (.iconst 3, 1, 0, 0, 0) := by decide +kernel
theorem k224_276 : look (codL 224) 276 = some (.iadd, 1, 0, 0, 0) := by decide +kernel
theorem k224_277 : look (codL 224) 277 = some (.iaload, 1, 0, 0, 0) := by decide +kernel
theorem k224_278 : look (codL 224) 278 = some (.invokevirtual 32, 3, 96, 4, 0) := by decide +kernel
theorem k224_281 : look (codL 224) 281 = some (.aload_n 2, 1, 0, 0, 0) := by decide +kernel
theorem k224_282 : look (codL 224) 282 = some (.aload_n 0, 1, 0, 0, 0) := by decide +kernel
theorem k224_283 : look (codL 224) 283 = some (.iload_n 3, 1, 0, 0, 0) := by decide +kernel
theorem k224_284 : look (codL 224) 284 = some (.iconst 1, 1, 0, 0, 0) := by decide +kernel
theorem k224_285 : look (codL 224) 285 = some (.iadd, 1, 0, 0, 0) := by decide +kernel
theorem k224_286 : look (codL 224) 286 = some (.iaload, 1, 0, 0, 0) := by decide +kernel
theorem k224_287 : look (codL 224) 287 = some (.aload_n 0, 1, 0, 0, 0) := by decide +kernel
theorem k224_288 : look (codL 224) 288 = some (.iload_n 3, 1, 0, 0, 0) := by decide +kernel
theorem k224_289 : look (codL 224) 289 = some (.iconst 2, 1, 0, 0, 0) := by decide +kernel
theorem k224_290 : look (codL 224) 290 = some (.iadd, 1, 0, 0, 0) := by decide +kernel
theorem k224_291 : look (codL 224) 291 = some (.iaload, 1, 0, 0, 0) := by decide +kernel
theorem k224_292 : look (codL 224) 292 = some (.aload_n 0, 1, 0, 0, 0) := by decide +kernel
theorem k224_293 : look (codL 224) 293 = some (.iload_n 3, 1, 0, 0, 0) := by decide +kernel
theorem k224_294 : look (codL 224) 294 = some (.iconst 3, 1, 0, 0, 0) := by decide +kernel
theorem k224_295 : look (codL 224) 295 = some (.iadd, 1, 0, 0, 0) := by decide +kernel
theorem k224_296 : look (codL 224) 296 = some (.iaload, 1, 0, 0, 0) := by decide +kernel
theorem k224_297 : look (codL 224) 297 = some (.invokevirtual 35, 3, 157, 4, 0) := by decide +kernel
theorem k224_300 : look (codL 224) 300 = some (.if_icmp .eq 656, 3, 0, 0, 0) := by decide +kernel
theorem k224_303 : look (codL 224) 303 = some (.iconst 0, 1, 0, 0, 0) := by decide +kernel
theorem k224_304 : look (codL 224) 304 = some (.ireturn, 1, 0, 0, 0) := by decide +kernel
theorem k224_305 : look (codL 224) 305 = some (.aload_n 1, 1, 0, 0, 0) := by decide +kernel
theorem k224_306 : look (codL 224) 306 = some (.aload_n 0, 1, 0, 0, 0) := by decide +kernel
theorem k224_307 : look (codL 224) 307 = some (.iload_n 3, 1, 0, 0, 0) := by decide +kernel
theorem k224_308 : look (codL 224) 308 = some (.iconst 1, 1, 0, 0, 0) := by decide +kernel
theorem k224_309 : look (codL 224) 309 = some (.iadd, 1, 0, 0, 0) := by decide +kernel
theorem k224_310 : look (codL 224) 310 = some (.iaload, 1, 0, 0, 0) := by decide +kernel
theorem k224_311 : look (codL 224) 311 = some (.aload_n 0, 1, 0, 0, 0) := by decide +kernel
theorem k224_312 : look (codL 224) 312 = some (.iload_n 3, 1, 0, 0, 0) := by decide +kernel
theorem k224_313 : look (codL 224) 313 = some (.iconst 2, 1, 0, 0, 0) := by decide +kernel
theorem k224_314 : look (codL 224) 314 = some (.iadd, 1, 0, 0, 0) := by decide +kernel
theorem k224_315 : look (codL 224) 315 = some (.iaload, 1, 0, 0, 0) := by decide +kernel
theorem k224_316 : look (codL 224) 316 = some (.invokevirtual 36, 3, 97, 3, 0) := by decide +kernel
theorem k224_319 : look (codL 224) 319 = some (.aload_n 2, 1, 0, 0, 0) := by decide +kernel
theorem k224_320 : look (codL 224) 320 = some (.aload_n 0, 1, 0, 0, 0) := by decide +kernel
theorem k224_321 : look (codL 224) 321 = some (.iload_n 3, 1, 0, 0, 0) := by decide +kernel
theorem k224_322 : look (codL 224) 322 = some (.iconst 1, 1, 0, 0, 0) := by decide +kernel
theorem k224_323 : look (codL 224) 323 = some (.iadd, 1, 0, 0, 0) := by decide +kernel
theorem k224_324 : look (codL 224) 324 = some (.iaload, 1, 0, 0, 0) := by decide +kernel
theorem k224_325 : look (codL 224) 325 = some (.aload_n 0, 1, 0, 0, 0) := by decide +kernel
theorem k224_326 : look (codL 224) 326 = some (.iload_n 3, 1, 0, 0, 0) := by decide +kernel
theorem k224_327 : look (codL 224) 327 = some (.iconst 2, 1, 0, 0, 0) := by decide +kernel
theorem k224_328 : look (codL 224) 328 = some (.iadd, 1, 0, 0, 0) := by decide +kernel
theorem k224_329 : look (codL 224) 329 = some (.iaload, 1, 0, 0, 0) := by decide +kernel
theorem k224_330 : look (codL 224) 330 = some (.invokevirtual 39, 3, 158, 3, 0) := by decide +kernel
theorem k224_333 : look (codL 224) 333 = some (.if_icmp .eq 623, 3, 0, 0, 0) := by decide +kernel
theorem k224_336 : look (codL 224) 336 = some (.iconst 0, 1, 0, 0, 0) := by decide +kernel
theorem k224_337 : look (codL 224) 337 = some (.ireturn, 1, 0, 0, 0) := by decide +kernel
theorem k224_338 : look (codL 224) 338 = some (.aload_n 1, 1, 0, 0, 0) := by decide +kernel
theorem k224_339 : look (codL 224) 339 = some (.aload_n 0, 1, 0, 0, 0) := by decide +kernel
theorem k224_340 : look (codL 224) 340 = some (.iload_n 3, 1, 0, 0, 0) := by decide +kernel
theorem k224_341 : look (codL 224) 341 = some (.iconst 1, 1, 0, 0, 0) := by decide +kernel
theorem k224_342 : look (codL 224) 342 = some (.iadd, 1, 0, 0, 0) := by decide +kernel
theorem k224_343 : look (codL 224) 343 = some (.iaload, 1, 0, 0, 0) := by decide +kernel
theorem k224_344 : look (codL 224) 344 = some (.invokevirtual 40, 3, 98, 2, 0) := by decide +kernel
theorem k224_347 : look (codL 224) 347 = some (.aload_n 2, 1, 0, 0, 0) := by decide +kernel
theorem k224_348 : look (codL 224) 348 = some (.aload_n 0, 1, 0, 0, 0) := by decide +kernel
theorem k224_349 : look (codL 224) 349 = some (.iload_n 3, 1, 0, 0, 0) := by decide +kernel
theorem k224_350 : look (codL 224) 350 = some (.iconst 1, 1, 0, 0, 0) := by decide +kernel
theorem k224_351 : look (codL 224) 351 = some (.iadd, 1, 0, 0, 0) := by decide +kernel
theorem k224_352 : look (codL 224) 352 = some (.iaload, 1, 0, 0, 0) := by decide +kernel
theorem k224_353 : look (codL 224) 353 = some (.invokevirtual 44, 3, 159, 2, 0) := by decide +kernel
theorem k224_356 : look (codL 224) 356 = some (.if_icmp .eq 600, 3, 0, 0, 0) := by decide +kernel
theorem k224_359 : look (codL 224) 359 = some (.iconst 0, 1, 0, 0, 0) := by decide +kernel
theorem k224_360 : look (codL 224) 360 = some (.ireturn, 1, 0, 0, 0) := by decide +kernel
theorem k224_361 : look (codL 224) 361 = some (.aload_n 1, 1, 0, 0, 0) := by decide +kernel
theorem k224_362 : look (codL 224) 362 = some (.aload_n 0, 1, 0, 0, 0) := by decide +kernel
theorem k224_363 : look (codL 224) 363 = some (.iload_n 3, 1, 0, 0, 0) := by decide +kernel
theorem k224_364 : look (codL 224) 364 = some (.iconst 1, 1, 0, 0, 0) := by decide +kernel
theorem k224_365 : look (codL 224) 365 = some (.iadd, 1, 0, 0, 0) := by decide +kernel
theorem k224_366 : look (codL 224) 366 = some (.iaload, 1, 0, 0, 0) := by decide +kernel
theorem k224_367 : look (codL 224) 367 = some (.aload_n 0, 1, 0, 0, 0) := by decide +kernel
theorem k224_368 : look (codL 224) 368 = some (.iload_n 3, 1, 0, 0, 0) := by decide +kernel
theorem k224_369 : look (codL 224) 369 = some (.iconst 2, 1, 0, 0, 0) := by decide +kernel
theorem k224_370 : look (codL 224) 370 = some (.iadd, 1, 0, 0, 0) := by decide +kernel
theorem k224_371 : look (codL 224) 371 = some (.iaload, 1, 0, 0, 0) := by decide +kernel
theorem k224_372 : look (codL 224) 372 = some (.invokevirtual 45, 3, 100, 3, 0) := by decide +kernel
theorem k224_375 : look (codL 224) 375 = some (.aload_n 2, 1, 0, 0, 0) := by decide +kernel
theorem k224_376 : look (codL 224) 376 = some (.aload_n 0, 1, 0, 0, 0) := by decide +kernel
theorem k224_377 : look (codL 224) 377 = some (.iload_n 3, 1, 0, 0, 0) := by decide +kernel
theorem k224_378 : look (codL 224) 378 = some (.iconst 1, 1, 0, 0, 0) := by decide +kernel
theorem k224_379 : look (codL 224) 379 = some (.iadd, 1, 0, 0, 0) := by decide +kernel
theorem k224_380 : look (codL 224) 380 = some (.iaload, 1, 0, 0, 0) := by decide +kernel
theorem k224_381 : look (codL 224) 381 = some (.aload_n 0, 1, 0, 0, 0) := by decide +kernel
theorem k224_382 : look (codL 224) 382 = some (.iload_n 3, 1, 0, 0, 0) := by decide +kernel
theorem k224_383 : look (codL 224) 383 = some (.iconst 2, 1, 0, 0, 0) := by decide +kernel
theorem k224_384 : look (codL 224) 384 = some (.iadd, 1, 0, 0, 0) := by decide +kernel
theorem k224_385 : look (codL 224) 385 = some (.iaload, 1, 0, 0, 0) := by decide +kernel
theorem k224_386 : look (codL 224) 386 = some (.invokevirtual 48, 3, 166, 3, 0) := by decide +kernel
theorem k224_389 : look (codL 224) 389 = some (.if_icmp .eq 567, 3, 0, 0, 0) := by decide +kernel
theorem k224_392 : look (codL 224) 392 = some (.iconst 0, 1, 0, 0, 0) := by decide +kernel
theorem k224_393 : look (codL 224) 393 = some (.ireturn, 1, 0, 0, 0) := by decide +kernel
theorem k224_394 : look (codL 224) 394 = some (.aload_n 1, 1, 0, 0, 0) := by decide +kernel
theorem k224_395 : look (codL 224) 395 = some (.aload_n 0, 1, 0, 0, 0) := by decide +kernel
theorem k224_396 : look (codL 224) 396 = some (.iload_n 3, 1, 0, 0, 0) := by decide +kernel
theorem k224_397 : look (codL 224) 397 = some (.iconst 1, 1, 0, 0, 0) := by decide +kernel
theorem k224_398 : look (codL 224) 398 = some (.iadd, 1, 0, 0, 0) := by decide +kernel
theorem k224_399 : look (codL 224) 399 = some (.iaload, 1, 0, 0, 0) := by decide +kernel
theorem k224_400 : look (codL 224) 400 = some (.aload_n 0, 1, 0, 0, 0) := by decide +kernel
theorem k224_401 : look (codL 224) 401 = some (.iload_n 3, 1, 0, 0, 0) := by decide +kernel
theorem k224_402 : look (codL 224) 402 = some (.iconst 2, 1, 0, 0, 0) := by decide +kernel
theorem k224_403 : look (codL 224) 403 = some (.iadd, 1, 0, 0, 0) := by decide +kernel
theorem k224_404 : look (codL 224) 404 = some (.iaload, 1, 0, 0, 0) := by decide +kernel
theorem k224_405 : look (codL 224) 405 = some (.invokevirtual 49, 3, 101, 3, 0) := by decide +kernel
theorem k224_408 : look (codL 224) 408 = some (.aload_n 2, 1, 0, 0, 0) := by decide +kernel
theorem k224_409 : look (codL 224) 409 = some (.aload_n 0, 1, 0, 0, 0) := by decide +kernel
theorem k224_410 : look (codL 224) 410 = some (.iload_n 3, 1, 0, 0, 0) := by decide +kernel
theorem k224_411 : look (codL 224) 411 = some (.iconst 1, 1, 0, 0, 0) := by decide +kernel
theorem k224_412 : look (codL 224) 412 = some (.iadd, 1, 0, 0, 0) := by decide +kernel
theorem k224_413 : look (codL 224) 413 = some (.iaload, 1, 0, 0, 0) := by decide +kernel
theorem k224_414 : look (codL 224) 414 = some (.aload_n 0, 1, 0, 0, 0) := by decide +kernel
theorem k224_415 : look (codL 224) 415 = some (.iload_n 3, 1, 0, 0, 0) := by decide +kernel
theorem k224_416 : look (codL 224) 416 = some (.iconst 2, 1, 0, 0, 0) := by decide +kernel
theorem k224_417 : look (codL 224) 417 = some (.iadd, 1, 0, 0, 0) := by decide +kernel
theorem k224_418 : look (codL 224) 418 = some (.iaload, 1, 0, 0, 0) := by decide +kernel
theorem k224_419 : look (codL 224) 419 = some (.invokevirtual 52, 3, 167, 3, 0) := by decide +kernel
theorem k224_422 : look (codL 224) 422 = some (.if_icmp .eq 534, 3, 0, 0, 0) := by decide +kernel
theorem k224_425 : look (codL 224) 425 = some (.iconst 0, 1, 0, 0, 0) := by decide +kernel
theorem k224_426 : look (codL 224) 426 = some (.ireturn, 1, 0, 0, 0) := by decide +kernel
theorem k224_427 : look (codL 224) 427 = some (.aload_n 1, 1, 0, 0, 0) := by decide +kernel
theorem k224_428 : look (codL 224) 428 = some (.aload_n 0, 1, 0, 0, 0) := by decide +kernel
theorem k224_429 : look (codL 224) 429 = some (.iload_n 3, 1, 0, 0, 0) := by decide +kernel
theorem k224_430 : look (codL 224) 430 = some (.iconst 1, 1, 0, 0, 0) := by decide +kernel
theorem k224_431 : look (codL 224) 431 = some (.iadd, 1, 0, 0, 0) := by decide +kernel
theorem k224_432 : look (codL 224) 432 = some (.iaload, 1, 0, 0, 0) := by decide +kernel
theorem k224_433 : look (codL 224) 433 = some (.aload_n 0, 1, 0, 0, 0) := by decide +kernel
theorem k224_434 : look (codL 224) 434 = some (.iload_n 3, 1, 0, 0, 0) := by decide +kernel
theorem k224_435 : look (codL 224) 435 = some (.iconst 2, 1, 0, 0, 0) := by decide +kernel
theorem k224_436 : look (codL 224) 436 = some (.iadd, 1, 0, 0, 0) := by decide +kernel
theorem k224_437 : look (codL 224) 437 = some (.iaload, 1, 0, 0, 0) := by decide +kernel
theorem k224_438 : look (codL 224) 438 = some (.invokevirtual 53, 3, 102, 3, 0) := by decide +kernel
theorem k224_441 : look (codL 224) 441 = some (.aload_n 2, 1, 0, 0, 0) := by decide +kernel
theorem k224_442 : look (codL 224) 442 = some (.aload_n 0, 1, 0, 0, 0) := by decide +kernel
theorem k224_443 : look (codL 224) 443 = some (.iload_n 3, 1, 0, 0, 0) := by decide +kernel
theorem k224_444 : look (codL 224) 444 = some (.iconst 1, 1, 0, 0, 0) := by decide +kernel
theorem k224_445 : look (codL 224) 445 = some (.iadd, 1, 0, 0, 0) := by decide +kernel
theorem k224_446 : look (codL 224) 446 = some (.iaload, 1, 0, 0, 0) := by decide +kernel
theorem k224_447 : look (codL 224) 447 = some (.aload_n 0, 1, 0, 0, 0) := by decide +kernel
theorem k224_448 : look (codL 224) 448 = some (.iload_n 3, 1, 0, 0, 0) := by decide +kernel
theorem k224_449 : look (codL 224) 449 = some (.iconst 2, 1, 0, 0, 0) := by decide +kernel
theorem k224_450 : look (codL 224) 450 = some (.iadd, 1, 0, 0, 0) := by decide +kernel
theorem k224_451 : look (codL 224) 451 = some (.iaload, 1, 0, 0, 0) := by decide +kernel
theorem k224_452 : look (codL 224) 452 = some (.invokevirtual 56, 3, 168, 3, 0) := by decide +kernel
theorem k224_455 : look (codL 224) 455 = some (.if_icmp .eq 501, 3, 0, 0, 0) := by decide +kernel
theorem k224_458 : look (codL 224) 458 = some (.iconst 0, 1, 0, 0, 0) := by decide +kernel
theorem k224_459 : look (codL 224) 459 = some (.ireturn, 1, 0, 0, 0) := by decide +kernel
theorem k224_460 : look (codL 224) 460 = some (.aload_n 1, 1, 0, 0, 0) := by decide +kernel
theorem k224_461 : look (codL 224) 461 = some (.aload_n 0, 1, 0, 0, 0) := by decide +kernel
theorem k224_462 : look (codL 224) 462 = some (.iload_n 3, 1, 0, 0, 0) := by decide +kernel
theorem k224_463 : look (codL 224) 463 = some (.iconst 1, 1, 0, 0, 0) := by decide +kernel
theorem k224_464 : look (codL 224) 464 = some (.iadd, 1, 0, 0, 0) := by decide +kernel
theorem k224_465 : look (codL 224) 465 = some (.iaload, 1, 0, 0, 0) := by decide +kernel
theorem k224_466 : look (codL 224) 466 = some (.aload_n 0, 1, 0, 0, 0) := by decide +kernel
theorem k224_467 : look (codL 224) 467 = some (.iload_n 3, 1, 0, 0, 0) := by decide +kernel
theorem k224_468 : look (codL 224) 468 = some (.iconst 2, 1, 0, 0, 0) := by decide +kernel
theorem k224_469 : look (codL 224) 469 = some (.iadd, 1, 0, 0, 0) := by decide +kernel
theorem k224_470 : look (codL 224) 470 = some (.iaload, 1, 0, 0, 0) := by decide +kernel
theorem k224_471 : look (codL 224) 471 = some (.invokevirtual 57, 3, 103, 3, 0) := by decide +kernel
theorem k224_474 : look (codL 224) 474 = some (.aload_n 2, 1, 0, 0, 0) := by decide +kernel
theorem k224_475 : look (codL 224) 475 = some (.aload_n 0, 1, 0, 0, 0) := by decide +kernel
theorem k224_476 : look (codL 224) 476 = some (.iload_n 3, 1, 0, 0, 0) := by decide +kernel
theorem k224_477 : look (codL 224) 477 = some (.iconst 1, 1, 0, 0, 0) := by decide +kernel
theorem k224_478 : look (codL 224) 478 = some (.iadd, 1, 0, 0, 0) := by decide +kernel
theorem k224_479 : look (codL 224) 479 = some (.iaload, 1, 0, 0, 0) := by decide +kernel
theorem k224_480 : look (codL 224) 480 = some (.aload_n 0, 1, 0, 0, 0) := by decide +kernel
theorem k224_481 : look (codL 224) 481 = some (.iload_n 3, 1, 0, 0, 0) := by decide +kernel
theorem k224_482 : look (codL 224) 482 = some (.iconst 2, 1, 0, 0, 0) := by decide +kernel
theorem k224_483 : look (codL 224) 483 = some (.iadd, 1, 0, 0, 0) := by decide +kernel
theorem k224_484 : look (codL 224) 484 = some (.iaload, 1, 0, 0, 0) := by decide +kernel
theorem k224_485 : look (codL 224) 485 = some (.invokevirtual 60, 3, 169, 3, 0) := by decide +kernel
theorem k224_488 : look (codL 224) 488 = some (.if_icmp .eq 468, 3, 0, 0, 0) := by decide +kernel
theorem k224_491 : look (codL 224) 491 = some (.iconst 0, 1, 0, 0, 0) := by decide +kernel
theorem k224_492 : look (codL 224) 492 = some (.ireturn, 1, 0, 0, 0) := by decide +kernel
theorem k224_493 : look (codL 224) 493 = some (.aload_n 1, 1, 0, 0, 0) := by decide +kernel
theorem k224_494 : look (codL 224) 494 = some (.aload_n 0, 1, 0, 0, 0) := by decide +kernel
theorem k224_495 : look (codL 224) 495 = some (.iload_n 3, 1, 0, 0, 0) := by decide +kernel
theorem k224_496 : look (codL 224) 496 = some (.iconst 1, 1, 0, 0, 0) := by decide +kernel
theorem k224_497 : look (codL 224) 497 = some (.iadd, 1, 0, 0, 0) := by decide +kernel
theorem k224_498 : look (codL 224) 498 = some (.iaload, 1, 0, 0, 0) := by decide +kernel
theorem k224_499 : look (codL 224) 499 = some (.invokevirtual 61, 3, 104, 2, 0) := by decide +kernel
theorem k224_502 : look (codL 224) 502 = some (.aload_n 2, 1, 0, 0, 0) := by decide +kernel
theorem k224_503 : look (codL 224) 503 = some (.aload_n 0, 1, 0, 0, 0) := by decide +kernel
theorem k224_504 : look (codL 224) 504 = some (.iload_n 3, 1, 0, 0, 0) := by decide +kernel
theorem k224_505 : look (codL 224) 505 = some (.iconst 1, 1, 0, 0, 0) := by decide +kernel
theorem k224_506 : look (codL 224) 506 = some (.iadd, 1, 0, 0, 0) := by decide +kernel
theorem k224_507 : look (codL 224) 507 = some (.iaload, 1, 0, 0, 0) := by decide +kernel
theorem k224_508 : look (codL 224) 508 = some (.invokevirtual 64, 3, 208, 2, 0) := by decide +kernel
theorem k224_511 : look (codL 224) 511 = some (.if_icmp .eq 445, 3, 0, 0, 0) := by decide +kernel
theorem k224_514 : look (codL 224) 514 = some (.iconst 0, 1, 0, 0, 0) := by decide +kernel
theorem k224_515 : look (codL 224) 515 = some (.ireturn, 1, 0, 0, 0) := by decide +kernel
theorem k224_516 : look (codL 224) 516 = some (.aload_n 1, 1, 0, 0, 0) := by decide +kernel
theorem k224_517 : look (codL 224) 517 = some (.invokevirtual 65, 3, 105, 1, 0) := by decide +kernel
theorem k224_520 : look (codL 224) 520 = some (.aload_n 2, 1, 0, 0, 0) := by decide +kernel
theorem k224_521 : look (codL 224) 521 = some (.invokevirtual 68, 3, 209, 1, 0) := by decide +kernel
theorem k224_524 : look (codL 224) 524 = some (.if_icmp .eq 432, 3, 0, 0, 0) := by decide +kernel
theorem k224_527 : look (codL 224) 527 = some (.iconst 0, 1, 0, 0, 0) := by decide +kernel
theorem k224_528 : look (codL 224) 528 = some (.ireturn, 1, 0, 0, 0) := by decide +kernel
theorem k224_529 : look (codL 224) 529 = some (.aload_n 1, 1, 0, 0, 0) := by decide +kernel
theorem k224_530 : look (codL 224) 530 = some (.invokevirtual 69, 3, 106, 1, 0) := by decide +kernel
theorem k224_533 : look (codL 224) 533 = some (.aload_n 2, 1, 0, 0, 0) := by decide +kernel
theorem k224_534 : look (codL 224) 534 = some (.invokevirtual 72, 3, 223, 1, 0) := by decide +kernel
theorem k224_537 : look (codL 224) 537 = some (.if_icmp .eq 419, 3, 0, 0, 0) := by decide +kernel
theorem k224_540 : look (codL 224) 540 = some (.iconst 0, 1, 0, 0, 0) := by decide +kernel
theorem k224_541 : look (codL 224) 541 = some (.ireturn, 1, 0, 0, 0) := by decide +kernel
theorem k224_542 : look (codL 224) 542 = some (.aload_n 1, 1, 0, 0, 0) := by decide +kernel
theorem k224_543 : look (codL 224) 543 = some (.aload_n 0, 1, 0, 0, 0) := by decide +kernel
theorem k224_544 : look (codL 224) 544 = some (.iload_n 3, 1, 0, 0, 0) := by decide +kernel
theorem k224_545 : look (codL 224) 545 = some (.iconst 1, 1, 0, 0, 0) := by decide +kernel
theorem k224_546 : look (codL 224) 546 = some (.iadd, 1, 0, 0, 0) := by decide +kernel
theorem k224_547 : look (codL 224) 547 = some (.iaload, 1, 0, 0, 0) := by decide +kernel
theorem k224_548 : look (codL 224) 548 = some (.aload_n 0, 1, 0, 0, 0) := by decide +kernel
theorem k224_549 : look (codL 224) 549 = some (.iload_n 3, 1, 0, 0, 0) := by decide +kernel
theorem k224_550 : look (codL 224) 550 = some (.iconst 2, 1, 0, 0, 0) := by decide +kernel
theorem k224_551 : look (codL 224) 551 = some (.iadd, 1, 0, 0, 0) := by decide +kernel
theorem k224_552 : look (codL 224) 552 = some (.iaload, 1, 0, 0, 0) := by decide +kernel
theorem k224_553 : look (codL 224) 553 = some (.invokevirtual 73, 3, 109, 3, 0) := by decide +kernel
theorem k224_556 : look (codL 224) 556 = some (.aload_n 2, 1, 0, 0, 0) := by decide +kernel
theorem k224_557 : look (codL 224) 557 = some (.aload_n 0, 1, 0, 0, 0) := by decide +kernel
theorem k224_558 : look (codL 224) 558 = some (.iload_n 3, 1, 0, 0, 0) := by decide +kernel
theorem k224_559 : look (codL 224) 559 = some (.iconst 1, 1, 0, 0, 0) := by decide +kernel
theorem k224_560 : look (codL 224) 560 = some (.iadd, 1, 0, 0, 0) := by decide +kernel
theorem k224_561 : look (codL 224) 561 = some (.iaload, 1, 0, 0, 0) := by decide +kernel
theorem k224_562 : look (codL 224) 562 = some (.aload_n 0, 1, 0, 0, 0) := by decide +kernel
theorem k224_563 : look (codL 224) 563 = some (.iload_n 3, 1, 0, 0, 0) := by decide +kernel
theorem k224_564 : look (codL 224) 564 = some (.iconst 2, 1, 0, 0, 0) := by decide +kernel
theorem k224_565 : look (codL 224) 565 = some (.iadd, 1, 0, 0, 0) := by decide +kernel
theorem k224_566 : look (codL 224) 566 = some (.iaload, 1, 0, 0, 0) := by decide +kernel
theorem k224_567 : look (codL 224) 567 = some (.invokevirtual 76, 3, 184, 3, 0) := by decide +kernel
theorem k224_570 : look (codL 224) 570 = some (.if_icmp .eq 386, 3, 0, 0, 0) := by decide +kernel
theorem k224_573 : look (codL 224) 573 = some (.iconst 0, 1, 0, 0, 0) := by decide +kernel
theorem k224_574 : look (codL 224) 574 = some (.ireturn, 1, 0, 0, 0) := by decide +kernel
theorem k224_575 : look (codL 224) 575 = some (.aload_n 1, 1, 0, 0, 0) := by decide +kernel
theorem k224_576 : look (codL 224) 576 = some (.aload_n 0, 1, 0, 0, 0) := by decide +kernel
theorem k224_577 : look (codL 224) 577 = some (.iload_n 3, 1, 0, 0, 0) := by decide +kernel
theorem k224_578 : look (codL 224) 578 = some (.iconst 1, 1, 0, 0, 0) := by decide +kernel
theorem k224_579 : look (codL 224) 579 = some (.iadd, 1, 0, 0, 0) := by decide +kernel
theorem k224_580 : look (codL 224) 580 = some (.iaload, 1, 0, 0, 0) := by decide +kernel
theorem k224_581 : look (codL 224) 581 = some (.aload_n 0, 1, 0, 0, 0) := by decide +kernel
theorem k224_582 : look (codL 224) 582 = some (.iload_n 3, 1, 0, 0, 0) := by decide +kernel
theorem k224_583 : look (codL 224) 583 = some (.iconst 2, 1, 0, 0, 0) := by decide +kernel
theorem k224_584 : look (codL 224) 584 = some (.iadd, 1, 0, 0, 0) := by decide +kernel
theorem k224_585 : look (codL 224) 585 = some (.iaload, 1, 0, 0, 0) := by decide +kernel
theorem k224_586 : look (codL 224) 586 = some (.aload_n 0, 1, 0, 0, 0) := by decide +kernel
theorem k224_587 : look (codL 224) 587 = some (.iload_n 3, 1, 0, 0, 0) := by decide +kernel
theorem k224_588 : look (codL 224) 588 = some (.iconst 3, 1, 0, 0, 0) := by decide +kernel
theorem k224_589 : look (codL 224) 589 = some (.iadd, 1, 0, 0, 0) := by decide +kernel
theorem k224_590 : look (codL 224) 590 = some (.iaload, 1, 0, 0, 0) := by decide +kernel
theorem k224_591 : look (codL 224) 591 = some (.invokevirtual 77, 3, 110, 4, 0) := by decide +kernel
theorem k224_594 : look (codL 224) 594 = some (.aload_n 2, 1, 0, 0, 0) := by decide +kernel
theorem k224_595 : look (codL 224) 595 = some (.aload_n 0, 1, 0, 0, 0) := by decide +kernel
theorem k224_596 : look (codL 224) 596 = some (.iload_n 3, 1, 0, 0, 0) := by decide +kernel
theorem k224_597 : look (codL 224) 597 = some (.iconst 1, 1, 0, 0, 0) := by decide +kernel
theorem k224_598 : look (codL 224) 598 = some (.iadd, 1, 0, 0, 0) := by decide +kernel
theorem k224_599 : look (codL 224) 599 = some (.iaload, 1, 0, 0, 0) := by decide +kernel
theorem k224_600 : look (codL 224) 600 = some (.aload_n 0, 1, 0, 0, 0) := by decide +kernel
theorem k224_601 : look (codL 224) 601 = some (.iload_n 3, 1, 0, 0, 0) := by decide +kernel
theorem k224_602 : look (codL 224) 602 = some (.iconst 2, 1, 0, 0, 0) := by decide +kernel
theorem k224_603 : look (codL 224) 603 = some (.iadd, 1, 0, 0, 0) := by decide +kernel
theorem k224_604 : look (codL 224) 604 = some (.iaload, 1, 0, 0, 0) := by decide +kernel
theorem k224_605 : look (codL 224) 605 = some (.aload_n 0, 1, 0, 0, 0) := by decide +kernel
theorem k224_606 : look (codL 224) 606 = some (.iload_n 3, 1, 0, 0, 0) := by decide +kernel
theorem k224_607 : look (codL 224) 607 = some (.iconst 3, 1, 0, 0, 0) := by decide +kernel
theorem k224_608 : look (codL 224) 608 = some (.iadd, 1, 0, 0, 0) := by decide +kernel
theorem k224_609 : look (codL 224) 609 = some (.iaload, 1, 0, 0, 0) := by decide +kernel
theorem k224_610 : look (codL 224) 610 = some (.invokevirtual 80, 3, 185, 4, 0) := by decide +kernel
theorem k224_613 : look (codL 224) 613 = some (.if_icmp .eq 343, 3, 0, 0, 0) := by decide +kernel
theorem k224_616 : look (codL 224) 616 = some (.iconst 0, 1, 0, 0, 0) := by decide +kernel
theorem k224_617 : look (codL 224) 617 = some (.ireturn, 1, 0, 0, 0) := by decide +kernel
theorem k224_618 : look (codL 224) 618 = some (.aload_n 1, 1, 0, 0, 0) := by decide +kernel
theorem k224_619 : look (codL 224) 619 = some (.aload_n 0, 1, 0, 0, 0) := by decide +kernel
theorem k224_620 : look (codL 224) 620 = some (.iload_n 3, 1, 0, 0, 0) := by decide +kernel
theorem k224_621 : look (codL 224) 621 = some (.iconst 1, 1, 0, 0, 0) := by decide +kernel
theorem k224_622 : look (codL 224) 622 = some (.iadd, 1, 0, 0, 0) := by decide +kernel
theorem k224_623 : look (codL 224) 623 = some (.iaload, 1, 0, 0, 0) := by decide +kernel
theorem k224_624 : look (codL 224) 624 = some (.invokevirtual 81, 3, 111, 2, 0) := by decide +kernel
theorem k224_627 : look (codL 224) 627 = some (.aload_n 2, 1, 0, 0, 0) := by decide +kernel
theorem k224_628 : look (codL 224) 628 = some (.aload_n 0, 1, 0, 0, 0) := by decide +kernel
theorem k224_629 : look (codL 224) 629 = some (.iload_n 3, 1, 0, 0, 0) := by decide +kernel
theorem k224_630 : look (codL 224) 630 = some (.iconst 1, 1, 0, 0, 0) := by decide +kernel
theorem k224_631 : look (codL 224) 631 = some (.iadd, 1, 0, 0, 0) := by decide +kernel
theorem k224_632 : look (codL 224) 632 = some (.iaload, 1, 0, 0, 0) := by decide +kernel
theorem k224_633 : look (codL 224) 633 = some (.invokevirtual 84, 3, 186, 2, 0) := by decide +kernel
theorem k224_636 : look (codL 224) 636 = some (.if_icmp .eq 320, 3, 0, 0, 0) := by decide +kernel
theorem k224_639 : look (codL 224) 639 = some (.iconst 0, 1, 0, 0, 0) := by decide +kernel
theorem k224_640 : look (codL 224) 640 = some (.ireturn, 1, 0, 0, 0) := by decide +kernel
theorem k224_641 : look (codL 224) 641 = some (.aload_n 1, 1, 0, 0, 0) := by decide +kernel
theorem k224_642 : look (codL 224) 642 = some (.aload_n 0, 1, 0, 0, 0) := by decide +kernel
theorem k224_643 : look (codL 224) 643 = some (.iload_n 3, 1, 0, 0, 0) := by decide +kernel
theorem k224_644 : look (codL 224) 644 = some (.iconst 1, 1, 0, 0, 0) := by decide +kernel
theorem k224_645 : look (codL 224) 645 = some (.iadd, 1, 0, 0, 0) := by decide +kernel
theorem k224_646 : look (codL 224) 646 = some (.iaload, 1, 0, 0, 0) := by decide +kernel
theorem k224_647 : look (codL 224) 647 = some (.aload_n 0, 1, 0, 0, 0) := by decide +kernel
theorem k224_648 : look (codL 224) 648 = some (.iload_n 3, 1, 0, 0, 0) := by decide +kernel
theorem k224_649 : look (codL 224) 649 = some (.iconst 2, 1, 0, 0, 0) := by decide +kernel
theorem k224_650 : look (codL 224) 650 = some (.iadd, 1, 0, 0, 0) := by decide +kernel
theorem k224_651 : look (codL 224) 651 = some (.iaload, 1, 0, 0, 0) := by decide +kernel
theorem k224_652 : look (codL 224) 652 = some (.invokevirtual 85, 3, 112, 3, 0) := by decide +kernel
theorem k224_655 : look (codL 224) 655 = some (.aload_n 2, 1, 0, 0, 0) := by decide +kernel
theorem k224_656 : look (codL 224) 656 = some (.aload_n 0, 1, 0, 0, 0) := by decide +kernel
theorem k224_657 : look (codL 224) 657 = some (.iload_n 3, 1, 0, 0, 0) := by decide +kernel
theorem k224_658 : look (codL 224) 658 = some (.iconst 1, 1, 0, 0, 0) := by decide +kernel
theorem k224_659 : look (codL 224) 659 = some (.iadd, 1, 0, 0, 0) := by decide +kernel
theorem k224_660 : look (codL 224) 660 = some (.iaload, 1, 0, 0, 0) := by decide +kernel
theorem k224_661 : look (codL 224) 661 = some (.aload_n 0, 1, 0, 0, 0) := by decide +kernel
theorem k224_662 : look (codL 224) 662 = some (.iload_n 3, 1, 0, 0, 0) := by decide +kernel
theorem k224_663 : look (codL 224) 663 = some (.iconst 2, 1, 0, 0, 0) := by decide +kernel
theorem k224_664 : look (codL 224) 664 = some (.iadd, 1, 0, 0, 0) := by decide +kernel
theorem k224_665 : look (codL 224) 665 = some (.iaload, 1, 0, 0, 0) := by decide +kernel
theorem k224_666 : look (codL 224) 666 = some (.invokevirtual 88, 3, 189, 3, 0) := by decide +kernel
theorem k224_669 : look (codL 224) 669 = some (.if_icmp .eq 287, 3, 0, 0, 0) := by decide +kernel
theorem k224_672 : look (codL 224) 672 = some (.iconst 0, 1, 0, 0, 0) := by decide +kernel
theorem k224_673 : look (codL 224) 673 = some (.ireturn, 1, 0, 0, 0) := by decide +kernel
theorem k224_674 : look (codL 224) 674 = some (.aload_n 1, 1, 0, 0, 0) := by decide +kernel
theorem k224_675 : look (codL 224) 675 = some (.aload_n 0, 1, 0, 0, 0) := by decide +kernel
theorem k224_676 : look (codL 224) 676 = some (.iload_n 3, 1, 0, 0, 0) := by decide +kernel
theorem k224_677 : look (codL 224) 677 = some (.iconst 1, 1, 0, 0, 0) := by decide +kernel
theorem k224_678 : look (codL 224) 678 = some (.iadd, 1, 0, 0, 0) := by decide +kernel
theorem k224_679 : look (codL 224) 679 = some (.iaload, 1, 0, 0, 0) := by decide +kernel
theorem k224_680 : look (codL 224) 680 = some (.aload_n 0, 1, 0, 0, 0) := by decide +kernel
theorem k224_681 : look (codL 224) 681 = some (.iload_n 3, 1, 0, 0, 0) := by decide +kernel
theorem k224_682 : look (codL 224) 682 = some (.iconst 2, 1, 0, 0, 0) := by decide +kernel
theorem k224_683 : look (codL 224) 683 = some (.iadd, 1, 0, 0, 0) := by decide +kernel
theorem k224_684 : look (codL 224) 684 = some (.iaload, 1, 0, 0, 0) := by decide +kernel
theorem k224_685 : look (codL 224) 685 = some (.invokevirtual 89, 3, 114, 3, 0) := by decide +kernel
theorem k224_688 : look (codL 224) 688 = some (.aload_n 2, 1, 0, 0, 0) := by decide +kernel
theorem k224_689 : look (codL 224) 689 = some (.aload_n 0, 1, 0, 0, 0) := by decide +kernel
theorem k224_690 : look (codL 224) 690 = some (.iload_n 3, 1, 0, 0, 0) := by decide +kernel
theorem k224_691 : look (codL 224) 691 = some (.iconst 1, 1, 0, 0, 0) := by decide +kernel
theorem k224_692 : look (codL 224) 692 = some (.iadd, 1, 0, 0, 0) := by decide +kernel
theorem k224_693 : look (codL 224) 693 = some (.iaload, 1, 0, 0, 0) := by decide +kernel
theorem k224_694 : look (codL 224) 694 = some (.aload_n 0, 1, 0, 0, 0) := by decide +kernel
theorem k224_695 : look (codL 224) 695 = some (.iload_n 3, 1, 0, 0, 0) := by decide +kernel
theorem k224_696 : look (codL 224) 696 = some (.iconst 2, 1, 0, 0, 0) := by decide +kernel
theorem k224_697 : look (codL 224) 697 = some (.iadd, 1, 0, 0, 0) := by decide +kernel
theorem k224_698 : look (codL 224) 698 = some (.iaload, 1, 0, 0, 0) := by decide +kernel
theorem k224_699 : look (codL 224) 699 = some (.invokevirtual 92, 3, 190, 3, 0) := by decide +kernel
theorem k224_702 : look (codL 224) 702 = some (.if_icmp .eq 254, 3, 0, 0, 0) := by decide +kernel
theorem k224_705 : look (codL 224) 705 = some (.iconst 0, 1, 0, 0, 0) := by decide +kernel
theorem k224_706 : look (codL 224) 706 = some (.ireturn, 1, 0, 0, 0) := by decide +kernel
theorem k224_707 : look (codL 224) 707 = some (.aload_n 1, 1, 0, 0, 0) := by decide +kernel
theorem k224_708 : look (codL 224) 708 = some (.aload_n 0, 1, 0, 0, 0) := by decide +kernel
theorem k224_709 : look (codL 224) 709 = some (.iload_n 3, 1, 0, 0, 0) := by decide +kernel
theorem k224_710 : look (codL 224) 710 = some (.iconst 1, 1, 0, 0, 0) := by decide +kernel
theorem k224_711 : look (codL 224) 711 = some (.iadd, 1, 0, 0, 0) := by decide +kernel
theorem k224_712 : look (codL 224) 712 = some (.iaload, 1, 0, 0, 0) := by decide +kernel
theorem k224_713 : look (codL 224) 713 = some (.aload_n 0, 1, 0, 0, 0) := by decide +kernel
theorem k224_714 : look (codL 224) 714 = some (.iload_n 3, 1, 0, 0, 0) := by decide +kernel
theorem k224_715 : look (codL 224) 715 = some (.iconst 2, 1, 0, 0, 0) := by decide +kernel
theorem k224_716 : look (codL 224) 716 = some (.iadd, 1, 0, 0, 0) := by decide +kernel
theorem k224_717 : look (codL 224) 717 = some (.iaload, 1, 0, 0, 0) := by decide +kernel
theorem k224_718 : look (codL 224) 718 = some (.invokevirtual 93, 3, 115, 3, 0) := by decide +kernel
theorem k224_721 : look (codL 224) 721 = some (.aload_n 2, 1, 0, 0, 0) := by decide +kernel
theorem k224_722 : look (codL 224) 722 = some (.aload_n 0, 1, 0, 0, 0) := by decide +kernel
theorem k224_723 : look (codL 224) 723 = some (.iload_n 3, 1, 0, 0, 0) := by decide +kernel
theorem k224_724 : look (codL 224) 724 = some (.iconst 1, 1, 0, 0, 0) := by decide +kernel
theorem k224_725 : look (codL 224) 725 = some (.iadd, 1, 0, 0, 0) := by decide +kernel
theorem k224_726 : look (codL 224) 726 = some (.iaload, 1, 0, 0, 0) := by decide +kernel
theorem k224_727 : look (codL 224) 727 = some (.aload_n 0, 1, 0, 0, 0) := by decide +kernel
theorem k224_728 : look (codL 224) 728 = some (.iload_n 3, 1, 0, 0, 0) := by decide +kernel
theorem k224_729 : look (codL 224) 729 = some (.iconst 2, 1, 0, 0, 0) := by decide +kernel
theorem k224_730 : look (codL 224) 730 = some (.iadd, 1, 0, 0, 0) := by decide +kernel
theorem k224_731 : look (codL 224) 731 = some (.iaload, 1, 0, 0, 0) := by decide +kernel
theorem k224_732 : look (codL 224) 732 = some (.invokevirtual 96, 3, 191, 3, 0) := by decide +kernel
theorem k224_735 : look (codL 224) 735 = some (.if_icmp .eq 221, 3, 0, 0, 0) := by decide +kernel
theorem k224_738 : look (codL 224) 738 = some (.iconst 0, 1, 0, 0, 0) := by decide +kernel
theorem k224_739 : look (codL 224) 739 = some (.ireturn, 1, 0, 0, 0) := by decide +kernel
theorem k224_740 : look (codL 224) 740 = some (.aload_n 1, 1, 0, 0, 0) := by decide +kernel
theorem k224_741 : look (codL 224) 741 = some (.aload_n 0, 1, 0, 0, 0) := by decide +kernel
theorem k224_742 : look (codL 224) 742 = some (.iload_n 3, 1, 0, 0, 0) := by decide +kernel
theorem k224_743 : look (codL 224) 743 = some (.iconst 1, 1, 0, 0, 0) := by decide +kernel
theorem k224_744 : look (codL 224) 744 = some (.iadd, 1, 0, 0, 0) := by decide +kernel
theorem k224_745 : look (codL 224) 745 = some (.iaload, 1, 0, 0, 0) := by decide +kernel
theorem k224_746 : look (codL 224) 746 = some (.invokevirtual 97, 3, 117, 2, 0) := by decide +kernel
theorem k224_749 : look (codL 224) 749 = some (.aload_n 2, 1, 0, 0, 0) := by decide +kernel
theorem k224_750 : look (codL 224) 750 = some (.aload_n 0, 1, 0, 0, 0) := by decide +kernel
theorem k224_751 : look (codL 224) 751 = some (.iload_n 3, 1, 0, 0, 0) := by decide +kernel
theorem k224_752 : look (codL 224) 752 = some (.iconst 1, 1, 0, 0, 0) := by decide +kernel
theorem k224_753 : look (codL 224) 753 = some (.iadd, 1, 0, 0, 0) := by decide +kernel
theorem k224_754 : look (codL 224) 754 = some (.iaload, 1, 0, 0, 0) := by decide +kernel
theorem k224_755 : look (codL 224) 755 = some (.invokevirtual 100, 3, 194, 2, 0) := by decide +kernel
theorem k224_758 : look (codL 224) 758 = some (.if_icmp .eq 198, 3, 0, 0, 0) := by decide +kernel
theorem k224_761 : look (codL 224) 761 = some (.iconst 0, 1, 0, 0, 0) := by decide +kernel
theorem k224_762 : look (codL 224) 762 = some (.ireturn, 1, 0, 0, 0) := by decide +kernel
theorem k224_763 : look (codL 224) 763 = some (.aload_n 1, 1, 0, 0, 0) := by decide +kernel
theorem k224_764 : look (codL 224) 764 = some (.aload_n 0, 1, 0, 0, 0) := by decide +kernel
theorem k224_765 : look (codL 224) 765 = some (.iload_n 3, 1, 0, 0, 0) := by decide +kernel
theorem k224_766 : look (codL 224) 766 = some (.iconst 1, 1, 0, 0, 0) := by decide +kernel
theorem k224_767 : look (codL 224) 767 = some (.iadd, 1, 0, 0, 0) := by decide +kernel
theorem k224_768 : look (codL 224) 768 = some (.iaload, 1, 0, 0, 0) := by decide +kernel
theorem k224_769 : look (codL 224) 769 = some (.aload_n 0, 1, 0, 0, 0) := by decide +kernel
theorem k224_770 : look (codL 224) 770 = some (.iload_n 3, 1, 0, 0, 0) := by decide +kernel
theorem k224_771 : look (codL 224) 771 = some (.iconst 2, 1, 0, 0, 0) := by decide +kernel
theorem k224_772 : look (codL 224) 772 = some (.iadd, 1, 0, 0, 0) := by decide +kernel
theorem k224_773 : look (codL 224) 773 = some (.iaload, 1, 0, 0, 0) := by decide +kernel
theorem k224_774 : look (codL 224) 774 = some (.aload_n 0, 1, 0, 0, 0) := by decide +kernel
theorem k224_775 : look (codL 224) 775 = some (.iload_n 3, 1, 0, 0, 0) := by decide +kernel
theorem k224_776 : look (codL 224) 776 = some (.iconst 3, 1, 0, 0, 0) := by decide +kernel
theorem k224_777 : look (codL 224) 777 = some (.iadd, 1, 0, 0, 0) := by decide +kernel
theorem k224_778 : look (codL 224) 778 = some (.iaload, 1, 0, 0, 0) := by decide +kernel
theorem k224_779 : look (codL 224) 779 = some (.invokevirtual 101, 3, 118, 4, 0) := by decide +kernel
theorem k224_782 : look (codL 224) 782 = some (.aload_n 2, 1, 0, 0, 0) := by decide +kernel
theorem k224_783 : look (codL 224) 783 = some (.aload_n 0, 1, 0, 0, 0) := by decide +kernel
theorem k224_784 : look (codL 224) 784 = some (.iload_n 3, 1, 0, 0, 0) := by decide +kernel
theorem k224_785 : look (codL 224) 785 = some (.iconst 1, 1, 0, 0, 0) := by decide +kernel
theorem k224_786 : look (codL 224) 786 = some (.iadd, 1, 0, 0, 0) := by decide +kernel
theorem k224_787 : look (codL 224) 787 = some (.iaload, 1, 0, 0, 0) := by decide +kernel
theorem k224_788 : look (codL 224) 788 = some (.aload_n 0, 1, 0, 0, 0) := by decide +kernel
theorem k224_789 : look (codL 224) 789 = some (.iload_n 3, 1, 0, 0, 0) := by decide +kernel
theorem k224_790 : look (codL 224) 790 = some (.iconst 2, 1, 0, 0, 0) := by decide +kernel
theorem k224_791 : look (codL 224) 791 = some (.iadd, 1, 0, 0, 0) := by decide +kernel
theorem k224_792 : look (codL 224) 792 = some (.iaload, 1, 0, 0, 0) := by decide +kernel
theorem k224_793 : look (codL 224) 793 = some (.aload_n 0, 1, 0, 0, 0) := by decide +kernel
theorem k224_794 : look (codL 224) 794 = some (.iload_n 3, 1, 0, 0, 0) := by decide +kernel
theorem k224_795 : look (codL 224) 795 = some (.iconst 3, 1, 0, 0, 0) := by decide +kernel
theorem k224_796 : look (codL 224) 796 = some (.iadd, 1, 0, 0, 0) := by decide +kernel
theorem k224_797 : look (codL 224) 797 = some (.iaload, 1, 0, 0, 0) := by decide +kernel
theorem k224_798 : look (codL 224) 798 = some (.invokevirtual 105, 3, 200, 4, 0) := by decide +kernel
theorem k224_801 : look (codL 224) 801 = some (.lcmp, 1, 0, 0, 0) := by decide +kernel
theorem k224_802 : look (codL 224) 802 = some (.ifCond .eq 154, 3, 0, 0, 0) := by decide +kernel
theorem k224_805 : look (codL 224) 805 = some (.iconst 0, 1, 0, 0, 0) := by decide +kernel
theorem k224_806 : look (codL 224) 806 = some (.ireturn, 1, 0, 0, 0) := by decide +kernel
theorem k224_807 : look (codL 224) 807 = some (.aload_n 1, 1, 0, 0, 0) := by decide +kernel
theorem k224_808 : look (codL 224) 808 = some (.aload_n 0, 1, 0, 0, 0) := by decide +kernel
theorem k224_809 : look (codL 224) 809 = some (.iload_n 3, 1, 0, 0, 0) := by decide +kernel
theorem k224_810 : look (codL 224) 810 = some (.iconst 1, 1, 0, 0, 0) := by decide +kernel
theorem k224_811 : look (codL 224) 811 = some (.iadd, 1, 0, 0, 0) := by decide +kernel
theorem k224_812 : look (codL 224) 812 = some (.iaload, 1, 0, 0, 0) := by decide +kernel
theorem k224_813 : look (codL 224) 813 = some (.invokevirtual 106, 3, 120, 2, 0) := by decide +kernel
theorem k224_816 : look (codL 224) 816 = some (.aload_n 2, 1, 0, 0, 0) := by decide +kernel
theorem k224_817 : look (codL 224) 817 = some (.aload_n 0, 1, 0, 0, 0) := by decide +kernel
theorem k224_818 : look (codL 224) 818 = some (.iload_n 3, 1, 0, 0, 0) := by decide +kernel
theorem k224_819 : look (codL 224) 819 = some (.iconst 1, 1, 0, 0, 0) := by decide +kernel
theorem k224_820 : look (codL 224) 820 = some (.iadd, 1, 0, 0, 0) := by decide +kernel
theorem k224_821 : look (codL 224) 821 = some (.iaload, 1, 0, 0, 0) := by decide +kernel
theorem k224_822 : look (codL 224) 822 = some (.invokevirtual 109, 3, 201, 2, 0) := by decide +kernel
theorem k224_825 : look (codL 224) 825 = some (.if_icmp .eq 131, 3, 0, 0, 0) := by decide +kernel
theorem k224_828 : look (codL 224) 828 = some (.iconst 0, 1, 0, 0, 0) := by decide +kernel
theorem k224_829 : look (codL 224) 829 = some (.ireturn, 1, 0, 0, 0) := by decide +kernel
theorem k224_830 : look (codL 224) 830 = some (.aload_n 1, 1, 0, 0, 0) := by decide +kernel
theorem k224_831 : look (codL 224) 831 = some (.invokevirtual 110, 3, 122, 1, 0) := by decide +kernel
theorem k224_834 : look (codL 224) 834 = some (.aload_n 2, 1, 0, 0, 0) := by decide +kernel
theorem k224_835 : look (codL 224) 835 = some (.invokevirtual 113, 3, 202, 1, 0) := by decide +kernel
theorem k224_838 : look (codL 224) 838 = some (.if_icmp .eq 118, 3, 0, 0, 0) := by decide +kernel
theorem k224_841 : look (codL 224) 841 = some (.iconst 0, 1, 0, 0, 0) := by decide +kernel
theorem k224_842 : look (codL 224) 842 = some (.ireturn, 1, 0, 0, 0) := by decide +kernel
theorem k224_843 : look (codL 224) 843 = some (.aload_n 1, 1, 0, 0, 0) := by decide +kernel
theorem k224_844 : look (codL 224) 844 = some (.aload_n 0, 1, 0, 0, 0) := by decide +kernel
theorem k224_845 : look (codL 224) 845 = some (.iload_n 3, 1, 0, 0, 0) := by decide +kernel
theorem k224_846 : look (codL 224) 846 = some (.iconst 1, 1, 0, 0, 0) := by decide +kernel
theorem k224_847 : look (codL 224) 847 = some (.iadd, 1, 0, 0, 0) := by decide +kernel
theorem k224_848 : look (codL 224) 848 = some (.iaload, 1, 0, 0, 0) := by decide +kernel
theorem k224_849 : look (codL 224) 849 = some (.aload_n 0, 1, 0, 0, 0) := by decide +kernel
theorem k224_850 : look (codL 224) 850 = some (.iload_n 3, 1, 0, 0, 0) := by decide +kernel
theorem k224_851 : look (codL 224) 851 = some (.iconst 2, 1, 0, 0, 0) := by decide +kernel
theorem k224_852 : look (codL 224) 852 = some (.iadd, 1, 0, 0, 0) := by decide +kernel
theorem k224_853 : look (codL 224) 853 = some (.iaload, 1, 0, 0, 0) := by decide +kernel
theorem k224_854 : look (codL 224) 854 = some (.invokevirtual 114, 3, 125, 3, 0) := by decide +kernel
theorem k224_857 : look (codL 224) 857 = some (.aload_n 2, 1, 0, 0, 0) := by decide +kernel
theorem k224_858 : look (codL 224) 858 = some (.aload_n 0, 1, 0, 0, 0) := by decide +kernel
theorem k224_859 : look (codL 224) 859 = some (.iload_n 3, 1, 0, 0, 0) := by decide +kernel
theorem k224_860 : look (codL 224) 860 = some (.iconst 1, 1, 0, 0, 0) := by decide +kernel
theorem k224_861 : look (codL 224) 861 = some (.iadd, 1, 0, 0, 0) := by decide +kernel
theorem k224_862 : look (codL 224) 862 = some (.iaload, 1, 0, 0, 0) := by decide +kernel
theorem k224_863 : look (codL 224) 863 = some (.aload_n 0, 1, 0, 0, 0) := by decide +kernel
theorem k224_864 : look (codL 224) 864 = some (.iload_n 3, 1, 0, 0, 0) := by decide +kernel
theorem k224_865 : look (codL 224) 865 = some (.iconst 2, 1, 0, 0, 0) := by decide +kernel
theorem k224_866 : look (codL 224) 866 = some (.iadd, 1, 0, 0, 0) := by decide +kernel
theorem k224_867 : look (codL 224) 867 = some (.iaload, 1, 0, 0, 0) := by decide +kernel
theorem k224_868 : look (codL 224) 868 = some (.invokevirtual 117, 3, 203, 3, 0) := by decide +kernel
theorem k224_871 : look (codL 224) 871 = some (.if_icmp .eq 85, 3, 0, 0, 0) := by decide +kernel
theorem k224_874 : look (codL 224) 874 = some (.iconst 0, 1, 0, 0, 0) := by decide +kernel
theorem k224_875 : look (codL 224) 875 = some (.ireturn, 1, 0, 0, 0) := by decide +kernel
theorem k224_876 : look (codL 224) 876 = some (.aload_n 1, 1, 0, 0, 0) := by decide +kernel
theorem k224_877 : look (codL 224) 877 = some (.aload_n 0, 1, 0, 0, 0) := by decide +kernel
theorem k224_878 : look (codL 224) 878 = some (.iload_n 3, 1, 0, 0, 0) := by decide +kernel
theorem k224_879 : look (codL 224) 879 = some (.iconst 1, 1, 0, 0, 0) := by decide +kernel
theorem k224_880 : look (codL 224) 880 = some (.iadd, 1, 0, 0, 0) := by decide +kernel
theorem k224_881 : look (codL 224) 881 = some (.iaload, 1, 0, 0, 0) := by decide +kernel
theorem k224_882 : look (codL 224) 882 = some (.aload_n 0, 1, 0, 0, 0) := by decide +kernel
theorem k224_883 : look (codL 224) 883 = some (.iload_n 3, 1, 0, 0, 0) := by decide +kernel
theorem k224_884 : look (codL 224) 884 = some (.iconst 2, 1, 0, 0, 0) := by decide +kernel
theorem k224_885 : look (codL 224) 885 = some (.iadd, 1, 0, 0, 0) := by decide +kernel
theorem k224_886 : look (codL 224) 886 = some (.iaload, 1, 0, 0, 0) := by decide +kernel
theorem k224_887 : look (codL 224) 887 = some (.aload_n 0, 1, 0, 0, 0) := by decide +kernel
theorem k224_888 : look (codL 224) 888 = some (.iload_n 3, 1, 0, 0, 0) := by decide +kernel
theorem k224_889 : look (codL 224) 889 = some (.iconst 3, 1, 0, 0, 0) := by decide +kernel
theorem k224_890 : look (codL 224) 890 = some (.iadd, 1, 0, 0, 0) := by decide +kernel
theorem k224_891 : look (codL 224) 891 = some (.iaload, 1, 0, 0, 0) := by decide +kernel
theorem k224_892 : look (codL 224) 892 = some (.invokevirtual 118, 3, 128, 4, 0) := by decide +kernel
theorem k224_895 : look (codL 224) 895 = some (.aload_n 2, 1, 0, 0, 0) := by decide +kernel
theorem k224_896 : look (codL 224) 896 = some (.aload_n 0, 1, 0, 0, 0) := by decide +kernel
theorem k224_897 : look (codL 224) 897 = some (.iload_n 3, 1, 0, 0, 0) := by decide +kernel
theorem k224_898 : look (codL 224) 898 = some (.iconst 1, 1, 0, 0, 0) := by decide +kernel
theorem k224_899 : look (codL 224) 899 = some (.iadd, 1, 0, 0, 0) := by decide +kernel
theorem k224_900 : look (codL 224) 900 = some (.iaload, 1, 0, 0, 0) := by decide +kernel
theorem k224_901 : look (codL 224) 901 = some (.aload_n 0, 1, 0, 0, 0) := by decide +kernel
theorem k224_902 : look (codL 224) 902 = some (.iload_n 3, 1, 0, 0, 0) := by decide +kernel
theorem k224_903 : look (codL 224) 903 = some (.iconst 2, 1, 0, 0, 0) := by decide +kernel
theorem k224_904 : look (codL 224) 904 = some (.iadd, 1, 0, 0, 0) := by decide +kernel
theorem k224_905 : look (codL 224) 905 = some (.iaload, 1, 0, 0, 0) := by decide +kernel
theorem k224_906 : look (codL 224) 906 = some (.aload_n 0, 1, 0, 0, 0) := by decide +kernel
theorem k224_907 : look (codL 224) 907 = some (.iload_n 3, 1, 0, 0, 0) := by decide +kernel
theorem k224_908 : look (codL 224) 908 = some (.iconst 3, 1, 0, 0, 0) := by decide +kernel
theorem k224_909 : look (codL 224) 909 = some (.iadd, 1, 0, 0, 0) := by decide +kernel
theorem k224_910 : look (codL 224) 910 = some (.iaload, 1, 0, 0, 0) := by decide +kernel
theorem k224_911 : look (codL 224) 911 = some (.invokevirtual 121, 3, 204, 4, 0) := by decide +kernel
theorem k224_914 : look (codL 224) 914 = some (.if_icmp .eq 42, 3, 0, 0, 0) := by decide +kernel
theorem k224_917 : look (codL 224) 917 = some (.iconst 0, 1, 0, 0, 0) := by decide +kernel
theorem k224_918 : look (codL 224) 918 = some (.ireturn, 1, 0, 0, 0) := by decide +kernel
theorem k224_919 : look (codL 224) 919 = some (.aload_n 1, 1, 0, 0, 0) := by decide +kernel
theorem k224_920 : look (codL 224) 920 = some (.aload_n 0, 1, 0, 0, 0) := by decide +kernel
theorem k224_921 : look (codL 224) 921 = some (.iload_n 3, 1, 0, 0, 0) := by decide +kernel
theorem k224_922 : look (codL 224) 922 = some (.iconst 1, 1, 0, 0, 0) := by decide +kernel
theorem k224_923 : look (codL 224) 923 = some (.iadd, 1, 0, 0, 0) := by decide +kernel
theorem k224_924 : look (codL 224) 924 = some (.iaload, 1, 0, 0, 0) := by decide +kernel
theorem k224_925 : look (codL 224) 925 = some (.invokevirtual 122, 3, 130, 2, 0) := by decide +kernel
theorem k224_928 : look (codL 224) 928 = some (.aload_n 2, 1, 0, 0, 0) := by decide +kernel
theorem k224_929 : look (codL 224) 929 = some (.aload_n 0, 1, 0, 0, 0) := by decide +kernel
theorem k224_930 : look (codL 224) 930 = some (.iload_n 3, 1, 0, 0, 0) := by decide +kernel
theorem k224_931 : look (codL 224) 931 = some (.iconst 1, 1, 0, 0, 0) := by decide +kernel
theorem k224_932 : look (codL 224) 932 = some (.iadd, 1, 0, 0, 0) := by decide +kernel
theorem k224_933 : look (codL 224) 933 = some (.iaload, 1, 0, 0, 0) := by decide +kernel
theorem k224_934 : look (codL 224) 934 = some (.invokevirtual 125, 3, 206, 2, 0) := by decide +kernel
theorem k224_937 : look (codL 224) 937 = some (.if_icmp .eq 19, 3, 0, 0, 0) := by decide +kernel
theorem k224_940 : look (codL 224) 940 = some (.iconst 0, 1, 0, 0, 0) := by decide +kernel
theorem k224_941 : look (codL 224) 941 = some (.ireturn, 1, 0, 0, 0) := by decide +kernel
theorem k224_942 : look (codL 224) 942 = some (.aload_n 1, 1, 0, 0, 0) := by decide +kernel
theorem k224_943 : look (codL 224) 943 = some (.invokevirtual 126, 3, 131, 1, 0) := by decide +kernel
theorem k224_946 : look (codL 224) 946 = some (.aload_n 2, 1, 0, 0, 0) := by decide +kernel
theorem k224_947 : look (codL 224) 947 = some (.invokevirtual 130, 3, 207, 1, 0) := by decide +kernel
theorem k224_950 : look (codL 224) 950 = some (.lcmp, 1, 0, 0, 0) := by decide +kernel
theorem k224_951 : look (codL 224) 951 = some (.ifCond .eq 5, 3, 0, 0, 0) := by decide +kernel
theorem k224_954 : look (codL 224) 954 = some (.iconst 0, 1, 0, 0, 0) := by decide +kernel
theorem k224_955 : look (codL 224) 955 = some (.ireturn, 1, 0, 0, 0) := by decide +kernel
theorem k224_956 : look (codL 224) 956 = some (.iinc 3 4, 3, 0, 0, 0) := by decide +kernel
theorem k224_959 : look (codL 224) 959 = some (.goto (-941), 3, 0, 0, 0) := by decide +kernel
theorem k224_962 : look (codL 224) 962 = some (.iconst 1, 1, 0, 0, 0) := by decide +kernel
theorem k224_963 : look (codL 224) 963 = some (.ireturn, 1, 0, 0, 0) := by decide +kernel
