theorem k1_0 : look (codL 1) 0 = some (.iload_n 0, 1, 0, 0, 0) := by decide +kernel
theorem k1_1 : look (codL 1) 1 = some (.bipush 10, 2, 0, 0, 0) := by decide +kernel
theorem k1_3 : look (codL 1) 3 = some (.idiv, 1, 0, 0, 0) := by decide +kernel
theorem k1_4 : look (codL 1) 4 = some (.ireturn, 1, 0, 0, 0) := by decide +kernel
theorem k2_0 : look (codL 2) 0 = some (.iload_n 0, 1, 0, 0, 0) := by decide +kernel
theorem k2_1 : look (codL 2) 1 = some (.bipush 10, 2, 0, 0, 0) := by decide +kernel
theorem k2_3 : look (codL 2) 3 = some (.irem, 1, 0, 0, 0) := by decide +kernel
theorem k2_4 : look (codL 2) 4 = some (.ireturn, 1, 0, 0, 0) := by decide +kernel
theorem k3_0 : look (codL 3) 0 = some (.iload_n 0, 1, 0, 0, 0) := by decide +kernel
theorem k3_1 : look (codL 3) 1 = some (.invokestatic 19, 3, 1, 1, 0) := by decide +kernel
theorem k3_4 : look (codL 3) 4 = some (.iload_n 1, 1, 0, 0, 0) := by decide +kernel
theorem k3_5 : look (codL 3) 5 = some (.invokestatic 19, 3, 1, 1, 0) := by decide +kernel
theorem k3_8 : look (codL 3) 8 = some (.iload_n 1, 1, 0, 0, 0) := by decide +kernel
theorem k3_9 : look (codL 3) 9 = some (.invokestatic 9, 3, 2, 1, 0) := by decide +kernel
theorem k3_12 : look (codL 3) 12 = some (.iadd, 1, 0, 0, 0) := by decide +kernel
theorem k3_13 : look (codL 3) 13 = some (.if_icmp .ge 23, 3, 0, 0, 0) := by decide +kernel
theorem k3_16 : look (codL 3) 16 = some (.iload_n 1, 1, 0, 0, 0) := by decide +kernel
theorem k3_17 : look (codL 3) 17 = some (.invokestatic 19, 3, 1, 1, 0) := by decide +kernel
theorem k3_20 : look (codL 3) 20 = some (.iload_n 0, 1, 0, 0, 0) := by decide +kernel
theorem k3_21 : look (codL 3) 21 = some (.invokestatic 19, 3, 1, 1, 0) := by decide +kernel
theorem k3_24 : look (codL 3) 24 = some (.iload_n 0, 1, 0, 0, 0) := by decide +kernel
theorem k3_25 : look (codL 3) 25 = some (.invokestatic 9, 3, 2, 1, 0) := by decide +kernel
theorem k3_28 : look (codL 3) 28 = some (.iadd, 1, 0, 0, 0) := by decide +kernel
theorem k3_29 : look (codL 3) 29 = some (.if_icmp .ge 7, 3, 0, 0, 0) := by decide +kernel
theorem k3_32 : look (codL 3) 32 = some (.iconst 1, 1, 0, 0, 0) := by decide +kernel
theorem k3_33 : look (codL 3) 33 = some (.goto 4, 3, 0, 0, 0) := by decide +kernel
theorem k3_36 : look (codL 3) 36 = some (.iconst 0, 1, 0, 0, 0) := by decide +kernel
theorem k3_37 : look (codL 3) 37 = some (.ireturn, 1, 0, 0, 0) := by decide +kernel
theorem k4_0 : look (codL 4) 0 = some (.iconst 0, 1, 0, 0, 0) := by decide +kernel
theorem k4_1 : look (codL 4) 1 = some (.istore_n 2, 1, 0, 0, 0) := by decide +kernel
theorem k4_2 : look (codL 4) 2 = some (.iload_n 2, 1, 0, 0, 0) := by decide +kernel
theorem k4_3 : look (codL 4) 3 = some (.aload_n 0, 1, 0, 0, 0) := by decide +kernel
theorem k4_4 : look (codL 4) 4 = some (.getfield 15, 3, 0, 1, 0) := by decide +kernel
theorem k4_7 : look (codL 4) 7 = some (.if_icmp .ge 24, 3, 0, 0, 0) := by decide +kernel
theorem k4_10 : look (codL 4) 10 = some (.aload_n 0, 1, 0, 0, 0) := by decide +kernel
theorem k4_11 : look (codL 4) 11 = some (.getfield 9, 3, 0, 0, 0) := by decide +kernel
theorem k4_14 : look (codL 4) 14 = some (.iload_n 2, 1, 0, 0, 0) := by decide +kernel
theorem k4_15 : look (codL 4) 15 = some (.iaload, 1, 0, 0, 0) := by decide +kernel
theorem k4_16 : look (codL 4) 16 = some (.iload_n 1, 1, 0, 0, 0) := by decide +kernel
theorem k4_17 : look (codL 4) 17 = some (.invokestatic 19, 3, 3, 2, 0) := by decide +kernel
theorem k4_20 : look (codL 4) 20 = some (.ifCond .eq 5, 3, 0, 0, 0) := by decide +kernel
theorem k4_23 : look (codL 4) 23 = some (.iconst 0, 1, 0, 0, 0) := by decide +kernel
theorem k4_24 : look (codL 4) 24 = some (.ireturn, 1, 0, 0, 0) := by decide +kernel
theorem k4_25 : look (codL 4) 25 = some (.iinc 2 1, 3, 0, 0, 0) := by decide +kernel
theorem k4_28 : look (codL 4) 28 = some (.goto (-26), 3, 0, 0, 0) := by decide +kernel
theorem k4_31 : look (codL 4) 31 = some (.iconst 1, 1, 0, 0, 0) := by decide +kernel
theorem k4_32 : look (codL 4) 32 = some (.ireturn, 1, 0, 0, 0) := by decide +kernel
theorem k5_0 : look (codL 5) 0 = some (.ldc2_w 25, 3, 0, 0, 31) := by decide +kernel
theorem k5_3 : look (codL 5) 3 = some (.lload_n 1, 1, 0, 0, 0) := by decide +kernel
theorem k5_4 : look (codL 5) 4 = some (.lmul, 1, 0, 0, 0) := by decide +kernel
theorem k5_5 : look (codL 5) 5 = some (.aload_n 0, 1, 0, 0, 0) := by decide +kernel
theorem k5_6 : look (codL 5) 6 = some (.getfield 15, 3, 0, 1, 0) := by decide +kernel
theorem k5_9 : look (codL 5) 9 = some (.i2l, 1, 0, 0, 0) := by decide +kernel
theorem k5_10 : look (codL 5) 10 = some (.ladd, 1, 0, 0, 0) := by decide +kernel
theorem k5_11 : look (codL 5) 11 = some (.lstore_n 3, 1, 0, 0, 0) := by decide +kernel
theorem k5_12 : look (codL 5) 12 = some (.iconst 0, 1, 0, 0, 0) := by decide +kernel
theorem k5_13 : look (codL 5) 13 = some (.istore 5, 2, 0, 0, 0) := by decide +kernel
theorem k5_15 : look (codL 5) 15 = some (.iload 5, 2, 0, 0, 0) := by decide +kernel
theorem k5_17 : look (codL 5) 17 = some (.aload_n 0, 1, 0, 0, 0) := by decide +kernel
theorem k5_18 : look (codL 5) 18 = some (.getfield 15, 3, 0, 1, 0) := by decide +kernel
theorem k5_21 : look (codL 5) 21 = some (.if_icmp .ge 24, 3, 0, 0, 0) := by decide +kernel
theorem k5_24 : look (codL 5) 24 = some (.ldc2_w 25, 3, 0, 0, 31) := by decide +kernel
theorem k5_27 : look (codL 5) 27 = some (.lload_n 3, 1, 0, 0, 0) := by decide +kernel
theorem k5_28 : look (codL 5) 28 = some (.lmul, 1, 0, 0, 0) := by decide +kernel
theorem k5_29 : look (codL 5) 29 = some (.aload_n 0, 1, 0, 0, 0) := by decide +kernel
theorem k5_30 : look (codL 5) 30 = some (.getfield 9, 3, 0, 0, 0) := by decide +kernel
theorem k5_33 : look (codL 5) 33 = some (.iload 5, 2, 0, 0, 0) := by decide +kernel
theorem k5_35 : look (codL 5) 35 = some (.iaload, 1, 0, 0, 0) := by decide +kernel
theorem k5_36 : look (codL 5) 36 = some (.i2l, 1, 0, 0, 0) := by decide +kernel
theorem k5_37 : look (codL 5) 37 = some (.ladd, 1, 0, 0, 0) := by decide +kernel
theorem k5_38 : look (codL 5) 38 = some (.lstore_n 3, 1, 0, 0, 0) := by decide +kernel
theorem k5_39 : look (codL 5) 39 = some (.iinc 5 1, 3, 0, 0, 0) := by decide +kernel
theorem k5_42 : look (codL 5) 42 = some (.goto (-27), 3, 0, 0, 0) := by decide +kernel
theorem k5_45 : look (codL 5) 45 = some (.lload_n 3, 1, 0, 0, 0) := by decide +kernel
theorem k5_46 : look (codL 5) 46 = some (.lreturn, 1, 0, 0, 0) := by decide +kernel
theorem k7_0 : look (codL 7) 0 = some (.aload_n 0, 1, 0, 0, 0) := by decide +kernel
theorem k7_1 : look (codL 7) 1 = some (.iload_n 1, 1, 0, 0, 0) := by decide +kernel
theorem k7_2 : look (codL 7) 2 = some (.i2l, 1, 0, 0, 0) := by decide +kernel
theorem k7_3 : look (codL 7) 3 = some (.putfield 7, 3, 1, 0, 0) := by decide +kernel
theorem k7_6 : look (codL 7) 6 = some (.return_, 1, 0, 0, 0) := by decide +kernel
theorem k8_0 : look (codL 8) 0 = some (.aload_n 0, 1, 0, 0, 0) := by decide +kernel
theorem k8_1 : look (codL 8) 1 = some (.aload_n 0, 1, 0, 0, 0) := by decide +kernel
theorem k8_2 : look (codL 8) 2 = some (.getfield 7, 3, 1, 0, 0) := by decide +kernel
theorem k8_5 : look (codL 8) 5 = some (.ldc2_w 13, 3, 0, 0, 1103515245) := by decide +kernel
theorem k8_8 : look (codL 8) 8 = some (.lmul, 1, 0, 0, 0) := by decide +kernel
theorem k8_9 : look (codL 8) 9 = some (.ldc2_w 15, 3, 0, 0, 12345) := by decide +kernel
theorem k8_12 : look (codL 8) 12 = some (.ladd, 1, 0, 0, 0) := by decide +kernel
theorem k8_13 : look (codL 8) 13 = some (.ldc2_w 17, 3, 0, 0, 2147483648) := by decide +kernel
theorem k8_16 : look (codL 8) 16 = some (.lrem, 1, 0, 0, 0) := by decide +kernel
theorem k8_17 : look (codL 8) 17 = some (.putfield 7, 3, 1, 0, 0) := by decide +kernel
theorem k8_20 : look (codL 8) 20 = some (.iload_n 1, 1, 0, 0, 0) := by decide +kernel
theorem k8_21 : look (codL 8) 21 = some (.ifCond .le 18, 3, 0, 0, 0) := by decide +kernel
theorem k8_24 : look (codL 8) 24 = some (.aload_n 0, 1, 0, 0, 0) := by decide +kernel
theorem k8_25 : look (codL 8) 25 = some (.getfield 7, 3, 1, 0, 0) := by decide +kernel
theorem k8_28 : look (codL 8) 28 = some (.ldc2_w 19, 3, 0, 0, 65536) := by decide +kernel
theorem k8_31 : look (codL 8) 31 = some (.ldiv, 1, 0, 0, 0) := by decide +kernel
theorem k8_32 : look (codL 8) 32 = some (.iload_n 1, 1, 0, 0, 0) := by decide +kernel
theorem k8_33 : look (codL 8) 33 = some (.i2l, 1, 0, 0, 0) := by decide +kernel
theorem k8_34 : look (codL 8) 34 = some (.lrem, 1, 0, 0, 0) := by decide +kernel
theorem k8_35 : look (codL 8) 35 = some (.l2i, 1, 0, 0, 0) := by decide +kernel
theorem k8_36 : look (codL 8) 36 = some (.goto 4, 3, 0, 0, 0) := by decide +kernel
theorem k8_39 : look (codL 8) 39 = some (.iconst 0, 1, 0, 0, 0) := by decide +kernel
theorem k8_40 : look (codL 8) 40 = some (.ireturn, 1, 0, 0, 0) := by decide +kernel
theorem k10_0 : look (codL 10) 0 = some (.ldc2_w 15, 3, 0, 0, 31) := by decide +kernel
theorem k10_3 : look (codL 10) 3 = some (.lload_n 1, 1, 0, 0, 0) := by decide +kernel
theorem k10_4 : look (codL 10) 4 = some (.lmul, 1, 0, 0, 0) := by decide +kernel
theorem k10_5 : look (codL 10) 5 = some (.aload_n 0, 1, 0, 0, 0) := by decide +kernel
theorem k10_6 : look (codL 10) 6 = some (.getfield 17, 3, 2, 1, 0) := by decide +kernel
theorem k10_9 : look (codL 10) 9 = some (.i2l, 1, 0, 0, 0) := by decide +kernel
theorem k10_10 : look (codL 10) 10 = some (.ladd, 1, 0, 0, 0) := by decide +kernel
theorem k10_11 : look (codL 10) 11 = some (.lstore 4, 2, 0, 0, 0) := by decide +kernel
theorem k10_13 : look (codL 10) 13 = some (.ldc2_w 15, 3, 0, 0, 31) := by decide +kernel
theorem k10_16 : look (codL 10) 16 = some (.lload 4, 2, 0, 0, 0) := by decide +kernel
theorem k10_18 : look (codL 10) 18 = some (.lmul, 1, 0, 0, 0) := by decide +kernel
theorem k10_19 : look (codL 10) 19 = some (.aload_n 0, 1, 0, 0, 0) := by decide +kernel
theorem k10_20 : look (codL 10) 20 = some (.getfield 21, 3, 2, 2, 0) := by decide +kernel
theorem k10_23 : look (codL 10) 23 = some (.i2l, 1, 0, 0, 0) := by decide +kernel
theorem k10_24 : look (codL 10) 24 = some (.ladd, 1, 0, 0, 0) := by decide +kernel
theorem k10_25 : look (codL 10) 25 = some (.lstore 4, 2, 0, 0, 0) := by decide +kernel
theorem k10_27 : look (codL 10) 27 = some (.ldc2_w 15, 3, 0, 0, 31) := by decide +kernel
theorem k10_30 : look (codL 10) 30 = some (.lload 4, 2, 0, 0, 0) := by decide +kernel
theorem k10_32 : look (codL 10) 32 = some (.lmul, 1, 0, 0, 0) := by decide +kernel
theorem k10_33 : look (codL 10) 33 = some (.aload_n 0, 1, 0, 0, 0) := by decide +kernel
theorem k10_34 : look (codL 10) 34 = some (.getfield 24, 3, 2, 3, 0) := by decide +kernel
theorem k10_37 : look (codL 10) 37 = some (.i2l, 1, 0, 0, 0) := by decide +kernel
theorem k10_38 : look (codL 10) 38 = some (.ladd, 1, 0, 0, 0) := by decide +kernel
theorem k10_39 : look (codL 10) 39 = some (.lstore 4, 2, 0, 0, 0) := by decide +kernel
theorem k10_41 : look (codL 10) 41 = some (.iconst 0, 1, 0, 0, 0) := by decide +kernel
theorem k10_42 : look (codL 10) 42 = some (.istore 6, 2, 0, 0, 0) := by decide +kernel
theorem k10_44 : look (codL 10) 44 = some (.iload 6, 2, 0, 0, 0) := by decide +kernel
theorem k10_46 : look (codL 10) 46 = some (.iload_n 3, 1, 0, 0, 0) := by decide +kernel
theorem k10_47 : look (codL 10) 47 = some (.if_icmp .ge 26, 3, 0, 0, 0) := by decide +kernel
theorem k10_50 : look (codL 10) 50 = some (.ldc2_w 15, 3, 0, 0, 31) := by decide +kernel
theorem k10_53 : look (codL 10) 53 = some (.lload 4, 2, 0, 0, 0) := by decide +kernel
theorem k10_55 : look (codL 10) 55 = some (.lmul, 1, 0, 0, 0) := by decide +kernel
theorem k10_56 : look (codL 10) 56 = some (.aload_n 0, 1, 0, 0, 0) := by decide +kernel
theorem k10_57 : look (codL 10) 57 = some (.getfield 9, 3, 2, 0, 0) := by decide +kernel
theorem k10_60 : look (codL 10) 60 = some (.iload 6, 2, 0, 0, 0) := by decide +kernel
theorem k10_62 : look (codL 10) 62 = some (.iaload, 1, 0, 0, 0) := by decide +kernel
theorem k10_63 : look (codL 10) 63 = some (.i2l, 1, 0, 0, 0) := by decide +kernel
theorem k10_64 : look (codL 10) 64 = some (.ladd, 1, 0, 0, 0) := by decide +kernel
theorem k10_65 : look (codL 10) 65 = some (.lstore 4, 2, 0, 0, 0) := by decide +kernel
theorem k10_67 : look (codL 10) 67 = some (.iinc 6 1, 3, 0, 0, 0) := by decide +kernel
theorem k10_70 : look (codL 10) 70 = some (.goto (-26), 3, 0, 0, 0) := by decide +kernel
theorem k10_73 : look (codL 10) 73 = some (.lload 4, 2, 0, 0, 0) := by decide +kernel
theorem k10_75 : look (codL 10) 75 = some (.lreturn, 1, 0, 0, 0) := by decide +kernel
theorem k12_0 : look (codL 12) 0 = some (.aload_n 0, 1, 0, 0, 0) := by decide +kernel
theorem k12_1 : look (codL 12) 1 = some (.iconst 0, 1, 0, 0, 0) := by decide +kernel
theorem k12_2 : look (codL 12) 2 = some (.putfield 25, 3, 3, 2, 0) := by decide +kernel
theorem k12_5 : look (codL 12) 5 = some (.aload_n 0, 1, 0, 0, 0) := by decide +kernel
theorem k12_6 : look (codL 12) 6 = some (.iconst 0, 1, 0, 0, 0) := by decide +kernel
theorem k12_7 : look (codL 12) 7 = some (.putfield 29, 3, 3, 3, 0) := by decide +kernel
theorem k12_10 : look (codL 12) 10 = some (.return_, 1, 0, 0, 0) := by decide +kernel
theorem k13_0 : look (codL 13) 0 = some (.iload_n 0, 1, 0, 0, 0) := by decide +kernel
theorem k13_1 : look (codL 13) 1 = some (.ifCond .lt 12, 3, 0, 0, 0) := by decide +kernel
theorem k13_4 : look (codL 13) 4 = some (.iload_n 0, 1, 0, 0, 0) := by decide +kernel
theorem k13_5 : look (codL 13) 5 = some (.iload_n 1, 1, 0, 0, 0) := by decide +kernel
theorem k13_6 : look (codL 13) 6 = some (.if_icmp .ge 7, 3, 0, 0, 0) := by decide +kernel
theorem k13_9 : look (codL 13) 9 = some (.iconst 1, 1, 0, 0, 0) := by decide +kernel
theorem k13_10 : look (codL 13) 10 = some (.goto 4, 3, 0, 0, 0) := by decide +kernel
theorem k13_13 : look (codL 13) 13 = some (.iconst 0, 1, 0, 0, 0) := by decide +kernel
theorem k13_14 : look (codL 13) 14 = some (.ireturn, 1, 0, 0, 0) := by decide +kernel
theorem k14_0 : look (codL 14) 0 = some (.iload_n 1, 1, 0, 0, 0) := by decide +kernel
theorem k14_1 : look (codL 14) 1 = some (.aload_n 0, 1, 0, 0, 0) := by decide +kernel
theorem k14_2 : look (codL 14) 2 = some (.getfield 25, 3, 3, 2, 0) := by decide +kernel
theorem k14_5 : look (codL 14) 5 = some (.invokestatic 32, 3, 13, 2, 1) := by decide +kernel
theorem k14_8 : look (codL 14) 8 = some (.ireturn, 1, 0, 0, 0) := by decide +kernel
theorem k15_0 : look (codL 15) 0 = some (.iload_n 1, 1, 0, 0, 0) := by decide +kernel
theorem k15_1 : look (codL 15) 1 = some (.aload_n 0, 1, 0, 0, 0) := by decide +kernel
theorem k15_2 : look (codL 15) 2 = some (.getfield 29, 3, 3, 3, 0) := by decide +kernel
theorem k15_5 : look (codL 15) 5 = some (.invokestatic 32, 3, 13, 2, 1) := by decide +kernel
theorem k15_8 : look (codL 15) 8 = some (.ireturn, 1, 0, 0, 0) := by decide +kernel
theorem k16_0 : look (codL 16) 0 = some (.aload_n 0, 1, 0, 0, 0) := by decide +kernel
theorem k16_1 : look (codL 16) 1 = some (.getfield 11, 3, 3, 0, 0) := by decide +kernel
theorem k16_4 : look (codL 16) 4 = some (.aload_n 0, 1, 0, 0, 0) := by decide +kernel
theorem k16_5 : look (codL 16) 5 = some (.getfield 20, 3, 3, 1, 0) := by decide +kernel
theorem k16_8 : look (codL 16) 8 = some (.iload_n 1, 1, 0, 0, 0) := by decide +kernel
theorem k16_9 : look (codL 16) 9 = some (.aaload, 1, 0, 0, 0) := by decide +kernel
theorem k16_10 : look (codL 16) 10 = some (.getfield 36, 3, 2, 2, 0) := by decide +kernel
theorem k16_13 : look (codL 16) 13 = some (.aaload, 1, 0, 0, 0) := by decide +kernel
theorem k16_14 : look (codL 16) 14 = some (.areturn, 1, 0, 0, 0) := by decide +kernel
theorem k17_0 : look (codL 17) 0 = some (.aload_n 0, 1, 0, 0, 0) := by decide +kernel
theorem k17_1 : look (codL 17) 1 = some (.getfield 25, 3, 3, 2, 0) := by decide +kernel
theorem k17_4 : look (codL 17) 4 = some (.bipush 10, 2, 0, 0, 0) := by decide +kernel
theorem k17_6 : look (codL 17) 6 = some (.if_icmp .lt 7, 3, 0, 0, 0) := by decide +kernel
theorem k17_9 : look (codL 17) 9 = some (.sipush (-201), 3, 0, 0, 0) := by decide +kernel
theorem k17_12 : look (codL 17) 12 = some (.ireturn, 1, 0, 0, 0) := by decide +kernel
theorem k17_13 : look (codL 17) 13 = some (.aload_n 0, 1, 0, 0, 0) := by decide +kernel
theorem k17_14 : look (codL 17) 14 = some (.getfield 11, 3, 3, 0, 0) := by decide +kernel
theorem k17_17 : look (codL 17) 17 = some (.aload_n 0, 1, 0, 0, 0) := by decide +kernel
theorem k17_18 : look (codL 17) 18 = some (.getfield 25, 3, 3, 2, 0) := by decide +kernel
theorem k17_21 : look (codL 17) 21 = some (.aaload, 1, 0, 0, 0) := by decide +kernel
theorem k17_22 : look (codL 17) 22 = some (.iconst 0, 1, 0, 0, 0) := by decide +kernel
theorem k17_23 : look (codL 17) 23 = some (.putfield 39, 3, 0, 1, 0) := by decide +kernel
theorem k17_26 : look (codL 17) 26 = some (.aload_n 0, 1, 0, 0, 0) := by decide +kernel
theorem k17_27 : look (codL 17) 27 = some (.dup, 1, 0, 0, 0) := by decide +kernel
theorem k17_28 : look (codL 17) 28 = some (.getfield 25, 3, 3, 2, 0) := by decide +kernel
theorem k17_31 : look (codL 17) 31 = some (.iconst 1, 1, 0, 0, 0) := by decide +kernel
theorem k17_32 : look (codL 17) 32 = some (.iadd, 1, 0, 0, 0) := by decide +kernel
theorem k17_33 : look (codL 17) 33 = some (.putfield 25, 3, 3, 2, 0) := by decide +kernel
theorem k17_36 : look (codL 17) 36 = some (.aload_n 0, 1, 0, 0, 0) := by decide +kernel
theorem k17_37 : look (codL 17) 37 = some (.getfield 25, 3, 3, 2, 0) := by decide +kernel
theorem k17_40 : look (codL 17) 40 = some (.iconst 1, 1, 0, 0, 0) := by decide +kernel
theorem k17_41 : look (codL 17) 41 = some (.isub, 1, 0, 0, 0) := by decide +kernel
theorem k17_42 : look (codL 17) 42 = some (.ireturn, 1, 0, 0, 0) := by decide +kernel
theorem k18_0 : look (codL 18) 0 = some (.aload_n 0, 1, 0, 0, 0) := by decide +kernel
theorem k18_1 : look (codL 18) 1 = some (.iload_n 1, 1, 0, 0, 0) := by decide +kernel
theorem k18_2 : look (codL 18) 2 = some (.invokevirtual 42, 3, 14, 2, 0) := by decide +kernel
theorem k18_5 : look (codL 18) 5 = some (.ifCond .eq 17, 3, 0, 0, 0) := by decide +kernel
theorem k18_8 : look (codL 18) 8 = some (.aload_n 0, 1, 0, 0, 0) := by decide +kernel
theorem k18_9 : look (codL 18) 9 = some (.getfield 11, 3, 3, 0, 0) := by decide +kernel
theorem k18_12 : look (codL 18) 12 = some (.iload_n 1, 1, 0, 0, 0) := by decide +kernel
theorem k18_13 : look (codL 18) 13 = some (.aaload, 1, 0, 0, 0) := by decide +kernel
theorem k18_14 : look (codL 18) 14 = some (.getfield 39, 3, 0, 1, 0) := by decide +kernel
theorem k18_17 : look (codL 18) 17 = some (.bipush 6, 2, 0, 0, 0) := by decide +kernel
theorem k18_19 : look (codL 18) 19 = some (.if_icmp .lt 7, 3, 0, 0, 0) := by decide +kernel
theorem k18_22 : look (codL 18) 22 = some (.sipush (-201), 3, 0, 0, 0) := by decide +kernel
theorem k18_25 : look (codL 18) 25 = some (.ireturn, 1, 0, 0, 0) := by decide +kernel
theorem k18_26 : look (codL 18) 26 = some (.aload_n 0, 1, 0, 0, 0) := by decide +kernel
theorem k18_27 : look (codL 18) 27 = some (.getfield 11, 3, 3, 0, 0) := by decide +kernel
theorem k18_30 : look (codL 18) 30 = some (.iload_n 1, 1, 0, 0, 0) := by decide +kernel
theorem k18_31 : look (codL 18) 31 = some (.aaload, 1, 0, 0, 0) := by decide +kernel
theorem k18_32 : look (codL 18) 32 = some (.getfield 39, 3, 0, 1, 0) := by decide +kernel
theorem k18_35 : look (codL 18) 35 = some (.istore_n 3, 1, 0, 0, 0) := by decide +kernel
theorem k18_36 : look (codL 18) 36 = some (.aload_n 0, 1, 0, 0, 0) := by decide +kernel
theorem k18_37 : look (codL 18) 37 = some (.getfield 11, 3, 3, 0, 0) := by decide +kernel
theorem k18_40 : look (codL 18) 40 = some (.iload_n 1, 1, 0, 0, 0) := by decide +kernel
theorem k18_41 : look (codL 18) 41 = some (.aaload, 1, 0, 0, 0) := by decide +kernel
theorem k18_42 : look (codL 18) 42 = some (.getfield 46, 3, 0, 0, 0) := by decide +kernel
theorem k18_45 : look (codL 18) 45 = some (.iload_n 3, 1, 0, 0, 0) := by decide +kernel
theorem k18_46 : look (codL 18) 46 = some (.iload_n 2, 1, 0, 0, 0) := by decide +kernel
theorem k18_47 : look (codL 18) 47 = some (.iastore, 1, 0, 0, 0) := by decide +kernel
theorem k18_48 : look (codL 18) 48 = some (.aload_n 0, 1, 0, 0, 0) := by decide +kernel
theorem k18_49 : look (codL 18) 49 = some (.getfield 11, 3, 3, 0, 0) := by decide +kernel
theorem k18_52 : look (codL 18) 52 = some (.iload_n 1, 1, 0, 0, 0) := by decide +kernel
theorem k18_53 : look (codL 18) 53 = some (.aaload, 1, 0, 0, 0) := by decide +kernel
theorem k18_54 : look (codL 18) 54 = some (.dup, 1, 0, 0, 0) := by decide +kernel
theorem k18_55 : look (codL 18) 55 = some (.getfield 39, 3, 0, 1, 0) := by decide +kernel
theorem k18_58 : look (codL 18) 58 = some (.iconst 1, 1, 0, 0, 0) := by decide +kernel
theorem k18_59 : look (codL 18) 59 = some (.iadd, 1, 0, 0, 0) := by decide +kernel
theorem k18_60 : look (codL 18) 60 = some (.putfield 39, 3, 0, 1, 0) := by decide +kernel
theorem k18_63 : look (codL 18) 63 = some (.iconst 0, 1, 0, 0, 0) := by decide +kernel
theorem k18_64 : look (codL 18) 64 = some (.istore 4, 2, 0, 0, 0) := by decide +kernel
theorem k18_66 : look (codL 18) 66 = some (.iload 4, 2, 0, 0, 0) := by decide +kernel
theorem k18_68 : look (codL 18) 68 = some (.aload_n 0, 1, 0, 0, 0) := by decide +kernel
theorem k18_69 : look (codL 18) 69 = some (.getfield 29, 3, 3, 3, 0) := by decide +kernel
theorem k18_72 : look (codL 18) 72 = some (.if_icmp .ge 36, 3, 0, 0, 0) := by decide +kernel
theorem k18_75 : look (codL 18) 75 = some (.aload_n 0, 1, 0, 0, 0) := by decide +kernel
theorem k18_76 : look (codL 18) 76 = some (.getfield 20, 3, 3, 1, 0) := by decide +kernel
theorem k18_79 : look (codL 18) 79 = some (.iload 4, 2, 0, 0, 0) := by decide +kernel
theorem k18_81 : look (codL 18) 81 = some (.aaload, 1, 0, 0, 0) := by decide +kernel
theorem k18_82 : look (codL 18) 82 = some (.getfield 36, 3, 2, 2, 0) := by decide +kernel
theorem k18_85 : look (codL 18) 85 = some (.iload_n 1, 1, 0, 0, 0) := by decide +kernel
theorem k18_86 : look (codL 18) 86 = some (.if_icmp .ne 16, 3, 0, 0, 0) := by decide +kernel
theorem k18_89 : look (codL 18) 89 = some (.aload_n 0, 1, 0, 0, 0) := by decide +kernel
theorem k18_90 : look (codL 18) 90 = some (.getfield 20, 3, 3, 1, 0) := by decide +kernel
theorem k18_93 : look (codL 18) 93 = some (.iload 4, 2, 0, 0, 0) := by decide +kernel
theorem k18_95 : look (codL 18) 95 = some (.aaload, 1, 0, 0, 0) := by decide +kernel
theorem k18_96 : look (codL 18) 96 = some (.getfield 50, 3, 2, 0, 0) := by decide +kernel
theorem k18_99 : look (codL 18) 99 = some (.iload_n 3, 1, 0, 0, 0) := by decide +kernel
theorem k18_100 : look (codL 18) 100 = some (.iload_n 2, 1, 0, 0, 0) := by decide +kernel
theorem k18_101 : look (codL 18) 101 = some (.iastore, 1, 0, 0, 0) := by decide +kernel
theorem k18_102 : look (codL 18) 102 = some (.iinc 4 1, 3, 0, 0, 0) := by decide +kernel
theorem k18_105 : look (codL 18) 105 = some (.goto (-39), 3, 0, 0, 0) := by decide +kernel
theorem k18_108 : look (codL 18) 108 = some (.iload_n 3, 1, 0, 0, 0) := by decide +kernel
theorem k18_109 : look (codL 18) 109 = some (.ireturn, 1, 0, 0, 0) := by decide +kernel
theorem k19_0 : look (codL 19) 0 = some (.aload_n 0, 1, 0, 0, 0) := by decide +kernel
theorem k19_1 : look (codL 19) 1 = some (.iload_n 1, 1, 0, 0, 0) := by decide +kernel
theorem k19_2 : look (codL 19) 2 = some (.invokevirtual 42, 3, 14, 2, 0) := by decide +kernel
theorem k19_5 : look (codL 19) 5 = some (.ifCond .eq 20, 3, 0, 0, 0) := by decide +kernel
theorem k19_8 : look (codL 19) 8 = some (.aload_n 0, 1, 0, 0, 0) := by decide +kernel
theorem k19_9 : look (codL 19) 9 = some (.iload_n 2, 1, 0, 0, 0) := by decide +kernel
theorem k19_10 : look (codL 19) 10 = some (.invokevirtual 42, 3, 14, 2, 0) := by decide +kernel
theorem k19_13 : look (codL 19) 13 = some (.ifCond .eq 12, 3, 0, 0, 0) := by decide +kernel
theorem k19_16 : look (codL 19) 16 = some (.aload_n 0, 1, 0, 0, 0) := by decide +kernel
theorem k19_17 : look (codL 19) 17 = some (.getfield 29, 3, 3, 3, 0) := by decide +kernel
theorem k19_20 : look (codL 19) 20 = some (.bipush 16, 2, 0, 0, 0) := by decide +kernel
theorem k19_22 : look (codL 19) 22 = some (.if_icmp .lt 7, 3, 0, 0, 0) := by decide +kernel
theorem k19_25 : look (codL 19) 25 = some (.sipush (-201), 3, 0, 0, 0) := by decide +kernel
theorem k19_28 : look (codL 19) 28 = some (.ireturn, 1, 0, 0, 0) := by decide +kernel
theorem k19_29 : look (codL 19) 29 = some (.aload_n 0, 1, 0, 0, 0) := by decide +kernel
theorem k19_30 : look (codL 19) 30 = some (.getfield 20, 3, 3, 1, 0) := by decide +kernel
theorem k19_33 : look (codL 19) 33 = some (.aload_n 0, 1, 0, 0, 0) := by decide +kernel
theorem k19_34 : look (codL 19) 34 = some (.getfield 29, 3, 3, 3, 0) := by decide +kernel
theorem k19_37 : look (codL 19) 37 = some (.aaload, 1, 0, 0, 0) := by decide +kernel
theorem k19_38 : look (codL 19) 38 = some (.astore 4, 2, 0, 0, 0) := by decide +kernel
theorem k19_40 : look (codL 19) 40 = some (.aload 4, 2, 0, 0, 0) := by decide +kernel
theorem k19_42 : look (codL 19) 42 = some (.iload_n 1, 1, 0, 0, 0) := by decide +kernel
theorem k19_43 : look (codL 19) 43 = some (.putfield 53, 3, 2, 1, 0) := by decide +kernel
theorem k19_46 : look (codL 19) 46 = some (.aload 4, 2, 0, 0, 0) := by decide +kernel
theorem k19_48 : look (codL 19) 48 = some (.iload_n 2, 1, 0, 0, 0) := by decide +kernel
theorem k19_49 : look (codL 19) 49 = some (.putfield 36, 3, 2, 2, 0) := by decide +kernel
theorem k19_52 : look (codL 19) 52 = some (.aload 4, 2, 0, 0, 0) := by decide +kernel
theorem k19_54 : look (codL 19) 54 = some (.iload_n 3, 1, 0, 0, 0) := by decide +kernel
theorem k19_55 : look (codL 19) 55 = some (.putfield 56, 3, 2, 3, 0) := by decide +kernel
theorem k19_58 : look (codL 19) 58 = some (.aload_n 0, 1, 0, 0, 0) := by decide +kernel
theorem k19_59 : look (codL 19) 59 = some (.getfield 11, 3, 3, 0, 0) := by decide +kernel
theorem k19_62 : look (codL 19) 62 = some (.iload_n 2, 1, 0, 0, 0) := by decide +kernel
theorem k19_63 : look (codL 19) 63 = some (.aaload, 1, 0, 0, 0) := by decide +kernel
theorem k19_64 : look (codL 19) 64 = some (.getfield 46, 3, 0, 0, 0) := by decide +kernel
theorem k19_67 : look (codL 19) 67 = some (.iconst 0, 1, 0, 0, 0) := by decide +kernel
theorem k19_68 : look (codL 19) 68 = some (.aload 4, 2, 0, 0, 0) := by decide +kernel
theorem k19_70 : look (codL 19) 70 = some (.getfield 50, 3, 2, 0, 0) := by decide +kernel
theorem k19_73 : look (codL 19) 73 = some (.iconst 0, 1, 0, 0, 0) := by decide +kernel
theorem k19_74 : look (codL 19) 74 = some (.aload_n 0, 1, 0, 0, 0) := by decide +kernel
theorem k19_75 : look (codL 19) 75 = some (.getfield 11, 3, 3, 0, 0) := by decide +kernel
theorem k19_78 : look (codL 19) 78 = some (.iload_n 2, 1, 0, 0, 0) := by decide +kernel
theorem k19_79 : look (codL 19) 79 = some (.aaload, 1, 0, 0, 0) := by decide +kernel
theorem k19_80 : look (codL 19) 80 = some (.getfield 39, 3, 0, 1, 0) := by decide +kernel
theorem k19_83 : look (codL 19) 83 = some (.invokestatic 59, 3, 1001, 0, 0) := by decide +kernel
theorem k19_86 : look (codL 19) 86 = some (.aload_n 0, 1, 0, 0, 0) := by decide +kernel
theorem k19_87 : look (codL 19) 87 = some (.dup, 1, 0, 0, 0) := by decide +kernel
theorem k19_88 : look (codL 19) 88 = some (.getfield 29, 3, 3, 3, 0) := by decide +kernel
theorem k19_91 : look (codL 19) 91 = some (.iconst 1, 1, 0, 0, 0) := by decide +kernel
theorem k19_92 : look (codL 19) 92 = some (.iadd, 1, 0, 0, 0) := by decide +kernel
theorem k19_93 : look (codL 19) 93 = some (.putfield 29, 3, 3, 3, 0) := by decide +kernel
theorem k19_96 : look (codL 19) 96 = some (.aload_n 0, 1, 0, 0, 0) := by decide +kernel
theorem k19_97 : look (codL 19) 97 = some (.getfield 29, 3, 3, 3, 0) := by decide +kernel
theorem k19_100 : look (codL 19) 100 = some (.iconst 1, 1, 0, 0, 0) := by decide +kernel
theorem k19_101 : look (codL 19) 101 = some (.isub, 1, 0, 0, 0) := by decide +kernel
theorem k19_102 : look (codL 19) 102 = some (.ireturn, 1, 0, 0, 0) := by decide +kernel
theorem k20_0 : look (codL 20) 0 = some (.iconst 0, 1, 0, 0, 0) := by decide +kernel
theorem k20_1 : look (codL 20) 1 = some (.istore_n 2, 1, 0, 0, 0) := by decide +kernel
theorem k20_2 : look (codL 20) 2 = some (.iconst 0, 1, 0, 0, 0) := by decide +kernel
theorem k20_3 : look (codL 20) 3 = some (.istore_n 3, 1, 0, 0, 0) := by decide +kernel
theorem k20_4 : look (codL 20) 4 = some (.iload_n 3, 1, 0, 0, 0) := by decide +kernel
theorem k20_5 : look (codL 20) 5 = some (.aload_n 0, 1, 0, 0, 0) := by decide +kernel
theorem k20_6 : look (codL 20) 6 = some (.getfield 29, 3, 3, 3, 0) := by decide +kernel
theorem k20_9 : look (codL 20) 9 = some (.if_icmp .ge 30, 3, 0, 0, 0) := by decide +kernel
theorem k20_12 : look (codL 20) 12 = some (.iload_n 2, 1, 0, 0, 0) := by decide +kernel
theorem k20_13 : look (codL 20) 13 = some (.aload_n 0, 1, 0, 0, 0) := by decide +kernel
theorem k20_14 : look (codL 20) 14 = some (.getfield 20, 3, 3, 1, 0) := by decide +kernel
theorem k20_17 : look (codL 20) 17 = some (.iload_n 3, 1, 0, 0, 0) := by decide +kernel
theorem k20_18 : look (codL 20) 18 = some (.aaload, 1, 0, 0, 0) := by decide +kernel
theorem k20_19 : look (codL 20) 19 = some (.getfield 53, 3, 2, 1, 0) := by decide +kernel
theorem k20_22 : look (codL 20) 22 = some (.iload_n 1, 1, 0, 0, 0) := by decide +kernel
theorem k20_23 : look (codL 20) 23 = some (.if_icmp .ne 7, 3, 0, 0, 0) := by decide +kernel
theorem k20_26 : look (codL 20) 26 = some (.iconst 1, 1, 0, 0, 0) := by decide +kernel
theorem k20_27 : look (codL 20) 27 = some (.goto 4, 3, 0, 0, 0) := by decide +kernel
theorem k20_30 : look (codL 20) 30 = some (.iconst 0, 1, 0, 0, 0) := by decide +kernel
theorem k20_31 : look (codL 20) 31 = some (.iadd, 1, 0, 0, 0) := by decide +kernel
theorem k20_32 : look (codL 20) 32 = some (.istore_n 2, 1, 0, 0, 0) := by decide +kernel
theorem k20_33 : look (codL 20) 33 = some (.iinc 3 1, 3, 0, 0, 0) := by decide +kernel
theorem k20_36 : look (codL 20) 36 = some (.goto (-32), 3, 0, 0, 0) := by decide +kernel
theorem k20_39 : look (codL 20) 39 = some (.iload_n 2, 1, 0, 0, 0) := by decide +kernel
theorem k20_40 : look (codL 20) 40 = some (.ireturn, 1, 0, 0, 0) := by decide +kernel
theorem k21_0 : look (codL 21) 0 = some (.iconst 0, 1, 0, 0, 0) := by decide +kernel
theorem k21_1 : look (codL 21) 1 = some (.istore_n 2, 1, 0, 0, 0) := by decide +kernel
theorem k21_2 : look (codL 21) 2 = some (.iconst 0, 1, 0, 0, 0) := by decide +kernel
theorem k21_3 : look (codL 21) 3 = some (.istore_n 3, 1, 0, 0, 0) := by decide +kernel
theorem k21_4 : look (codL 21) 4 = some (.iload_n 3, 1, 0, 0, 0) := by decide +kernel
theorem k21_5 : look (codL 21) 5 = some (.aload_n 0, 1, 0, 0, 0) := by decide +kernel
theorem k21_6 : look (codL 21) 6 = some (.getfield 29, 3, 3, 3, 0) := by decide +kernel
theorem k21_9 : look (codL 21) 9 = some (.if_icmp .ge 30, 3, 0, 0, 0) := by decide +kernel
theorem k21_12 : look (codL 21) 12 = some (.iload_n 2, 1, 0, 0, 0) := by decide +kernel
theorem k21_13 : look (codL 21) 13 = some (.aload_n 0, 1, 0, 0, 0) := by decide +kernel
theorem k21_14 : look (codL 21) 14 = some (.getfield 20, 3, 3, 1, 0) := by decide +kernel
theorem k21_17 : look (codL 21) 17 = some (.iload_n 3, 1, 0, 0, 0) := by decide +kernel
theorem k21_18 : look (codL 21) 18 = some (.aaload, 1, 0, 0, 0) := by decide +kernel
theorem k21_19 : look (codL 21) 19 = some (.getfield 36, 3, 2, 2, 0) := by decide +kernel
theorem k21_22 : look (codL 21) 22 = some (.iload_n 1, 1, 0, 0, 0) := by decide +kernel
theorem k21_23 : look (codL 21) 23 = some (.if_icmp .ne 7, 3, 0, 0, 0) := by decide +kernel
theorem k21_26 : look (codL 21) 26 = some (.iconst 1, 1, 0, 0, 0) := by decide +kernel
theorem k21_27 : look (codL 21) 27 = some (.goto 4, 3, 0, 0, 0) := by decide +kernel
theorem k21_30 : look (codL 21) 30 = some (.iconst 0, 1, 0, 0, 0) := by decide +kernel
theorem k21_31 : look (codL 21) 31 = some (.iadd, 1, 0, 0, 0) := by decide +kernel
theorem k21_32 : look (codL 21) 32 = some (.istore_n 2, 1, 0, 0, 0) := by decide +kernel
theorem k21_33 : look (codL 21) 33 = some (.iinc 3 1, 3, 0, 0, 0) := by decide +kernel
theorem k21_36 : look (codL 21) 36 = some (.goto (-32), 3, 0, 0, 0) := by decide +kernel
theorem k21_39 : look (codL 21) 39 = some (.iload_n 2, 1, 0, 0, 0) := by decide +kernel
theorem k21_40 : look (codL 21) 40 = some (.ireturn, 1, 0, 0, 0) := by decide +kernel
theorem k22_0 : look (codL 22) 0 = some (.aload_n 0, 1, 0, 0, 0) := by decide +kernel
theorem k22_1 : look (codL 22) 1 = some (.aload_n 0, 1, 0, 0, 0) := by decide +kernel
theorem k22_2 : look (codL 22) 2 = some (.getfield 20, 3, 3, 1, 0) := by decide +kernel
theorem k22_5 : look (codL 22) 5 = some (.iload_n 1, 1, 0, 0, 0) := by decide +kernel
theorem k22_6 : look (codL 22) 6 = some (.aaload, 1, 0, 0, 0) := by decide +kernel
theorem k22_7 : look (codL 22) 7 = some (.getfield 53, 3, 2, 1, 0) := by decide +kernel
theorem k22_10 : look (codL 22) 10 = some (.invokevirtual 65, 3, 20, 2, 0) := by decide +kernel
theorem k22_13 : look (codL 22) 13 = some (.iconst 1, 1, 0, 0, 0) := by decide +kernel
theorem k22_14 : look (codL 22) 14 = some (.if_icmp .ne 5, 3, 0, 0, 0) := by decide +kernel
theorem k22_17 : look (codL 22) 17 = some (.iconst 0, 1, 0, 0, 0) := by decide +kernel
theorem k22_18 : look (codL 22) 18 = some (.ireturn, 1, 0, 0, 0) := by decide +kernel
theorem k22_19 : look (codL 22) 19 = some (.aload_n 0, 1, 0, 0, 0) := by decide +kernel
theorem k22_20 : look (codL 22) 20 = some (.aload_n 0, 1, 0, 0, 0) := by decide +kernel
theorem k22_21 : look (codL 22) 21 = some (.getfield 20, 3, 3, 1, 0) := by decide +kernel
theorem k22_24 : look (codL 22) 24 = some (.iload_n 1, 1, 0, 0, 0) := by decide +kernel
theorem k22_25 : look (codL 22) 25 = some (.aaload, 1, 0, 0, 0) := by decide +kernel
theorem k22_26 : look (codL 22) 26 = some (.getfield 36, 3, 2, 2, 0) := by decide +kernel
theorem k22_29 : look (codL 22) 29 = some (.invokevirtual 69, 3, 21, 2, 0) := by decide +kernel
theorem k22_32 : look (codL 22) 32 = some (.iconst 1, 1, 0, 0, 0) := by decide +kernel
theorem k22_33 : look (codL 22) 33 = some (.if_icmp .ne 7, 3, 0, 0, 0) := by decide +kernel
theorem k22_36 : look (codL 22) 36 = some (.iconst 1, 1, 0, 0, 0) := by decide +kernel
theorem k22_37 : look (codL 22) 37 = some (.goto 4, 3, 0, 0, 0) := by decide +kernel
theorem k22_40 : look (codL 22) 40 = some (.iconst 2, 1, 0, 0, 0) := by decide +kernel
theorem k22_41 : look (codL 22) 41 = some (.ireturn, 1, 0, 0, 0) := by decide +kernel
theorem k24_0 : look (codL 24) 0 = some (.aload_n 0, 1, 0, 0, 0) := by decide +kernel
theorem k24_1 : look (codL 24) 1 = some (.aload_n 1, 1, 0, 0, 0) := by decide +kernel
theorem k24_2 : look (codL 24) 2 = some (.getfield 18, 3, 0, 0, 0) := by decide +kernel
theorem k24_5 : look (codL 24) 5 = some (.putfield 9, 3, 4, 0, 0) := by decide +kernel
theorem k24_8 : look (codL 24) 8 = some (.aload_n 0, 1, 0, 0, 0) := by decide +kernel
theorem k24_9 : look (codL 24) 9 = some (.aload_n 2, 1, 0, 0, 0) := by decide +kernel
theorem k24_10 : look (codL 24) 10 = some (.getfield 21, 3, 2, 0, 0) := by decide +kernel
theorem k24_13 : look (codL 24) 13 = some (.putfield 15, 3, 4, 1, 0) := by decide +kernel
theorem k24_16 : look (codL 24) 16 = some (.aload_n 0, 1, 0, 0, 0) := by decide +kernel
theorem k24_17 : look (codL 24) 17 = some (.aload_n 1, 1, 0, 0, 0) := by decide +kernel
theorem k24_18 : look (codL 24) 18 = some (.getfield 24, 3, 0, 1, 0) := by decide +kernel
theorem k24_21 : look (codL 24) 21 = some (.putfield 28, 3, 4, 2, 0) := by decide +kernel
theorem k24_24 : look (codL 24) 24 = some (.return_, 1, 0, 0, 0) := by decide +kernel
theorem k25_0 : look (codL 25) 0 = some (.aload_n 0, 1, 0, 0, 0) := by decide +kernel
theorem k25_1 : look (codL 25) 1 = some (.getfield 15, 3, 4, 1, 0) := by decide +kernel
theorem k25_4 : look (codL 25) 4 = some (.iload_n 1, 1, 0, 0, 0) := by decide +kernel
theorem k25_5 : look (codL 25) 5 = some (.iaload, 1, 0, 0, 0) := by decide +kernel
theorem k25_6 : look (codL 25) 6 = some (.ifCond .ge 7, 3, 0, 0, 0) := by decide +kernel
theorem k25_9 : look (codL 25) 9 = some (.iconst 1, 1, 0, 0, 0) := by decide +kernel
theorem k25_10 : look (codL 25) 10 = some (.goto 4, 3, 0, 0, 0) := by decide +kernel
theorem k25_13 : look (codL 25) 13 = some (.iconst 0, 1, 0, 0, 0) := by decide +kernel
theorem k25_14 : look (codL 25) 14 = some (.ireturn, 1, 0, 0, 0) := by decide +kernel
theorem k26_0 : look (codL 26) 0 = some (.aload_n 0, 1, 0, 0, 0) := by decide +kernel
theorem k26_1 : look (codL 26) 1 = some (.getfield 15, 3, 4, 1, 0) := by decide +kernel
theorem k26_4 : look (codL 26) 4 = some (.iload_n 1, 1, 0, 0, 0) := by decide +kernel
theorem k26_5 : look (codL 26) 5 = some (.iaload, 1, 0, 0, 0) := by decide +kernel
theorem k26_6 : look (codL 26) 6 = some (.ifCond .lt 22, 3, 0, 0, 0) := by decide +kernel
theorem k26_9 : look (codL 26) 9 = some (.aload_n 0, 1, 0, 0, 0) := by decide +kernel
theorem k26_10 : look (codL 26) 10 = some (.getfield 15, 3, 4, 1, 0) := by decide +kernel
theorem k26_13 : look (codL 26) 13 = some (.iload_n 1, 1, 0, 0, 0) := by decide +kernel
theorem k26_14 : look (codL 26) 14 = some (.iaload, 1, 0, 0, 0) := by decide +kernel
theorem k26_15 : look (codL 26) 15 = some (.aload_n 0, 1, 0, 0, 0) := by decide +kernel
theorem k26_16 : look (codL 26) 16 = some (.getfield 9, 3, 4, 0, 0) := by decide +kernel
theorem k26_19 : look (codL 26) 19 = some (.iload_n 1, 1, 0, 0, 0) := by decide +kernel
theorem k26_20 : look (codL 26) 20 = some (.iaload, 1, 0, 0, 0) := by decide +kernel
theorem k26_21 : look (codL 26) 21 = some (.if_icmp .eq 7, 3, 0, 0, 0) := by decide +kernel
theorem k26_24 : look (codL 26) 24 = some (.iconst 1, 1, 0, 0, 0) := by decide +kernel
theorem k26_25 : look (codL 26) 25 = some (.goto 4, 3, 0, 0, 0) := by decide +kernel
theorem k26_28 : look (codL 26) 28 = some (.iconst 0, 1, 0, 0, 0) := by decide +kernel
theorem k26_29 : look (codL 26) 29 = some (.ireturn, 1, 0, 0, 0) := by decide +kernel
theorem k27_0 : look (codL 27) 0 = some (.iload_n 1, 1, 0, 0, 0) := by decide +kernel
theorem k27_1 : look (codL 27) 1 = some (.bipush 6, 2, 0, 0, 0) := by decide +kernel
theorem k27_3 : look (codL 27) 3 = some (.irem, 1, 0, 0, 0) := by decide +kernel
theorem k27_4 : look (codL 27) 4 = some (.istore_n 2, 1, 0, 0, 0) := by decide +kernel
theorem k27_5 : look (codL 27) 5 = some (.iload_n 2, 1, 0, 0, 0) := by decide +kernel
theorem k27_6 : look (codL 27) 6 = some (.aload_n 0, 1, 0, 0, 0) := by decide +kernel
theorem k27_7 : look (codL 27) 7 = some (.getfield 28, 3, 4, 2, 0) := by decide +kernel
theorem k27_10 : look (codL 27) 10 = some (.if_icmp .ge 18, 3, 0, 0, 0) := by decide +kernel
theorem k27_13 : look (codL 27) 13 = some (.aload_n 0, 1, 0, 0, 0) := by decide +kernel
theorem k27_14 : look (codL 27) 14 = some (.getfield 15, 3, 4, 1, 0) := by decide +kernel
theorem k27_17 : look (codL 27) 17 = some (.iload_n 2, 1, 0, 0, 0) := by decide +kernel
theorem k27_18 : look (codL 27) 18 = some (.iaload, 1, 0, 0, 0) := by decide +kernel
theorem k27_19 : look (codL 27) 19 = some (.aload_n 0, 1, 0, 0, 0) := by decide +kernel
theorem k27_20 : look (codL 27) 20 = some (.getfield 9, 3, 4, 0, 0) := by decide +kernel
theorem k27_23 : look (codL 27) 23 = some (.iload_n 2, 1, 0, 0, 0) := by decide +kernel
theorem k27_24 : look (codL 27) 24 = some (.iaload, 1, 0, 0, 0) := by decide +kernel
theorem k27_25 : look (codL 27) 25 = some (.if_icmp .ne 5, 3, 0, 0, 0) := by decide +kernel
theorem k27_28 : look (codL 27) 28 = some (.iconst (-1), 1, 0, 0, 0) := by decide +kernel
theorem k27_29 : look (codL 27) 29 = some (.ireturn, 1, 0, 0, 0) := by decide +kernel
theorem k27_30 : look (codL 27) 30 = some (.iload_n 1, 1, 0, 0, 0) := by decide +kernel
theorem k27_31 : look (codL 27) 31 = some (.bipush 6, 2, 0, 0, 0) := by decide +kernel
theorem k27_33 : look (codL 27) 33 = some (.if_icmp .ge 12, 3, 0, 0, 0) := by decide +kernel
theorem k27_36 : look (codL 27) 36 = some (.aload_n 0, 1, 0, 0, 0) := by decide +kernel
theorem k27_37 : look (codL 27) 37 = some (.getfield 9, 3, 4, 0, 0) := by decide +kernel
theorem k27_40 : look (codL 27) 40 = some (.iload_n 2, 1, 0, 0, 0) := by decide +kernel
theorem k27_41 : look (codL 27) 41 = some (.iaload, 1, 0, 0, 0) := by decide +kernel
theorem k27_42 : look (codL 27) 42 = some (.goto 9, 3, 0, 0, 0) := by decide +kernel
theorem k27_45 : look (codL 27) 45 = some (.aload_n 0, 1, 0, 0, 0) := by decide +kernel
theorem k27_46 : look (codL 27) 46 = some (.getfield 15, 3, 4, 1, 0) := by decide +kernel
theorem k27_49 : look (codL 27) 49 = some (.iload_n 2, 1, 0, 0, 0) := by decide +kernel
theorem k27_50 : look (codL 27) 50 = some (.iaload, 1, 0, 0, 0) := by decide +kernel
theorem k27_51 : look (codL 27) 51 = some (.ireturn, 1, 0, 0, 0) := by decide +kernel
theorem k28_0 : look (codL 28) 0 = some (.iload_n 0, 1, 0, 0, 0) := by decide +kernel
theorem k28_1 : look (codL 28) 1 = some (.iload_n 1, 1, 0, 0, 0) := by decide +kernel
theorem k28_2 : look (codL 28) 2 = some (.if_icmp .eq 15, 3, 0, 0, 0) := by decide +kernel
theorem k28_5 : look (codL 28) 5 = some (.iload_n 0, 1, 0, 0, 0) := by decide +kernel
theorem k28_6 : look (codL 28) 6 = some (.iload_n 1, 1, 0, 0, 0) := by decide +kernel
theorem k28_7 : look (codL 28) 7 = some (.invokestatic 22, 3, 3, 2, 0) := by decide +kernel
theorem k28_10 : look (codL 28) 10 = some (.ifCond .eq 7, 3, 0, 0, 0) := by decide +kernel
theorem k28_13 : look (codL 28) 13 = some (.iconst 1, 1, 0, 0, 0) := by decide +kernel
theorem k28_14 : look (codL 28) 14 = some (.goto 4, 3, 0, 0, 0) := by decide +kernel
theorem k28_17 : look (codL 28) 17 = some (.iconst 0, 1, 0, 0, 0) := by decide +kernel
theorem k28_18 : look (codL 28) 18 = some (.ireturn, 1, 0, 0, 0) := by decide +kernel
theorem k29_0 : look (codL 29) 0 = some (.iconst 0, 1, 0, 0, 0) := by decide +kernel
theorem k29_1 : look (codL 29) 1 = some (.istore_n 1, 1, 0, 0, 0) := by decide +kernel
theorem k29_2 : look (codL 29) 2 = some (.iload_n 1, 1, 0, 0, 0) := by decide +kernel
theorem k29_3 : look (codL 29) 3 = some (.bipush 12, 2, 0, 0, 0) := by decide +kernel
theorem k29_5 : look (codL 29) 5 = some (.if_icmp .ge 55, 3, 0, 0, 0) := by decide +kernel
theorem k29_8 : look (codL 29) 8 = some (.iconst 0, 1, 0, 0, 0) := by decide +kernel
theorem k29_9 : look (codL 29) 9 = some (.istore_n 2, 1, 0, 0, 0) := by decide +kernel
theorem k29_10 : look (codL 29) 10 = some (.iload_n 2, 1, 0, 0, 0) := by decide +kernel
theorem k29_11 : look (codL 29) 11 = some (.iload_n 1, 1, 0, 0, 0) := by decide +kernel
theorem k29_12 : look (codL 29) 12 = some (.if_icmp .ge 42, 3, 0, 0, 0) := by decide +kernel
theorem k29_15 : look (codL 29) 15 = some (.aload_n 0, 1, 0, 0, 0) := by decide +kernel
theorem k29_16 : look (codL 29) 16 = some (.iload_n 1, 1, 0, 0, 0) := by decide +kernel
theorem k29_17 : look (codL 29) 17 = some (.invokevirtual 29, 3, 27, 2, 0) := by decide +kernel
theorem k29_20 : look (codL 29) 20 = some (.istore_n 3, 1, 0, 0, 0) := by decide +kernel
theorem k29_21 : look (codL 29) 21 = some (.aload_n 0, 1, 0, 0, 0) := by decide +kernel
theorem k29_22 : look (codL 29) 22 = some (.iload_n 2, 1, 0, 0, 0) := by decide +kernel
theorem k29_23 : look (codL 29) 23 = some (.invokevirtual 29, 3, 27, 2, 0) := by decide +kernel
theorem k29_26 : look (codL 29) 26 = some (.istore 4, 2, 0, 0, 0) := by decide +kernel
theorem k29_28 : look (codL 29) 28 = some (.iload_n 3, 1, 0, 0, 0) := by decide +kernel
theorem k29_29 : look (codL 29) 29 = some (.ifCond .lt 19, 3, 0, 0, 0) := by decide +kernel
theorem k29_32 : look (codL 29) 32 = some (.iload 4, 2, 0, 0, 0) := by decide +kernel
theorem k29_34 : look (codL 29) 34 = some (.ifCond .lt 14, 3, 0, 0, 0) := by decide +kernel
theorem k29_37 : look (codL 29) 37 = some (.iload_n 3, 1, 0, 0, 0) := by decide +kernel
theorem k29_38 : look (codL 29) 38 = some (.iload 4, 2, 0, 0, 0) := by decide +kernel
theorem k29_40 : look (codL 29) 40 = some (.invokestatic 33, 3, 28, 2, 0) := by decide +kernel
theorem k29_43 : look (codL 29) 43 = some (.ifCond .eq 5, 3, 0, 0, 0) := by decide +kernel
theorem k29_46 : look (codL 29) 46 = some (.iconst 0, 1, 0, 0, 0) := by decide +kernel
theorem k29_47 : look (codL 29) 47 = some (.ireturn, 1, 0, 0, 0) := by decide +kernel
theorem k29_48 : look (codL 29) 48 = some (.iinc 2 1, 3, 0, 0, 0) := by decide +kernel
theorem k29_51 : look (codL 29) 51 = some (.goto (-41), 3, 0, 0, 0) := by decide +kernel
theorem k29_54 : look (codL 29) 54 = some (.iinc 1 1, 3, 0, 0, 0) := by decide +kernel
theorem k29_57 : look (codL 29) 57 = some (.goto (-55), 3, 0, 0, 0) := by decide +kernel
theorem k29_60 : look (codL 29) 60 = some (.iconst 1, 1, 0, 0, 0) := by decide +kernel
theorem k29_61 : look (codL 29) 61 = some (.ireturn, 1, 0, 0, 0) := by decide +kernel
theorem k30_0 : look (codL 30) 0 = some (.iconst 0, 1, 0, 0, 0) := by decide +kernel
theorem k30_1 : look (codL 30) 1 = some (.istore_n 2, 1, 0, 0, 0) := by decide +kernel
theorem k30_2 : look (codL 30) 2 = some (.iload_n 2, 1, 0, 0, 0) := by decide +kernel
theorem k30_3 : look (codL 30) 3 = some (.aload_n 0, 1, 0, 0, 0) := by decide +kernel
theorem k30_4 : look (codL 30) 4 = some (.getfield 28, 3, 4, 2, 0) := by decide +kernel
theorem k30_7 : look (codL 30) 7 = some (.if_icmp .ge 48, 3, 0, 0, 0) := by decide +kernel
theorem k30_10 : look (codL 30) 10 = some (.aload_n 0, 1, 0, 0, 0) := by decide +kernel
theorem k30_11 : look (codL 30) 11 = some (.getfield 9, 3, 4, 0, 0) := by decide +kernel
theorem k30_14 : look (codL 30) 14 = some (.iload_n 2, 1, 0, 0, 0) := by decide +kernel
theorem k30_15 : look (codL 30) 15 = some (.iaload, 1, 0, 0, 0) := by decide +kernel
theorem k30_16 : look (codL 30) 16 = some (.iload_n 1, 1, 0, 0, 0) := by decide +kernel
theorem k30_17 : look (codL 30) 17 = some (.invokestatic 39, 3, 3, 2, 0) := by decide +kernel
theorem k30_20 : look (codL 30) 20 = some (.ifCond .eq 5, 3, 0, 0, 0) := by decide +kernel
theorem k30_23 : look (codL 30) 23 = some (.iconst 1, 1, 0, 0, 0) := by decide +kernel
theorem k30_24 : look (codL 30) 24 = some (.ireturn, 1, 0, 0, 0) := by decide +kernel
theorem k30_25 : look (codL 30) 25 = some (.aload_n 0, 1, 0, 0, 0) := by decide +kernel
theorem k30_26 : look (codL 30) 26 = some (.getfield 15, 3, 4, 1, 0) := by decide +kernel
theorem k30_29 : look (codL 30) 29 = some (.iload_n 2, 1, 0, 0, 0) := by decide +kernel
theorem k30_30 : look (codL 30) 30 = some (.iaload, 1, 0, 0, 0) := by decide +kernel
theorem k30_31 : look (codL 30) 31 = some (.ifCond .lt 18, 3, 0, 0, 0) := by decide +kernel
theorem k30_34 : look (codL 30) 34 = some (.aload_n 0, 1, 0, 0, 0) := by decide +kernel
theorem k30_35 : look (codL 30) 35 = some (.getfield 15, 3, 4, 1, 0) := by decide +kernel
theorem k30_38 : look (codL 30) 38 = some (.iload_n 2, 1, 0, 0, 0) := by decide +kernel
theorem k30_39 : look (codL 30) 39 = some (.iaload, 1, 0, 0, 0) := by decide +kernel
theorem k30_40 : look (codL 30) 40 = some (.iload_n 1, 1, 0, 0, 0) := by decide +kernel
theorem k30_41 : look (codL 30) 41 = some (.invokestatic 39, 3, 3, 2, 0) := by decide +kernel
theorem k30_44 : look (codL 30) 44 = some (.ifCond .eq 5, 3, 0, 0, 0) := by decide +kernel
theorem k30_47 : look (codL 30) 47 = some (.iconst 1, 1, 0, 0, 0) := by decide +kernel
theorem k30_48 : look (codL 30) 48 = some (.ireturn, 1, 0, 0, 0) := by decide +kernel
theorem k30_49 : look (codL 30) 49 = some (.iinc 2 1, 3, 0, 0, 0) := by decide +kernel
theorem k30_52 : look (codL 30) 52 = some (.goto (-50), 3, 0, 0, 0) := by decide +kernel
theorem k30_55 : look (codL 30) 55 = some (.iconst 0, 1, 0, 0, 0) := by decide +kernel
theorem k30_56 : look (codL 30) 56 = some (.ireturn, 1, 0, 0, 0) := by decide +kernel
theorem k31_0 : look (codL 31) 0 = some (.iconst 0, 1, 0, 0, 0) := by decide +kernel
theorem k31_1 : look (codL 31) 1 = some (.istore_n 2, 1, 0, 0, 0) := by decide +kernel
theorem k31_2 : look (codL 31) 2 = some (.iload_n 2, 1, 0, 0, 0) := by decide +kernel
theorem k31_3 : look (codL 31) 3 = some (.aload_n 0, 1, 0, 0, 0) := by decide +kernel
theorem k31_4 : look (codL 31) 4 = some (.getfield 28, 3, 4, 2, 0) := by decide +kernel
theorem k31_7 : look (codL 31) 7 = some (.if_icmp .ge 29, 3, 0, 0, 0) := by decide +kernel
theorem k31_10 : look (codL 31) 10 = some (.aload_n 0, 1, 0, 0, 0) := by decide +kernel
theorem k31_11 : look (codL 31) 11 = some (.getfield 9, 3, 4, 0, 0) := by decide +kernel
theorem k31_14 : look (codL 31) 14 = some (.iload_n 2, 1, 0, 0, 0) := by decide +kernel
theorem k31_15 : look (codL 31) 15 = some (.iaload, 1, 0, 0, 0) := by decide +kernel
theorem k31_16 : look (codL 31) 16 = some (.iload_n 1, 1, 0, 0, 0) := by decide +kernel
theorem k31_17 : look (codL 31) 17 = some (.if_icmp .ne 13, 3, 0, 0, 0) := by decide +kernel
theorem k31_20 : look (codL 31) 20 = some (.aload_n 0, 1, 0, 0, 0) := by decide +kernel
theorem k31_21 : look (codL 31) 21 = some (.iload_n 2, 1, 0, 0, 0) := by decide +kernel
theorem k31_22 : look (codL 31) 22 = some (.invokevirtual 42, 3, 26, 2, 0) := by decide +kernel
theorem k31_25 : look (codL 31) 25 = some (.ifCond .eq 5, 3, 0, 0, 0) := by decide +kernel
theorem k31_28 : look (codL 31) 28 = some (.iload_n 2, 1, 0, 0, 0) := by decide +kernel
theorem k31_29 : look (codL 31) 29 = some (.ireturn, 1, 0, 0, 0) := by decide +kernel
theorem k31_30 : look (codL 31) 30 = some (.iinc 2 1, 3, 0, 0, 0) := by decide +kernel
theorem k31_33 : look (codL 31) 33 = some (.goto (-31), 3, 0, 0, 0) := by decide +kernel
theorem k31_36 : look (codL 31) 36 = some (.iconst (-1), 1, 0, 0, 0) := by decide +kernel
theorem k31_37 : look (codL 31) 37 = some (.ireturn, 1, 0, 0, 0) := by decide +kernel
theorem k32_0 : look (codL 32) 0 = some (.iconst 0, 1, 0, 0, 0) := by decide +kernel
theorem k32_1 : look (codL 32) 1 = some (.istore_n 2, 1, 0, 0, 0) := by decide +kernel
theorem k32_2 : look (codL 32) 2 = some (.iconst 0, 1, 0, 0, 0) := by decide +kernel
theorem k32_3 : look (codL 32) 3 = some (.istore_n 3, 1, 0, 0, 0) := by decide +kernel
theorem k32_4 : look (codL 32) 4 = some (.iload_n 3, 1, 0, 0, 0) := by decide +kernel
theorem k32_5 : look (codL 32) 5 = some (.aload_n 0, 1, 0, 0, 0) := by decide +kernel
theorem k32_6 : look (codL 32) 6 = some (.getfield 28, 3, 4, 2, 0) := by decide +kernel
theorem k32_9 : look (codL 32) 9 = some (.if_icmp .ge 35, 3, 0, 0, 0) := by decide +kernel
theorem k32_12 : look (codL 32) 12 = some (.iload_n 2, 1, 0, 0, 0) := by decide +kernel
theorem k32_13 : look (codL 32) 13 = some (.aload_n 0, 1, 0, 0, 0) := by decide +kernel
theorem k32_14 : look (codL 32) 14 = some (.iload_n 3, 1, 0, 0, 0) := by decide +kernel
theorem k32_15 : look (codL 32) 15 = some (.invokevirtual 42, 3, 26, 2, 0) := by decide +kernel
theorem k32_18 : look (codL 32) 18 = some (.ifCond .eq 17, 3, 0, 0, 0) := by decide +kernel
theorem k32_21 : look (codL 32) 21 = some (.aload_n 0, 1, 0, 0, 0) := by decide +kernel
theorem k32_22 : look (codL 32) 22 = some (.getfield 15, 3, 4, 1, 0) := by decide +kernel
theorem k32_25 : look (codL 32) 25 = some (.iload_n 3, 1, 0, 0, 0) := by decide +kernel
theorem k32_26 : look (codL 32) 26 = some (.iaload, 1, 0, 0, 0) := by decide +kernel
theorem k32_27 : look (codL 32) 27 = some (.iload_n 1, 1, 0, 0, 0) := by decide +kernel
theorem k32_28 : look (codL 32) 28 = some (.if_icmp .ne 7, 3, 0, 0, 0) := by decide +kernel
theorem k32_31 : look (codL 32) 31 = some (.iconst 1, 1, 0, 0, 0) := by decide +kernel
theorem k32_32 : look (codL 32) 32 = some (.goto 4, 3, 0, 0, 0) := by decide +kernel
theorem k32_35 : look (codL 32) 35 = some (.iconst 0, 1, 0, 0, 0) := by decide +kernel
theorem k32_36 : look (codL 32) 36 = some (.iadd, 1, 0, 0, 0) := by decide +kernel
theorem k32_37 : look (codL 32) 37 = some (.istore_n 2, 1, 0, 0, 0) := by decide +kernel
theorem k32_38 : look (codL 32) 38 = some (.iinc 3 1, 3, 0, 0, 0) := by decide +kernel
theorem k32_41 : look (codL 32) 41 = some (.goto (-37), 3, 0, 0, 0) := by decide +kernel
theorem k32_44 : look (codL 32) 44 = some (.iload_n 2, 1, 0, 0, 0) := by decide +kernel
theorem k32_45 : look (codL 32) 45 = some (.ireturn, 1, 0, 0, 0) := by decide +kernel
theorem k33_0 : look (codL 33) 0 = some (.iload_n 1, 1, 0, 0, 0) := by decide +kernel
theorem k33_1 : look (codL 33) 1 = some (.istore_n 2, 1, 0, 0, 0) := by decide +kernel
theorem k33_2 : look (codL 33) 2 = some (.iconst 1, 1, 0, 0, 0) := by decide +kernel
theorem k33_3 : look (codL 33) 3 = some (.istore_n 3, 1, 0, 0, 0) := by decide +kernel
theorem k33_4 : look (codL 33) 4 = some (.iload_n 3, 1, 0, 0, 0) := by decide +kernel
theorem k33_5 : look (codL 33) 5 = some (.aload_n 0, 1, 0, 0, 0) := by decide +kernel
theorem k33_6 : look (codL 33) 6 = some (.getfield 28, 3, 4, 2, 0) := by decide +kernel
theorem k33_9 : look (codL 33) 9 = some (.if_icmp .gt 49, 3, 0, 0, 0) := by decide +kernel
theorem k33_12 : look (codL 33) 12 = some (.aload_n 0, 1, 0, 0, 0) := by decide +kernel
theorem k33_13 : look (codL 33) 13 = some (.aload_n 0, 1, 0, 0, 0) := by decide +kernel
theorem k33_14 : look (codL 33) 14 = some (.getfield 9, 3, 4, 0, 0) := by decide +kernel
theorem k33_17 : look (codL 33) 17 = some (.iload_n 2, 1, 0, 0, 0) := by decide +kernel
theorem k33_18 : look (codL 33) 18 = some (.iaload, 1, 0, 0, 0) := by decide +kernel
theorem k33_19 : look (codL 33) 19 = some (.invokevirtual 46, 3, 32, 2, 0) := by decide +kernel
theorem k33_22 : look (codL 33) 22 = some (.iconst 1, 1, 0, 0, 0) := by decide +kernel
theorem k33_23 : look (codL 33) 23 = some (.if_icmp .eq 5, 3, 0, 0, 0) := by decide +kernel
theorem k33_26 : look (codL 33) 26 = some (.iconst 0, 1, 0, 0, 0) := by decide +kernel
theorem k33_27 : look (codL 33) 27 = some (.ireturn, 1, 0, 0, 0) := by decide +kernel
theorem k33_28 : look (codL 33) 28 = some (.aload_n 0, 1, 0, 0, 0) := by decide +kernel
theorem k33_29 : look (codL 33) 29 = some (.aload_n 0, 1, 0, 0, 0) := by decide +kernel
theorem k33_30 : look (codL 33) 30 = some (.getfield 15, 3, 4, 1, 0) := by decide +kernel
theorem k33_33 : look (codL 33) 33 = some (.iload_n 2, 1, 0, 0, 0) := by decide +kernel
theorem k33_34 : look (codL 33) 34 = some (.iaload, 1, 0, 0, 0) := by decide +kernel
theorem k33_35 : look (codL 33) 35 = some (.invokevirtual 49, 3, 31, 2, 0) := by decide +kernel
theorem k33_38 : look (codL 33) 38 = some (.istore_n 2, 1, 0, 0, 0) := by decide +kernel
theorem k33_39 : look (codL 33) 39 = some (.iload_n 2, 1, 0, 0, 0) := by decide +kernel
theorem k33_40 : look (codL 33) 40 = some (.ifCond .ge 5, 3, 0, 0, 0) := by decide +kernel
theorem k33_43 : look (codL 33) 43 = some (.iconst 0, 1, 0, 0, 0) := by decide +kernel
theorem k33_44 : look (codL 33) 44 = some (.ireturn, 1, 0, 0, 0) := by decide +kernel
theorem k33_45 : look (codL 33) 45 = some (.iload_n 2, 1, 0, 0, 0) := by decide +kernel
theorem k33_46 : look (codL 33) 46 = some (.iload_n 1, 1, 0, 0, 0) := by decide +kernel
theorem k33_47 : look (codL 33) 47 = some (.if_icmp .ne 5, 3, 0, 0, 0) := by decide +kernel
theorem k33_50 : look (codL 33) 50 = some (.iload_n 3, 1, 0, 0, 0) := by decide +kernel
theorem k33_51 : look (codL 33) 51 = some (.ireturn, 1, 0, 0, 0) := by decide +kernel
theorem k33_52 : look (codL 33) 52 = some (.iinc 3 1, 3, 0, 0, 0) := by decide +kernel
theorem k33_55 : look (codL 33) 55 = some (.goto (-51), 3, 0, 0, 0) := by decide +kernel
theorem k33_58 : look (codL 33) 58 = some (.iconst 0, 1, 0, 0, 0) := by decide +kernel
theorem k33_59 : look (codL 33) 59 = some (.ireturn, 1, 0, 0, 0) := by decide +kernel
theorem k34_0 : look (codL 34) 0 = some (.iconst 0, 1, 0, 0, 0) := by decide +kernel
theorem k34_1 : look (codL 34) 1 = some (.istore_n 2, 1, 0, 0, 0) := by decide +kernel
theorem k34_2 : look (codL 34) 2 = some (.iconst 0, 1, 0, 0, 0) := by decide +kernel
theorem k34_3 : look (codL 34) 3 = some (.istore_n 3, 1, 0, 0, 0) := by decide +kernel
theorem k34_4 : look (codL 34) 4 = some (.iload_n 3, 1, 0, 0, 0) := by decide +kernel
theorem k34_5 : look (codL 34) 5 = some (.aload_n 0, 1, 0, 0, 0) := by decide +kernel
theorem k34_6 : look (codL 34) 6 = some (.getfield 28, 3, 4, 2, 0) := by decide +kernel
theorem k34_9 : look (codL 34) 9 = some (.if_icmp .ge 34, 3, 0, 0, 0) := by decide +kernel
theorem k34_12 : look (codL 34) 12 = some (.iload_n 2, 1, 0, 0, 0) := by decide +kernel
theorem k34_13 : look (codL 34) 13 = some (.aload_n 0, 1, 0, 0, 0) := by decide +kernel
theorem k34_14 : look (codL 34) 14 = some (.iload_n 3, 1, 0, 0, 0) := by decide +kernel
theorem k34_15 : look (codL 34) 15 = some (.invokevirtual 42, 3, 26, 2, 0) := by decide +kernel
theorem k34_18 : look (codL 34) 18 = some (.ifCond .eq 16, 3, 0, 0, 0) := by decide +kernel
theorem k34_21 : look (codL 34) 21 = some (.aload_n 0, 1, 0, 0, 0) := by decide +kernel
theorem k34_22 : look (codL 34) 22 = some (.iload_n 3, 1, 0, 0, 0) := by decide +kernel
theorem k34_23 : look (codL 34) 23 = some (.invokevirtual 52, 3, 33, 2, 0) := by decide +kernel
theorem k34_26 : look (codL 34) 26 = some (.iload_n 1, 1, 0, 0, 0) := by decide +kernel
theorem k34_27 : look (codL 34) 27 = some (.if_icmp .ne 7, 3, 0, 0, 0) := by decide +kernel
theorem k34_30 : look (codL 34) 30 = some (.iconst 1, 1, 0, 0, 0) := by decide +kernel
theorem k34_31 : look (codL 34) 31 = some (.goto 4, 3, 0, 0, 0) := by decide +kernel
theorem k34_34 : look (codL 34) 34 = some (.iconst 0, 1, 0, 0, 0) := by decide +kernel
theorem k34_35 : look (codL 34) 35 = some (.iadd, 1, 0, 0, 0) := by decide +kernel
theorem k34_36 : look (codL 34) 36 = some (.istore_n 2, 1, 0, 0, 0) := by decide +kernel
theorem k34_37 : look (codL 34) 37 = some (.iinc 3 1, 3, 0, 0, 0) := by decide +kernel
theorem k34_40 : look (codL 34) 40 = some (.goto (-36), 3, 0, 0, 0) := by decide +kernel
theorem k34_43 : look (codL 34) 43 = some (.iload_n 2, 1, 0, 0, 0) := by decide +kernel
theorem k34_44 : look (codL 34) 44 = some (.ireturn, 1, 0, 0, 0) := by decide +kernel
theorem k35_0 : look (codL 35) 0 = some (.iconst 0, 1, 0, 0, 0) := by decide +kernel
theorem k35_1 : look (codL 35) 1 = some (.istore_n 1, 1, 0, 0, 0) := by decide +kernel
theorem k35_2 : look (codL 35) 2 = some (.iconst 2, 1, 0, 0, 0) := by decide +kernel
theorem k35_3 : look (codL 35) 3 = some (.istore_n 2, 1, 0, 0, 0) := by decide +kernel
theorem k35_4 : look (codL 35) 4 = some (.iload_n 2, 1, 0, 0, 0) := by decide +kernel
theorem k35_5 : look (codL 35) 5 = some (.bipush 6, 2, 0, 0, 0) := by decide +kernel
theorem k35_7 : look (codL 35) 7 = some (.if_icmp .gt 19, 3, 0, 0, 0) := by decide +kernel
theorem k35_10 : look (codL 35) 10 = some (.iload_n 1, 1, 0, 0, 0) := by decide +kernel
theorem k35_11 : look (codL 35) 11 = some (.aload_n 0, 1, 0, 0, 0) := by decide +kernel
theorem k35_12 : look (codL 35) 12 = some (.iload_n 2, 1, 0, 0, 0) := by decide +kernel
theorem k35_13 : look (codL 35) 13 = some (.invokevirtual 55, 3, 34, 2, 0) := by decide +kernel
theorem k35_16 : look (codL 35) 16 = some (.iload_n 2, 1, 0, 0, 0) := by decide +kernel
theorem k35_17 : look (codL 35) 17 = some (.idiv, 1, 0, 0, 0) := by decide +kernel
theorem k35_18 : look (codL 35) 18 = some (.iadd, 1, 0, 0, 0) := by decide +kernel
theorem k35_19 : look (codL 35) 19 = some (.istore_n 1, 1, 0, 0, 0) := by decide +kernel
theorem k35_20 : look (codL 35) 20 = some (.iinc 2 1, 3, 0, 0, 0) := by decide +kernel
theorem k35_23 : look (codL 35) 23 = some (.goto (-19), 3, 0, 0, 0) := by decide +kernel
theorem k35_26 : look (codL 35) 26 = some (.iload_n 1, 1, 0, 0, 0) := by decide +kernel
theorem k35_27 : look (codL 35) 27 = some (.ireturn, 1, 0, 0, 0) := by decide +kernel
theorem k36_0 : look (codL 36) 0 = some (.iconst 0, 1, 0, 0, 0) := by decide +kernel
theorem k36_1 : look (codL 36) 1 = some (.istore_n 1, 1, 0, 0, 0) := by decide +kernel
theorem k36_2 : look (codL 36) 2 = some (.iconst 0, 1, 0, 0, 0) := by decide +kernel
theorem k36_3 : look (codL 36) 3 = some (.istore_n 2, 1, 0, 0, 0) := by decide +kernel
theorem k36_4 : look (codL 36) 4 = some (.iload_n 2, 1, 0, 0, 0) := by decide +kernel
theorem k36_5 : look (codL 36) 5 = some (.aload_n 0, 1, 0, 0, 0) := by decide +kernel
theorem k36_6 : look (codL 36) 6 = some (.getfield 28, 3, 4, 2, 0) := by decide +kernel
theorem k36_9 : look (codL 36) 9 = some (.if_icmp .ge 31, 3, 0, 0, 0) := by decide +kernel
theorem k36_12 : look (codL 36) 12 = some (.aload_n 0, 1, 0, 0, 0) := by decide +kernel
theorem k36_13 : look (codL 36) 13 = some (.iload_n 2, 1, 0, 0, 0) := by decide +kernel
theorem k36_14 : look (codL 36) 14 = some (.invokevirtual 42, 3, 26, 2, 0) := by decide +kernel
theorem k36_17 : look (codL 36) 17 = some (.ifCond .eq 15, 3, 0, 0, 0) := by decide +kernel
theorem k36_20 : look (codL 36) 20 = some (.iload_n 1, 1, 0, 0, 0) := by decide +kernel
theorem k36_21 : look (codL 36) 21 = some (.aload_n 0, 1, 0, 0, 0) := by decide +kernel
theorem k36_22 : look (codL 36) 22 = some (.iload_n 2, 1, 0, 0, 0) := by decide +kernel
theorem k36_23 : look (codL 36) 23 = some (.invokevirtual 52, 3, 33, 2, 0) := by decide +kernel
theorem k36_26 : look (codL 36) 26 = some (.invokestatic 58, 3, 1002, 0, 0) := by decide +kernel
theorem k36_29 : look (codL 36) 29 = some (.goto 4, 3, 0, 0, 0) := by decide +kernel
theorem k36_32 : look (codL 36) 32 = some (.iload_n 1, 1, 0, 0, 0) := by decide +kernel
theorem k36_33 : look (codL 36) 33 = some (.istore_n 1, 1, 0, 0, 0) := by decide +kernel
theorem k36_34 : look (codL 36) 34 = some (.iinc 2 1, 3, 0, 0, 0) := by decide +kernel
theorem k36_37 : look (codL 36) 37 = some (.goto (-33), 3, 0, 0, 0) := by decide +kernel
theorem k36_40 : look (codL 36) 40 = some (.iload_n 1, 1, 0, 0, 0) := by decide +kernel
theorem k36_41 : look (codL 36) 41 = some (.ireturn, 1, 0, 0, 0) := by decide +kernel
theorem k37_0 : look (codL 37) 0 = some (.aload_n 0, 1, 0, 0, 0) := by decide +kernel
theorem k37_1 : look (codL 37) 1 = some (.iconst 0, 1, 0, 0, 0) := by decide +kernel
theorem k37_2 : look (codL 37) 2 = some (.invokevirtual 55, 3, 34, 2, 0) := by decide +kernel
theorem k37_5 : look (codL 37) 5 = some (.ireturn, 1, 0, 0, 0) := by decide +kernel
theorem k39_0 : look (codL 39) 0 = some (.aload_n 1, 1, 0, 0, 0) := by decide +kernel
theorem k39_1 : look (codL 39) 1 = some (.iload_n 2, 1, 0, 0, 0) := by decide +kernel
theorem k39_2 : look (codL 39) 2 = some (.invokevirtual 18, 3, 7, 2, 0) := by decide +kernel
theorem k39_5 : look (codL 39) 5 = some (.iconst 0, 1, 0, 0, 0) := by decide +kernel
theorem k39_6 : look (codL 39) 6 = some (.istore_n 3, 1, 0, 0, 0) := by decide +kernel
theorem k39_7 : look (codL 39) 7 = some (.iload_n 3, 1, 0, 0, 0) := by decide +kernel
theorem k39_8 : look (codL 39) 8 = some (.bipush 32, 2, 0, 0, 0) := by decide +kernel
theorem k39_10 : look (codL 39) 10 = some (.if_icmp .ge 22, 3, 0, 0, 0) := by decide +kernel
theorem k39_13 : look (codL 39) 13 = some (.aload_n 0, 1, 0, 0, 0) := by decide +kernel
theorem k39_14 : look (codL 39) 14 = some (.getfield 11, 3, 5, 0, 0) := by decide +kernel
theorem k39_17 : look (codL 39) 17 = some (.iload_n 3, 1, 0, 0, 0) := by decide +kernel
theorem k39_18 : look (codL 39) 18 = some (.aload_n 1, 1, 0, 0, 0) := by decide +kernel
theorem k39_19 : look (codL 39) 19 = some (.sipush 256, 3, 0, 0, 0) := by decide +kernel
theorem k39_22 : look (codL 39) 22 = some (.invokevirtual 24, 3, 8, 2, 0) := by decide +kernel
theorem k39_25 : look (codL 39) 25 = some (.iastore, 1, 0, 0, 0) := by decide +kernel
theorem k39_26 : look (codL 39) 26 = some (.iinc 3 1, 3, 0, 0, 0) := by decide +kernel
theorem k39_29 : look (codL 39) 29 = some (.goto (-22), 3, 0, 0, 0) := by decide +kernel
theorem k39_32 : look (codL 39) 32 = some (.return_, 1, 0, 0, 0) := by decide +kernel
theorem k40_0 : look (codL 40) 0 = some (.iload_n 3, 1, 0, 0, 0) := by decide +kernel
theorem k40_1 : look (codL 40) 1 = some (.invokestatic 28, 3, 2, 1, 0) := by decide +kernel
theorem k40_4 : look (codL 40) 4 = some (.istore 4, 2, 0, 0, 0) := by decide +kernel
theorem k40_6 : look (codL 40) 6 = some (.iconst 0, 1, 0, 0, 0) := by decide +kernel
theorem k40_7 : look (codL 40) 7 = some (.istore 5, 2, 0, 0, 0) := by decide +kernel
theorem k40_9 : look (codL 40) 9 = some (.iload 5, 2, 0, 0, 0) := by decide +kernel
theorem k40_11 : look (codL 40) 11 = some (.iload 4, 2, 0, 0, 0) := by decide +kernel
theorem k40_13 : look (codL 40) 13 = some (.if_icmp .ge 30, 3, 0, 0, 0) := by decide +kernel
theorem k40_16 : look (codL 40) 16 = some (.aload_n 0, 1, 0, 0, 0) := by decide +kernel
theorem k40_17 : look (codL 40) 17 = some (.getfield 11, 3, 5, 0, 0) := by decide +kernel
theorem k40_20 : look (codL 40) 20 = some (.iload_n 3, 1, 0, 0, 0) := by decide +kernel
theorem k40_21 : look (codL 40) 21 = some (.invokestatic 33, 3, 1, 1, 0) := by decide +kernel
theorem k40_24 : look (codL 40) 24 = some (.iload 5, 2, 0, 0, 0) := by decide +kernel
theorem k40_26 : look (codL 40) 26 = some (.iadd, 1, 0, 0, 0) := by decide +kernel
theorem k40_27 : look (codL 40) 27 = some (.aload_n 1, 1, 0, 0, 0) := by decide +kernel
theorem k40_28 : look (codL 40) 28 = some (.iload_n 2, 1, 0, 0, 0) := by decide +kernel
theorem k40_29 : look (codL 40) 29 = some (.invokestatic 33, 3, 1, 1, 0) := by decide +kernel
theorem k40_32 : look (codL 40) 32 = some (.iload 5, 2, 0, 0, 0) := by decide +kernel
theorem k40_34 : look (codL 40) 34 = some (.iadd, 1, 0, 0, 0) := by decide +kernel
theorem k40_35 : look (codL 40) 35 = some (.iaload, 1, 0, 0, 0) := by decide +kernel
theorem k40_36 : look (codL 40) 36 = some (.iastore, 1, 0, 0, 0) := by decide +kernel
theorem k40_37 : look (codL 40) 37 = some (.iinc 5 1, 3, 0, 0, 0) := by decide +kernel
theorem k40_40 : look (codL 40) 40 = some (.goto (-31), 3, 0, 0, 0) := by decide +kernel
theorem k40_43 : look (codL 40) 43 = some (.return_, 1, 0, 0, 0) := by decide +kernel
theorem k41_0 : look (codL 41) 0 = some (.iconst (-1), 1, 0, 0, 0) := by decide +kernel
theorem k41_1 : look (codL 41) 1 = some (.iload_n 1, 1, 0, 0, 0) := by decide +kernel
theorem k41_2 : look (codL 41) 2 = some (.isub, 1, 0, 0, 0) := by decide +kernel
theorem k41_3 : look (codL 41) 3 = some (.istore_n 3, 1, 0, 0, 0) := by decide +kernel
theorem k41_4 : look (codL 41) 4 = some (.iconst 0, 1, 0, 0, 0) := by decide +kernel
theorem k41_5 : look (codL 41) 5 = some (.istore 4, 2, 0, 0, 0) := by decide +kernel
theorem k41_7 : look (codL 41) 7 = some (.iload 4, 2, 0, 0, 0) := by decide +kernel
theorem k41_9 : look (codL 41) 9 = some (.iload_n 2, 1, 0, 0, 0) := by decide +kernel
theorem k41_10 : look (codL 41) 10 = some (.invokestatic 28, 3, 2, 1, 0) := by decide +kernel
theorem k41_13 : look (codL 41) 13 = some (.if_icmp .ge 32, 3, 0, 0, 0) := by decide +kernel
theorem k41_16 : look (codL 41) 16 = some (.aload_n 0, 1, 0, 0, 0) := by decide +kernel
theorem k41_17 : look (codL 41) 17 = some (.getfield 11, 3, 5, 0, 0) := by decide +kernel
theorem k41_20 : look (codL 41) 20 = some (.iload_n 2, 1, 0, 0, 0) := by decide +kernel
theorem k41_21 : look (codL 41) 21 = some (.invokestatic 33, 3, 1, 1, 0) := by decide +kernel
theorem k41_24 : look (codL 41) 24 = some (.iload 4, 2, 0, 0, 0) := by decide +kernel
theorem k41_26 : look (codL 41) 26 = some (.iadd, 1, 0, 0, 0) := by decide +kernel
theorem k41_27 : look (codL 41) 27 = some (.iload_n 3, 1, 0, 0, 0) := by decide +kernel
theorem k41_28 : look (codL 41) 28 = some (.sipush 256, 3, 0, 0, 0) := by decide +kernel
theorem k41_31 : look (codL 41) 31 = some (.irem, 1, 0, 0, 0) := by decide +kernel
theorem k41_32 : look (codL 41) 32 = some (.iastore, 1, 0, 0, 0) := by decide +kernel
theorem k41_33 : look (codL 41) 33 = some (.iload_n 3, 1, 0, 0, 0) := by decide +kernel
theorem k41_34 : look (codL 41) 34 = some (.sipush 256, 3, 0, 0, 0) := by decide +kernel
theorem k41_37 : look (codL 41) 37 = some (.idiv, 1, 0, 0, 0) := by decide +kernel
theorem k41_38 : look (codL 41) 38 = some (.istore_n 3, 1, 0, 0, 0) := by decide +kernel
theorem k41_39 : look (codL 41) 39 = some (.iinc 4 1, 3, 0, 0, 0) := by decide +kernel
theorem k41_42 : look (codL 41) 42 = some (.goto (-35), 3, 0, 0, 0) := by decide +kernel
theorem k41_45 : look (codL 41) 45 = some (.return_, 1, 0, 0, 0) := by decide +kernel
theorem k42_0 : look (codL 42) 0 = some (.aload_n 0, 1, 0, 0, 0) := by decide +kernel
theorem k42_1 : look (codL 42) 1 = some (.getfield 11, 3, 5, 0, 0) := by decide +kernel
theorem k42_4 : look (codL 42) 4 = some (.iconst 0, 1, 0, 0, 0) := by decide +kernel
theorem k42_5 : look (codL 42) 5 = some (.aload_n 0, 1, 0, 0, 0) := by decide +kernel
theorem k42_6 : look (codL 42) 6 = some (.getfield 15, 3, 5, 1, 0) := by decide +kernel
theorem k42_9 : look (codL 42) 9 = some (.iconst 0, 1, 0, 0, 0) := by decide +kernel
theorem k42_10 : look (codL 42) 10 = some (.bipush 36, 2, 0, 0, 0) := by decide +kernel
theorem k42_12 : look (codL 42) 12 = some (.invokestatic 36, 3, 1001, 0, 0) := by decide +kernel
theorem k42_15 : look (codL 42) 15 = some (.aload_n 0, 1, 0, 0, 0) := by decide +kernel
theorem k42_16 : look (codL 42) 16 = some (.aload_n 0, 1, 0, 0, 0) := by decide +kernel
theorem k42_17 : look (codL 42) 17 = some (.getfield 15, 3, 5, 1, 0) := by decide +kernel
theorem k42_20 : look (codL 42) 20 = some (.iload_n 2, 1, 0, 0, 0) := by decide +kernel
theorem k42_21 : look (codL 42) 21 = some (.iload_n 1, 1, 0, 0, 0) := by decide +kernel
theorem k42_22 : look (codL 42) 22 = some (.invokevirtual 42, 3, 40, 4, 0) := by decide +kernel
theorem k42_25 : look (codL 42) 25 = some (.aload_n 0, 1, 0, 0, 0) := by decide +kernel
theorem k42_26 : look (codL 42) 26 = some (.aload_n 0, 1, 0, 0, 0) := by decide +kernel
theorem k42_27 : look (codL 42) 27 = some (.getfield 15, 3, 5, 1, 0) := by decide +kernel
theorem k42_30 : look (codL 42) 30 = some (.iload_n 1, 1, 0, 0, 0) := by decide +kernel
theorem k42_31 : look (codL 42) 31 = some (.iload_n 2, 1, 0, 0, 0) := by decide +kernel
theorem k42_32 : look (codL 42) 32 = some (.invokevirtual 42, 3, 40, 4, 0) := by decide +kernel
theorem k42_35 : look (codL 42) 35 = some (.return_, 1, 0, 0, 0) := by decide +kernel
theorem k43_0 : look (codL 43) 0 = some (.aload_n 0, 1, 0, 0, 0) := by decide +kernel
theorem k43_1 : look (codL 43) 1 = some (.getfield 11, 3, 5, 0, 0) := by decide +kernel
theorem k43_4 : look (codL 43) 4 = some (.iconst 0, 1, 0, 0, 0) := by decide +kernel
theorem k43_5 : look (codL 43) 5 = some (.aload_n 0, 1, 0, 0, 0) := by decide +kernel
theorem k43_6 : look (codL 43) 6 = some (.getfield 15, 3, 5, 1, 0) := by decide +kernel
theorem k43_9 : look (codL 43) 9 = some (.iconst 0, 1, 0, 0, 0) := by decide +kernel
theorem k43_10 : look (codL 43) 10 = some (.bipush 36, 2, 0, 0, 0) := by decide +kernel
theorem k43_12 : look (codL 43) 12 = some (.invokestatic 36, 3, 1001, 0, 0) := by decide +kernel
theorem k43_15 : look (codL 43) 15 = some (.iconst 0, 1, 0, 0, 0) := by decide +kernel
theorem k43_16 : look (codL 43) 16 = some (.istore_n 3, 1, 0, 0, 0) := by decide +kernel
theorem k43_17 : look (codL 43) 17 = some (.iload_n 3, 1, 0, 0, 0) := by decide +kernel
theorem k43_18 : look (codL 43) 18 = some (.aload_n 1, 1, 0, 0, 0) := by decide +kernel
theorem k43_19 : look (codL 43) 19 = some (.getfield 46, 3, 0, 1, 0) := by decide +kernel
theorem k43_22 : look (codL 43) 22 = some (.if_icmp .ge 57, 3, 0, 0, 0) := by decide +kernel
theorem k43_25 : look (codL 43) 25 = some (.aload_n 2, 1, 0, 0, 0) := by decide +kernel
theorem k43_26 : look (codL 43) 26 = some (.getfield 52, 3, 2, 0, 0) := by decide +kernel
theorem k43_29 : look (codL 43) 29 = some (.iload_n 3, 1, 0, 0, 0) := by decide +kernel
theorem k43_30 : look (codL 43) 30 = some (.iaload, 1, 0, 0, 0) := by decide +kernel
theorem k43_31 : look (codL 43) 31 = some (.ifCond .ge 22, 3, 0, 0, 0) := by decide +kernel
theorem k43_34 : look (codL 43) 34 = some (.aload_n 0, 1, 0, 0, 0) := by decide +kernel
theorem k43_35 : look (codL 43) 35 = some (.aload_n 2, 1, 0, 0, 0) := by decide +kernel
theorem k43_36 : look (codL 43) 36 = some (.getfield 52, 3, 2, 0, 0) := by decide +kernel
theorem k43_39 : look (codL 43) 39 = some (.iload_n 3, 1, 0, 0, 0) := by decide +kernel
theorem k43_40 : look (codL 43) 40 = some (.iaload, 1, 0, 0, 0) := by decide +kernel
theorem k43_41 : look (codL 43) 41 = some (.aload_n 1, 1, 0, 0, 0) := by decide +kernel
theorem k43_42 : look (codL 43) 42 = some (.getfield 57, 3, 0, 0, 0) := by decide +kernel
theorem k43_45 : look (codL 43) 45 = some (.iload_n 3, 1, 0, 0, 0) := by decide +kernel
theorem k43_46 : look (codL 43) 46 = some (.iaload, 1, 0, 0, 0) := by decide +kernel
theorem k43_47 : look (codL 43) 47 = some (.invokevirtual 60, 3, 41, 3, 0) := by decide +kernel
theorem k43_50 : look (codL 43) 50 = some (.goto 23, 3, 0, 0, 0) := by decide +kernel
theorem k43_53 : look (codL 43) 53 = some (.aload_n 0, 1, 0, 0, 0) := by decide +kernel
theorem k43_54 : look (codL 43) 54 = some (.aload_n 0, 1, 0, 0, 0) := by decide +kernel
theorem k43_55 : look (codL 43) 55 = some (.getfield 15, 3, 5, 1, 0) := by decide +kernel
theorem k43_58 : look (codL 43) 58 = some (.aload_n 2, 1, 0, 0, 0) := by decide +kernel
theorem k43_59 : look (codL 43) 59 = some (.getfield 52, 3, 2, 0, 0) := by decide +kernel
theorem k43_62 : look (codL 43) 62 = some (.iload_n 3, 1, 0, 0, 0) := by decide +kernel
theorem k43_63 : look (codL 43) 63 = some (.iaload, 1, 0, 0, 0) := by decide +kernel
theorem k43_64 : look (codL 43) 64 = some (.aload_n 1, 1, 0, 0, 0) := by decide +kernel
theorem k43_65 : look (codL 43) 65 = some (.getfield 57, 3, 0, 0, 0) := by decide +kernel
theorem k43_68 : look (codL 43) 68 = some (.iload_n 3, 1, 0, 0, 0) := by decide +kernel
theorem k43_69 : look (codL 43) 69 = some (.iaload, 1, 0, 0, 0) := by decide +kernel
theorem k43_70 : look (codL 43) 70 = some (.invokevirtual 42, 3, 40, 4, 0) := by decide +kernel
theorem k43_73 : look (codL 43) 73 = some (.iinc 3 1, 3, 0, 0, 0) := by decide +kernel
theorem k43_76 : look (codL 43) 76 = some (.goto (-59), 3, 0, 0, 0) := by decide +kernel
theorem k43_79 : look (codL 43) 79 = some (.return_, 1, 0, 0, 0) := by decide +kernel
theorem k44_0 : look (codL 44) 0 = some (.iconst 0, 1, 0, 0, 0) := by decide +kernel
theorem k44_1 : look (codL 44) 1 = some (.istore_n 2, 1, 0, 0, 0) := by decide +kernel
theorem k44_2 : look (codL 44) 2 = some (.iload_n 2, 1, 0, 0, 0) := by decide +kernel
theorem k44_3 : look (codL 44) 3 = some (.aload_n 1, 1, 0, 0, 0) := by decide +kernel
theorem k44_4 : look (codL 44) 4 = some (.getfield 64, 3, 6, 3, 0) := by decide +kernel
theorem k44_7 : look (codL 44) 7 = some (.if_icmp .ge 87, 3, 0, 0, 0) := by decide +kernel
theorem k44_10 : look (codL 44) 10 = some (.aload_n 1, 1, 0, 0, 0) := by decide +kernel
theorem k44_11 : look (codL 44) 11 = some (.getfield 67, 3, 6, 0, 0) := by decide +kernel
theorem k44_14 : look (codL 44) 14 = some (.iload_n 2, 1, 0, 0, 0) := by decide +kernel
theorem k44_15 : look (codL 44) 15 = some (.iaload, 1, 0, 0, 0) := by decide +kernel
theorem k44_16 : look (codL 44) 16 = some (.iconst 2, 1, 0, 0, 0) := by decide +kernel
theorem k44_17 : look (codL 44) 17 = some (.if_icmp .ne 22, 3, 0, 0, 0) := by decide +kernel
theorem k44_20 : look (codL 44) 20 = some (.aload_n 0, 1, 0, 0, 0) := by decide +kernel
theorem k44_21 : look (codL 44) 21 = some (.aload_n 1, 1, 0, 0, 0) := by decide +kernel
theorem k44_22 : look (codL 44) 22 = some (.getfield 70, 3, 6, 2, 0) := by decide +kernel
theorem k44_25 : look (codL 44) 25 = some (.iload_n 2, 1, 0, 0, 0) := by decide +kernel
theorem k44_26 : look (codL 44) 26 = some (.iaload, 1, 0, 0, 0) := by decide +kernel
theorem k44_27 : look (codL 44) 27 = some (.aload_n 1, 1, 0, 0, 0) := by decide +kernel
theorem k44_28 : look (codL 44) 28 = some (.getfield 73, 3, 6, 1, 0) := by decide +kernel
theorem k44_31 : look (codL 44) 31 = some (.iload_n 2, 1, 0, 0, 0) := by decide +kernel
theorem k44_32 : look (codL 44) 32 = some (.iaload, 1, 0, 0, 0) := by decide +kernel
theorem k44_33 : look (codL 44) 33 = some (.invokevirtual 60, 3, 41, 3, 0) := by decide +kernel
theorem k44_36 : look (codL 44) 36 = some (.goto 52, 3, 0, 0, 0) := by decide +kernel
theorem k44_39 : look (codL 44) 39 = some (.aload_n 1, 1, 0, 0, 0) := by decide +kernel
theorem k44_40 : look (codL 44) 40 = some (.getfield 67, 3, 6, 0, 0) := by decide +kernel
theorem k44_43 : look (codL 44) 43 = some (.iload_n 2, 1, 0, 0, 0) := by decide +kernel
theorem k44_44 : look (codL 44) 44 = some (.iaload, 1, 0, 0, 0) := by decide +kernel
theorem k44_45 : look (codL 44) 45 = some (.iconst 1, 1, 0, 0, 0) := by decide +kernel
theorem k44_46 : look (codL 44) 46 = some (.if_icmp .ne 22, 3, 0, 0, 0) := by decide +kernel
theorem k44_49 : look (codL 44) 49 = some (.aload_n 0, 1, 0, 0, 0) := by decide +kernel
theorem k44_50 : look (codL 44) 50 = some (.aload_n 1, 1, 0, 0, 0) := by decide +kernel
theorem k44_51 : look (codL 44) 51 = some (.getfield 73, 3, 6, 1, 0) := by decide +kernel
theorem k44_54 : look (codL 44) 54 = some (.iload_n 2, 1, 0, 0, 0) := by decide +kernel
theorem k44_55 : look (codL 44) 55 = some (.iaload, 1, 0, 0, 0) := by decide +kernel
theorem k44_56 : look (codL 44) 56 = some (.aload_n 1, 1, 0, 0, 0) := by decide +kernel
theorem k44_57 : look (codL 44) 57 = some (.getfield 70, 3, 6, 2, 0) := by decide +kernel
theorem k44_60 : look (codL 44) 60 = some (.iload_n 2, 1, 0, 0, 0) := by decide +kernel
theorem k44_61 : look (codL 44) 61 = some (.iaload, 1, 0, 0, 0) := by decide +kernel
theorem k44_62 : look (codL 44) 62 = some (.invokevirtual 76, 3, 42, 3, 0) := by decide +kernel
theorem k44_65 : look (codL 44) 65 = some (.goto 23, 3, 0, 0, 0) := by decide +kernel
theorem k44_68 : look (codL 44) 68 = some (.aload_n 0, 1, 0, 0, 0) := by decide +kernel
theorem k44_69 : look (codL 44) 69 = some (.aload_n 0, 1, 0, 0, 0) := by decide +kernel
theorem k44_70 : look (codL 44) 70 = some (.getfield 11, 3, 5, 0, 0) := by decide +kernel
theorem k44_73 : look (codL 44) 73 = some (.aload_n 1, 1, 0, 0, 0) := by decide +kernel
theorem k44_74 : look (codL 44) 74 = some (.getfield 70, 3, 6, 2, 0) := by decide +kernel
theorem k44_77 : look (codL 44) 77 = some (.iload_n 2, 1, 0, 0, 0) := by decide +kernel
theorem k44_78 : look (codL 44) 78 = some (.iaload, 1, 0, 0, 0) := by decide +kernel
theorem k44_79 : look (codL 44) 79 = some (.aload_n 1, 1, 0, 0, 0) := by decide +kernel
theorem k44_80 : look (codL 44) 80 = some (.getfield 73, 3, 6, 1, 0) := by decide +kernel
theorem k44_83 : look (codL 44) 83 = some (.iload_n 2, 1, 0, 0, 0) := by decide +kernel
theorem k44_84 : look (codL 44) 84 = some (.iaload, 1, 0, 0, 0) := by decide +kernel
theorem k44_85 : look (codL 44) 85 = some (.invokevirtual 42, 3, 40, 4, 0) := by decide +kernel
theorem k44_88 : look (codL 44) 88 = some (.iinc 2 1, 3, 0, 0, 0) := by decide +kernel
theorem k44_91 : look (codL 44) 91 = some (.goto (-89), 3, 0, 0, 0) := by decide +kernel
theorem k44_94 : look (codL 44) 94 = some (.return_, 1, 0, 0, 0) := by decide +kernel
theorem k45_0 : look (codL 45) 0 = some (.lconst 1, 1, 0, 0, 0) := by decide +kernel
theorem k45_1 : look (codL 45) 1 = some (.lstore_n 1, 1, 0, 0, 0) := by decide +kernel
theorem k45_2 : look (codL 45) 2 = some (.iconst 0, 1, 0, 0, 0) := by decide +kernel
theorem k45_3 : look (codL 45) 3 = some (.istore_n 3, 1, 0, 0, 0) := by decide +kernel
theorem k45_4 : look (codL 45) 4 = some (.iload_n 3, 1, 0, 0, 0) := by decide +kernel
theorem k45_5 : look (codL 45) 5 = some (.bipush 32, 2, 0, 0, 0) := by decide +kernel
theorem k45_7 : look (codL 45) 7 = some (.if_icmp .ge 23, 3, 0, 0, 0) := by decide +kernel
theorem k45_10 : look (codL 45) 10 = some (.ldc2_w 79, 3, 0, 0, 31) := by decide +kernel
theorem k45_13 : look (codL 45) 13 = some (.lload_n 1, 1, 0, 0, 0) := by decide +kernel
theorem k45_14 : look (codL 45) 14 = some (.lmul, 1, 0, 0, 0) := by decide +kernel
theorem k45_15 : look (codL 45) 15 = some (.aload_n 0, 1, 0, 0, 0) := by decide +kernel
theorem k45_16 : look (codL 45) 16 = some (.getfield 11, 3, 5, 0, 0) := by decide +kernel
theorem k45_19 : look (codL 45) 19 = some (.iload_n 3, 1, 0, 0, 0) := by decide +kernel
theorem k45_20 : look (codL 45) 20 = some (.iaload, 1, 0, 0, 0) := by decide +kernel
theorem k45_21 : look (codL 45) 21 = some (.i2l, 1, 0, 0, 0) := by decide +kernel
theorem k45_22 : look (codL 45) 22 = some (.ladd, 1, 0, 0, 0) := by decide +kernel
theorem k45_23 : look (codL 45) 23 = some (.lstore_n 1, 1, 0, 0, 0) := by decide +kernel
theorem k45_24 : look (codL 45) 24 = some (.iinc 3 1, 3, 0, 0, 0) := by decide +kernel
theorem k45_27 : look (codL 45) 27 = some (.goto (-23), 3, 0, 0, 0) := by decide +kernel
theorem k45_30 : look (codL 45) 30 = some (.lload_n 1, 1, 0, 0, 0) := by decide +kernel
theorem k45_31 : look (codL 45) 31 = some (.lreturn, 1, 0, 0, 0) := by decide +kernel
theorem k47_0 : look (codL 47) 0 = some (.aload_n 0, 1, 0, 0, 0) := by decide +kernel
theorem k47_1 : look (codL 47) 1 = some (.aload_n 1, 1, 0, 0, 0) := by decide +kernel
theorem k47_2 : look (codL 47) 2 = some (.getfield 59, 3, 4, 0, 0) := by decide +kernel
theorem k47_5 : look (codL 47) 5 = some (.putfield 21, 3, 6, 5, 0) := by decide +kernel
theorem k47_8 : look (codL 47) 8 = some (.aload_n 0, 1, 0, 0, 0) := by decide +kernel
theorem k47_9 : look (codL 47) 9 = some (.aload_n 1, 1, 0, 0, 0) := by decide +kernel
theorem k47_10 : look (codL 47) 10 = some (.getfield 62, 3, 4, 2, 0) := by decide +kernel
theorem k47_13 : look (codL 47) 13 = some (.putfield 63, 3, 6, 6, 0) := by decide +kernel
theorem k47_16 : look (codL 47) 16 = some (.aload_n 0, 1, 0, 0, 0) := by decide +kernel
theorem k47_17 : look (codL 47) 17 = some (.iconst 0, 1, 0, 0, 0) := by decide +kernel
theorem k47_18 : look (codL 47) 18 = some (.putfield 42, 3, 6, 9, 0) := by decide +kernel
theorem k47_21 : look (codL 47) 21 = some (.iconst 0, 1, 0, 0, 0) := by decide +kernel
theorem k47_22 : look (codL 47) 22 = some (.istore_n 2, 1, 0, 0, 0) := by decide +kernel
theorem k47_23 : look (codL 47) 23 = some (.iload_n 2, 1, 0, 0, 0) := by decide +kernel
theorem k47_24 : look (codL 47) 24 = some (.aload_n 0, 1, 0, 0, 0) := by decide +kernel
theorem k47_25 : look (codL 47) 25 = some (.getfield 63, 3, 6, 6, 0) := by decide +kernel
theorem k47_28 : look (codL 47) 28 = some (.if_icmp .ge 55, 3, 0, 0, 0) := by decide +kernel
theorem k47_31 : look (codL 47) 31 = some (.aload_n 0, 1, 0, 0, 0) := by decide +kernel
theorem k47_32 : look (codL 47) 32 = some (.getfield 24, 3, 6, 7, 0) := by decide +kernel
theorem k47_35 : look (codL 47) 35 = some (.iload_n 2, 1, 0, 0, 0) := by decide +kernel
theorem k47_36 : look (codL 47) 36 = some (.aload_n 1, 1, 0, 0, 0) := by decide +kernel
theorem k47_37 : look (codL 47) 37 = some (.getfield 66, 3, 4, 1, 0) := by decide +kernel
theorem k47_40 : look (codL 47) 40 = some (.iload_n 2, 1, 0, 0, 0) := by decide +kernel
theorem k47_41 : look (codL 47) 41 = some (.iaload, 1, 0, 0, 0) := by decide +kernel
theorem k47_42 : look (codL 47) 42 = some (.iastore, 1, 0, 0, 0) := by decide +kernel
theorem k47_43 : look (codL 47) 43 = some (.aload_n 0, 1, 0, 0, 0) := by decide +kernel
theorem k47_44 : look (codL 47) 44 = some (.getfield 27, 3, 6, 8, 0) := by decide +kernel
theorem k47_47 : look (codL 47) 47 = some (.iload_n 2, 1, 0, 0, 0) := by decide +kernel
theorem k47_48 : look (codL 47) 48 = some (.aload_n 1, 1, 0, 0, 0) := by decide +kernel
theorem k47_49 : look (codL 47) 49 = some (.iload_n 2, 1, 0, 0, 0) := by decide +kernel
theorem k47_50 : look (codL 47) 50 = some (.invokevirtual 69, 3, 26, 2, 0) := by decide +kernel
theorem k47_53 : look (codL 47) 53 = some (.bastore, 1, 0, 0, 0) := by decide +kernel
theorem k47_54 : look (codL 47) 54 = some (.aload_n 0, 1, 0, 0, 0) := by decide +kernel
theorem k47_55 : look (codL 47) 55 = some (.dup, 1, 0, 0, 0) := by decide +kernel
theorem k47_56 : look (codL 47) 56 = some (.getfield 42, 3, 6, 9, 0) := by decide +kernel
theorem k47_59 : look (codL 47) 59 = some (.aload_n 0, 1, 0, 0, 0) := by decide +kernel
theorem k47_60 : look (codL 47) 60 = some (.getfield 27, 3, 6, 8, 0) := by decide +kernel
theorem k47_63 : look (codL 47) 63 = some (.iload_n 2, 1, 0, 0, 0) := by decide +kernel
theorem k47_64 : look (codL 47) 64 = some (.baload, 1, 0, 0, 0) := by decide +kernel
theorem k47_65 : look (codL 47) 65 = some (.ifCond .eq 7, 3, 0, 0, 0) := by decide +kernel
theorem k47_68 : look (codL 47) 68 = some (.iconst 1, 1, 0, 0, 0) := by decide +kernel
theorem k47_69 : look (codL 47) 69 = some (.goto 4, 3, 0, 0, 0) := by decide +kernel
theorem k47_72 : look (codL 47) 72 = some (.iconst 0, 1, 0, 0, 0) := by decide +kernel
theorem k47_73 : look (codL 47) 73 = some (.iadd, 1, 0, 0, 0) := by decide +kernel
theorem k47_74 : look (codL 47) 74 = some (.putfield 42, 3, 6, 9, 0) := by decide +kernel
theorem k47_77 : look (codL 47) 77 = some (.iinc 2 1, 3, 0, 0, 0) := by decide +kernel
theorem k47_80 : look (codL 47) 80 = some (.goto (-57), 3, 0, 0, 0) := by decide +kernel
theorem k47_83 : look (codL 47) 83 = some (.return_, 1, 0, 0, 0) := by decide +kernel
theorem k48_0 : look (codL 48) 0 = some (.iconst 0, 1, 0, 0, 0) := by decide +kernel
theorem k48_1 : look (codL 48) 1 = some (.istore_n 2, 1, 0, 0, 0) := by decide +kernel
theorem k48_2 : look (codL 48) 2 = some (.iload_n 2, 1, 0, 0, 0) := by decide +kernel
theorem k48_3 : look (codL 48) 3 = some (.aload_n 0, 1, 0, 0, 0) := by decide +kernel
theorem k48_4 : look (codL 48) 4 = some (.getfield 63, 3, 6, 6, 0) := by decide +kernel
theorem k48_7 : look (codL 48) 7 = some (.if_icmp .ge 30, 3, 0, 0, 0) := by decide +kernel
theorem k48_10 : look (codL 48) 10 = some (.aload_n 0, 1, 0, 0, 0) := by decide +kernel
theorem k48_11 : look (codL 48) 11 = some (.getfield 27, 3, 6, 8, 0) := by decide +kernel
theorem k48_14 : look (codL 48) 14 = some (.iload_n 2, 1, 0, 0, 0) := by decide +kernel
theorem k48_15 : look (codL 48) 15 = some (.baload, 1, 0, 0, 0) := by decide +kernel
theorem k48_16 : look (codL 48) 16 = some (.ifCond .eq 15, 3, 0, 0, 0) := by decide +kernel
theorem k48_19 : look (codL 48) 19 = some (.aload_n 0, 1, 0, 0, 0) := by decide +kernel
theorem k48_20 : look (codL 48) 20 = some (.getfield 24, 3, 6, 7, 0) := by decide +kernel
theorem k48_23 : look (codL 48) 23 = some (.iload_n 2, 1, 0, 0, 0) := by decide +kernel
theorem k48_24 : look (codL 48) 24 = some (.iaload, 1, 0, 0, 0) := by decide +kernel
theorem k48_25 : look (codL 48) 25 = some (.iload_n 1, 1, 0, 0, 0) := by decide +kernel
theorem k48_26 : look (codL 48) 26 = some (.if_icmp .ne 5, 3, 0, 0, 0) := by decide +kernel
theorem k48_29 : look (codL 48) 29 = some (.iconst 1, 1, 0, 0, 0) := by decide +kernel
theorem k48_30 : look (codL 48) 30 = some (.ireturn, 1, 0, 0, 0) := by decide +kernel
theorem k48_31 : look (codL 48) 31 = some (.iinc 2 1, 3, 0, 0, 0) := by decide +kernel
theorem k48_34 : look (codL 48) 34 = some (.goto (-32), 3, 0, 0, 0) := by decide +kernel
theorem k48_37 : look (codL 48) 37 = some (.iconst 0, 1, 0, 0, 0) := by decide +kernel
theorem k48_38 : look (codL 48) 38 = some (.ireturn, 1, 0, 0, 0) := by decide +kernel
theorem k49_0 : look (codL 49) 0 = some (.iconst (-1), 1, 0, 0, 0) := by decide +kernel
theorem k49_1 : look (codL 49) 1 = some (.istore_n 2, 1, 0, 0, 0) := by decide +kernel
theorem k49_2 : look (codL 49) 2 = some (.iconst 0, 1, 0, 0, 0) := by decide +kernel
theorem k49_3 : look (codL 49) 3 = some (.istore_n 3, 1, 0, 0, 0) := by decide +kernel
theorem k49_4 : look (codL 49) 4 = some (.iload_n 3, 1, 0, 0, 0) := by decide +kernel
theorem k49_5 : look (codL 49) 5 = some (.aload_n 0, 1, 0, 0, 0) := by decide +kernel
theorem k49_6 : look (codL 49) 6 = some (.getfield 63, 3, 6, 6, 0) := by decide +kernel
theorem k49_9 : look (codL 49) 9 = some (.if_icmp .ge 68, 3, 0, 0, 0) := by decide +kernel
theorem k49_12 : look (codL 49) 12 = some (.aload_n 0, 1, 0, 0, 0) := by decide +kernel
theorem k49_13 : look (codL 49) 13 = some (.getfield 27, 3, 6, 8, 0) := by decide +kernel
theorem k49_16 : look (codL 49) 16 = some (.iload_n 3, 1, 0, 0, 0) := by decide +kernel
theorem k49_17 : look (codL 49) 17 = some (.baload, 1, 0, 0, 0) := by decide +kernel
theorem k49_18 : look (codL 49) 18 = some (.ifCond .eq 24, 3, 0, 0, 0) := by decide +kernel
theorem k49_21 : look (codL 49) 21 = some (.iload_n 1, 1, 0, 0, 0) := by decide +kernel
theorem k49_22 : look (codL 49) 22 = some (.ifCond .eq 16, 3, 0, 0, 0) := by decide +kernel
theorem k49_25 : look (codL 49) 25 = some (.aload_n 0, 1, 0, 0, 0) := by decide +kernel
theorem k49_26 : look (codL 49) 26 = some (.aload_n 0, 1, 0, 0, 0) := by decide +kernel
theorem k49_27 : look (codL 49) 27 = some (.getfield 21, 3, 6, 5, 0) := by decide +kernel
theorem k49_30 : look (codL 49) 30 = some (.iload_n 3, 1, 0, 0, 0) := by decide +kernel
theorem k49_31 : look (codL 49) 31 = some (.iaload, 1, 0, 0, 0) := by decide +kernel
theorem k49_32 : look (codL 49) 32 = some (.invokevirtual 73, 3, 48, 2, 0) := by decide +kernel
theorem k49_35 : look (codL 49) 35 = some (.ifCond .ne 7, 3, 0, 0, 0) := by decide +kernel
theorem k49_38 : look (codL 49) 38 = some (.iconst 1, 1, 0, 0, 0) := by decide +kernel
theorem k49_39 : look (codL 49) 39 = some (.goto 4, 3, 0, 0, 0) := by decide +kernel
theorem k49_42 : look (codL 49) 42 = some (.iconst 0, 1, 0, 0, 0) := by decide +kernel
theorem k49_43 : look (codL 49) 43 = some (.istore 4, 2, 0, 0, 0) := by decide +kernel
theorem k49_45 : look (codL 49) 45 = some (.iload 4, 2, 0, 0, 0) := by decide +kernel
theorem k49_47 : look (codL 49) 47 = some (.ifCond .eq 24, 3, 0, 0, 0) := by decide +kernel
theorem k49_50 : look (codL 49) 50 = some (.iload_n 2, 1, 0, 0, 0) := by decide +kernel
theorem k49_51 : look (codL 49) 51 = some (.ifCond .lt 18, 3, 0, 0, 0) := by decide +kernel
theorem k49_54 : look (codL 49) 54 = some (.aload_n 0, 1, 0, 0, 0) := by decide +kernel
theorem k49_55 : look (codL 49) 55 = some (.getfield 21, 3, 6, 5, 0) := by decide +kernel
theorem k49_58 : look (codL 49) 58 = some (.iload_n 3, 1, 0, 0, 0) := by decide +kernel
theorem k49_59 : look (codL 49) 59 = some (.iaload, 1, 0, 0, 0) := by decide +kernel
theorem k49_60 : look (codL 49) 60 = some (.aload_n 0, 1, 0, 0, 0) := by decide +kernel
theorem k49_61 : look (codL 49) 61 = some (.getfield 21, 3, 6, 5, 0) := by decide +kernel
theorem k49_64 : look (codL 49) 64 = some (.iload_n 2, 1, 0, 0, 0) := by decide +kernel
theorem k49_65 : look (codL 49) 65 = some (.iaload, 1, 0, 0, 0) := by decide +kernel
theorem k49_66 : look (codL 49) 66 = some (.if_icmp .ge 5, 3, 0, 0, 0) := by decide +kernel
theorem k49_69 : look (codL 49) 69 = some (.iload_n 3, 1, 0, 0, 0) := by decide +kernel
theorem k49_70 : look (codL 49) 70 = some (.istore_n 2, 1, 0, 0, 0) := by decide +kernel
theorem k49_71 : look (codL 49) 71 = some (.iinc 3 1, 3, 0, 0, 0) := by decide +kernel
theorem k49_74 : look (codL 49) 74 = some (.goto (-70), 3, 0, 0, 0) := by decide +kernel
theorem k49_77 : look (codL 49) 77 = some (.iload_n 2, 1, 0, 0, 0) := by decide +kernel
theorem k49_78 : look (codL 49) 78 = some (.ireturn, 1, 0, 0, 0) := by decide +kernel
theorem k50_0 : look (codL 50) 0 = some (.aload_n 0, 1, 0, 0, 0) := by decide +kernel
theorem k50_1 : look (codL 50) 1 = some (.getfield 31, 3, 6, 3, 0) := by decide +kernel
theorem k50_4 : look (codL 50) 4 = some (.bipush 9, 2, 0, 0, 0) := by decide +kernel
theorem k50_6 : look (codL 50) 6 = some (.if_icmp .ge 43, 3, 0, 0, 0) := by decide +kernel
theorem k50_9 : look (codL 50) 9 = some (.aload_n 0, 1, 0, 0, 0) := by decide +kernel
theorem k50_10 : look (codL 50) 10 = some (.getfield 11, 3, 6, 0, 0) := by decide +kernel
theorem k50_13 : look (codL 50) 13 = some (.aload_n 0, 1, 0, 0, 0) := by decide +kernel
theorem k50_14 : look (codL 50) 14 = some (.getfield 31, 3, 6, 3, 0) := by decide +kernel
theorem k50_17 : look (codL 50) 17 = some (.iload_n 1, 1, 0, 0, 0) := by decide +kernel
theorem k50_18 : look (codL 50) 18 = some (.iastore, 1, 0, 0, 0) := by decide +kernel
theorem k50_19 : look (codL 50) 19 = some (.aload_n 0, 1, 0, 0, 0) := by decide +kernel
theorem k50_20 : look (codL 50) 20 = some (.getfield 15, 3, 6, 1, 0) := by decide +kernel
theorem k50_23 : look (codL 50) 23 = some (.aload_n 0, 1, 0, 0, 0) := by decide +kernel
theorem k50_24 : look (codL 50) 24 = some (.getfield 31, 3, 6, 3, 0) := by decide +kernel
theorem k50_27 : look (codL 50) 27 = some (.iload_n 2, 1, 0, 0, 0) := by decide +kernel
theorem k50_28 : look (codL 50) 28 = some (.iastore, 1, 0, 0, 0) := by decide +kernel
theorem k50_29 : look (codL 50) 29 = some (.aload_n 0, 1, 0, 0, 0) := by decide +kernel
theorem k50_30 : look (codL 50) 30 = some (.getfield 18, 3, 6, 2, 0) := by decide +kernel
theorem k50_33 : look (codL 50) 33 = some (.aload_n 0, 1, 0, 0, 0) := by decide +kernel
theorem k50_34 : look (codL 50) 34 = some (.getfield 31, 3, 6, 3, 0) := by decide +kernel
theorem k50_37 : look (codL 50) 37 = some (.iload_n 3, 1, 0, 0, 0) := by decide +kernel
theorem k50_38 : look (codL 50) 38 = some (.iastore, 1, 0, 0, 0) := by decide +kernel
theorem k50_39 : look (codL 50) 39 = some (.aload_n 0, 1, 0, 0, 0) := by decide +kernel
theorem k50_40 : look (codL 50) 40 = some (.dup, 1, 0, 0, 0) := by decide +kernel
theorem k50_41 : look (codL 50) 41 = some (.getfield 31, 3, 6, 3, 0) := by decide +kernel
theorem k50_44 : look (codL 50) 44 = some (.iconst 1, 1, 0, 0, 0) := by decide +kernel
theorem k50_45 : look (codL 50) 45 = some (.iadd, 1, 0, 0, 0) := by decide +kernel
theorem k50_46 : look (codL 50) 46 = some (.putfield 31, 3, 6, 3, 0) := by decide +kernel
theorem k50_49 : look (codL 50) 49 = some (.return_, 1, 0, 0, 0) := by decide +kernel
theorem k51_0 : look (codL 51) 0 = some (.aload_n 0, 1, 0, 0, 0) := by decide +kernel
theorem k51_1 : look (codL 51) 1 = some (.getfield 27, 3, 6, 8, 0) := by decide +kernel
theorem k51_4 : look (codL 51) 4 = some (.iload_n 1, 1, 0, 0, 0) := by decide +kernel
theorem k51_5 : look (codL 51) 5 = some (.iconst 0, 1, 0, 0, 0) := by decide +kernel
theorem k51_6 : look (codL 51) 6 = some (.bastore, 1, 0, 0, 0) := by decide +kernel
theorem k51_7 : look (codL 51) 7 = some (.aload_n 0, 1, 0, 0, 0) := by decide +kernel
theorem k51_8 : look (codL 51) 8 = some (.dup, 1, 0, 0, 0) := by decide +kernel
theorem k51_9 : look (codL 51) 9 = some (.getfield 42, 3, 6, 9, 0) := by decide +kernel
theorem k51_12 : look (codL 51) 12 = some (.iconst 1, 1, 0, 0, 0) := by decide +kernel
theorem k51_13 : look (codL 51) 13 = some (.isub, 1, 0, 0, 0) := by decide +kernel
theorem k51_14 : look (codL 51) 14 = some (.putfield 42, 3, 6, 9, 0) := by decide +kernel
theorem k51_17 : look (codL 51) 17 = some (.return_, 1, 0, 0, 0) := by decide +kernel
theorem k52_0 : look (codL 52) 0 = some (.iconst 0, 1, 0, 0, 0) := by decide +kernel
theorem k52_1 : look (codL 52) 1 = some (.istore_n 3, 1, 0, 0, 0) := by decide +kernel
theorem k52_2 : look (codL 52) 2 = some (.iload_n 3, 1, 0, 0, 0) := by decide +kernel
theorem k52_3 : look (codL 52) 3 = some (.aload_n 0, 1, 0, 0, 0) := by decide +kernel
theorem k52_4 : look (codL 52) 4 = some (.getfield 63, 3, 6, 6, 0) := by decide +kernel
theorem k52_7 : look (codL 52) 7 = some (.if_icmp .ge 35, 3, 0, 0, 0) := by decide +kernel
theorem k52_10 : look (codL 52) 10 = some (.aload_n 0, 1, 0, 0, 0) := by decide +kernel
theorem k52_11 : look (codL 52) 11 = some (.getfield 24, 3, 6, 7, 0) := by decide +kernel
theorem k52_14 : look (codL 52) 14 = some (.iload_n 3, 1, 0, 0, 0) := by decide +kernel
theorem k52_15 : look (codL 52) 15 = some (.aload_n 0, 1, 0, 0, 0) := by decide +kernel
theorem k52_16 : look (codL 52) 16 = some (.getfield 24, 3, 6, 7, 0) := by decide +kernel
theorem k52_19 : look (codL 52) 19 = some (.iload_n 3, 1, 0, 0, 0) := by decide +kernel
theorem k52_20 : look (codL 52) 20 = some (.iaload, 1, 0, 0, 0) := by decide +kernel
theorem k52_21 : look (codL 52) 21 = some (.iload_n 1, 1, 0, 0, 0) := by decide +kernel
theorem k52_22 : look (codL 52) 22 = some (.if_icmp .ne 7, 3, 0, 0, 0) := by decide +kernel
theorem k52_25 : look (codL 52) 25 = some (.iload_n 2, 1, 0, 0, 0) := by decide +kernel
theorem k52_26 : look (codL 52) 26 = some (.goto 9, 3, 0, 0, 0) := by decide +kernel
theorem k52_29 : look (codL 52) 29 = some (.aload_n 0, 1, 0, 0, 0) := by decide +kernel
theorem k52_30 : look (codL 52) 30 = some (.getfield 24, 3, 6, 7, 0) := by decide +kernel
theorem k52_33 : look (codL 52) 33 = some (.iload_n 3, 1, 0, 0, 0) := by decide +kernel
theorem k52_34 : look (codL 52) 34 = some (.iaload, 1, 0, 0, 0) := by decide +kernel
theorem k52_35 : look (codL 52) 35 = some (.iastore, 1, 0, 0, 0) := by decide +kernel
theorem k52_36 : look (codL 52) 36 = some (.iinc 3 1, 3, 0, 0, 0) := by decide +kernel
theorem k52_39 : look (codL 52) 39 = some (.goto (-37), 3, 0, 0, 0) := by decide +kernel
theorem k52_42 : look (codL 52) 42 = some (.return_, 1, 0, 0, 0) := by decide +kernel
theorem k53_0 : look (codL 53) 0 = some (.aload_n 0, 1, 0, 0, 0) := by decide +kernel
theorem k53_1 : look (codL 53) 1 = some (.getfield 24, 3, 6, 7, 0) := by decide +kernel
theorem k53_4 : look (codL 53) 4 = some (.iload_n 1, 1, 0, 0, 0) := by decide +kernel
theorem k53_5 : look (codL 53) 5 = some (.iaload, 1, 0, 0, 0) := by decide +kernel
theorem k53_6 : look (codL 53) 6 = some (.istore_n 2, 1, 0, 0, 0) := by decide +kernel
theorem k53_7 : look (codL 53) 7 = some (.aload_n 0, 1, 0, 0, 0) := by decide +kernel
theorem k53_8 : look (codL 53) 8 = some (.iconst 0, 1, 0, 0, 0) := by decide +kernel
theorem k53_9 : look (codL 53) 9 = some (.aload_n 0, 1, 0, 0, 0) := by decide +kernel
theorem k53_10 : look (codL 53) 10 = some (.getfield 21, 3, 6, 5, 0) := by decide +kernel
theorem k53_13 : look (codL 53) 13 = some (.iload_n 1, 1, 0, 0, 0) := by decide +kernel
theorem k53_14 : look (codL 53) 14 = some (.iaload, 1, 0, 0, 0) := by decide +kernel
theorem k53_15 : look (codL 53) 15 = some (.iload_n 2, 1, 0, 0, 0) := by decide +kernel
theorem k53_16 : look (codL 53) 16 = some (.invokevirtual 76, 3, 50, 4, 0) := by decide +kernel
theorem k53_19 : look (codL 53) 19 = some (.aload_n 0, 1, 0, 0, 0) := by decide +kernel
theorem k53_20 : look (codL 53) 20 = some (.iload_n 1, 1, 0, 0, 0) := by decide +kernel
theorem k53_21 : look (codL 53) 21 = some (.invokevirtual 80, 3, 51, 2, 0) := by decide +kernel
theorem k53_24 : look (codL 53) 24 = some (.aload_n 0, 1, 0, 0, 0) := by decide +kernel
theorem k53_25 : look (codL 53) 25 = some (.iload_n 2, 1, 0, 0, 0) := by decide +kernel
theorem k53_26 : look (codL 53) 26 = some (.aload_n 0, 1, 0, 0, 0) := by decide +kernel
theorem k53_27 : look (codL 53) 27 = some (.getfield 21, 3, 6, 5, 0) := by decide +kernel
theorem k53_30 : look (codL 53) 30 = some (.iload_n 1, 1, 0, 0, 0) := by decide +kernel
theorem k53_31 : look (codL 53) 31 = some (.iaload, 1, 0, 0, 0) := by decide +kernel
theorem k53_32 : look (codL 53) 32 = some (.invokevirtual 83, 3, 52, 3, 0) := by decide +kernel
theorem k53_35 : look (codL 53) 35 = some (.return_, 1, 0, 0, 0) := by decide +kernel
theorem k54_0 : look (codL 54) 0 = some (.iconst 0, 1, 0, 0, 0) := by decide +kernel
theorem k54_1 : look (codL 54) 1 = some (.istore_n 2, 1, 0, 0, 0) := by decide +kernel
theorem k54_2 : look (codL 54) 2 = some (.iload_n 2, 1, 0, 0, 0) := by decide +kernel
theorem k54_3 : look (codL 54) 3 = some (.aload_n 0, 1, 0, 0, 0) := by decide +kernel
theorem k54_4 : look (codL 54) 4 = some (.getfield 63, 3, 6, 6, 0) := by decide +kernel
theorem k54_7 : look (codL 54) 7 = some (.if_icmp .ge 30, 3, 0, 0, 0) := by decide +kernel
theorem k54_10 : look (codL 54) 10 = some (.aload_n 0, 1, 0, 0, 0) := by decide +kernel
theorem k54_11 : look (codL 54) 11 = some (.getfield 27, 3, 6, 8, 0) := by decide +kernel
theorem k54_14 : look (codL 54) 14 = some (.iload_n 2, 1, 0, 0, 0) := by decide +kernel
theorem k54_15 : look (codL 54) 15 = some (.baload, 1, 0, 0, 0) := by decide +kernel
theorem k54_16 : look (codL 54) 16 = some (.ifCond .eq 15, 3, 0, 0, 0) := by decide +kernel
theorem k54_19 : look (codL 54) 19 = some (.aload_n 0, 1, 0, 0, 0) := by decide +kernel
theorem k54_20 : look (codL 54) 20 = some (.getfield 21, 3, 6, 5, 0) := by decide +kernel
theorem k54_23 : look (codL 54) 23 = some (.iload_n 2, 1, 0, 0, 0) := by decide +kernel
theorem k54_24 : look (codL 54) 24 = some (.iaload, 1, 0, 0, 0) := by decide +kernel
theorem k54_25 : look (codL 54) 25 = some (.iload_n 1, 1, 0, 0, 0) := by decide +kernel
theorem k54_26 : look (codL 54) 26 = some (.if_icmp .ne 5, 3, 0, 0, 0) := by decide +kernel
theorem k54_29 : look (codL 54) 29 = some (.iload_n 2, 1, 0, 0, 0) := by decide +kernel
theorem k54_30 : look (codL 54) 30 = some (.ireturn, 1, 0, 0, 0) := by decide +kernel
theorem k54_31 : look (codL 54) 31 = some (.iinc 2 1, 3, 0, 0, 0) := by decide +kernel
theorem k54_34 : look (codL 54) 34 = some (.goto (-32), 3, 0, 0, 0) := by decide +kernel
theorem k54_37 : look (codL 54) 37 = some (.iconst (-1), 1, 0, 0, 0) := by decide +kernel
theorem k54_38 : look (codL 54) 38 = some (.ireturn, 1, 0, 0, 0) := by decide +kernel
theorem k55_0 : look (codL 55) 0 = some (.aload_n 0, 1, 0, 0, 0) := by decide +kernel
theorem k55_1 : look (codL 55) 1 = some (.aload_n 0, 1, 0, 0, 0) := by decide +kernel
theorem k55_2 : look (codL 55) 2 = some (.getfield 24, 3, 6, 7, 0) := by decide +kernel
theorem k55_5 : look (codL 55) 5 = some (.iload_n 1, 1, 0, 0, 0) := by decide +kernel
theorem k55_6 : look (codL 55) 6 = some (.iaload, 1, 0, 0, 0) := by decide +kernel
theorem k55_7 : look (codL 55) 7 = some (.invokevirtual 87, 3, 54, 2, 0) := by decide +kernel
theorem k55_10 : look (codL 55) 10 = some (.istore_n 2, 1, 0, 0, 0) := by decide +kernel
theorem k55_11 : look (codL 55) 11 = some (.iconst 1, 1, 0, 0, 0) := by decide +kernel
theorem k55_12 : look (codL 55) 12 = some (.istore_n 3, 1, 0, 0, 0) := by decide +kernel
theorem k55_13 : look (codL 55) 13 = some (.iload_n 3, 1, 0, 0, 0) := by decide +kernel
theorem k55_14 : look (codL 55) 14 = some (.bipush 6, 2, 0, 0, 0) := by decide +kernel
theorem k55_16 : look (codL 55) 16 = some (.if_icmp .ge 29, 3, 0, 0, 0) := by decide +kernel
theorem k55_19 : look (codL 55) 19 = some (.iload_n 2, 1, 0, 0, 0) := by decide +kernel
theorem k55_20 : look (codL 55) 20 = some (.ifCond .lt 25, 3, 0, 0, 0) := by decide +kernel
theorem k55_23 : look (codL 55) 23 = some (.iload_n 2, 1, 0, 0, 0) := by decide +kernel
theorem k55_24 : look (codL 55) 24 = some (.iload_n 1, 1, 0, 0, 0) := by decide +kernel
theorem k55_25 : look (codL 55) 25 = some (.if_icmp .eq 20, 3, 0, 0, 0) := by decide +kernel
theorem k55_28 : look (codL 55) 28 = some (.aload_n 0, 1, 0, 0, 0) := by decide +kernel
theorem k55_29 : look (codL 55) 29 = some (.aload_n 0, 1, 0, 0, 0) := by decide +kernel
theorem k55_30 : look (codL 55) 30 = some (.getfield 24, 3, 6, 7, 0) := by decide +kernel
theorem k55_33 : look (codL 55) 33 = some (.iload_n 2, 1, 0, 0, 0) := by decide +kernel
theorem k55_34 : look (codL 55) 34 = some (.iaload, 1, 0, 0, 0) := by decide +kernel
theorem k55_35 : look (codL 55) 35 = some (.invokevirtual 87, 3, 54, 2, 0) := by decide +kernel
theorem k55_38 : look (codL 55) 38 = some (.istore_n 2, 1, 0, 0, 0) := by decide +kernel
theorem k55_39 : look (codL 55) 39 = some (.iinc 3 1, 3, 0, 0, 0) := by decide +kernel
theorem k55_42 : look (codL 55) 42 = some (.goto (-29), 3, 0, 0, 0) := by decide +kernel
theorem k55_45 : look (codL 55) 45 = some (.iload_n 3, 1, 0, 0, 0) := by decide +kernel
theorem k55_46 : look (codL 55) 46 = some (.ireturn, 1, 0, 0, 0) := by decide +kernel
theorem k56_0 : look (codL 56) 0 = some (.iload_n 0, 1, 0, 0, 0) := by decide +kernel
theorem k56_1 : look (codL 56) 1 = some (.tableswitch 43 1 4 #[31, 33, 43, 35], 31, 0, 0, 0) := by decide +kernel
theorem k56_32 : look (codL 56) 32 = some (.iconst 1, 1, 0, 0, 0) := by decide +kernel
theorem k56_33 : look (codL 56) 33 = some (.ireturn, 1, 0, 0, 0) := by decide +kernel
theorem k56_34 : look (codL 56) 34 = some (.iconst 3, 1, 0, 0, 0) := by decide +kernel
theorem k56_35 : look (codL 56) 35 = some (.ireturn, 1, 0, 0, 0) := by decide +kernel
theorem k56_36 : look (codL 56) 36 = some (.iload_n 1, 1, 0, 0, 0) := by decide +kernel
theorem k56_37 : look (codL 56) 37 = some (.iconst 1, 1, 0, 0, 0) := by decide +kernel
theorem k56_38 : look (codL 56) 38 = some (.iadd, 1, 0, 0, 0) := by decide +kernel
theorem k56_39 : look (codL 56) 39 = some (.iconst 2, 1, 0, 0, 0) := by decide +kernel
theorem k56_40 : look (codL 56) 40 = some (.idiv, 1, 0, 0, 0) := by decide +kernel
theorem k56_41 : look (codL 56) 41 = some (.iconst 1, 1, 0, 0, 0) := by decide +kernel
theorem k56_42 : look (codL 56) 42 = some (.iadd, 1, 0, 0, 0) := by decide +kernel
theorem k56_43 : look (codL 56) 43 = some (.ireturn, 1, 0, 0, 0) := by decide +kernel
theorem k56_44 : look (codL 56) 44 = some (.iconst 0, 1, 0, 0, 0) := by decide +kernel
theorem k56_45 : look (codL 56) 45 = some (.ireturn, 1, 0, 0, 0) := by decide +kernel
theorem k57_0 : look (codL 57) 0 = some (.iload_n 0, 1, 0, 0, 0) := by decide +kernel
theorem k57_1 : look (codL 57) 1 = some (.lookupswitch 35 #[(3, 27), (4, 29)], 27, 0, 0, 0) := by decide +kernel
theorem k57_28 : look (codL 57) 28 = some (.iload_n 1, 1, 0, 0, 0) := by decide +kernel
theorem k57_29 : look (codL 57) 29 = some (.ireturn, 1, 0, 0, 0) := by decide +kernel
theorem k57_30 : look (codL 57) 30 = some (.iload_n 1, 1, 0, 0, 0) := by decide +kernel
theorem k57_31 : look (codL 57) 31 = some (.iconst 1, 1, 0, 0, 0) := by decide +kernel
theorem k57_32 : look (codL 57) 32 = some (.iadd, 1, 0, 0, 0) := by decide +kernel
theorem k57_33 : look (codL 57) 33 = some (.iconst 2, 1, 0, 0, 0) := by decide +kernel
theorem k57_34 : look (codL 57) 34 = some (.idiv, 1, 0, 0, 0) := by decide +kernel
theorem k57_35 : look (codL 57) 35 = some (.ireturn, 1, 0, 0, 0) := by decide +kernel
theorem k57_36 : look (codL 57) 36 = some (.iconst 1, 1, 0, 0, 0) := by decide +kernel
theorem k57_37 : look (codL 57) 37 = some (.ireturn, 1, 0, 0, 0) := by decide +kernel
theorem k58_0 : look (codL 58) 0 = some (.iload_n 0, 1, 0, 0, 0) := by decide +kernel
theorem k58_1 : look (codL 58) 1 = some (.iload_n 1, 1, 0, 0, 0) := by decide +kernel
theorem k58_2 : look (codL 58) 2 = some (.invokestatic 9, 3, 56, 2, 0) := by decide +kernel
theorem k58_5 : look (codL 58) 5 = some (.istore_n 3, 1, 0, 0, 0) := by decide +kernel
theorem k58_6 : look (codL 58) 6 = some (.iload_n 3, 1, 0, 0, 0) := by decide +kernel
theorem k58_7 : look (codL 58) 7 = some (.ifCond .le 24, 3, 0, 0, 0) := by decide +kernel
theorem k58_10 : look (codL 58) 10 = some (.iload_n 2, 1, 0, 0, 0) := by decide +kernel
theorem k58_11 : look (codL 58) 11 = some (.iconst 1, 1, 0, 0, 0) := by decide +kernel
theorem k58_12 : look (codL 58) 12 = some (.isub, 1, 0, 0, 0) := by decide +kernel
theorem k58_13 : look (codL 58) 13 = some (.iload_n 3, 1, 0, 0, 0) := by decide +kernel
theorem k58_14 : look (codL 58) 14 = some (.imul, 1, 0, 0, 0) := by decide +kernel
theorem k58_15 : look (codL 58) 15 = some (.iload_n 2, 1, 0, 0, 0) := by decide +kernel
theorem k58_16 : look (codL 58) 16 = some (.iconst 1, 1, 0, 0, 0) := by decide +kernel
theorem k58_17 : look (codL 58) 17 = some (.iadd, 1, 0, 0, 0) := by decide +kernel
theorem k58_18 : look (codL 58) 18 = some (.iload_n 0, 1, 0, 0, 0) := by decide +kernel
theorem k58_19 : look (codL 58) 19 = some (.iload_n 1, 1, 0, 0, 0) := by decide +kernel
theorem k58_20 : look (codL 58) 20 = some (.invokestatic 15, 3, 57, 2, 0) := by decide +kernel
theorem k58_23 : look (codL 58) 23 = some (.imul, 1, 0, 0, 0) := by decide +kernel
theorem k58_24 : look (codL 58) 24 = some (.if_icmp .ge 7, 3, 0, 0, 0) := by decide +kernel
theorem k58_27 : look (codL 58) 27 = some (.iconst 1, 1, 0, 0, 0) := by decide +kernel
theorem k58_28 : look (codL 58) 28 = some (.goto 4, 3, 0, 0, 0) := by decide +kernel
theorem k58_31 : look (codL 58) 31 = some (.iconst 0, 1, 0, 0, 0) := by decide +kernel
theorem k58_32 : look (codL 58) 32 = some (.ireturn, 1, 0, 0, 0) := by decide +kernel
theorem k59_0 : look (codL 59) 0 = some (.iload_n 1, 1, 0, 0, 0) := by decide +kernel
theorem k59_1 : look (codL 59) 1 = some (.istore_n 3, 1, 0, 0, 0) := by decide +kernel
theorem k59_2 : look (codL 59) 2 = some (.iconst 1, 1, 0, 0, 0) := by decide +kernel
theorem k59_3 : look (codL 59) 3 = some (.istore 4, 2, 0, 0, 0) := by decide +kernel
theorem k59_5 : look (codL 59) 5 = some (.iload 4, 2, 0, 0, 0) := by decide +kernel
theorem k59_7 : look (codL 59) 7 = some (.iload_n 2, 1, 0, 0, 0) := by decide +kernel
theorem k59_8 : look (codL 59) 8 = some (.if_icmp .ge 50, 3, 0, 0, 0) := by decide +kernel
theorem k59_11 : look (codL 59) 11 = some (.iload_n 3, 1, 0, 0, 0) := by decide +kernel
theorem k59_12 : look (codL 59) 12 = some (.ifCond .lt 46, 3, 0, 0, 0) := by decide +kernel
theorem k59_15 : look (codL 59) 15 = some (.aload_n 0, 1, 0, 0, 0) := by decide +kernel
theorem k59_16 : look (codL 59) 16 = some (.iconst 1, 1, 0, 0, 0) := by decide +kernel
theorem k59_17 : look (codL 59) 17 = some (.aload_n 0, 1, 0, 0, 0) := by decide +kernel
theorem k59_18 : look (codL 59) 18 = some (.getfield 21, 3, 6, 5, 0) := by decide +kernel
theorem k59_21 : look (codL 59) 21 = some (.iload_n 3, 1, 0, 0, 0) := by decide +kernel
theorem k59_22 : look (codL 59) 22 = some (.iaload, 1, 0, 0, 0) := by decide +kernel
theorem k59_23 : look (codL 59) 23 = some (.aload_n 0, 1, 0, 0, 0) := by decide +kernel
theorem k59_24 : look (codL 59) 24 = some (.getfield 24, 3, 6, 7, 0) := by decide +kernel
theorem k59_27 : look (codL 59) 27 = some (.iload_n 3, 1, 0, 0, 0) := by decide +kernel
theorem k59_28 : look (codL 59) 28 = some (.iaload, 1, 0, 0, 0) := by decide +kernel
theorem k59_29 : look (codL 59) 29 = some (.invokevirtual 76, 3, 50, 4, 0) := by decide +kernel
theorem k59_32 : look (codL 59) 32 = some (.aload_n 0, 1, 0, 0, 0) := by decide +kernel
theorem k59_33 : look (codL 59) 33 = some (.aload_n 0, 1, 0, 0, 0) := by decide +kernel
theorem k59_34 : look (codL 59) 34 = some (.getfield 24, 3, 6, 7, 0) := by decide +kernel
theorem k59_37 : look (codL 59) 37 = some (.iload_n 3, 1, 0, 0, 0) := by decide +kernel
theorem k59_38 : look (codL 59) 38 = some (.iaload, 1, 0, 0, 0) := by decide +kernel
theorem k59_39 : look (codL 59) 39 = some (.invokevirtual 87, 3, 54, 2, 0) := by decide +kernel
theorem k59_42 : look (codL 59) 42 = some (.istore 5, 2, 0, 0, 0) := by decide +kernel
theorem k59_44 : look (codL 59) 44 = some (.aload_n 0, 1, 0, 0, 0) := by decide +kernel
theorem k59_45 : look (codL 59) 45 = some (.iload_n 3, 1, 0, 0, 0) := by decide +kernel
theorem k59_46 : look (codL 59) 46 = some (.invokevirtual 80, 3, 51, 2, 0) := by decide +kernel
theorem k59_49 : look (codL 59) 49 = some (.iload 5, 2, 0, 0, 0) := by decide +kernel
theorem k59_51 : look (codL 59) 51 = some (.istore_n 3, 1, 0, 0, 0) := by decide +kernel
theorem k59_52 : look (codL 59) 52 = some (.iinc 4 1, 3, 0, 0, 0) := by decide +kernel
theorem k59_55 : look (codL 59) 55 = some (.goto (-50), 3, 0, 0, 0) := by decide +kernel
theorem k59_58 : look (codL 59) 58 = some (.iload_n 3, 1, 0, 0, 0) := by decide +kernel
theorem k59_59 : look (codL 59) 59 = some (.ifCond .lt 8, 3, 0, 0, 0) := by decide +kernel
theorem k59_62 : look (codL 59) 62 = some (.aload_n 0, 1, 0, 0, 0) := by decide +kernel
theorem k59_63 : look (codL 59) 63 = some (.iload_n 3, 1, 0, 0, 0) := by decide +kernel
theorem k59_64 : look (codL 59) 64 = some (.invokevirtual 80, 3, 51, 2, 0) := by decide +kernel
theorem k59_67 : look (codL 59) 67 = some (.return_, 1, 0, 0, 0) := by decide +kernel
theorem k60_0 : look (codL 60) 0 = some (.bipush 10, 2, 0, 0, 0) := by decide +kernel
theorem k60_2 : look (codL 60) 2 = some (.iload_n 0, 1, 0, 0, 0) := by decide +kernel
theorem k60_3 : look (codL 60) 3 = some (.imul, 1, 0, 0, 0) := by decide +kernel
theorem k60_4 : look (codL 60) 4 = some (.iload_n 1, 1, 0, 0, 0) := by decide +kernel
theorem k60_5 : look (codL 60) 5 = some (.iadd, 1, 0, 0, 0) := by decide +kernel
theorem k60_6 : look (codL 60) 6 = some (.ireturn, 1, 0, 0, 0) := by decide +kernel
theorem k61_0 : look (codL 61) 0 = some (.iload_n 1, 1, 0, 0, 0) := by decide +kernel
theorem k61_1 : look (codL 61) 1 = some (.ifCond .ge 4, 3, 0, 0, 0) := by decide +kernel
theorem k61_4 : look (codL 61) 4 = some (.return_, 1, 0, 0, 0) := by decide +kernel
theorem k61_5 : look (codL 61) 5 = some (.aload_n 0, 1, 0, 0, 0) := by decide +kernel
theorem k61_6 : look (codL 61) 6 = some (.iload_n 1, 1, 0, 0, 0) := by decide +kernel
theorem k61_7 : look (codL 61) 7 = some (.invokevirtual 91, 3, 55, 2, 0) := by decide +kernel
theorem k61_10 : look (codL 61) 10 = some (.istore_n 2, 1, 0, 0, 0) := by decide +kernel
theorem k61_11 : look (codL 61) 11 = some (.aload_n 0, 1, 0, 0, 0) := by decide +kernel
theorem k61_12 : look (codL 61) 12 = some (.getfield 21, 3, 6, 5, 0) := by decide +kernel
theorem k61_15 : look (codL 61) 15 = some (.iload_n 1, 1, 0, 0, 0) := by decide +kernel
theorem k61_16 : look (codL 61) 16 = some (.iaload, 1, 0, 0, 0) := by decide +kernel
theorem k61_17 : look (codL 61) 17 = some (.invokestatic 94, 3, 2, 1, 0) := by decide +kernel
theorem k61_20 : look (codL 61) 20 = some (.istore_n 3, 1, 0, 0, 0) := by decide +kernel
theorem k61_21 : look (codL 61) 21 = some (.aload_n 0, 1, 0, 0, 0) := by decide +kernel
theorem k61_22 : look (codL 61) 22 = some (.getfield 35, 3, 6, 4, 0) := by decide +kernel
theorem k61_25 : look (codL 61) 25 = some (.iload_n 3, 1, 0, 0, 0) := by decide +kernel
theorem k61_26 : look (codL 61) 26 = some (.iload_n 2, 1, 0, 0, 0) := by decide +kernel
theorem k61_27 : look (codL 61) 27 = some (.invokestatic 99, 3, 58, 3, 0) := by decide +kernel
theorem k61_30 : look (codL 61) 30 = some (.ifCond .eq 12, 3, 0, 0, 0) := by decide +kernel
theorem k61_33 : look (codL 61) 33 = some (.aload_n 0, 1, 0, 0, 0) := by decide +kernel
theorem k61_34 : look (codL 61) 34 = some (.iload_n 1, 1, 0, 0, 0) := by decide +kernel
theorem k61_35 : look (codL 61) 35 = some (.iload_n 2, 1, 0, 0, 0) := by decide +kernel
theorem k61_36 : look (codL 61) 36 = some (.invokevirtual 105, 3, 59, 3, 0) := by decide +kernel
theorem k61_39 : look (codL 61) 39 = some (.goto 36, 3, 0, 0, 0) := by decide +kernel
theorem k61_42 : look (codL 61) 42 = some (.bipush 32, 2, 0, 0, 0) := by decide +kernel
theorem k61_44 : look (codL 61) 44 = some (.iload_n 3, 1, 0, 0, 0) := by decide +kernel
theorem k61_45 : look (codL 61) 45 = some (.invokestatic 108, 3, 60, 2, 0) := by decide +kernel
theorem k61_48 : look (codL 61) 48 = some (.istore 4, 2, 0, 0, 0) := by decide +kernel
theorem k61_50 : look (codL 61) 50 = some (.aload_n 0, 1, 0, 0, 0) := by decide +kernel
theorem k61_51 : look (codL 61) 51 = some (.iconst 0, 1, 0, 0, 0) := by decide +kernel
theorem k61_52 : look (codL 61) 52 = some (.iload 4, 2, 0, 0, 0) := by decide +kernel
theorem k61_54 : look (codL 61) 54 = some (.aload_n 0, 1, 0, 0, 0) := by decide +kernel
theorem k61_55 : look (codL 61) 55 = some (.getfield 21, 3, 6, 5, 0) := by decide +kernel
theorem k61_58 : look (codL 61) 58 = some (.iload_n 1, 1, 0, 0, 0) := by decide +kernel
theorem k61_59 : look (codL 61) 59 = some (.iaload, 1, 0, 0, 0) := by decide +kernel
theorem k61_60 : look (codL 61) 60 = some (.invokevirtual 76, 3, 50, 4, 0) := by decide +kernel
theorem k61_63 : look (codL 61) 63 = some (.aload_n 0, 1, 0, 0, 0) := by decide +kernel
theorem k61_64 : look (codL 61) 64 = some (.aload_n 0, 1, 0, 0, 0) := by decide +kernel
theorem k61_65 : look (codL 61) 65 = some (.getfield 21, 3, 6, 5, 0) := by decide +kernel
theorem k61_68 : look (codL 61) 68 = some (.iload_n 1, 1, 0, 0, 0) := by decide +kernel
theorem k61_69 : look (codL 61) 69 = some (.iaload, 1, 0, 0, 0) := by decide +kernel
theorem k61_70 : look (codL 61) 70 = some (.iload 4, 2, 0, 0, 0) := by decide +kernel
theorem k61_72 : look (codL 61) 72 = some (.invokevirtual 83, 3, 52, 3, 0) := by decide +kernel
theorem k61_75 : look (codL 61) 75 = some (.return_, 1, 0, 0, 0) := by decide +kernel
theorem k62_0 : look (codL 62) 0 = some (.iconst (-1), 1, 0, 0, 0) := by decide +kernel
theorem k62_1 : look (codL 62) 1 = some (.istore_n 3, 1, 0, 0, 0) := by decide +kernel
theorem k62_2 : look (codL 62) 2 = some (.iconst 0, 1, 0, 0, 0) := by decide +kernel
theorem k62_3 : look (codL 62) 3 = some (.istore 4, 2, 0, 0, 0) := by decide +kernel
theorem k62_5 : look (codL 62) 5 = some (.iload 4, 2, 0, 0, 0) := by decide +kernel
theorem k62_7 : look (codL 62) 7 = some (.aload_n 0, 1, 0, 0, 0) := by decide +kernel
theorem k62_8 : look (codL 62) 8 = some (.getfield 63, 3, 6, 6, 0) := by decide +kernel
theorem k62_11 : look (codL 62) 11 = some (.if_icmp .ge 64, 3, 0, 0, 0) := by decide +kernel
theorem k62_14 : look (codL 62) 14 = some (.aload_n 1, 1, 0, 0, 0) := by decide +kernel
theorem k62_15 : look (codL 62) 15 = some (.iload 4, 2, 0, 0, 0) := by decide +kernel
theorem k62_17 : look (codL 62) 17 = some (.invokevirtual 116, 3, 25, 2, 0) := by decide +kernel
theorem k62_20 : look (codL 62) 20 = some (.ifCond .eq 18, 3, 0, 0, 0) := by decide +kernel
theorem k62_23 : look (codL 62) 23 = some (.aload_n 0, 1, 0, 0, 0) := by decide +kernel
theorem k62_24 : look (codL 62) 24 = some (.getfield 21, 3, 6, 5, 0) := by decide +kernel
theorem k62_27 : look (codL 62) 27 = some (.iload 4, 2, 0, 0, 0) := by decide +kernel
theorem k62_29 : look (codL 62) 29 = some (.iaload, 1, 0, 0, 0) := by decide +kernel
theorem k62_30 : look (codL 62) 30 = some (.iload_n 2, 1, 0, 0, 0) := by decide +kernel
theorem k62_31 : look (codL 62) 31 = some (.if_icmp .le 7, 3, 0, 0, 0) := by decide +kernel
theorem k62_34 : look (codL 62) 34 = some (.iconst 1, 1, 0, 0, 0) := by decide +kernel
theorem k62_35 : look (codL 62) 35 = some (.goto 4, 3, 0, 0, 0) := by decide +kernel
theorem k62_38 : look (codL 62) 38 = some (.iconst 0, 1, 0, 0, 0) := by decide +kernel
theorem k62_39 : look (codL 62) 39 = some (.istore 5, 2, 0, 0, 0) := by decide +kernel
theorem k62_41 : look (codL 62) 41 = some (.iload 5, 2, 0, 0, 0) := by decide +kernel
theorem k62_43 : look (codL 62) 43 = some (.ifCond .eq 26, 3, 0, 0, 0) := by decide +kernel
theorem k62_46 : look (codL 62) 46 = some (.iload_n 3, 1, 0, 0, 0) := by decide +kernel
theorem k62_47 : look (codL 62) 47 = some (.ifCond .lt 19, 3, 0, 0, 0) := by decide +kernel
theorem k62_50 : look (codL 62) 50 = some (.aload_n 0, 1, 0, 0, 0) := by decide +kernel
theorem k62_51 : look (codL 62) 51 = some (.getfield 21, 3, 6, 5, 0) := by decide +kernel
theorem k62_54 : look (codL 62) 54 = some (.iload 4, 2, 0, 0, 0) := by decide +kernel
theorem k62_56 : look (codL 62) 56 = some (.iaload, 1, 0, 0, 0) := by decide +kernel
theorem k62_57 : look (codL 62) 57 = some (.aload_n 0, 1, 0, 0, 0) := by decide +kernel
theorem k62_58 : look (codL 62) 58 = some (.getfield 21, 3, 6, 5, 0) := by decide +kernel
theorem k62_61 : look (codL 62) 61 = some (.iload_n 3, 1, 0, 0, 0) := by decide +kernel
theorem k62_62 : look (codL 62) 62 = some (.iaload, 1, 0, 0, 0) := by decide +kernel
theorem k62_63 : look (codL 62) 63 = some (.if_icmp .ge 6, 3, 0, 0, 0) := by decide +kernel
theorem k62_66 : look (codL 62) 66 = some (.iload 4, 2, 0, 0, 0) := by decide +kernel
theorem k62_68 : look (codL 62) 68 = some (.istore_n 3, 1, 0, 0, 0) := by decide +kernel
theorem k62_69 : look (codL 62) 69 = some (.iinc 4 1, 3, 0, 0, 0) := by decide +kernel
theorem k62_72 : look (codL 62) 72 = some (.goto (-67), 3, 0, 0, 0) := by decide +kernel
theorem k62_75 : look (codL 62) 75 = some (.iload_n 3, 1, 0, 0, 0) := by decide +kernel
theorem k62_76 : look (codL 62) 76 = some (.ireturn, 1, 0, 0, 0) := by decide +kernel
theorem k63_0 : look (codL 63) 0 = some (.iconst (-1), 1, 0, 0, 0) := by decide +kernel
theorem k63_1 : look (codL 63) 1 = some (.istore_n 2, 1, 0, 0, 0) := by decide +kernel
theorem k63_2 : look (codL 63) 2 = some (.iconst 0, 1, 0, 0, 0) := by decide +kernel
theorem k63_3 : look (codL 63) 3 = some (.istore_n 3, 1, 0, 0, 0) := by decide +kernel
theorem k63_4 : look (codL 63) 4 = some (.iload_n 3, 1, 0, 0, 0) := by decide +kernel
theorem k63_5 : look (codL 63) 5 = some (.aload_n 0, 1, 0, 0, 0) := by decide +kernel
theorem k63_6 : look (codL 63) 6 = some (.getfield 63, 3, 6, 6, 0) := by decide +kernel
theorem k63_9 : look (codL 63) 9 = some (.if_icmp .ge 43, 3, 0, 0, 0) := by decide +kernel
theorem k63_12 : look (codL 63) 12 = some (.aload_n 0, 1, 0, 0, 0) := by decide +kernel
theorem k63_13 : look (codL 63) 13 = some (.aload_n 1, 1, 0, 0, 0) := by decide +kernel
theorem k63_14 : look (codL 63) 14 = some (.iload_n 2, 1, 0, 0, 0) := by decide +kernel
theorem k63_15 : look (codL 63) 15 = some (.invokevirtual 112, 3, 62, 3, 0) := by decide +kernel
theorem k63_18 : look (codL 63) 18 = some (.istore 4, 2, 0, 0, 0) := by decide +kernel
theorem k63_20 : look (codL 63) 20 = some (.iload 4, 2, 0, 0, 0) := by decide +kernel
theorem k63_22 : look (codL 63) 22 = some (.ifCond .lt 24, 3, 0, 0, 0) := by decide +kernel
theorem k63_25 : look (codL 63) 25 = some (.aload_n 0, 1, 0, 0, 0) := by decide +kernel
theorem k63_26 : look (codL 63) 26 = some (.getfield 21, 3, 6, 5, 0) := by decide +kernel
theorem k63_29 : look (codL 63) 29 = some (.iload 4, 2, 0, 0, 0) := by decide +kernel
theorem k63_31 : look (codL 63) 31 = some (.iaload, 1, 0, 0, 0) := by decide +kernel
theorem k63_32 : look (codL 63) 32 = some (.istore_n 2, 1, 0, 0, 0) := by decide +kernel
theorem k63_33 : look (codL 63) 33 = some (.aload_n 0, 1, 0, 0, 0) := by decide +kernel
theorem k63_34 : look (codL 63) 34 = some (.iconst 2, 1, 0, 0, 0) := by decide +kernel
theorem k63_35 : look (codL 63) 35 = some (.iload_n 2, 1, 0, 0, 0) := by decide +kernel
theorem k63_36 : look (codL 63) 36 = some (.aload_n 1, 1, 0, 0, 0) := by decide +kernel
theorem k63_37 : look (codL 63) 37 = some (.getfield 66, 3, 4, 1, 0) := by decide +kernel
theorem k63_40 : look (codL 63) 40 = some (.iload 4, 2, 0, 0, 0) := by decide +kernel
theorem k63_42 : look (codL 63) 42 = some (.iaload, 1, 0, 0, 0) := by decide +kernel
theorem k63_43 : look (codL 63) 43 = some (.invokevirtual 76, 3, 50, 4, 0) := by decide +kernel
theorem k63_46 : look (codL 63) 46 = some (.iinc 3 1, 3, 0, 0, 0) := by decide +kernel
theorem k63_49 : look (codL 63) 49 = some (.goto (-45), 3, 0, 0, 0) := by decide +kernel
theorem k63_52 : look (codL 63) 52 = some (.return_, 1, 0, 0, 0) := by decide +kernel
theorem k64_0 : look (codL 64) 0 = some (.aload_n 0, 1, 0, 0, 0) := by decide +kernel
theorem k64_1 : look (codL 64) 1 = some (.iconst 0, 1, 0, 0, 0) := by decide +kernel
theorem k64_2 : look (codL 64) 2 = some (.putfield 31, 3, 6, 3, 0) := by decide +kernel
theorem k64_5 : look (codL 64) 5 = some (.aload_n 0, 1, 0, 0, 0) := by decide +kernel
theorem k64_6 : look (codL 64) 6 = some (.iload_n 2, 1, 0, 0, 0) := by decide +kernel
theorem k64_7 : look (codL 64) 7 = some (.putfield 35, 3, 6, 4, 0) := by decide +kernel
theorem k64_10 : look (codL 64) 10 = some (.aload_n 0, 1, 0, 0, 0) := by decide +kernel
theorem k64_11 : look (codL 64) 11 = some (.aload_n 1, 1, 0, 0, 0) := by decide +kernel
theorem k64_12 : look (codL 64) 12 = some (.invokevirtual 38, 3, 47, 2, 0) := by decide +kernel
theorem k64_15 : look (codL 64) 15 = some (.iconst 0, 1, 0, 0, 0) := by decide +kernel
theorem k64_16 : look (codL 64) 16 = some (.istore_n 3, 1, 0, 0, 0) := by decide +kernel
theorem k64_17 : look (codL 64) 17 = some (.iload_n 3, 1, 0, 0, 0) := by decide +kernel
theorem k64_18 : look (codL 64) 18 = some (.bipush 9, 2, 0, 0, 0) := by decide +kernel
theorem k64_20 : look (codL 64) 20 = some (.if_icmp .ge 46, 3, 0, 0, 0) := by decide +kernel
theorem k64_23 : look (codL 64) 23 = some (.aload_n 0, 1, 0, 0, 0) := by decide +kernel
theorem k64_24 : look (codL 64) 24 = some (.getfield 42, 3, 6, 9, 0) := by decide +kernel
theorem k64_27 : look (codL 64) 27 = some (.ifCond .le 39, 3, 0, 0, 0) := by decide +kernel
theorem k64_30 : look (codL 64) 30 = some (.aload_n 0, 1, 0, 0, 0) := by decide +kernel
theorem k64_31 : look (codL 64) 31 = some (.iconst 1, 1, 0, 0, 0) := by decide +kernel
theorem k64_32 : look (codL 64) 32 = some (.invokevirtual 45, 3, 49, 2, 0) := by decide +kernel
theorem k64_35 : look (codL 64) 35 = some (.istore 4, 2, 0, 0, 0) := by decide +kernel
theorem k64_37 : look (codL 64) 37 = some (.iload 4, 2, 0, 0, 0) := by decide +kernel
theorem k64_39 : look (codL 64) 39 = some (.ifCond .lt 12, 3, 0, 0, 0) := by decide +kernel
theorem k64_42 : look (codL 64) 42 = some (.aload_n 0, 1, 0, 0, 0) := by decide +kernel
theorem k64_43 : look (codL 64) 43 = some (.iload 4, 2, 0, 0, 0) := by decide +kernel
theorem k64_45 : look (codL 64) 45 = some (.invokevirtual 49, 3, 53, 2, 0) := by decide +kernel
theorem k64_48 : look (codL 64) 48 = some (.goto 12, 3, 0, 0, 0) := by decide +kernel
theorem k64_51 : look (codL 64) 51 = some (.aload_n 0, 1, 0, 0, 0) := by decide +kernel
theorem k64_52 : look (codL 64) 52 = some (.aload_n 0, 1, 0, 0, 0) := by decide +kernel
theorem k64_53 : look (codL 64) 53 = some (.iconst 0, 1, 0, 0, 0) := by decide +kernel
theorem k64_54 : look (codL 64) 54 = some (.invokevirtual 45, 3, 49, 2, 0) := by decide +kernel
theorem k64_57 : look (codL 64) 57 = some (.invokevirtual 53, 3, 61, 2, 0) := by decide +kernel
theorem k64_60 : look (codL 64) 60 = some (.iinc 3 1, 3, 0, 0, 0) := by decide +kernel
theorem k64_63 : look (codL 64) 63 = some (.goto (-46), 3, 0, 0, 0) := by decide +kernel
theorem k64_66 : look (codL 64) 66 = some (.aload_n 0, 1, 0, 0, 0) := by decide +kernel
theorem k64_67 : look (codL 64) 67 = some (.aload_n 1, 1, 0, 0, 0) := by decide +kernel
theorem k64_68 : look (codL 64) 68 = some (.invokevirtual 56, 3, 63, 2, 0) := by decide +kernel
theorem k64_71 : look (codL 64) 71 = some (.return_, 1, 0, 0, 0) := by decide +kernel
theorem k65_0 : look (codL 65) 0 = some (.iconst 0, 1, 0, 0, 0) := by decide +kernel
theorem k65_1 : look (codL 65) 1 = some (.istore_n 2, 1, 0, 0, 0) := by decide +kernel
theorem k65_2 : look (codL 65) 2 = some (.iconst 0, 1, 0, 0, 0) := by decide +kernel
theorem k65_3 : look (codL 65) 3 = some (.istore_n 3, 1, 0, 0, 0) := by decide +kernel
theorem k65_4 : look (codL 65) 4 = some (.iload_n 3, 1, 0, 0, 0) := by decide +kernel
theorem k65_5 : look (codL 65) 5 = some (.aload_n 0, 1, 0, 0, 0) := by decide +kernel
theorem k65_6 : look (codL 65) 6 = some (.getfield 31, 3, 6, 3, 0) := by decide +kernel
theorem k65_9 : look (codL 65) 9 = some (.if_icmp .ge 27, 3, 0, 0, 0) := by decide +kernel
theorem k65_12 : look (codL 65) 12 = some (.iload_n 2, 1, 0, 0, 0) := by decide +kernel
theorem k65_13 : look (codL 65) 13 = some (.aload_n 0, 1, 0, 0, 0) := by decide +kernel
theorem k65_14 : look (codL 65) 14 = some (.getfield 11, 3, 6, 0, 0) := by decide +kernel
theorem k65_17 : look (codL 65) 17 = some (.iload_n 3, 1, 0, 0, 0) := by decide +kernel
theorem k65_18 : look (codL 65) 18 = some (.iaload, 1, 0, 0, 0) := by decide +kernel
theorem k65_19 : look (codL 65) 19 = some (.iload_n 1, 1, 0, 0, 0) := by decide +kernel
theorem k65_20 : look (codL 65) 20 = some (.if_icmp .ne 7, 3, 0, 0, 0) := by decide +kernel
theorem k65_23 : look (codL 65) 23 = some (.iconst 1, 1, 0, 0, 0) := by decide +kernel
theorem k65_24 : look (codL 65) 24 = some (.goto 4, 3, 0, 0, 0) := by decide +kernel
theorem k65_27 : look (codL 65) 27 = some (.iconst 0, 1, 0, 0, 0) := by decide +kernel
theorem k65_28 : look (codL 65) 28 = some (.iadd, 1, 0, 0, 0) := by decide +kernel
theorem k65_29 : look (codL 65) 29 = some (.istore_n 2, 1, 0, 0, 0) := by decide +kernel
theorem k65_30 : look (codL 65) 30 = some (.iinc 3 1, 3, 0, 0, 0) := by decide +kernel
theorem k65_33 : look (codL 65) 33 = some (.goto (-29), 3, 0, 0, 0) := by decide +kernel
theorem k65_36 : look (codL 65) 36 = some (.iload_n 2, 1, 0, 0, 0) := by decide +kernel
theorem k65_37 : look (codL 65) 37 = some (.ireturn, 1, 0, 0, 0) := by decide +kernel
theorem k66_0 : look (codL 66) 0 = some (.iconst 0, 1, 0, 0, 0) := by decide +kernel
theorem k66_1 : look (codL 66) 1 = some (.istore_n 1, 1, 0, 0, 0) := by decide +kernel
theorem k66_2 : look (codL 66) 2 = some (.iconst 0, 1, 0, 0, 0) := by decide +kernel
theorem k66_3 : look (codL 66) 3 = some (.istore_n 2, 1, 0, 0, 0) := by decide +kernel
theorem k66_4 : look (codL 66) 4 = some (.iload_n 2, 1, 0, 0, 0) := by decide +kernel
theorem k66_5 : look (codL 66) 5 = some (.aload_n 0, 1, 0, 0, 0) := by decide +kernel
theorem k66_6 : look (codL 66) 6 = some (.getfield 31, 3, 6, 3, 0) := by decide +kernel
theorem k66_9 : look (codL 66) 9 = some (.if_icmp .ge 31, 3, 0, 0, 0) := by decide +kernel
theorem k66_12 : look (codL 66) 12 = some (.iload_n 1, 1, 0, 0, 0) := by decide +kernel
theorem k66_13 : look (codL 66) 13 = some (.aload_n 0, 1, 0, 0, 0) := by decide +kernel
theorem k66_14 : look (codL 66) 14 = some (.getfield 15, 3, 6, 1, 0) := by decide +kernel
theorem k66_17 : look (codL 66) 17 = some (.iload_n 2, 1, 0, 0, 0) := by decide +kernel
theorem k66_18 : look (codL 66) 18 = some (.iaload, 1, 0, 0, 0) := by decide +kernel
theorem k66_19 : look (codL 66) 19 = some (.invokestatic 119, 3, 1, 1, 0) := by decide +kernel
theorem k66_22 : look (codL 66) 22 = some (.bipush 32, 2, 0, 0, 0) := by decide +kernel
theorem k66_24 : look (codL 66) 24 = some (.if_icmp .ne 7, 3, 0, 0, 0) := by decide +kernel
theorem k66_27 : look (codL 66) 27 = some (.iconst 1, 1, 0, 0, 0) := by decide +kernel
theorem k66_28 : look (codL 66) 28 = some (.goto 4, 3, 0, 0, 0) := by decide +kernel
theorem k66_31 : look (codL 66) 31 = some (.iconst 0, 1, 0, 0, 0) := by decide +kernel
theorem k66_32 : look (codL 66) 32 = some (.iadd, 1, 0, 0, 0) := by decide +kernel
theorem k66_33 : look (codL 66) 33 = some (.istore_n 1, 1, 0, 0, 0) := by decide +kernel
theorem k66_34 : look (codL 66) 34 = some (.iinc 2 1, 3, 0, 0, 0) := by decide +kernel
theorem k66_37 : look (codL 66) 37 = some (.goto (-33), 3, 0, 0, 0) := by decide +kernel
theorem k66_40 : look (codL 66) 40 = some (.iload_n 1, 1, 0, 0, 0) := by decide +kernel
theorem k66_41 : look (codL 66) 41 = some (.ireturn, 1, 0, 0, 0) := by decide +kernel
theorem k67_0 : look (codL 67) 0 = some (.iconst 0, 1, 0, 0, 0) := by decide +kernel
theorem k67_1 : look (codL 67) 1 = some (.istore_n 1, 1, 0, 0, 0) := by decide +kernel
theorem k67_2 : look (codL 67) 2 = some (.iconst 0, 1, 0, 0, 0) := by decide +kernel
theorem k67_3 : look (codL 67) 3 = some (.istore_n 2, 1, 0, 0, 0) := by decide +kernel
theorem k67_4 : look (codL 67) 4 = some (.iload_n 2, 1, 0, 0, 0) := by decide +kernel
theorem k67_5 : look (codL 67) 5 = some (.aload_n 0, 1, 0, 0, 0) := by decide +kernel
theorem k67_6 : look (codL 67) 6 = some (.getfield 31, 3, 6, 3, 0) := by decide +kernel
theorem k67_9 : look (codL 67) 9 = some (.if_icmp .ge 51, 3, 0, 0, 0) := by decide +kernel
theorem k67_12 : look (codL 67) 12 = some (.aload_n 0, 1, 0, 0, 0) := by decide +kernel
theorem k67_13 : look (codL 67) 13 = some (.getfield 15, 3, 6, 1, 0) := by decide +kernel
theorem k67_16 : look (codL 67) 16 = some (.iload_n 2, 1, 0, 0, 0) := by decide +kernel
theorem k67_17 : look (codL 67) 17 = some (.iaload, 1, 0, 0, 0) := by decide +kernel
theorem k67_18 : look (codL 67) 18 = some (.invokestatic 94, 3, 2, 1, 0) := by decide +kernel
theorem k67_21 : look (codL 67) 21 = some (.istore_n 3, 1, 0, 0, 0) := by decide +kernel
theorem k67_22 : look (codL 67) 22 = some (.iload_n 1, 1, 0, 0, 0) := by decide +kernel
theorem k67_23 : look (codL 67) 23 = some (.aload_n 0, 1, 0, 0, 0) := by decide +kernel
theorem k67_24 : look (codL 67) 24 = some (.getfield 11, 3, 6, 0, 0) := by decide +kernel
theorem k67_27 : look (codL 67) 27 = some (.iload_n 2, 1, 0, 0, 0) := by decide +kernel
theorem k67_28 : look (codL 67) 28 = some (.iaload, 1, 0, 0, 0) := by decide +kernel
theorem k67_29 : look (codL 67) 29 = some (.iconst 1, 1, 0, 0, 0) := by decide +kernel
theorem k67_30 : look (codL 67) 30 = some (.if_icmp .ne 14, 3, 0, 0, 0) := by decide +kernel
theorem k67_33 : look (codL 67) 33 = some (.aload_n 0, 1, 0, 0, 0) := by decide +kernel
theorem k67_34 : look (codL 67) 34 = some (.getfield 35, 3, 6, 4, 0) := by decide +kernel
theorem k67_37 : look (codL 67) 37 = some (.iload_n 3, 1, 0, 0, 0) := by decide +kernel
theorem k67_38 : look (codL 67) 38 = some (.invokestatic 122, 3, 56, 2, 0) := by decide +kernel
theorem k67_41 : look (codL 67) 41 = some (.goto 11, 3, 0, 0, 0) := by decide +kernel
theorem k67_44 : look (codL 67) 44 = some (.aload_n 0, 1, 0, 0, 0) := by decide +kernel
theorem k67_45 : look (codL 67) 45 = some (.getfield 35, 3, 6, 4, 0) := by decide +kernel
theorem k67_48 : look (codL 67) 48 = some (.iload_n 3, 1, 0, 0, 0) := by decide +kernel
theorem k67_49 : look (codL 67) 49 = some (.invokestatic 125, 3, 57, 2, 0) := by decide +kernel
theorem k67_52 : look (codL 67) 52 = some (.iadd, 1, 0, 0, 0) := by decide +kernel
theorem k67_53 : look (codL 67) 53 = some (.istore_n 1, 1, 0, 0, 0) := by decide +kernel
theorem k67_54 : look (codL 67) 54 = some (.iinc 2 1, 3, 0, 0, 0) := by decide +kernel
theorem k67_57 : look (codL 67) 57 = some (.goto (-53), 3, 0, 0, 0) := by decide +kernel
theorem k67_60 : look (codL 67) 60 = some (.iload_n 1, 1, 0, 0, 0) := by decide +kernel
theorem k67_61 : look (codL 67) 61 = some (.ireturn, 1, 0, 0, 0) := by decide +kernel
theorem k68_0 : look (codL 68) 0 = some (.aload_n 0, 1, 0, 0, 0) := by decide +kernel
theorem k68_1 : look (codL 68) 1 = some (.getfield 11, 3, 6, 0, 0) := by decide +kernel
theorem k68_4 : look (codL 68) 4 = some (.iload_n 1, 1, 0, 0, 0) := by decide +kernel
theorem k68_5 : look (codL 68) 5 = some (.iaload, 1, 0, 0, 0) := by decide +kernel
theorem k68_6 : look (codL 68) 6 = some (.aload_n 2, 1, 0, 0, 0) := by decide +kernel
theorem k68_7 : look (codL 68) 7 = some (.getfield 11, 3, 6, 0, 0) := by decide +kernel
theorem k68_10 : look (codL 68) 10 = some (.iload_n 3, 1, 0, 0, 0) := by decide +kernel
theorem k68_11 : look (codL 68) 11 = some (.iaload, 1, 0, 0, 0) := by decide +kernel
theorem k68_12 : look (codL 68) 12 = some (.if_icmp .ne 37, 3, 0, 0, 0) := by decide +kernel
theorem k68_15 : look (codL 68) 15 = some (.aload_n 0, 1, 0, 0, 0) := by decide +kernel
theorem k68_16 : look (codL 68) 16 = some (.getfield 15, 3, 6, 1, 0) := by decide +kernel
theorem k68_19 : look (codL 68) 19 = some (.iload_n 1, 1, 0, 0, 0) := by decide +kernel
theorem k68_20 : look (codL 68) 20 = some (.iaload, 1, 0, 0, 0) := by decide +kernel
theorem k68_21 : look (codL 68) 21 = some (.aload_n 2, 1, 0, 0, 0) := by decide +kernel
theorem k68_22 : look (codL 68) 22 = some (.getfield 15, 3, 6, 1, 0) := by decide +kernel
theorem k68_25 : look (codL 68) 25 = some (.iload_n 3, 1, 0, 0, 0) := by decide +kernel
theorem k68_26 : look (codL 68) 26 = some (.iaload, 1, 0, 0, 0) := by decide +kernel
theorem k68_27 : look (codL 68) 27 = some (.if_icmp .ne 22, 3, 0, 0, 0) := by decide +kernel
theorem k68_30 : look (codL 68) 30 = some (.aload_n 0, 1, 0, 0, 0) := by decide +kernel
theorem k68_31 : look (codL 68) 31 = some (.getfield 18, 3, 6, 2, 0) := by decide +kernel
theorem k68_34 : look (codL 68) 34 = some (.iload_n 1, 1, 0, 0, 0) := by decide +kernel
theorem k68_35 : look (codL 68) 35 = some (.iaload, 1, 0, 0, 0) := by decide +kernel
theorem k68_36 : look (codL 68) 36 = some (.aload_n 2, 1, 0, 0, 0) := by decide +kernel
theorem k68_37 : look (codL 68) 37 = some (.getfield 18, 3, 6, 2, 0) := by decide +kernel
theorem k68_40 : look (codL 68) 40 = some (.iload_n 3, 1, 0, 0, 0) := by decide +kernel
theorem k68_41 : look (codL 68) 41 = some (.iaload, 1, 0, 0, 0) := by decide +kernel
theorem k68_42 : look (codL 68) 42 = some (.if_icmp .ne 7, 3, 0, 0, 0) := by decide +kernel
theorem k68_45 : look (codL 68) 45 = some (.iconst 1, 1, 0, 0, 0) := by decide +kernel
theorem k68_46 : look (codL 68) 46 = some (.goto 4, 3, 0, 0, 0) := by decide +kernel
theorem k68_49 : look (codL 68) 49 = some (.iconst 0, 1, 0, 0, 0) := by decide +kernel
theorem k68_50 : look (codL 68) 50 = some (.ireturn, 1, 0, 0, 0) := by decide +kernel
theorem k69_0 : look (codL 69) 0 = some (.iconst 0, 1, 0, 0, 0) := by decide +kernel
theorem k69_1 : look (codL 69) 1 = some (.istore_n 2, 1, 0, 0, 0) := by decide +kernel
theorem k69_2 : look (codL 69) 2 = some (.iload_n 2, 1, 0, 0, 0) := by decide +kernel
theorem k69_3 : look (codL 69) 3 = some (.aload_n 0, 1, 0, 0, 0) := by decide +kernel
theorem k69_4 : look (codL 69) 4 = some (.getfield 31, 3, 6, 3, 0) := by decide +kernel
theorem k69_7 : look (codL 69) 7 = some (.if_icmp .ge 41, 3, 0, 0, 0) := by decide +kernel
theorem k69_10 : look (codL 69) 10 = some (.iload_n 2, 1, 0, 0, 0) := by decide +kernel
theorem k69_11 : look (codL 69) 11 = some (.aload_n 1, 1, 0, 0, 0) := by decide +kernel
theorem k69_12 : look (codL 69) 12 = some (.getfield 31, 3, 6, 3, 0) := by decide +kernel
theorem k69_15 : look (codL 69) 15 = some (.if_icmp .ge 33, 3, 0, 0, 0) := by decide +kernel
theorem k69_18 : look (codL 69) 18 = some (.aload_n 0, 1, 0, 0, 0) := by decide +kernel
theorem k69_19 : look (codL 69) 19 = some (.aload_n 0, 1, 0, 0, 0) := by decide +kernel
theorem k69_20 : look (codL 69) 20 = some (.getfield 31, 3, 6, 3, 0) := by decide +kernel
theorem k69_23 : look (codL 69) 23 = some (.iconst 1, 1, 0, 0, 0) := by decide +kernel
theorem k69_24 : look (codL 69) 24 = some (.isub, 1, 0, 0, 0) := by decide +kernel
theorem k69_25 : look (codL 69) 25 = some (.iload_n 2, 1, 0, 0, 0) := by decide +kernel
theorem k69_26 : look (codL 69) 26 = some (.isub, 1, 0, 0, 0) := by decide +kernel
theorem k69_27 : look (codL 69) 27 = some (.aload_n 1, 1, 0, 0, 0) := by decide +kernel
theorem k69_28 : look (codL 69) 28 = some (.aload_n 1, 1, 0, 0, 0) := by decide +kernel
theorem k69_29 : look (codL 69) 29 = some (.getfield 31, 3, 6, 3, 0) := by decide +kernel
theorem k69_32 : look (codL 69) 32 = some (.iconst 1, 1, 0, 0, 0) := by decide +kernel
theorem k69_33 : look (codL 69) 33 = some (.isub, 1, 0, 0, 0) := by decide +kernel
theorem k69_34 : look (codL 69) 34 = some (.iload_n 2, 1, 0, 0, 0) := by decide +kernel
theorem k69_35 : look (codL 69) 35 = some (.isub, 1, 0, 0, 0) := by decide +kernel
theorem k69_36 : look (codL 69) 36 = some (.invokevirtual 128, 3, 68, 4, 0) := by decide +kernel
theorem k69_39 : look (codL 69) 39 = some (.ifCond .eq 9, 3, 0, 0, 0) := by decide +kernel
theorem k69_42 : look (codL 69) 42 = some (.iinc 2 1, 3, 0, 0, 0) := by decide +kernel
theorem k69_45 : look (codL 69) 45 = some (.goto (-43), 3, 0, 0, 0) := by decide +kernel
theorem k69_48 : look (codL 69) 48 = some (.iload_n 2, 1, 0, 0, 0) := by decide +kernel
theorem k69_49 : look (codL 69) 49 = some (.ireturn, 1, 0, 0, 0) := by decide +kernel
theorem k71_0 : look (codL 71) 0 = some (.iload_n 1, 1, 0, 0, 0) := by decide +kernel
theorem k71_1 : look (codL 71) 1 = some (.ifCond .lt 20, 3, 0, 0, 0) := by decide +kernel
theorem k71_4 : look (codL 71) 4 = some (.iload_n 1, 1, 0, 0, 0) := by decide +kernel
theorem k71_5 : look (codL 71) 5 = some (.aload_n 0, 1, 0, 0, 0) := by decide +kernel
theorem k71_6 : look (codL 71) 6 = some (.getfield 15, 3, 8, 1, 0) := by decide +kernel
theorem k71_9 : look (codL 71) 9 = some (.if_icmp .ge 12, 3, 0, 0, 0) := by decide +kernel
theorem k71_12 : look (codL 71) 12 = some (.aload_n 0, 1, 0, 0, 0) := by decide +kernel
theorem k71_13 : look (codL 71) 13 = some (.getfield 9, 3, 8, 0, 0) := by decide +kernel
theorem k71_16 : look (codL 71) 16 = some (.iload_n 1, 1, 0, 0, 0) := by decide +kernel
theorem k71_17 : look (codL 71) 17 = some (.iaload, 1, 0, 0, 0) := by decide +kernel
theorem k71_18 : look (codL 71) 18 = some (.goto 4, 3, 0, 0, 0) := by decide +kernel
theorem k71_21 : look (codL 71) 21 = some (.iconst (-1), 1, 0, 0, 0) := by decide +kernel
theorem k71_22 : look (codL 71) 22 = some (.ireturn, 1, 0, 0, 0) := by decide +kernel
theorem k72_0 : look (codL 72) 0 = some (.aload_n 0, 1, 0, 0, 0) := by decide +kernel
theorem k72_1 : look (codL 72) 1 = some (.getfield 24, 3, 7, 2, 0) := by decide +kernel
theorem k72_4 : look (codL 72) 4 = some (.aload_n 0, 1, 0, 0, 0) := by decide +kernel
theorem k72_5 : look (codL 72) 5 = some (.getfield 9, 3, 7, 0, 0) := by decide +kernel
theorem k72_8 : look (codL 72) 8 = some (.getfield 46, 3, 8, 1, 0) := by decide +kernel
theorem k72_11 : look (codL 72) 11 = some (.if_icmp .ge 32, 3, 0, 0, 0) := by decide +kernel
theorem k72_14 : look (codL 72) 14 = some (.aload_n 0, 1, 0, 0, 0) := by decide +kernel
theorem k72_15 : look (codL 72) 15 = some (.getfield 9, 3, 7, 0, 0) := by decide +kernel
theorem k72_18 : look (codL 72) 18 = some (.aload_n 0, 1, 0, 0, 0) := by decide +kernel
theorem k72_19 : look (codL 72) 19 = some (.getfield 24, 3, 7, 2, 0) := by decide +kernel
theorem k72_22 : look (codL 72) 22 = some (.invokevirtual 51, 3, 71, 2, 0) := by decide +kernel
theorem k72_25 : look (codL 72) 25 = some (.bipush 32, 2, 0, 0, 0) := by decide +kernel
theorem k72_27 : look (codL 72) 27 = some (.if_icmp .ne 16, 3, 0, 0, 0) := by decide +kernel
theorem k72_30 : look (codL 72) 30 = some (.aload_n 0, 1, 0, 0, 0) := by decide +kernel
theorem k72_31 : look (codL 72) 31 = some (.dup, 1, 0, 0, 0) := by decide +kernel
theorem k72_32 : look (codL 72) 32 = some (.getfield 24, 3, 7, 2, 0) := by decide +kernel
theorem k72_35 : look (codL 72) 35 = some (.iconst 1, 1, 0, 0, 0) := by decide +kernel
theorem k72_36 : look (codL 72) 36 = some (.iadd, 1, 0, 0, 0) := by decide +kernel
theorem k72_37 : look (codL 72) 37 = some (.putfield 24, 3, 7, 2, 0) := by decide +kernel
theorem k72_40 : look (codL 72) 40 = some (.goto (-40), 3, 0, 0, 0) := by decide +kernel
theorem k72_43 : look (codL 72) 43 = some (.aload_n 0, 1, 0, 0, 0) := by decide +kernel
theorem k72_44 : look (codL 72) 44 = some (.getfield 9, 3, 7, 0, 0) := by decide +kernel
theorem k72_47 : look (codL 72) 47 = some (.aload_n 0, 1, 0, 0, 0) := by decide +kernel
theorem k72_48 : look (codL 72) 48 = some (.getfield 24, 3, 7, 2, 0) := by decide +kernel
theorem k72_51 : look (codL 72) 51 = some (.invokevirtual 51, 3, 71, 2, 0) := by decide +kernel
theorem k72_54 : look (codL 72) 54 = some (.ireturn, 1, 0, 0, 0) := by decide +kernel
theorem k73_0 : look (codL 73) 0 = some (.aload_n 0, 1, 0, 0, 0) := by decide +kernel
theorem k73_1 : look (codL 73) 1 = some (.iload_n 1, 1, 0, 0, 0) := by decide +kernel
theorem k73_2 : look (codL 73) 2 = some (.putfield 43, 3, 7, 3, 0) := by decide +kernel
theorem k73_5 : look (codL 73) 5 = some (.iconst 0, 1, 0, 0, 0) := by decide +kernel
theorem k73_6 : look (codL 73) 6 = some (.ireturn, 1, 0, 0, 0) := by decide +kernel
theorem k74_0 : look (codL 74) 0 = some (.iload_n 0, 1, 0, 0, 0) := by decide +kernel
theorem k74_1 : look (codL 74) 1 = some (.bipush 48, 2, 0, 0, 0) := by decide +kernel
theorem k74_3 : look (codL 74) 3 = some (.if_icmp .lt 13, 3, 0, 0, 0) := by decide +kernel
theorem k74_6 : look (codL 74) 6 = some (.iload_n 0, 1, 0, 0, 0) := by decide +kernel
theorem k74_7 : look (codL 74) 7 = some (.bipush 57, 2, 0, 0, 0) := by decide +kernel
theorem k74_9 : look (codL 74) 9 = some (.if_icmp .gt 7, 3, 0, 0, 0) := by decide +kernel
theorem k74_12 : look (codL 74) 12 = some (.iconst 1, 1, 0, 0, 0) := by decide +kernel
theorem k74_13 : look (codL 74) 13 = some (.goto 4, 3, 0, 0, 0) := by decide +kernel
theorem k74_16 : look (codL 74) 16 = some (.iconst 0, 1, 0, 0, 0) := by decide +kernel
theorem k74_17 : look (codL 74) 17 = some (.ireturn, 1, 0, 0, 0) := by decide +kernel
theorem k75_0 : look (codL 75) 0 = some (.iconst 0, 1, 0, 0, 0) := by decide +kernel
theorem k75_1 : look (codL 75) 1 = some (.istore_n 1, 1, 0, 0, 0) := by decide +kernel
theorem k75_2 : look (codL 75) 2 = some (.iconst 0, 1, 0, 0, 0) := by decide +kernel
theorem k75_3 : look (codL 75) 3 = some (.istore_n 2, 1, 0, 0, 0) := by decide +kernel
theorem k75_4 : look (codL 75) 4 = some (.aload_n 0, 1, 0, 0, 0) := by decide +kernel
theorem k75_5 : look (codL 75) 5 = some (.getfield 24, 3, 7, 2, 0) := by decide +kernel
theorem k75_8 : look (codL 75) 8 = some (.aload_n 0, 1, 0, 0, 0) := by decide +kernel
theorem k75_9 : look (codL 75) 9 = some (.getfield 9, 3, 7, 0, 0) := by decide +kernel
theorem k75_12 : look (codL 75) 12 = some (.getfield 46, 3, 8, 1, 0) := by decide +kernel
theorem k75_15 : look (codL 75) 15 = some (.if_icmp .ge 67, 3, 0, 0, 0) := by decide +kernel
theorem k75_18 : look (codL 75) 18 = some (.aload_n 0, 1, 0, 0, 0) := by decide +kernel
theorem k75_19 : look (codL 75) 19 = some (.getfield 9, 3, 7, 0, 0) := by decide +kernel
theorem k75_22 : look (codL 75) 22 = some (.aload_n 0, 1, 0, 0, 0) := by decide +kernel
theorem k75_23 : look (codL 75) 23 = some (.getfield 24, 3, 7, 2, 0) := by decide +kernel
theorem k75_26 : look (codL 75) 26 = some (.invokevirtual 51, 3, 71, 2, 0) := by decide +kernel
theorem k75_29 : look (codL 75) 29 = some (.invokestatic 55, 3, 74, 1, 0) := by decide +kernel
theorem k75_32 : look (codL 75) 32 = some (.ifCond .eq 50, 3, 0, 0, 0) := by decide +kernel
theorem k75_35 : look (codL 75) 35 = some (.iinc 2 1, 3, 0, 0, 0) := by decide +kernel
theorem k75_38 : look (codL 75) 38 = some (.iload_n 2, 1, 0, 0, 0) := by decide +kernel
theorem k75_39 : look (codL 75) 39 = some (.iconst 3, 1, 0, 0, 0) := by decide +kernel
theorem k75_40 : look (codL 75) 40 = some (.if_icmp .le 9, 3, 0, 0, 0) := by decide +kernel
theorem k75_43 : look (codL 75) 43 = some (.sipush 1000, 3, 0, 0, 0) := by decide +kernel
theorem k75_46 : look (codL 75) 46 = some (.goto 22, 3, 0, 0, 0) := by decide +kernel
theorem k75_49 : look (codL 75) 49 = some (.bipush 10, 2, 0, 0, 0) := by decide +kernel
theorem k75_51 : look (codL 75) 51 = some (.iload_n 1, 1, 0, 0, 0) := by decide +kernel
theorem k75_52 : look (codL 75) 52 = some (.imul, 1, 0, 0, 0) := by decide +kernel
theorem k75_53 : look (codL 75) 53 = some (.aload_n 0, 1, 0, 0, 0) := by decide +kernel
theorem k75_54 : look (codL 75) 54 = some (.getfield 9, 3, 7, 0, 0) := by decide +kernel
theorem k75_57 : look (codL 75) 57 = some (.aload_n 0, 1, 0, 0, 0) := by decide +kernel
theorem k75_58 : look (codL 75) 58 = some (.getfield 24, 3, 7, 2, 0) := by decide +kernel
theorem k75_61 : look (codL 75) 61 = some (.invokevirtual 51, 3, 71, 2, 0) := by decide +kernel
theorem k75_64 : look (codL 75) 64 = some (.iadd, 1, 0, 0, 0) := by decide +kernel
theorem k75_65 : look (codL 75) 65 = some (.bipush 48, 2, 0, 0, 0) := by decide +kernel
theorem k75_67 : look (codL 75) 67 = some (.isub, 1, 0, 0, 0) := by decide +kernel
theorem k75_68 : look (codL 75) 68 = some (.istore_n 1, 1, 0, 0, 0) := by decide +kernel
theorem k75_69 : look (codL 75) 69 = some (.aload_n 0, 1, 0, 0, 0) := by decide +kernel
theorem k75_70 : look (codL 75) 70 = some (.dup, 1, 0, 0, 0) := by decide +kernel
theorem k75_71 : look (codL 75) 71 = some (.getfield 24, 3, 7, 2, 0) := by decide +kernel
theorem k75_74 : look (codL 75) 74 = some (.iconst 1, 1, 0, 0, 0) := by decide +kernel
theorem k75_75 : look (codL 75) 75 = some (.iadd, 1, 0, 0, 0) := by decide +kernel
theorem k75_76 : look (codL 75) 76 = some (.putfield 24, 3, 7, 2, 0) := by decide +kernel
theorem k75_79 : look (codL 75) 79 = some (.goto (-75), 3, 0, 0, 0) := by decide +kernel
theorem k75_82 : look (codL 75) 82 = some (.iload_n 1, 1, 0, 0, 0) := by decide +kernel
theorem k75_83 : look (codL 75) 83 = some (.ireturn, 1, 0, 0, 0) := by decide +kernel
theorem k76_0 : look (codL 76) 0 = some (.iload_n 0, 1, 0, 0, 0) := by decide +kernel
theorem k76_1 : look (codL 76) 1 = some (.iconst 1, 1, 0, 0, 0) := by decide +kernel
theorem k76_2 : look (codL 76) 2 = some (.if_icmp .eq 13, 3, 0, 0, 0) := by decide +kernel
theorem k76_5 : look (codL 76) 5 = some (.iload_n 0, 1, 0, 0, 0) := by decide +kernel
theorem k76_6 : look (codL 76) 6 = some (.iconst 2, 1, 0, 0, 0) := by decide +kernel
theorem k76_7 : look (codL 76) 7 = some (.if_icmp .eq 8, 3, 0, 0, 0) := by decide +kernel
theorem k76_10 : look (codL 76) 10 = some (.iload_n 0, 1, 0, 0, 0) := by decide +kernel
theorem k76_11 : look (codL 76) 11 = some (.iconst 4, 1, 0, 0, 0) := by decide +kernel
theorem k76_12 : look (codL 76) 12 = some (.if_icmp .ne 7, 3, 0, 0, 0) := by decide +kernel
theorem k76_15 : look (codL 76) 15 = some (.iconst 1, 1, 0, 0, 0) := by decide +kernel
theorem k76_16 : look (codL 76) 16 = some (.goto 4, 3, 0, 0, 0) := by decide +kernel
theorem k76_19 : look (codL 76) 19 = some (.iconst 0, 1, 0, 0, 0) := by decide +kernel
theorem k76_20 : look (codL 76) 20 = some (.ireturn, 1, 0, 0, 0) := by decide +kernel
theorem k77_0 : look (codL 77) 0 = some (.iload_n 0, 1, 0, 0, 0) := by decide +kernel
theorem k77_1 : look (codL 77) 1 = some (.ifCond .lt 13, 3, 0, 0, 0) := by decide +kernel
theorem k77_4 : look (codL 77) 4 = some (.iload_n 0, 1, 0, 0, 0) := by decide +kernel
theorem k77_5 : look (codL 77) 5 = some (.invokestatic 9, 3, 2, 1, 0) := by decide +kernel
theorem k77_8 : look (codL 77) 8 = some (.invokestatic 15, 3, 76, 1, 0) := by decide +kernel
theorem k77_11 : look (codL 77) 11 = some (.ifCond .ne 5, 3, 0, 0, 0) := by decide +kernel
theorem k77_14 : look (codL 77) 14 = some (.iconst 0, 1, 0, 0, 0) := by decide +kernel
theorem k77_15 : look (codL 77) 15 = some (.ireturn, 1, 0, 0, 0) := by decide +kernel
theorem k77_16 : look (codL 77) 16 = some (.iload_n 0, 1, 0, 0, 0) := by decide +kernel
theorem k77_17 : look (codL 77) 17 = some (.invokestatic 19, 3, 1, 1, 0) := by decide +kernel
theorem k77_20 : look (codL 77) 20 = some (.istore_n 1, 1, 0, 0, 0) := by decide +kernel
theorem k77_21 : look (codL 77) 21 = some (.iload_n 0, 1, 0, 0, 0) := by decide +kernel
theorem k77_22 : look (codL 77) 22 = some (.invokestatic 9, 3, 2, 1, 0) := by decide +kernel
theorem k77_25 : look (codL 77) 25 = some (.istore_n 2, 1, 0, 0, 0) := by decide +kernel
theorem k77_26 : look (codL 77) 26 = some (.iload_n 1, 1, 0, 0, 0) := by decide +kernel
theorem k77_27 : look (codL 77) 27 = some (.iload_n 2, 1, 0, 0, 0) := by decide +kernel
theorem k77_28 : look (codL 77) 28 = some (.iadd, 1, 0, 0, 0) := by decide +kernel
theorem k77_29 : look (codL 77) 29 = some (.bipush 32, 2, 0, 0, 0) := by decide +kernel
theorem k77_31 : look (codL 77) 31 = some (.if_icmp .gt 13, 3, 0, 0, 0) := by decide +kernel
theorem k77_34 : look (codL 77) 34 = some (.iload_n 1, 1, 0, 0, 0) := by decide +kernel
theorem k77_35 : look (codL 77) 35 = some (.iload_n 2, 1, 0, 0, 0) := by decide +kernel
theorem k77_36 : look (codL 77) 36 = some (.irem, 1, 0, 0, 0) := by decide +kernel
theorem k77_37 : look (codL 77) 37 = some (.ifCond .ne 7, 3, 0, 0, 0) := by decide +kernel
theorem k77_40 : look (codL 77) 40 = some (.iconst 1, 1, 0, 0, 0) := by decide +kernel
theorem k77_41 : look (codL 77) 41 = some (.goto 4, 3, 0, 0, 0) := by decide +kernel
theorem k77_44 : look (codL 77) 44 = some (.iconst 0, 1, 0, 0, 0) := by decide +kernel
theorem k77_45 : look (codL 77) 45 = some (.ireturn, 1, 0, 0, 0) := by decide +kernel
theorem k78_0 : look (codL 78) 0 = some (.aload_n 0, 1, 0, 0, 0) := by decide +kernel
theorem k78_1 : look (codL 78) 1 = some (.invokevirtual 28, 3, 72, 1, 0) := by decide +kernel
theorem k78_4 : look (codL 78) 4 = some (.bipush 59, 2, 0, 0, 0) := by decide +kernel
theorem k78_6 : look (codL 78) 6 = some (.if_icmp .eq 12, 3, 0, 0, 0) := by decide +kernel
theorem k78_9 : look (codL 78) 9 = some (.aload_n 0, 1, 0, 0, 0) := by decide +kernel
theorem k78_10 : look (codL 78) 10 = some (.aload_n 0, 1, 0, 0, 0) := by decide +kernel
theorem k78_11 : look (codL 78) 11 = some (.getfield 24, 3, 7, 2, 0) := by decide +kernel
theorem k78_14 : look (codL 78) 14 = some (.invokevirtual 39, 3, 73, 2, 0) := by decide +kernel
theorem k78_17 : look (codL 78) 17 = some (.ireturn, 1, 0, 0, 0) := by decide +kernel
theorem k78_18 : look (codL 78) 18 = some (.aload_n 0, 1, 0, 0, 0) := by decide +kernel
theorem k78_19 : look (codL 78) 19 = some (.dup, 1, 0, 0, 0) := by decide +kernel
theorem k78_20 : look (codL 78) 20 = some (.getfield 24, 3, 7, 2, 0) := by decide +kernel
theorem k78_23 : look (codL 78) 23 = some (.iconst 1, 1, 0, 0, 0) := by decide +kernel
theorem k78_24 : look (codL 78) 24 = some (.iadd, 1, 0, 0, 0) := by decide +kernel
theorem k78_25 : look (codL 78) 25 = some (.putfield 24, 3, 7, 2, 0) := by decide +kernel
theorem k78_28 : look (codL 78) 28 = some (.iconst 1, 1, 0, 0, 0) := by decide +kernel
theorem k78_29 : look (codL 78) 29 = some (.ireturn, 1, 0, 0, 0) := by decide +kernel
theorem k79_0 : look (codL 79) 0 = some (.aload_n 0, 1, 0, 0, 0) := by decide +kernel
theorem k79_1 : look (codL 79) 1 = some (.getfield 15, 3, 7, 1, 0) := by decide +kernel
theorem k79_4 : look (codL 79) 4 = some (.invokevirtual 65, 3, 17, 1, 0) := by decide +kernel
theorem k79_7 : look (codL 79) 7 = some (.istore_n 1, 1, 0, 0, 0) := by decide +kernel
theorem k79_8 : look (codL 79) 8 = some (.aload_n 0, 1, 0, 0, 0) := by decide +kernel
theorem k79_9 : look (codL 79) 9 = some (.getfield 15, 3, 7, 1, 0) := by decide +kernel
theorem k79_12 : look (codL 79) 12 = some (.iload_n 1, 1, 0, 0, 0) := by decide +kernel
theorem k79_13 : look (codL 79) 13 = some (.invokevirtual 68, 3, 14, 2, 0) := by decide +kernel
theorem k79_16 : look (codL 79) 16 = some (.ifCond .ne 12, 3, 0, 0, 0) := by decide +kernel
theorem k79_19 : look (codL 79) 19 = some (.aload_n 0, 1, 0, 0, 0) := by decide +kernel
theorem k79_20 : look (codL 79) 20 = some (.aload_n 0, 1, 0, 0, 0) := by decide +kernel
theorem k79_21 : look (codL 79) 21 = some (.getfield 24, 3, 7, 2, 0) := by decide +kernel
theorem k79_24 : look (codL 79) 24 = some (.invokevirtual 39, 3, 73, 2, 0) := by decide +kernel
theorem k79_27 : look (codL 79) 27 = some (.ireturn, 1, 0, 0, 0) := by decide +kernel
theorem k79_28 : look (codL 79) 28 = some (.aload_n 0, 1, 0, 0, 0) := by decide +kernel
theorem k79_29 : look (codL 79) 29 = some (.dup, 1, 0, 0, 0) := by decide +kernel
theorem k79_30 : look (codL 79) 30 = some (.getfield 24, 3, 7, 2, 0) := by decide +kernel
theorem k79_33 : look (codL 79) 33 = some (.iconst 1, 1, 0, 0, 0) := by decide +kernel
theorem k79_34 : look (codL 79) 34 = some (.iadd, 1, 0, 0, 0) := by decide +kernel
theorem k79_35 : look (codL 79) 35 = some (.putfield 24, 3, 7, 2, 0) := by decide +kernel
theorem k79_38 : look (codL 79) 38 = some (.iconst 0, 1, 0, 0, 0) := by decide +kernel
theorem k79_39 : look (codL 79) 39 = some (.istore_n 2, 1, 0, 0, 0) := by decide +kernel
theorem k79_40 : look (codL 79) 40 = some (.iload_n 2, 1, 0, 0, 0) := by decide +kernel
theorem k79_41 : look (codL 79) 41 = some (.bipush 6, 2, 0, 0, 0) := by decide +kernel
theorem k79_43 : look (codL 79) 43 = some (.if_icmp .ge 72, 3, 0, 0, 0) := by decide +kernel
theorem k79_46 : look (codL 79) 46 = some (.aload_n 0, 1, 0, 0, 0) := by decide +kernel
theorem k79_47 : look (codL 79) 47 = some (.invokevirtual 28, 3, 72, 1, 0) := by decide +kernel
theorem k79_50 : look (codL 79) 50 = some (.invokestatic 55, 3, 74, 1, 0) := by decide +kernel
theorem k79_53 : look (codL 79) 53 = some (.ifCond .eq 62, 3, 0, 0, 0) := by decide +kernel
theorem k79_56 : look (codL 79) 56 = some (.aload_n 0, 1, 0, 0, 0) := by decide +kernel
theorem k79_57 : look (codL 79) 57 = some (.getfield 24, 3, 7, 2, 0) := by decide +kernel
theorem k79_60 : look (codL 79) 60 = some (.istore_n 3, 1, 0, 0, 0) := by decide +kernel
theorem k79_61 : look (codL 79) 61 = some (.aload_n 0, 1, 0, 0, 0) := by decide +kernel
theorem k79_62 : look (codL 79) 62 = some (.invokevirtual 58, 3, 75, 1, 0) := by decide +kernel
theorem k79_65 : look (codL 79) 65 = some (.istore 4, 2, 0, 0, 0) := by decide +kernel
theorem k79_67 : look (codL 79) 67 = some (.iload 4, 2, 0, 0, 0) := by decide +kernel
theorem k79_69 : look (codL 79) 69 = some (.invokestatic 71, 3, 77, 1, 0) := by decide +kernel
theorem k79_72 : look (codL 79) 72 = some (.ifCond .eq 20, 3, 0, 0, 0) := by decide +kernel
theorem k79_75 : look (codL 79) 75 = some (.aload_n 0, 1, 0, 0, 0) := by decide +kernel
theorem k79_76 : look (codL 79) 76 = some (.getfield 15, 3, 7, 1, 0) := by decide +kernel
theorem k79_79 : look (codL 79) 79 = some (.getfield 76, 3, 3, 0, 0) := by decide +kernel
theorem k79_82 : look (codL 79) 82 = some (.iload_n 1, 1, 0, 0, 0) := by decide +kernel
theorem k79_83 : look (codL 79) 83 = some (.aaload, 1, 0, 0, 0) := by decide +kernel
theorem k79_84 : look (codL 79) 84 = some (.iload 4, 2, 0, 0, 0) := by decide +kernel
theorem k79_86 : look (codL 79) 86 = some (.invokevirtual 80, 3, 4, 2, 0) := by decide +kernel
theorem k79_89 : look (codL 79) 89 = some (.ifCond .ne 9, 3, 0, 0, 0) := by decide +kernel
theorem k79_92 : look (codL 79) 92 = some (.aload_n 0, 1, 0, 0, 0) := by decide +kernel
theorem k79_93 : look (codL 79) 93 = some (.iload_n 3, 1, 0, 0, 0) := by decide +kernel
theorem k79_94 : look (codL 79) 94 = some (.invokevirtual 39, 3, 73, 2, 0) := by decide +kernel
theorem k79_97 : look (codL 79) 97 = some (.ireturn, 1, 0, 0, 0) := by decide +kernel
theorem k79_98 : look (codL 79) 98 = some (.aload_n 0, 1, 0, 0, 0) := by decide +kernel
theorem k79_99 : look (codL 79) 99 = some (.getfield 15, 3, 7, 1, 0) := by decide +kernel
theorem k79_102 : look (codL 79) 102 = some (.iload_n 1, 1, 0, 0, 0) := by decide +kernel
theorem k79_103 : look (codL 79) 103 = some (.iload 4, 2, 0, 0, 0) := by decide +kernel
theorem k79_105 : look (codL 79) 105 = some (.invokevirtual 85, 3, 18, 3, 0) := by decide +kernel
theorem k79_108 : look (codL 79) 108 = some (.pop, 1, 0, 0, 0) := by decide +kernel
theorem k79_109 : look (codL 79) 109 = some (.iinc 2 1, 3, 0, 0, 0) := by decide +kernel
theorem k79_112 : look (codL 79) 112 = some (.goto (-72), 3, 0, 0, 0) := by decide +kernel
theorem k79_115 : look (codL 79) 115 = some (.aload_n 0, 1, 0, 0, 0) := by decide +kernel
theorem k79_116 : look (codL 79) 116 = some (.invokevirtual 89, 3, 78, 1, 0) := by decide +kernel
theorem k79_119 : look (codL 79) 119 = some (.ireturn, 1, 0, 0, 0) := by decide +kernel
theorem k80_0 : look (codL 80) 0 = some (.aload_n 0, 1, 0, 0, 0) := by decide +kernel
theorem k80_1 : look (codL 80) 1 = some (.invokevirtual 28, 3, 72, 1, 0) := by decide +kernel
theorem k80_4 : look (codL 80) 4 = some (.invokestatic 55, 3, 74, 1, 0) := by decide +kernel
theorem k80_7 : look (codL 80) 7 = some (.ifCond .ne 14, 3, 0, 0, 0) := by decide +kernel
theorem k80_10 : look (codL 80) 10 = some (.aload_n 0, 1, 0, 0, 0) := by decide +kernel
theorem k80_11 : look (codL 80) 11 = some (.aload_n 0, 1, 0, 0, 0) := by decide +kernel
theorem k80_12 : look (codL 80) 12 = some (.getfield 24, 3, 7, 2, 0) := by decide +kernel
theorem k80_15 : look (codL 80) 15 = some (.invokevirtual 39, 3, 73, 2, 0) := by decide +kernel
theorem k80_18 : look (codL 80) 18 = some (.pop, 1, 0, 0, 0) := by decide +kernel
theorem k80_19 : look (codL 80) 19 = some (.iconst (-1), 1, 0, 0, 0) := by decide +kernel
theorem k80_20 : look (codL 80) 20 = some (.ireturn, 1, 0, 0, 0) := by decide +kernel
theorem k80_21 : look (codL 80) 21 = some (.aload_n 0, 1, 0, 0, 0) := by decide +kernel
theorem k80_22 : look (codL 80) 22 = some (.getfield 24, 3, 7, 2, 0) := by decide +kernel
theorem k80_25 : look (codL 80) 25 = some (.istore_n 2, 1, 0, 0, 0) := by decide +kernel
theorem k80_26 : look (codL 80) 26 = some (.aload_n 0, 1, 0, 0, 0) := by decide +kernel
theorem k80_27 : look (codL 80) 27 = some (.invokevirtual 58, 3, 75, 1, 0) := by decide +kernel
theorem k80_30 : look (codL 80) 30 = some (.istore_n 3, 1, 0, 0, 0) := by decide +kernel
theorem k80_31 : look (codL 80) 31 = some (.iload_n 3, 1, 0, 0, 0) := by decide +kernel
theorem k80_32 : look (codL 80) 32 = some (.iload_n 1, 1, 0, 0, 0) := by decide +kernel
theorem k80_33 : look (codL 80) 33 = some (.invokestatic 61, 3, 13, 2, 1) := by decide +kernel
theorem k80_36 : look (codL 80) 36 = some (.ifCond .ne 11, 3, 0, 0, 0) := by decide +kernel
theorem k80_39 : look (codL 80) 39 = some (.aload_n 0, 1, 0, 0, 0) := by decide +kernel
theorem k80_40 : look (codL 80) 40 = some (.iload_n 2, 1, 0, 0, 0) := by decide +kernel
theorem k80_41 : look (codL 80) 41 = some (.invokevirtual 39, 3, 73, 2, 0) := by decide +kernel
theorem k80_44 : look (codL 80) 44 = some (.pop, 1, 0, 0, 0) := by decide +kernel
theorem k80_45 : look (codL 80) 45 = some (.iconst (-1), 1, 0, 0, 0) := by decide +kernel
theorem k80_46 : look (codL 80) 46 = some (.ireturn, 1, 0, 0, 0) := by decide +kernel
theorem k80_47 : look (codL 80) 47 = some (.iload_n 3, 1, 0, 0, 0) := by decide +kernel
theorem k80_48 : look (codL 80) 48 = some (.ireturn, 1, 0, 0, 0) := by decide +kernel
theorem k81_0 : look (codL 81) 0 = some (.iconst (-1), 1, 0, 0, 0) := by decide +kernel
theorem k81_1 : look (codL 81) 1 = some (.iload_n 0, 1, 0, 0, 0) := by decide +kernel
theorem k81_2 : look (codL 81) 2 = some (.isub, 1, 0, 0, 0) := by decide +kernel
theorem k81_3 : look (codL 81) 3 = some (.ireturn, 1, 0, 0, 0) := by decide +kernel
theorem k82_0 : look (codL 82) 0 = some (.aload_n 0, 1, 0, 0, 0) := by decide +kernel
theorem k82_1 : look (codL 82) 1 = some (.dup, 1, 0, 0, 0) := by decide +kernel
theorem k82_2 : look (codL 82) 2 = some (.getfield 24, 3, 7, 2, 0) := by decide +kernel
theorem k82_5 : look (codL 82) 5 = some (.iconst 1, 1, 0, 0, 0) := by decide +kernel
theorem k82_6 : look (codL 82) 6 = some (.iadd, 1, 0, 0, 0) := by decide +kernel
theorem k82_7 : look (codL 82) 7 = some (.putfield 24, 3, 7, 2, 0) := by decide +kernel
theorem k82_10 : look (codL 82) 10 = some (.aload_n 0, 1, 0, 0, 0) := by decide +kernel
theorem k82_11 : look (codL 82) 11 = some (.getfield 9, 3, 7, 0, 0) := by decide +kernel
theorem k82_14 : look (codL 82) 14 = some (.aload_n 0, 1, 0, 0, 0) := by decide +kernel
theorem k82_15 : look (codL 82) 15 = some (.getfield 24, 3, 7, 2, 0) := by decide +kernel
theorem k82_18 : look (codL 82) 18 = some (.invokevirtual 51, 3, 71, 2, 0) := by decide +kernel
theorem k82_21 : look (codL 82) 21 = some (.invokestatic 55, 3, 74, 1, 0) := by decide +kernel
theorem k82_24 : look (codL 82) 24 = some (.ifCond .eq 13, 3, 0, 0, 0) := by decide +kernel
theorem k82_27 : look (codL 82) 27 = some (.aload_n 0, 1, 0, 0, 0) := by decide +kernel
theorem k82_28 : look (codL 82) 28 = some (.invokevirtual 58, 3, 75, 1, 0) := by decide +kernel
theorem k82_31 : look (codL 82) 31 = some (.invokestatic 144, 3, 81, 1, 0) := by decide +kernel
theorem k82_34 : look (codL 82) 34 = some (.goto 6, 3, 0, 0, 0) := by decide +kernel
theorem k82_37 : look (codL 82) 37 = some (.sipush 1000, 3, 0, 0, 0) := by decide +kernel
theorem k82_40 : look (codL 82) 40 = some (.ireturn, 1, 0, 0, 0) := by decide +kernel
theorem k83_0 : look (codL 83) 0 = some (.aload_n 0, 1, 0, 0, 0) := by decide +kernel
theorem k83_1 : look (codL 83) 1 = some (.getfield 9, 3, 7, 0, 0) := by decide +kernel
theorem k83_4 : look (codL 83) 4 = some (.aload_n 0, 1, 0, 0, 0) := by decide +kernel
theorem k83_5 : look (codL 83) 5 = some (.getfield 24, 3, 7, 2, 0) := by decide +kernel
theorem k83_8 : look (codL 83) 8 = some (.invokevirtual 51, 3, 71, 2, 0) := by decide +kernel
theorem k83_11 : look (codL 83) 11 = some (.invokestatic 55, 3, 74, 1, 0) := by decide +kernel
theorem k83_14 : look (codL 83) 14 = some (.ifCond .eq 10, 3, 0, 0, 0) := by decide +kernel
theorem k83_17 : look (codL 83) 17 = some (.aload_n 0, 1, 0, 0, 0) := by decide +kernel
theorem k83_18 : look (codL 83) 18 = some (.invokevirtual 58, 3, 75, 1, 0) := by decide +kernel
theorem k83_21 : look (codL 83) 21 = some (.goto 6, 3, 0, 0, 0) := by decide +kernel
theorem k83_24 : look (codL 83) 24 = some (.sipush 1000, 3, 0, 0, 0) := by decide +kernel
theorem k83_27 : look (codL 83) 27 = some (.ireturn, 1, 0, 0, 0) := by decide +kernel
theorem k84_0 : look (codL 84) 0 = some (.iconst (-1), 1, 0, 0, 0) := by decide +kernel
theorem k84_1 : look (codL 84) 1 = some (.iload_n 0, 1, 0, 0, 0) := by decide +kernel
theorem k84_2 : look (codL 84) 2 = some (.isub, 1, 0, 0, 0) := by decide +kernel
theorem k84_3 : look (codL 84) 3 = some (.bipush 100, 2, 0, 0, 0) := by decide +kernel
theorem k84_5 : look (codL 84) 5 = some (.invokestatic 26, 3, 13, 2, 1) := by decide +kernel
theorem k84_8 : look (codL 84) 8 = some (.ireturn, 1, 0, 0, 0) := by decide +kernel
theorem k85_0 : look (codL 85) 0 = some (.iload_n 0, 1, 0, 0, 0) := by decide +kernel
theorem k85_1 : look (codL 85) 1 = some (.invokestatic 29, 3, 77, 1, 0) := by decide +kernel
theorem k85_4 : look (codL 85) 4 = some (.ifCond .eq 18, 3, 0, 0, 0) := by decide +kernel
theorem k85_7 : look (codL 85) 7 = some (.iload_n 0, 1, 0, 0, 0) := by decide +kernel
theorem k85_8 : look (codL 85) 8 = some (.invokestatic 9, 3, 2, 1, 0) := by decide +kernel
theorem k85_11 : look (codL 85) 11 = some (.iload_n 1, 1, 0, 0, 0) := by decide +kernel
theorem k85_12 : look (codL 85) 12 = some (.invokestatic 9, 3, 2, 1, 0) := by decide +kernel
theorem k85_15 : look (codL 85) 15 = some (.if_icmp .ne 7, 3, 0, 0, 0) := by decide +kernel
theorem k85_18 : look (codL 85) 18 = some (.iconst 1, 1, 0, 0, 0) := by decide +kernel
theorem k85_19 : look (codL 85) 19 = some (.goto 4, 3, 0, 0, 0) := by decide +kernel
theorem k85_22 : look (codL 85) 22 = some (.iconst 0, 1, 0, 0, 0) := by decide +kernel
theorem k85_23 : look (codL 85) 23 = some (.ireturn, 1, 0, 0, 0) := by decide +kernel
theorem k86_0 : look (codL 86) 0 = some (.iconst 0, 1, 0, 0, 0) := by decide +kernel
theorem k86_1 : look (codL 86) 1 = some (.istore_n 3, 1, 0, 0, 0) := by decide +kernel
theorem k86_2 : look (codL 86) 2 = some (.iload_n 3, 1, 0, 0, 0) := by decide +kernel
theorem k86_3 : look (codL 86) 3 = some (.aload_n 1, 1, 0, 0, 0) := by decide +kernel
theorem k86_4 : look (codL 86) 4 = some (.getfield 112, 3, 0, 1, 0) := by decide +kernel
theorem k86_7 : look (codL 86) 7 = some (.if_icmp .ge 86, 3, 0, 0, 0) := by decide +kernel
theorem k86_10 : look (codL 86) 10 = some (.aload_n 0, 1, 0, 0, 0) := by decide +kernel
theorem k86_11 : look (codL 86) 11 = some (.invokevirtual 28, 3, 72, 1, 0) := by decide +kernel
theorem k86_14 : look (codL 86) 14 = some (.bipush 35, 2, 0, 0, 0) := by decide +kernel
theorem k86_16 : look (codL 86) 16 = some (.if_icmp .ne 7, 3, 0, 0, 0) := by decide +kernel
theorem k86_19 : look (codL 86) 19 = some (.iconst 1, 1, 0, 0, 0) := by decide +kernel
theorem k86_20 : look (codL 86) 20 = some (.goto 4, 3, 0, 0, 0) := by decide +kernel
theorem k86_23 : look (codL 86) 23 = some (.iconst 0, 1, 0, 0, 0) := by decide +kernel
theorem k86_24 : look (codL 86) 24 = some (.istore 4, 2, 0, 0, 0) := by decide +kernel
theorem k86_26 : look (codL 86) 26 = some (.aload_n 0, 1, 0, 0, 0) := by decide +kernel
theorem k86_27 : look (codL 86) 27 = some (.getfield 24, 3, 7, 2, 0) := by decide +kernel
theorem k86_30 : look (codL 86) 30 = some (.istore 5, 2, 0, 0, 0) := by decide +kernel
theorem k86_32 : look (codL 86) 32 = some (.iload 4, 2, 0, 0, 0) := by decide +kernel
theorem k86_34 : look (codL 86) 34 = some (.ifCond .eq 10, 3, 0, 0, 0) := by decide +kernel
theorem k86_37 : look (codL 86) 37 = some (.aload_n 0, 1, 0, 0, 0) := by decide +kernel
theorem k86_38 : look (codL 86) 38 = some (.invokevirtual 123, 3, 82, 1, 0) := by decide +kernel
theorem k86_41 : look (codL 86) 41 = some (.goto 7, 3, 0, 0, 0) := by decide +kernel
theorem k86_44 : look (codL 86) 44 = some (.aload_n 0, 1, 0, 0, 0) := by decide +kernel
theorem k86_45 : look (codL 86) 45 = some (.invokevirtual 126, 3, 83, 1, 0) := by decide +kernel
theorem k86_48 : look (codL 86) 48 = some (.istore 6, 2, 0, 0, 0) := by decide +kernel
theorem k86_50 : look (codL 86) 50 = some (.iload 6, 2, 0, 0, 0) := by decide +kernel
theorem k86_52 : look (codL 86) 52 = some (.invokestatic 129, 3, 84, 1, 0) := by decide +kernel
theorem k86_55 : look (codL 86) 55 = some (.ifCond .ne 24, 3, 0, 0, 0) := by decide +kernel
theorem k86_58 : look (codL 86) 58 = some (.iload 6, 2, 0, 0, 0) := by decide +kernel
theorem k86_60 : look (codL 86) 60 = some (.aload_n 1, 1, 0, 0, 0) := by decide +kernel
theorem k86_61 : look (codL 86) 61 = some (.getfield 132, 3, 0, 0, 0) := by decide +kernel
theorem k86_64 : look (codL 86) 64 = some (.iload_n 3, 1, 0, 0, 0) := by decide +kernel
theorem k86_65 : look (codL 86) 65 = some (.iaload, 1, 0, 0, 0) := by decide +kernel
theorem k86_66 : look (codL 86) 66 = some (.invokestatic 136, 3, 85, 2, 0) := by decide +kernel
theorem k86_69 : look (codL 86) 69 = some (.ifCond .ne 10, 3, 0, 0, 0) := by decide +kernel
theorem k86_72 : look (codL 86) 72 = some (.aload_n 0, 1, 0, 0, 0) := by decide +kernel
theorem k86_73 : look (codL 86) 73 = some (.iload 5, 2, 0, 0, 0) := by decide +kernel
theorem k86_75 : look (codL 86) 75 = some (.invokevirtual 39, 3, 73, 2, 0) := by decide +kernel
theorem k86_78 : look (codL 86) 78 = some (.ireturn, 1, 0, 0, 0) := by decide +kernel
theorem k86_79 : look (codL 86) 79 = some (.aload_n 2, 1, 0, 0, 0) := by decide +kernel
theorem k86_80 : look (codL 86) 80 = some (.getfield 139, 3, 2, 0, 0) := by decide +kernel
theorem k86_83 : look (codL 86) 83 = some (.iload_n 3, 1, 0, 0, 0) := by decide +kernel
theorem k86_84 : look (codL 86) 84 = some (.iload 6, 2, 0, 0, 0) := by decide +kernel
theorem k86_86 : look (codL 86) 86 = some (.iastore, 1, 0, 0, 0) := by decide +kernel
theorem k86_87 : look (codL 86) 87 = some (.iinc 3 1, 3, 0, 0, 0) := by decide +kernel
theorem k86_90 : look (codL 86) 90 = some (.goto (-88), 3, 0, 0, 0) := by decide +kernel
theorem k86_93 : look (codL 86) 93 = some (.iconst 1, 1, 0, 0, 0) := by decide +kernel
theorem k86_94 : look (codL 86) 94 = some (.ireturn, 1, 0, 0, 0) := by decide +kernel
theorem k87_0 : look (codL 87) 0 = some (.aload_n 0, 1, 0, 0, 0) := by decide +kernel
theorem k87_1 : look (codL 87) 1 = some (.getfield 15, 3, 7, 1, 0) := by decide +kernel
theorem k87_4 : look (codL 87) 4 = some (.getfield 92, 3, 3, 3, 0) := by decide +kernel
theorem k87_7 : look (codL 87) 7 = some (.bipush 16, 2, 0, 0, 0) := by decide +kernel
theorem k87_9 : look (codL 87) 9 = some (.if_icmp .lt 12, 3, 0, 0, 0) := by decide +kernel
theorem k87_12 : look (codL 87) 12 = some (.aload_n 0, 1, 0, 0, 0) := by decide +kernel
theorem k87_13 : look (codL 87) 13 = some (.aload_n 0, 1, 0, 0, 0) := by decide +kernel
theorem k87_14 : look (codL 87) 14 = some (.getfield 24, 3, 7, 2, 0) := by decide +kernel
theorem k87_17 : look (codL 87) 17 = some (.invokevirtual 39, 3, 73, 2, 0) := by decide +kernel
theorem k87_20 : look (codL 87) 20 = some (.ireturn, 1, 0, 0, 0) := by decide +kernel
theorem k87_21 : look (codL 87) 21 = some (.aload_n 0, 1, 0, 0, 0) := by decide +kernel
theorem k87_22 : look (codL 87) 22 = some (.dup, 1, 0, 0, 0) := by decide +kernel
theorem k87_23 : look (codL 87) 23 = some (.getfield 24, 3, 7, 2, 0) := by decide +kernel
theorem k87_26 : look (codL 87) 26 = some (.iconst 1, 1, 0, 0, 0) := by decide +kernel
theorem k87_27 : look (codL 87) 27 = some (.iadd, 1, 0, 0, 0) := by decide +kernel
theorem k87_28 : look (codL 87) 28 = some (.putfield 24, 3, 7, 2, 0) := by decide +kernel
theorem k87_31 : look (codL 87) 31 = some (.aload_n 0, 1, 0, 0, 0) := by decide +kernel
theorem k87_32 : look (codL 87) 32 = some (.aload_n 0, 1, 0, 0, 0) := by decide +kernel
theorem k87_33 : look (codL 87) 33 = some (.getfield 15, 3, 7, 1, 0) := by decide +kernel
theorem k87_36 : look (codL 87) 36 = some (.getfield 95, 3, 3, 2, 0) := by decide +kernel
theorem k87_39 : look (codL 87) 39 = some (.invokevirtual 98, 3, 80, 2, 0) := by decide +kernel
theorem k87_42 : look (codL 87) 42 = some (.istore_n 1, 1, 0, 0, 0) := by decide +kernel
theorem k87_43 : look (codL 87) 43 = some (.iload_n 1, 1, 0, 0, 0) := by decide +kernel
theorem k87_44 : look (codL 87) 44 = some (.ifCond .ge 7, 3, 0, 0, 0) := by decide +kernel
theorem k87_47 : look (codL 87) 47 = some (.iconst (-1), 1, 0, 0, 0) := by decide +kernel
theorem k87_48 : look (codL 87) 48 = some (.goto 14, 3, 0, 0, 0) := by decide +kernel
theorem k87_51 : look (codL 87) 51 = some (.aload_n 0, 1, 0, 0, 0) := by decide +kernel
theorem k87_52 : look (codL 87) 52 = some (.aload_n 0, 1, 0, 0, 0) := by decide +kernel
theorem k87_53 : look (codL 87) 53 = some (.getfield 15, 3, 7, 1, 0) := by decide +kernel
theorem k87_56 : look (codL 87) 56 = some (.getfield 95, 3, 3, 2, 0) := by decide +kernel
theorem k87_59 : look (codL 87) 59 = some (.invokevirtual 98, 3, 80, 2, 0) := by decide +kernel
theorem k87_62 : look (codL 87) 62 = some (.istore_n 2, 1, 0, 0, 0) := by decide +kernel
theorem k87_63 : look (codL 87) 63 = some (.iload_n 2, 1, 0, 0, 0) := by decide +kernel
theorem k87_64 : look (codL 87) 64 = some (.ifCond .ge 7, 3, 0, 0, 0) := by decide +kernel
theorem k87_67 : look (codL 87) 67 = some (.iconst (-1), 1, 0, 0, 0) := by decide +kernel
theorem k87_68 : look (codL 87) 68 = some (.goto 9, 3, 0, 0, 0) := by decide +kernel
theorem k87_71 : look (codL 87) 71 = some (.aload_n 0, 1, 0, 0, 0) := by decide +kernel
theorem k87_72 : look (codL 87) 72 = some (.bipush 100, 2, 0, 0, 0) := by decide +kernel
theorem k87_74 : look (codL 87) 74 = some (.invokevirtual 98, 3, 80, 2, 0) := by decide +kernel
theorem k87_77 : look (codL 87) 77 = some (.istore_n 3, 1, 0, 0, 0) := by decide +kernel
theorem k87_78 : look (codL 87) 78 = some (.iload_n 3, 1, 0, 0, 0) := by decide +kernel
theorem k87_79 : look (codL 87) 79 = some (.ifCond .ge 5, 3, 0, 0, 0) := by decide +kernel
theorem k87_82 : look (codL 87) 82 = some (.iconst 0, 1, 0, 0, 0) := by decide +kernel
theorem k87_83 : look (codL 87) 83 = some (.ireturn, 1, 0, 0, 0) := by decide +kernel
theorem k87_84 : look (codL 87) 84 = some (.aload_n 0, 1, 0, 0, 0) := by decide +kernel
theorem k87_85 : look (codL 87) 85 = some (.getfield 15, 3, 7, 1, 0) := by decide +kernel
theorem k87_88 : look (codL 87) 88 = some (.iload_n 1, 1, 0, 0, 0) := by decide +kernel
theorem k87_89 : look (codL 87) 89 = some (.iload_n 2, 1, 0, 0, 0) := by decide +kernel
theorem k87_90 : look (codL 87) 90 = some (.iload_n 3, 1, 0, 0, 0) := by decide +kernel
theorem k87_91 : look (codL 87) 91 = some (.invokevirtual 101, 3, 19, 4, 0) := by decide +kernel
theorem k87_94 : look (codL 87) 94 = some (.istore 4, 2, 0, 0, 0) := by decide +kernel
theorem k87_96 : look (codL 87) 96 = some (.aload_n 0, 1, 0, 0, 0) := by decide +kernel
theorem k87_97 : look (codL 87) 97 = some (.getfield 15, 3, 7, 1, 0) := by decide +kernel
theorem k87_100 : look (codL 87) 100 = some (.iload 4, 2, 0, 0, 0) := by decide +kernel
theorem k87_102 : look (codL 87) 102 = some (.invokevirtual 105, 3, 15, 2, 0) := by decide +kernel
theorem k87_105 : look (codL 87) 105 = some (.ifCond .eq 65, 3, 0, 0, 0) := by decide +kernel
theorem k87_108 : look (codL 87) 108 = some (.aload_n 0, 1, 0, 0, 0) := by decide +kernel
theorem k87_109 : look (codL 87) 109 = some (.getfield 15, 3, 7, 1, 0) := by decide +kernel
theorem k87_112 : look (codL 87) 112 = some (.iload 4, 2, 0, 0, 0) := by decide +kernel
theorem k87_114 : look (codL 87) 114 = some (.invokevirtual 108, 3, 16, 2, 0) := by decide +kernel
theorem k87_117 : look (codL 87) 117 = some (.getfield 112, 3, 0, 1, 0) := by decide +kernel
theorem k87_120 : look (codL 87) 120 = some (.ifCond .le 50, 3, 0, 0, 0) := by decide +kernel
theorem k87_123 : look (codL 87) 123 = some (.aload_n 0, 1, 0, 0, 0) := by decide +kernel
theorem k87_124 : look (codL 87) 124 = some (.invokevirtual 28, 3, 72, 1, 0) := by decide +kernel
theorem k87_127 : look (codL 87) 127 = some (.bipush 58, 2, 0, 0, 0) := by decide +kernel
theorem k87_129 : look (codL 87) 129 = some (.if_icmp .ne 41, 3, 0, 0, 0) := by decide +kernel
theorem k87_132 : look (codL 87) 132 = some (.aload_n 0, 1, 0, 0, 0) := by decide +kernel
theorem k87_133 : look (codL 87) 133 = some (.dup, 1, 0, 0, 0) := by decide +kernel
theorem k87_134 : look (codL 87) 134 = some (.getfield 24, 3, 7, 2, 0) := by decide +kernel
theorem k87_137 : look (codL 87) 137 = some (.iconst 1, 1, 0, 0, 0) := by decide +kernel
theorem k87_138 : look (codL 87) 138 = some (.iadd, 1, 0, 0, 0) := by decide +kernel
theorem k87_139 : look (codL 87) 139 = some (.putfield 24, 3, 7, 2, 0) := by decide +kernel
theorem k87_142 : look (codL 87) 142 = some (.aload_n 0, 1, 0, 0, 0) := by decide +kernel
theorem k87_143 : look (codL 87) 143 = some (.aload_n 0, 1, 0, 0, 0) := by decide +kernel
theorem k87_144 : look (codL 87) 144 = some (.getfield 15, 3, 7, 1, 0) := by decide +kernel
theorem k87_147 : look (codL 87) 147 = some (.iload 4, 2, 0, 0, 0) := by decide +kernel
theorem k87_149 : look (codL 87) 149 = some (.invokevirtual 108, 3, 16, 2, 0) := by decide +kernel
theorem k87_152 : look (codL 87) 152 = some (.aload_n 0, 1, 0, 0, 0) := by decide +kernel
theorem k87_153 : look (codL 87) 153 = some (.getfield 15, 3, 7, 1, 0) := by decide +kernel
theorem k87_156 : look (codL 87) 156 = some (.getfield 115, 3, 3, 1, 0) := by decide +kernel
theorem k87_159 : look (codL 87) 159 = some (.iload 4, 2, 0, 0, 0) := by decide +kernel
theorem k87_161 : look (codL 87) 161 = some (.aaload, 1, 0, 0, 0) := by decide +kernel
theorem k87_162 : look (codL 87) 162 = some (.invokevirtual 119, 3, 86, 3, 0) := by decide +kernel
theorem k87_165 : look (codL 87) 165 = some (.ifCond .ne 5, 3, 0, 0, 0) := by decide +kernel
theorem k87_168 : look (codL 87) 168 = some (.iconst 0, 1, 0, 0, 0) := by decide +kernel
theorem k87_169 : look (codL 87) 169 = some (.ireturn, 1, 0, 0, 0) := by decide +kernel
theorem k87_170 : look (codL 87) 170 = some (.aload_n 0, 1, 0, 0, 0) := by decide +kernel
theorem k87_171 : look (codL 87) 171 = some (.invokevirtual 89, 3, 78, 1, 0) := by decide +kernel
theorem k87_174 : look (codL 87) 174 = some (.ireturn, 1, 0, 0, 0) := by decide +kernel
theorem k88_0 : look (codL 88) 0 = some (.aload_n 0, 1, 0, 0, 0) := by decide +kernel
theorem k88_1 : look (codL 88) 1 = some (.aload_n 1, 1, 0, 0, 0) := by decide +kernel
theorem k88_2 : look (codL 88) 2 = some (.putfield 15, 3, 7, 1, 0) := by decide +kernel
theorem k88_5 : look (codL 88) 5 = some (.aload_n 0, 1, 0, 0, 0) := by decide +kernel
theorem k88_6 : look (codL 88) 6 = some (.getfield 15, 3, 7, 1, 0) := by decide +kernel
theorem k88_9 : look (codL 88) 9 = some (.invokevirtual 19, 3, 12, 1, 0) := by decide +kernel
theorem k88_12 : look (codL 88) 12 = some (.aload_n 0, 1, 0, 0, 0) := by decide +kernel
theorem k88_13 : look (codL 88) 13 = some (.iconst 0, 1, 0, 0, 0) := by decide +kernel
theorem k88_14 : look (codL 88) 14 = some (.putfield 24, 3, 7, 2, 0) := by decide +kernel
theorem k88_17 : look (codL 88) 17 = some (.iconst 0, 1, 0, 0, 0) := by decide +kernel
theorem k88_18 : look (codL 88) 18 = some (.istore_n 2, 1, 0, 0, 0) := by decide +kernel
theorem k88_19 : look (codL 88) 19 = some (.iload_n 2, 1, 0, 0, 0) := by decide +kernel
theorem k88_20 : look (codL 88) 20 = some (.bipush 120, 2, 0, 0, 0) := by decide +kernel
theorem k88_22 : look (codL 88) 22 = some (.if_icmp .gt 68, 3, 0, 0, 0) := by decide +kernel
theorem k88_25 : look (codL 88) 25 = some (.aload_n 0, 1, 0, 0, 0) := by decide +kernel
theorem k88_26 : look (codL 88) 26 = some (.invokevirtual 28, 3, 72, 1, 0) := by decide +kernel
theorem k88_29 : look (codL 88) 29 = some (.istore_n 3, 1, 0, 0, 0) := by decide +kernel
theorem k88_30 : look (codL 88) 30 = some (.iload_n 3, 1, 0, 0, 0) := by decide +kernel
theorem k88_31 : look (codL 88) 31 = some (.ifCond .ge 9, 3, 0, 0, 0) := by decide +kernel
theorem k88_34 : look (codL 88) 34 = some (.iload_n 2, 1, 0, 0, 0) := by decide +kernel
theorem k88_35 : look (codL 88) 35 = some (.ifCond .le 5, 3, 0, 0, 0) := by decide +kernel
theorem k88_38 : look (codL 88) 38 = some (.iload_n 2, 1, 0, 0, 0) := by decide +kernel
theorem k88_39 : look (codL 88) 39 = some (.ireturn, 1, 0, 0, 0) := by decide +kernel
theorem k88_40 : look (codL 88) 40 = some (.iload_n 3, 1, 0, 0, 0) := by decide +kernel
theorem k88_41 : look (codL 88) 41 = some (.bipush 98, 2, 0, 0, 0) := by decide +kernel
theorem k88_43 : look (codL 88) 43 = some (.if_icmp .ne 10, 3, 0, 0, 0) := by decide +kernel
theorem k88_46 : look (codL 88) 46 = some (.aload_n 0, 1, 0, 0, 0) := by decide +kernel
theorem k88_47 : look (codL 88) 47 = some (.invokevirtual 32, 3, 79, 1, 0) := by decide +kernel
theorem k88_50 : look (codL 88) 50 = some (.goto 24, 3, 0, 0, 0) := by decide +kernel
theorem k88_53 : look (codL 88) 53 = some (.iload_n 3, 1, 0, 0, 0) := by decide +kernel
theorem k88_54 : look (codL 88) 54 = some (.bipush 101, 2, 0, 0, 0) := by decide +kernel
theorem k88_56 : look (codL 88) 56 = some (.if_icmp .ne 10, 3, 0, 0, 0) := by decide +kernel
theorem k88_59 : look (codL 88) 59 = some (.aload_n 0, 1, 0, 0, 0) := by decide +kernel
theorem k88_60 : look (codL 88) 60 = some (.invokevirtual 36, 3, 87, 1, 0) := by decide +kernel
theorem k88_63 : look (codL 88) 63 = some (.goto 11, 3, 0, 0, 0) := by decide +kernel
theorem k88_66 : look (codL 88) 66 = some (.aload_n 0, 1, 0, 0, 0) := by decide +kernel
theorem k88_67 : look (codL 88) 67 = some (.aload_n 0, 1, 0, 0, 0) := by decide +kernel
theorem k88_68 : look (codL 88) 68 = some (.getfield 24, 3, 7, 2, 0) := by decide +kernel
theorem k88_71 : look (codL 88) 71 = some (.invokevirtual 39, 3, 73, 2, 0) := by decide +kernel
theorem k88_74 : look (codL 88) 74 = some (.istore 4, 2, 0, 0, 0) := by decide +kernel
theorem k88_76 : look (codL 88) 76 = some (.iload 4, 2, 0, 0, 0) := by decide +kernel
theorem k88_78 : look (codL 88) 78 = some (.ifCond .ne 6, 3, 0, 0, 0) := by decide +kernel
theorem k88_81 : look (codL 88) 81 = some (.goto 9, 3, 0, 0, 0) := by decide +kernel
theorem k88_84 : look (codL 88) 84 = some (.iinc 2 1, 3, 0, 0, 0) := by decide +kernel
theorem k88_87 : look (codL 88) 87 = some (.goto (-68), 3, 0, 0, 0) := by decide +kernel
theorem k88_90 : look (codL 88) 90 = some (.sipush (-300), 3, 0, 0, 0) := by decide +kernel
theorem k88_93 : look (codL 88) 93 = some (.aload_n 0, 1, 0, 0, 0) := by decide +kernel
theorem k88_94 : look (codL 88) 94 = some (.getfield 43, 3, 7, 3, 0) := by decide +kernel
theorem k88_97 : look (codL 88) 97 = some (.isub, 1, 0, 0, 0) := by decide +kernel
theorem k88_98 : look (codL 88) 98 = some (.ireturn, 1, 0, 0, 0) := by decide +kernel
theorem k89_0 : look (codL 89) 0 = some (.iload_n 0, 1, 0, 0, 0) := by decide +kernel
theorem k89_1 : look (codL 89) 1 = some (.invokestatic 32, 3, 84, 1, 0) := by decide +kernel
theorem k89_4 : look (codL 89) 4 = some (.ifCond .ne 11, 3, 0, 0, 0) := by decide +kernel
theorem k89_7 : look (codL 89) 7 = some (.iload_n 0, 1, 0, 0, 0) := by decide +kernel
theorem k89_8 : look (codL 89) 8 = some (.iload_n 1, 1, 0, 0, 0) := by decide +kernel
theorem k89_9 : look (codL 89) 9 = some (.invokestatic 35, 3, 85, 2, 0) := by decide +kernel
theorem k89_12 : look (codL 89) 12 = some (.ifCond .eq 7, 3, 0, 0, 0) := by decide +kernel
theorem k89_15 : look (codL 89) 15 = some (.iconst 1, 1, 0, 0, 0) := by decide +kernel
theorem k89_16 : look (codL 89) 16 = some (.goto 4, 3, 0, 0, 0) := by decide +kernel
theorem k89_19 : look (codL 89) 19 = some (.iconst 0, 1, 0, 0, 0) := by decide +kernel
theorem k89_20 : look (codL 89) 20 = some (.ireturn, 1, 0, 0, 0) := by decide +kernel
theorem k91_0 : look (codL 91) 0 = some (.aload_n 0, 1, 0, 0, 0) := by decide +kernel
theorem k91_1 : look (codL 91) 1 = some (.getfield 15, 3, 8, 1, 0) := by decide +kernel
theorem k91_4 : look (codL 91) 4 = some (.bipush 120, 2, 0, 0, 0) := by decide +kernel
theorem k91_6 : look (codL 91) 6 = some (.if_icmp .ge 23, 3, 0, 0, 0) := by decide +kernel
theorem k91_9 : look (codL 91) 9 = some (.aload_n 0, 1, 0, 0, 0) := by decide +kernel
theorem k91_10 : look (codL 91) 10 = some (.getfield 9, 3, 8, 0, 0) := by decide +kernel
theorem k91_13 : look (codL 91) 13 = some (.aload_n 0, 1, 0, 0, 0) := by decide +kernel
theorem k91_14 : look (codL 91) 14 = some (.getfield 15, 3, 8, 1, 0) := by decide +kernel
theorem k91_17 : look (codL 91) 17 = some (.iload_n 1, 1, 0, 0, 0) := by decide +kernel
theorem k91_18 : look (codL 91) 18 = some (.iastore, 1, 0, 0, 0) := by decide +kernel
theorem k91_19 : look (codL 91) 19 = some (.aload_n 0, 1, 0, 0, 0) := by decide +kernel
theorem k91_20 : look (codL 91) 20 = some (.dup, 1, 0, 0, 0) := by decide +kernel
theorem k91_21 : look (codL 91) 21 = some (.getfield 15, 3, 8, 1, 0) := by decide +kernel
theorem k91_24 : look (codL 91) 24 = some (.iconst 1, 1, 0, 0, 0) := by decide +kernel
theorem k91_25 : look (codL 91) 25 = some (.iadd, 1, 0, 0, 0) := by decide +kernel
theorem k91_26 : look (codL 91) 26 = some (.putfield 15, 3, 8, 1, 0) := by decide +kernel
theorem k91_29 : look (codL 91) 29 = some (.return_, 1, 0, 0, 0) := by decide +kernel
theorem k93_0 : look (codL 93) 0 = some (.aload_n 0, 1, 0, 0, 0) := by decide +kernel
theorem k93_1 : look (codL 93) 1 = some (.getfield 10, 3, 9, 0, 0) := by decide +kernel
theorem k93_4 : look (codL 93) 4 = some (.getfield 70, 3, 3, 3, 0) := by decide +kernel
theorem k93_7 : look (codL 93) 7 = some (.istore_n 1, 1, 0, 0, 0) := by decide +kernel
theorem k93_8 : look (codL 93) 8 = some (.aload_n 0, 1, 0, 0, 0) := by decide +kernel
theorem k93_9 : look (codL 93) 9 = some (.getfield 10, 3, 9, 0, 0) := by decide +kernel
theorem k93_12 : look (codL 93) 12 = some (.invokevirtual 74, 3, 12, 1, 0) := by decide +kernel
theorem k93_15 : look (codL 93) 15 = some (.iload_n 1, 1, 0, 0, 0) := by decide +kernel
theorem k93_16 : look (codL 93) 16 = some (.ireturn, 1, 0, 0, 0) := by decide +kernel
theorem k94_0 : look (codL 94) 0 = some (.iload_n 1, 1, 0, 0, 0) := by decide +kernel
theorem k94_1 : look (codL 94) 1 = some (.sipush (-202), 3, 0, 0, 0) := by decide +kernel
theorem k94_4 : look (codL 94) 4 = some (.if_icmp .ne 16, 3, 0, 0, 0) := by decide +kernel
theorem k94_7 : look (codL 94) 7 = some (.aload_n 0, 1, 0, 0, 0) := by decide +kernel
theorem k94_8 : look (codL 94) 8 = some (.dup, 1, 0, 0, 0) := by decide +kernel
theorem k94_9 : look (codL 94) 9 = some (.getfield 296, 3, 9, 11, 0) := by decide +kernel
theorem k94_12 : look (codL 94) 12 = some (.iconst 1, 1, 0, 0, 0) := by decide +kernel
theorem k94_13 : look (codL 94) 13 = some (.iadd, 1, 0, 0, 0) := by decide +kernel
theorem k94_14 : look (codL 94) 14 = some (.putfield 296, 3, 9, 11, 0) := by decide +kernel
theorem k94_17 : look (codL 94) 17 = some (.goto 33, 3, 0, 0, 0) := by decide +kernel
theorem k94_20 : look (codL 94) 20 = some (.iload_n 1, 1, 0, 0, 0) := by decide +kernel
theorem k94_21 : look (codL 94) 21 = some (.sipush (-203), 3, 0, 0, 0) := by decide +kernel
theorem k94_24 : look (codL 94) 24 = some (.if_icmp .ne 16, 3, 0, 0, 0) := by decide +kernel
theorem k94_27 : look (codL 94) 27 = some (.aload_n 0, 1, 0, 0, 0) := by decide +kernel
theorem k94_28 : look (codL 94) 28 = some (.dup, 1, 0, 0, 0) := by decide +kernel
theorem k94_29 : look (codL 94) 29 = some (.getfield 299, 3, 9, 12, 0) := by decide +kernel
theorem k94_32 : look (codL 94) 32 = some (.iconst 1, 1, 0, 0, 0) := by decide +kernel
theorem k94_33 : look (codL 94) 33 = some (.iadd, 1, 0, 0, 0) := by decide +kernel
theorem k94_34 : look (codL 94) 34 = some (.putfield 299, 3, 9, 12, 0) := by decide +kernel
theorem k94_37 : look (codL 94) 37 = some (.goto 13, 3, 0, 0, 0) := by decide +kernel
theorem k94_40 : look (codL 94) 40 = some (.aload_n 0, 1, 0, 0, 0) := by decide +kernel
theorem k94_41 : look (codL 94) 41 = some (.dup, 1, 0, 0, 0) := by decide +kernel
theorem k94_42 : look (codL 94) 42 = some (.getfield 302, 3, 9, 13, 0) := by decide +kernel
theorem k94_45 : look (codL 94) 45 = some (.iconst 1, 1, 0, 0, 0) := by decide +kernel
theorem k94_46 : look (codL 94) 46 = some (.iadd, 1, 0, 0, 0) := by decide +kernel
theorem k94_47 : look (codL 94) 47 = some (.putfield 302, 3, 9, 13, 0) := by decide +kernel
theorem k94_50 : look (codL 94) 50 = some (.iload_n 1, 1, 0, 0, 0) := by decide +kernel
theorem k94_51 : look (codL 94) 51 = some (.ireturn, 1, 0, 0, 0) := by decide +kernel
theorem k95_0 : look (codL 95) 0 = some (.aload_n 0, 1, 0, 0, 0) := by decide +kernel
theorem k95_1 : look (codL 95) 1 = some (.getfield 10, 3, 9, 0, 0) := by decide +kernel
theorem k95_4 : look (codL 95) 4 = some (.getfield 77, 3, 3, 2, 0) := by decide +kernel
theorem k95_7 : look (codL 95) 7 = some (.bipush 10, 2, 0, 0, 0) := by decide +kernel
theorem k95_9 : look (codL 95) 9 = some (.if_icmp .lt 11, 3, 0, 0, 0) := by decide +kernel
theorem k95_12 : look (codL 95) 12 = some (.aload_n 0, 1, 0, 0, 0) := by decide +kernel
theorem k95_13 : look (codL 95) 13 = some (.sipush (-204), 3, 0, 0, 0) := by decide +kernel
theorem k95_16 : look (codL 95) 16 = some (.invokevirtual 80, 3, 94, 2, 0) := by decide +kernel
theorem k95_19 : look (codL 95) 19 = some (.ireturn, 1, 0, 0, 0) := by decide +kernel
theorem k95_20 : look (codL 95) 20 = some (.aload_n 0, 1, 0, 0, 0) := by decide +kernel
theorem k95_21 : look (codL 95) 21 = some (.getfield 10, 3, 9, 0, 0) := by decide +kernel
theorem k95_24 : look (codL 95) 24 = some (.invokevirtual 84, 3, 17, 1, 0) := by decide +kernel
theorem k95_27 : look (codL 95) 27 = some (.ireturn, 1, 0, 0, 0) := by decide +kernel
theorem k96_0 : look (codL 96) 0 = some (.aload_n 0, 1, 0, 0, 0) := by decide +kernel
theorem k96_1 : look (codL 96) 1 = some (.getfield 10, 3, 9, 0, 0) := by decide +kernel
theorem k96_4 : look (codL 96) 4 = some (.iload_n 1, 1, 0, 0, 0) := by decide +kernel
theorem k96_5 : look (codL 96) 5 = some (.invokevirtual 88, 3, 14, 2, 0) := by decide +kernel
theorem k96_8 : look (codL 96) 8 = some (.ifCond .eq 10, 3, 0, 0, 0) := by decide +kernel
theorem k96_11 : look (codL 96) 11 = some (.iload_n 2, 1, 0, 0, 0) := by decide +kernel
theorem k96_12 : look (codL 96) 12 = some (.invokestatic 92, 3, 77, 1, 0) := by decide +kernel
theorem k96_15 : look (codL 96) 15 = some (.ifCond .ne 11, 3, 0, 0, 0) := by decide +kernel
theorem k96_18 : look (codL 96) 18 = some (.aload_n 0, 1, 0, 0, 0) := by decide +kernel
theorem k96_19 : look (codL 96) 19 = some (.sipush (-202), 3, 0, 0, 0) := by decide +kernel
theorem k96_22 : look (codL 96) 22 = some (.invokevirtual 80, 3, 94, 2, 0) := by decide +kernel
theorem k96_25 : look (codL 96) 25 = some (.ireturn, 1, 0, 0, 0) := by decide +kernel
theorem k96_26 : look (codL 96) 26 = some (.aload_n 0, 1, 0, 0, 0) := by decide +kernel
theorem k96_27 : look (codL 96) 27 = some (.getfield 10, 3, 9, 0, 0) := by decide +kernel
theorem k96_30 : look (codL 96) 30 = some (.getfield 97, 3, 3, 0, 0) := by decide +kernel
theorem k96_33 : look (codL 96) 33 = some (.iload_n 1, 1, 0, 0, 0) := by decide +kernel
theorem k96_34 : look (codL 96) 34 = some (.aaload, 1, 0, 0, 0) := by decide +kernel
theorem k96_35 : look (codL 96) 35 = some (.iload_n 2, 1, 0, 0, 0) := by decide +kernel
theorem k96_36 : look (codL 96) 36 = some (.invokevirtual 101, 3, 4, 2, 0) := by decide +kernel
theorem k96_39 : look (codL 96) 39 = some (.ifCond .ne 11, 3, 0, 0, 0) := by decide +kernel
theorem k96_42 : look (codL 96) 42 = some (.aload_n 0, 1, 0, 0, 0) := by decide +kernel
theorem k96_43 : look (codL 96) 43 = some (.sipush (-203), 3, 0, 0, 0) := by decide +kernel
theorem k96_46 : look (codL 96) 46 = some (.invokevirtual 80, 3, 94, 2, 0) := by decide +kernel
theorem k96_49 : look (codL 96) 49 = some (.ireturn, 1, 0, 0, 0) := by decide +kernel
theorem k96_50 : look (codL 96) 50 = some (.aload_n 0, 1, 0, 0, 0) := by decide +kernel
theorem k96_51 : look (codL 96) 51 = some (.getfield 10, 3, 9, 0, 0) := by decide +kernel
theorem k96_54 : look (codL 96) 54 = some (.getfield 97, 3, 3, 0, 0) := by decide +kernel
theorem k96_57 : look (codL 96) 57 = some (.iload_n 1, 1, 0, 0, 0) := by decide +kernel
theorem k96_58 : look (codL 96) 58 = some (.aaload, 1, 0, 0, 0) := by decide +kernel
theorem k96_59 : look (codL 96) 59 = some (.getfield 106, 3, 0, 1, 0) := by decide +kernel
theorem k96_62 : look (codL 96) 62 = some (.bipush 6, 2, 0, 0, 0) := by decide +kernel
theorem k96_64 : look (codL 96) 64 = some (.if_icmp .lt 11, 3, 0, 0, 0) := by decide +kernel
theorem k96_67 : look (codL 96) 67 = some (.aload_n 0, 1, 0, 0, 0) := by decide +kernel
theorem k96_68 : look (codL 96) 68 = some (.sipush (-204), 3, 0, 0, 0) := by decide +kernel
theorem k96_71 : look (codL 96) 71 = some (.invokevirtual 80, 3, 94, 2, 0) := by decide +kernel
theorem k96_74 : look (codL 96) 74 = some (.ireturn, 1, 0, 0, 0) := by decide +kernel
theorem k96_75 : look (codL 96) 75 = some (.aload_n 0, 1, 0, 0, 0) := by decide +kernel
theorem k96_76 : look (codL 96) 76 = some (.getfield 10, 3, 9, 0, 0) := by decide +kernel
theorem k96_79 : look (codL 96) 79 = some (.iload_n 1, 1, 0, 0, 0) := by decide +kernel
theorem k96_80 : look (codL 96) 80 = some (.iload_n 2, 1, 0, 0, 0) := by decide +kernel
theorem k96_81 : look (codL 96) 81 = some (.invokevirtual 109, 3, 18, 3, 0) := by decide +kernel
theorem k96_84 : look (codL 96) 84 = some (.ireturn, 1, 0, 0, 0) := by decide +kernel
theorem k97_0 : look (codL 97) 0 = some (.aload_n 0, 1, 0, 0, 0) := by decide +kernel
theorem k97_1 : look (codL 97) 1 = some (.getfield 10, 3, 9, 0, 0) := by decide +kernel
theorem k97_4 : look (codL 97) 4 = some (.iload_n 1, 1, 0, 0, 0) := by decide +kernel
theorem k97_5 : look (codL 97) 5 = some (.invokevirtual 88, 3, 14, 2, 0) := by decide +kernel
theorem k97_8 : look (codL 97) 8 = some (.ifCond .eq 23, 3, 0, 0, 0) := by decide +kernel
theorem k97_11 : look (codL 97) 11 = some (.aload_n 0, 1, 0, 0, 0) := by decide +kernel
theorem k97_12 : look (codL 97) 12 = some (.getfield 10, 3, 9, 0, 0) := by decide +kernel
theorem k97_15 : look (codL 97) 15 = some (.iload_n 2, 1, 0, 0, 0) := by decide +kernel
theorem k97_16 : look (codL 97) 16 = some (.invokevirtual 88, 3, 14, 2, 0) := by decide +kernel
theorem k97_19 : look (codL 97) 19 = some (.ifCond .eq 12, 3, 0, 0, 0) := by decide +kernel
theorem k97_22 : look (codL 97) 22 = some (.iload_n 3, 1, 0, 0, 0) := by decide +kernel
theorem k97_23 : look (codL 97) 23 = some (.bipush 100, 2, 0, 0, 0) := by decide +kernel
theorem k97_25 : look (codL 97) 25 = some (.invokestatic 113, 3, 13, 2, 0) := by decide +kernel
theorem k97_28 : look (codL 97) 28 = some (.ifCond .ne 11, 3, 0, 0, 0) := by decide +kernel
theorem k97_31 : look (codL 97) 31 = some (.aload_n 0, 1, 0, 0, 0) := by decide +kernel
theorem k97_32 : look (codL 97) 32 = some (.sipush (-202), 3, 0, 0, 0) := by decide +kernel
theorem k97_35 : look (codL 97) 35 = some (.invokevirtual 80, 3, 94, 2, 0) := by decide +kernel
theorem k97_38 : look (codL 97) 38 = some (.ireturn, 1, 0, 0, 0) := by decide +kernel
theorem k97_39 : look (codL 97) 39 = some (.aload_n 0, 1, 0, 0, 0) := by decide +kernel
theorem k97_40 : look (codL 97) 40 = some (.getfield 10, 3, 9, 0, 0) := by decide +kernel
theorem k97_43 : look (codL 97) 43 = some (.getfield 70, 3, 3, 3, 0) := by decide +kernel
theorem k97_46 : look (codL 97) 46 = some (.bipush 16, 2, 0, 0, 0) := by decide +kernel
theorem k97_48 : look (codL 97) 48 = some (.if_icmp .lt 11, 3, 0, 0, 0) := by decide +kernel
theorem k97_51 : look (codL 97) 51 = some (.aload_n 0, 1, 0, 0, 0) := by decide +kernel
theorem k97_52 : look (codL 97) 52 = some (.sipush (-204), 3, 0, 0, 0) := by decide +kernel
theorem k97_55 : look (codL 97) 55 = some (.invokevirtual 80, 3, 94, 2, 0) := by decide +kernel
theorem k97_58 : look (codL 97) 58 = some (.ireturn, 1, 0, 0, 0) := by decide +kernel
theorem k97_59 : look (codL 97) 59 = some (.aload_n 0, 1, 0, 0, 0) := by decide +kernel
theorem k97_60 : look (codL 97) 60 = some (.getfield 10, 3, 9, 0, 0) := by decide +kernel
theorem k97_63 : look (codL 97) 63 = some (.iload_n 1, 1, 0, 0, 0) := by decide +kernel
theorem k97_64 : look (codL 97) 64 = some (.iload_n 2, 1, 0, 0, 0) := by decide +kernel
theorem k97_65 : look (codL 97) 65 = some (.iload_n 3, 1, 0, 0, 0) := by decide +kernel
theorem k97_66 : look (codL 97) 66 = some (.invokevirtual 117, 3, 19, 4, 0) := by decide +kernel
theorem k97_69 : look (codL 97) 69 = some (.ireturn, 1, 0, 0, 0) := by decide +kernel
theorem k98_0 : look (codL 98) 0 = some (.aload_n 0, 1, 0, 0, 0) := by decide +kernel
theorem k98_1 : look (codL 98) 1 = some (.getfield 10, 3, 9, 0, 0) := by decide +kernel
theorem k98_4 : look (codL 98) 4 = some (.iload_n 1, 1, 0, 0, 0) := by decide +kernel
theorem k98_5 : look (codL 98) 5 = some (.invokevirtual 121, 3, 15, 2, 0) := by decide +kernel
theorem k98_8 : look (codL 98) 8 = some (.ifCond .eq 21, 3, 0, 0, 0) := by decide +kernel
theorem k98_11 : look (codL 98) 11 = some (.iload_n 2, 1, 0, 0, 0) := by decide +kernel
theorem k98_12 : look (codL 98) 12 = some (.aload_n 0, 1, 0, 0, 0) := by decide +kernel
theorem k98_13 : look (codL 98) 13 = some (.getfield 10, 3, 9, 0, 0) := by decide +kernel
theorem k98_16 : look (codL 98) 16 = some (.iload_n 1, 1, 0, 0, 0) := by decide +kernel
theorem k98_17 : look (codL 98) 17 = some (.invokevirtual 124, 3, 16, 2, 0) := by decide +kernel
theorem k98_20 : look (codL 98) 20 = some (.getfield 106, 3, 0, 1, 0) := by decide +kernel
theorem k98_23 : look (codL 98) 23 = some (.invokestatic 113, 3, 13, 2, 0) := by decide +kernel
theorem k98_26 : look (codL 98) 26 = some (.ifCond .ne 11, 3, 0, 0, 0) := by decide +kernel
theorem k98_29 : look (codL 98) 29 = some (.aload_n 0, 1, 0, 0, 0) := by decide +kernel
theorem k98_30 : look (codL 98) 30 = some (.sipush (-202), 3, 0, 0, 0) := by decide +kernel
theorem k98_33 : look (codL 98) 33 = some (.invokevirtual 80, 3, 94, 2, 0) := by decide +kernel
theorem k98_36 : look (codL 98) 36 = some (.ireturn, 1, 0, 0, 0) := by decide +kernel
theorem k98_37 : look (codL 98) 37 = some (.iload_n 3, 1, 0, 0, 0) := by decide +kernel
theorem k98_38 : look (codL 98) 38 = some (.aload_n 0, 1, 0, 0, 0) := by decide +kernel
theorem k98_39 : look (codL 98) 39 = some (.getfield 10, 3, 9, 0, 0) := by decide +kernel
theorem k98_42 : look (codL 98) 42 = some (.iload_n 1, 1, 0, 0, 0) := by decide +kernel
theorem k98_43 : look (codL 98) 43 = some (.invokevirtual 124, 3, 16, 2, 0) := by decide +kernel
theorem k98_46 : look (codL 98) 46 = some (.getfield 128, 3, 0, 0, 0) := by decide +kernel
theorem k98_49 : look (codL 98) 49 = some (.iload_n 2, 1, 0, 0, 0) := by decide +kernel
theorem k98_50 : look (codL 98) 50 = some (.iaload, 1, 0, 0, 0) := by decide +kernel
theorem k98_51 : look (codL 98) 51 = some (.invokestatic 131, 3, 89, 2, 0) := by decide +kernel
theorem k98_54 : look (codL 98) 54 = some (.ifCond .ne 11, 3, 0, 0, 0) := by decide +kernel
theorem k98_57 : look (codL 98) 57 = some (.aload_n 0, 1, 0, 0, 0) := by decide +kernel
theorem k98_58 : look (codL 98) 58 = some (.sipush (-202), 3, 0, 0, 0) := by decide +kernel
theorem k98_61 : look (codL 98) 61 = some (.invokevirtual 80, 3, 94, 2, 0) := by decide +kernel
theorem k98_64 : look (codL 98) 64 = some (.ireturn, 1, 0, 0, 0) := by decide +kernel
theorem k98_65 : look (codL 98) 65 = some (.aload_n 0, 1, 0, 0, 0) := by decide +kernel
theorem k98_66 : look (codL 98) 66 = some (.getfield 10, 3, 9, 0, 0) := by decide +kernel
theorem k98_69 : look (codL 98) 69 = some (.getfield 134, 3, 3, 1, 0) := by decide +kernel
theorem k98_72 : look (codL 98) 72 = some (.iload_n 1, 1, 0, 0, 0) := by decide +kernel
theorem k98_73 : look (codL 98) 73 = some (.aaload, 1, 0, 0, 0) := by decide +kernel
theorem k98_74 : look (codL 98) 74 = some (.getfield 138, 3, 2, 0, 0) := by decide +kernel
theorem k98_77 : look (codL 98) 77 = some (.iload_n 2, 1, 0, 0, 0) := by decide +kernel
theorem k98_78 : look (codL 98) 78 = some (.iaload, 1, 0, 0, 0) := by decide +kernel
theorem k98_79 : look (codL 98) 79 = some (.istore 4, 2, 0, 0, 0) := by decide +kernel
theorem k98_81 : look (codL 98) 81 = some (.aload_n 0, 1, 0, 0, 0) := by decide +kernel
theorem k98_82 : look (codL 98) 82 = some (.getfield 10, 3, 9, 0, 0) := by decide +kernel
theorem k98_85 : look (codL 98) 85 = some (.getfield 134, 3, 3, 1, 0) := by decide +kernel
theorem k98_88 : look (codL 98) 88 = some (.iload_n 1, 1, 0, 0, 0) := by decide +kernel
theorem k98_89 : look (codL 98) 89 = some (.aaload, 1, 0, 0, 0) := by decide +kernel
theorem k98_90 : look (codL 98) 90 = some (.getfield 138, 3, 2, 0, 0) := by decide +kernel
theorem k98_93 : look (codL 98) 93 = some (.iload_n 2, 1, 0, 0, 0) := by decide +kernel
theorem k98_94 : look (codL 98) 94 = some (.iload_n 3, 1, 0, 0, 0) := by decide +kernel
theorem k98_95 : look (codL 98) 95 = some (.iastore, 1, 0, 0, 0) := by decide +kernel
theorem k98_96 : look (codL 98) 96 = some (.iload 4, 2, 0, 0, 0) := by decide +kernel
theorem k98_98 : look (codL 98) 98 = some (.ireturn, 1, 0, 0, 0) := by decide +kernel
theorem k99_0 : look (codL 99) 0 = some (.aload_n 0, 1, 0, 0, 0) := by decide +kernel
theorem k99_1 : look (codL 99) 1 = some (.getfield 10, 3, 9, 0, 0) := by decide +kernel
theorem k99_4 : look (codL 99) 4 = some (.iload_n 1, 1, 0, 0, 0) := by decide +kernel
theorem k99_5 : look (codL 99) 5 = some (.invokevirtual 121, 3, 15, 2, 0) := by decide +kernel
theorem k99_8 : look (codL 99) 8 = some (.ifCond .eq 12, 3, 0, 0, 0) := by decide +kernel
theorem k99_11 : look (codL 99) 11 = some (.iload_n 2, 1, 0, 0, 0) := by decide +kernel
theorem k99_12 : look (codL 99) 12 = some (.bipush 100, 2, 0, 0, 0) := by decide +kernel
theorem k99_14 : look (codL 99) 14 = some (.invokestatic 113, 3, 13, 2, 0) := by decide +kernel
theorem k99_17 : look (codL 99) 17 = some (.ifCond .ne 11, 3, 0, 0, 0) := by decide +kernel
theorem k99_20 : look (codL 99) 20 = some (.aload_n 0, 1, 0, 0, 0) := by decide +kernel
theorem k99_21 : look (codL 99) 21 = some (.sipush (-202), 3, 0, 0, 0) := by decide +kernel
theorem k99_24 : look (codL 99) 24 = some (.invokevirtual 80, 3, 94, 2, 0) := by decide +kernel
theorem k99_27 : look (codL 99) 27 = some (.ireturn, 1, 0, 0, 0) := by decide +kernel
theorem k99_28 : look (codL 99) 28 = some (.aload_n 0, 1, 0, 0, 0) := by decide +kernel
theorem k99_29 : look (codL 99) 29 = some (.getfield 10, 3, 9, 0, 0) := by decide +kernel
theorem k99_32 : look (codL 99) 32 = some (.getfield 134, 3, 3, 1, 0) := by decide +kernel
theorem k99_35 : look (codL 99) 35 = some (.iload_n 1, 1, 0, 0, 0) := by decide +kernel
theorem k99_36 : look (codL 99) 36 = some (.aaload, 1, 0, 0, 0) := by decide +kernel
theorem k99_37 : look (codL 99) 37 = some (.getfield 143, 3, 2, 3, 0) := by decide +kernel
theorem k99_40 : look (codL 99) 40 = some (.istore_n 3, 1, 0, 0, 0) := by decide +kernel
theorem k99_41 : look (codL 99) 41 = some (.aload_n 0, 1, 0, 0, 0) := by decide +kernel
theorem k99_42 : look (codL 99) 42 = some (.getfield 10, 3, 9, 0, 0) := by decide +kernel
theorem k99_45 : look (codL 99) 45 = some (.getfield 134, 3, 3, 1, 0) := by decide +kernel
theorem k99_48 : look (codL 99) 48 = some (.iload_n 1, 1, 0, 0, 0) := by decide +kernel
theorem k99_49 : look (codL 99) 49 = some (.aaload, 1, 0, 0, 0) := by decide +kernel
theorem k99_50 : look (codL 99) 50 = some (.iload_n 2, 1, 0, 0, 0) := by decide +kernel
theorem k99_51 : look (codL 99) 51 = some (.putfield 143, 3, 2, 3, 0) := by decide +kernel
theorem k99_54 : look (codL 99) 54 = some (.iload_n 3, 1, 0, 0, 0) := by decide +kernel
theorem k99_55 : look (codL 99) 55 = some (.ireturn, 1, 0, 0, 0) := by decide +kernel
theorem k100_0 : look (codL 100) 0 = some (.iload_n 1, 1, 0, 0, 0) := by decide +kernel
theorem k100_1 : look (codL 100) 1 = some (.iconst 5, 1, 0, 0, 0) := by decide +kernel
theorem k100_2 : look (codL 100) 2 = some (.invokestatic 113, 3, 13, 2, 0) := by decide +kernel
theorem k100_5 : look (codL 100) 5 = some (.ifCond .ne 11, 3, 0, 0, 0) := by decide +kernel
theorem k100_8 : look (codL 100) 8 = some (.aload_n 0, 1, 0, 0, 0) := by decide +kernel
theorem k100_9 : look (codL 100) 9 = some (.sipush (-202), 3, 0, 0, 0) := by decide +kernel
theorem k100_12 : look (codL 100) 12 = some (.invokevirtual 80, 3, 94, 2, 0) := by decide +kernel
theorem k100_15 : look (codL 100) 15 = some (.ireturn, 1, 0, 0, 0) := by decide +kernel
theorem k100_16 : look (codL 100) 16 = some (.aload_n 0, 1, 0, 0, 0) := by decide +kernel
theorem k100_17 : look (codL 100) 17 = some (.getfield 146, 3, 9, 10, 0) := by decide +kernel
theorem k100_20 : look (codL 100) 20 = some (.istore_n 2, 1, 0, 0, 0) := by decide +kernel
theorem k100_21 : look (codL 100) 21 = some (.aload_n 0, 1, 0, 0, 0) := by decide +kernel
theorem k100_22 : look (codL 100) 22 = some (.iload_n 1, 1, 0, 0, 0) := by decide +kernel
theorem k100_23 : look (codL 100) 23 = some (.putfield 146, 3, 9, 10, 0) := by decide +kernel
theorem k100_26 : look (codL 100) 26 = some (.iload_n 2, 1, 0, 0, 0) := by decide +kernel
theorem k100_27 : look (codL 100) 27 = some (.ireturn, 1, 0, 0, 0) := by decide +kernel
theorem k101_0 : look (codL 101) 0 = some (.aload_n 0, 1, 0, 0, 0) := by decide +kernel
theorem k101_1 : look (codL 101) 1 = some (.getfield 38, 3, 9, 4, 0) := by decide +kernel
theorem k101_4 : look (codL 101) 4 = some (.aload_n 0, 1, 0, 0, 0) := by decide +kernel
theorem k101_5 : look (codL 101) 5 = some (.getfield 10, 3, 9, 0, 0) := by decide +kernel
theorem k101_8 : look (codL 101) 8 = some (.iload_n 1, 1, 0, 0, 0) := by decide +kernel
theorem k101_9 : look (codL 101) 9 = some (.invokevirtual 124, 3, 16, 2, 0) := by decide +kernel
theorem k101_12 : look (codL 101) 12 = some (.aload_n 0, 1, 0, 0, 0) := by decide +kernel
theorem k101_13 : look (codL 101) 13 = some (.getfield 10, 3, 9, 0, 0) := by decide +kernel
theorem k101_16 : look (codL 101) 16 = some (.getfield 134, 3, 3, 1, 0) := by decide +kernel
theorem k101_19 : look (codL 101) 19 = some (.iload_n 1, 1, 0, 0, 0) := by decide +kernel
theorem k101_20 : look (codL 101) 20 = some (.aaload, 1, 0, 0, 0) := by decide +kernel
theorem k101_21 : look (codL 101) 21 = some (.invokevirtual 205, 3, 24, 3, 0) := by decide +kernel
theorem k101_24 : look (codL 101) 24 = some (.aload_n 0, 1, 0, 0, 0) := by decide +kernel
theorem k101_25 : look (codL 101) 25 = some (.getfield 38, 3, 9, 4, 0) := by decide +kernel
theorem k101_28 : look (codL 101) 28 = some (.invokevirtual 305, 3, 29, 1, 0) := by decide +kernel
theorem k101_31 : look (codL 101) 31 = some (.ireturn, 1, 0, 0, 0) := by decide +kernel
theorem k102_0 : look (codL 102) 0 = some (.aload_n 0, 1, 0, 0, 0) := by decide +kernel
theorem k102_1 : look (codL 102) 1 = some (.getfield 10, 3, 9, 0, 0) := by decide +kernel
theorem k102_4 : look (codL 102) 4 = some (.iload_n 1, 1, 0, 0, 0) := by decide +kernel
theorem k102_5 : look (codL 102) 5 = some (.invokevirtual 121, 3, 15, 2, 0) := by decide +kernel
theorem k102_8 : look (codL 102) 8 = some (.ifCond .eq 11, 3, 0, 0, 0) := by decide +kernel
theorem k102_11 : look (codL 102) 11 = some (.iload_n 2, 1, 0, 0, 0) := by decide +kernel
theorem k102_12 : look (codL 102) 12 = some (.iconst 5, 1, 0, 0, 0) := by decide +kernel
theorem k102_13 : look (codL 102) 13 = some (.invokestatic 113, 3, 13, 2, 0) := by decide +kernel
theorem k102_16 : look (codL 102) 16 = some (.ifCond .ne 11, 3, 0, 0, 0) := by decide +kernel
theorem k102_19 : look (codL 102) 19 = some (.aload_n 0, 1, 0, 0, 0) := by decide +kernel
theorem k102_20 : look (codL 102) 20 = some (.sipush (-202), 3, 0, 0, 0) := by decide +kernel
theorem k102_23 : look (codL 102) 23 = some (.invokevirtual 80, 3, 94, 2, 0) := by decide +kernel
theorem k102_26 : look (codL 102) 26 = some (.ireturn, 1, 0, 0, 0) := by decide +kernel
theorem k102_27 : look (codL 102) 27 = some (.iload_n 2, 1, 0, 0, 0) := by decide +kernel
theorem k102_28 : look (codL 102) 28 = some (.tableswitch 85 0 3 #[32, 45, 58, 71], 32, 0, 0, 0) := by decide +kernel
theorem k102_60 : look (codL 102) 60 = some (.aload_n 0, 1, 0, 0, 0) := by decide +kernel
theorem k102_61 : look (codL 102) 61 = some (.getfield 10, 3, 9, 0, 0) := by decide +kernel
theorem k102_64 : look (codL 102) 64 = some (.getfield 134, 3, 3, 1, 0) := by decide +kernel
theorem k102_67 : look (codL 102) 67 = some (.iload_n 1, 1, 0, 0, 0) := by decide +kernel
theorem k102_68 : look (codL 102) 68 = some (.aaload, 1, 0, 0, 0) := by decide +kernel
theorem k102_69 : look (codL 102) 69 = some (.getfield 149, 3, 2, 1, 0) := by decide +kernel
theorem k102_72 : look (codL 102) 72 = some (.ireturn, 1, 0, 0, 0) := by decide +kernel
theorem k102_73 : look (codL 102) 73 = some (.aload_n 0, 1, 0, 0, 0) := by decide +kernel
theorem k102_74 : look (codL 102) 74 = some (.getfield 10, 3, 9, 0, 0) := by decide +kernel
theorem k102_77 : look (codL 102) 77 = some (.getfield 134, 3, 3, 1, 0) := by decide +kernel
theorem k102_80 : look (codL 102) 80 = some (.iload_n 1, 1, 0, 0, 0) := by decide +kernel
theorem k102_81 : look (codL 102) 81 = some (.aaload, 1, 0, 0, 0) := by decide +kernel
theorem k102_82 : look (codL 102) 82 = some (.getfield 152, 3, 2, 2, 0) := by decide +kernel
theorem k102_85 : look (codL 102) 85 = some (.ireturn, 1, 0, 0, 0) := by decide +kernel
theorem k102_86 : look (codL 102) 86 = some (.aload_n 0, 1, 0, 0, 0) := by decide +kernel
theorem k102_87 : look (codL 102) 87 = some (.getfield 10, 3, 9, 0, 0) := by decide +kernel
theorem k102_90 : look (codL 102) 90 = some (.getfield 134, 3, 3, 1, 0) := by decide +kernel
theorem k102_93 : look (codL 102) 93 = some (.iload_n 1, 1, 0, 0, 0) := by decide +kernel
theorem k102_94 : look (codL 102) 94 = some (.aaload, 1, 0, 0, 0) := by decide +kernel
theorem k102_95 : look (codL 102) 95 = some (.getfield 143, 3, 2, 3, 0) := by decide +kernel
theorem k102_98 : look (codL 102) 98 = some (.ireturn, 1, 0, 0, 0) := by decide +kernel
theorem k102_99 : look (codL 102) 99 = some (.aload_n 0, 1, 0, 0, 0) := by decide +kernel
theorem k102_100 : look (codL 102) 100 = some (.iload_n 1, 1, 0, 0, 0) := by decide +kernel
theorem k102_101 : look (codL 102) 101 = some (.invokevirtual 155, 3, 101, 2, 0) := by decide +kernel
theorem k102_104 : look (codL 102) 104 = some (.ifCond .eq 7, 3, 0, 0, 0) := by decide +kernel
theorem k102_107 : look (codL 102) 107 = some (.iconst 1, 1, 0, 0, 0) := by decide +kernel
theorem k102_108 : look (codL 102) 108 = some (.goto 4, 3, 0, 0, 0) := by decide +kernel
theorem k102_111 : look (codL 102) 111 = some (.iconst 0, 1, 0, 0, 0) := by decide +kernel
theorem k102_112 : look (codL 102) 112 = some (.ireturn, 1, 0, 0, 0) := by decide +kernel
theorem k102_113 : look (codL 102) 113 = some (.aload_n 0, 1, 0, 0, 0) := by decide +kernel
theorem k102_114 : look (codL 102) 114 = some (.getfield 10, 3, 9, 0, 0) := by decide +kernel
theorem k102_117 : look (codL 102) 117 = some (.iload_n 1, 1, 0, 0, 0) := by decide +kernel
theorem k102_118 : look (codL 102) 118 = some (.invokevirtual 158, 3, 22, 2, 0) := by decide +kernel
theorem k102_121 : look (codL 102) 121 = some (.ireturn, 1, 0, 0, 0) := by decide +kernel
theorem k103_0 : look (codL 103) 0 = some (.aload_n 0, 1, 0, 0, 0) := by decide +kernel
theorem k103_1 : look (codL 103) 1 = some (.getfield 10, 3, 9, 0, 0) := by decide +kernel
theorem k103_4 : look (codL 103) 4 = some (.iload_n 1, 1, 0, 0, 0) := by decide +kernel
theorem k103_5 : look (codL 103) 5 = some (.invokevirtual 88, 3, 14, 2, 0) := by decide +kernel
theorem k103_8 : look (codL 103) 8 = some (.ifCond .eq 11, 3, 0, 0, 0) := by decide +kernel
theorem k103_11 : look (codL 103) 11 = some (.iload_n 2, 1, 0, 0, 0) := by decide +kernel
theorem k103_12 : look (codL 103) 12 = some (.iconst 3, 1, 0, 0, 0) := by decide +kernel
theorem k103_13 : look (codL 103) 13 = some (.invokestatic 113, 3, 13, 2, 0) := by decide +kernel
theorem k103_16 : look (codL 103) 16 = some (.ifCond .ne 11, 3, 0, 0, 0) := by decide +kernel
theorem k103_19 : look (codL 103) 19 = some (.aload_n 0, 1, 0, 0, 0) := by decide +kernel
theorem k103_20 : look (codL 103) 20 = some (.sipush (-202), 3, 0, 0, 0) := by decide +kernel
theorem k103_23 : look (codL 103) 23 = some (.invokevirtual 80, 3, 94, 2, 0) := by decide +kernel
theorem k103_26 : look (codL 103) 26 = some (.ireturn, 1, 0, 0, 0) := by decide +kernel
theorem k103_27 : look (codL 103) 27 = some (.iload_n 2, 1, 0, 0, 0) := by decide +kernel
theorem k103_28 : look (codL 103) 28 = some (.lookupswitch 50 #[(0, 28), (1, 41)], 28, 0, 0, 0) := by decide +kernel
theorem k103_56 : look (codL 103) 56 = some (.aload_n 0, 1, 0, 0, 0) := by decide +kernel
theorem k103_57 : look (codL 103) 57 = some (.getfield 10, 3, 9, 0, 0) := by decide +kernel
theorem k103_60 : look (codL 103) 60 = some (.getfield 97, 3, 3, 0, 0) := by decide +kernel
theorem k103_63 : look (codL 103) 63 = some (.iload_n 1, 1, 0, 0, 0) := by decide +kernel
theorem k103_64 : look (codL 103) 64 = some (.aaload, 1, 0, 0, 0) := by decide +kernel
theorem k103_65 : look (codL 103) 65 = some (.getfield 106, 3, 0, 1, 0) := by decide +kernel
theorem k103_68 : look (codL 103) 68 = some (.ireturn, 1, 0, 0, 0) := by decide +kernel
theorem k103_69 : look (codL 103) 69 = some (.aload_n 0, 1, 0, 0, 0) := by decide +kernel
theorem k103_70 : look (codL 103) 70 = some (.getfield 10, 3, 9, 0, 0) := by decide +kernel
theorem k103_73 : look (codL 103) 73 = some (.iload_n 1, 1, 0, 0, 0) := by decide +kernel
theorem k103_74 : look (codL 103) 74 = some (.invokevirtual 161, 3, 20, 2, 0) := by decide +kernel
theorem k103_77 : look (codL 103) 77 = some (.ireturn, 1, 0, 0, 0) := by decide +kernel
theorem k103_78 : look (codL 103) 78 = some (.aload_n 0, 1, 0, 0, 0) := by decide +kernel
theorem k103_79 : look (codL 103) 79 = some (.getfield 10, 3, 9, 0, 0) := by decide +kernel
theorem k103_82 : look (codL 103) 82 = some (.iload_n 1, 1, 0, 0, 0) := by decide +kernel
theorem k103_83 : look (codL 103) 83 = some (.invokevirtual 164, 3, 21, 2, 0) := by decide +kernel
theorem k103_86 : look (codL 103) 86 = some (.ireturn, 1, 0, 0, 0) := by decide +kernel
theorem k104_0 : look (codL 104) 0 = some (.aload_n 0, 1, 0, 0, 0) := by decide +kernel
theorem k104_1 : look (codL 104) 1 = some (.getfield 10, 3, 9, 0, 0) := by decide +kernel
theorem k104_4 : look (codL 104) 4 = some (.iload_n 1, 1, 0, 0, 0) := by decide +kernel
theorem k104_5 : look (codL 104) 5 = some (.invokevirtual 88, 3, 14, 2, 0) := by decide +kernel
theorem k104_8 : look (codL 104) 8 = some (.ifCond .eq 7, 3, 0, 0, 0) := by decide +kernel
theorem k104_11 : look (codL 104) 11 = some (.iload_n 2, 1, 0, 0, 0) := by decide +kernel
theorem k104_12 : look (codL 104) 12 = some (.ifCond .ge 11, 3, 0, 0, 0) := by decide +kernel
theorem k104_15 : look (codL 104) 15 = some (.aload_n 0, 1, 0, 0, 0) := by decide +kernel
theorem k104_16 : look (codL 104) 16 = some (.sipush (-202), 3, 0, 0, 0) := by decide +kernel
theorem k104_19 : look (codL 104) 19 = some (.invokevirtual 80, 3, 94, 2, 0) := by decide +kernel
theorem k104_22 : look (codL 104) 22 = some (.ireturn, 1, 0, 0, 0) := by decide +kernel
theorem k104_23 : look (codL 104) 23 = some (.iload_n 2, 1, 0, 0, 0) := by decide +kernel
theorem k104_24 : look (codL 104) 24 = some (.aload_n 0, 1, 0, 0, 0) := by decide +kernel
theorem k104_25 : look (codL 104) 25 = some (.getfield 10, 3, 9, 0, 0) := by decide +kernel
theorem k104_28 : look (codL 104) 28 = some (.getfield 97, 3, 3, 0, 0) := by decide +kernel
theorem k104_31 : look (codL 104) 31 = some (.iload_n 1, 1, 0, 0, 0) := by decide +kernel
theorem k104_32 : look (codL 104) 32 = some (.aaload, 1, 0, 0, 0) := by decide +kernel
theorem k104_33 : look (codL 104) 33 = some (.getfield 106, 3, 0, 1, 0) := by decide +kernel
theorem k104_36 : look (codL 104) 36 = some (.if_icmp .ge 20, 3, 0, 0, 0) := by decide +kernel
theorem k104_39 : look (codL 104) 39 = some (.aload_n 0, 1, 0, 0, 0) := by decide +kernel
theorem k104_40 : look (codL 104) 40 = some (.getfield 10, 3, 9, 0, 0) := by decide +kernel
theorem k104_43 : look (codL 104) 43 = some (.getfield 97, 3, 3, 0, 0) := by decide +kernel
theorem k104_46 : look (codL 104) 46 = some (.iload_n 1, 1, 0, 0, 0) := by decide +kernel
theorem k104_47 : look (codL 104) 47 = some (.aaload, 1, 0, 0, 0) := by decide +kernel
theorem k104_48 : look (codL 104) 48 = some (.getfield 128, 3, 0, 0, 0) := by decide +kernel
theorem k104_51 : look (codL 104) 51 = some (.iload_n 2, 1, 0, 0, 0) := by decide +kernel
theorem k104_52 : look (codL 104) 52 = some (.iaload, 1, 0, 0, 0) := by decide +kernel
theorem k104_53 : look (codL 104) 53 = some (.goto 6, 3, 0, 0, 0) := by decide +kernel
theorem k104_56 : look (codL 104) 56 = some (.sipush (-201), 3, 0, 0, 0) := by decide +kernel
theorem k104_59 : look (codL 104) 59 = some (.ireturn, 1, 0, 0, 0) := by decide +kernel
theorem k105_0 : look (codL 105) 0 = some (.aload_n 0, 1, 0, 0, 0) := by decide +kernel
theorem k105_1 : look (codL 105) 1 = some (.getfield 10, 3, 9, 0, 0) := by decide +kernel
theorem k105_4 : look (codL 105) 4 = some (.iload_n 1, 1, 0, 0, 0) := by decide +kernel
theorem k105_5 : look (codL 105) 5 = some (.invokevirtual 121, 3, 15, 2, 0) := by decide +kernel
theorem k105_8 : look (codL 105) 8 = some (.ifCond .eq 7, 3, 0, 0, 0) := by decide +kernel
theorem k105_11 : look (codL 105) 11 = some (.iload_n 2, 1, 0, 0, 0) := by decide +kernel
theorem k105_12 : look (codL 105) 12 = some (.ifCond .ge 11, 3, 0, 0, 0) := by decide +kernel
theorem k105_15 : look (codL 105) 15 = some (.aload_n 0, 1, 0, 0, 0) := by decide +kernel
theorem k105_16 : look (codL 105) 16 = some (.sipush (-202), 3, 0, 0, 0) := by decide +kernel
theorem k105_19 : look (codL 105) 19 = some (.invokevirtual 80, 3, 94, 2, 0) := by decide +kernel
theorem k105_22 : look (codL 105) 22 = some (.ireturn, 1, 0, 0, 0) := by decide +kernel
theorem k105_23 : look (codL 105) 23 = some (.iload_n 2, 1, 0, 0, 0) := by decide +kernel
theorem k105_24 : look (codL 105) 24 = some (.aload_n 0, 1, 0, 0, 0) := by decide +kernel
theorem k105_25 : look (codL 105) 25 = some (.getfield 10, 3, 9, 0, 0) := by decide +kernel
theorem k105_28 : look (codL 105) 28 = some (.iload_n 1, 1, 0, 0, 0) := by decide +kernel
theorem k105_29 : look (codL 105) 29 = some (.invokevirtual 124, 3, 16, 2, 0) := by decide +kernel
theorem k105_32 : look (codL 105) 32 = some (.getfield 106, 3, 0, 1, 0) := by decide +kernel
theorem k105_35 : look (codL 105) 35 = some (.if_icmp .ge 20, 3, 0, 0, 0) := by decide +kernel
theorem k105_38 : look (codL 105) 38 = some (.aload_n 0, 1, 0, 0, 0) := by decide +kernel
theorem k105_39 : look (codL 105) 39 = some (.getfield 10, 3, 9, 0, 0) := by decide +kernel
theorem k105_42 : look (codL 105) 42 = some (.getfield 134, 3, 3, 1, 0) := by decide +kernel
theorem k105_45 : look (codL 105) 45 = some (.iload_n 1, 1, 0, 0, 0) := by decide +kernel
theorem k105_46 : look (codL 105) 46 = some (.aaload, 1, 0, 0, 0) := by decide +kernel
theorem k105_47 : look (codL 105) 47 = some (.getfield 138, 3, 2, 0, 0) := by decide +kernel
theorem k105_50 : look (codL 105) 50 = some (.iload_n 2, 1, 0, 0, 0) := by decide +kernel
theorem k105_51 : look (codL 105) 51 = some (.iaload, 1, 0, 0, 0) := by decide +kernel
theorem k105_52 : look (codL 105) 52 = some (.goto 6, 3, 0, 0, 0) := by decide +kernel
theorem k105_55 : look (codL 105) 55 = some (.sipush (-201), 3, 0, 0, 0) := by decide +kernel
theorem k105_58 : look (codL 105) 58 = some (.ireturn, 1, 0, 0, 0) := by decide +kernel
theorem k106_0 : look (codL 106) 0 = some (.iload_n 1, 1, 0, 0, 0) := by decide +kernel
theorem k106_1 : look (codL 106) 1 = some (.sipush 128, 3, 0, 0, 0) := by decide +kernel
theorem k106_4 : look (codL 106) 4 = some (.invokestatic 113, 3, 13, 2, 0) := by decide +kernel
theorem k106_7 : look (codL 106) 7 = some (.ifCond .ne 11, 3, 0, 0, 0) := by decide +kernel
theorem k106_10 : look (codL 106) 10 = some (.aload_n 0, 1, 0, 0, 0) := by decide +kernel
theorem k106_11 : look (codL 106) 11 = some (.sipush (-202), 3, 0, 0, 0) := by decide +kernel
theorem k106_14 : look (codL 106) 14 = some (.invokevirtual 80, 3, 94, 2, 0) := by decide +kernel
theorem k106_17 : look (codL 106) 17 = some (.ireturn, 1, 0, 0, 0) := by decide +kernel
theorem k106_18 : look (codL 106) 18 = some (.aload_n 0, 1, 0, 0, 0) := by decide +kernel
theorem k106_19 : look (codL 106) 19 = some (.getfield 22, 3, 9, 2, 0) := by decide +kernel
theorem k106_22 : look (codL 106) 22 = some (.getfield 167, 3, 8, 1, 0) := by decide +kernel
theorem k106_25 : look (codL 106) 25 = some (.bipush 120, 2, 0, 0, 0) := by decide +kernel
theorem k106_27 : look (codL 106) 27 = some (.if_icmp .lt 11, 3, 0, 0, 0) := by decide +kernel
theorem k106_30 : look (codL 106) 30 = some (.aload_n 0, 1, 0, 0, 0) := by decide +kernel
theorem k106_31 : look (codL 106) 31 = some (.sipush (-204), 3, 0, 0, 0) := by decide +kernel
theorem k106_34 : look (codL 106) 34 = some (.invokevirtual 80, 3, 94, 2, 0) := by decide +kernel
theorem k106_37 : look (codL 106) 37 = some (.ireturn, 1, 0, 0, 0) := by decide +kernel
theorem k106_38 : look (codL 106) 38 = some (.aload_n 0, 1, 0, 0, 0) := by decide +kernel
theorem k106_39 : look (codL 106) 39 = some (.getfield 22, 3, 9, 2, 0) := by decide +kernel
theorem k106_42 : look (codL 106) 42 = some (.iload_n 1, 1, 0, 0, 0) := by decide +kernel
theorem k106_43 : look (codL 106) 43 = some (.invokevirtual 170, 3, 91, 2, 0) := by decide +kernel
theorem k106_46 : look (codL 106) 46 = some (.aload_n 0, 1, 0, 0, 0) := by decide +kernel
theorem k106_47 : look (codL 106) 47 = some (.getfield 22, 3, 9, 2, 0) := by decide +kernel
theorem k106_50 : look (codL 106) 50 = some (.getfield 167, 3, 8, 1, 0) := by decide +kernel
theorem k106_53 : look (codL 106) 53 = some (.ireturn, 1, 0, 0, 0) := by decide +kernel
theorem k107_0 : look (codL 107) 0 = some (.aload_n 0, 1, 0, 0, 0) := by decide +kernel
theorem k107_1 : look (codL 107) 1 = some (.getfield 22, 3, 9, 2, 0) := by decide +kernel
theorem k107_4 : look (codL 107) 4 = some (.getfield 167, 3, 8, 1, 0) := by decide +kernel
theorem k107_7 : look (codL 107) 7 = some (.istore_n 1, 1, 0, 0, 0) := by decide +kernel
theorem k107_8 : look (codL 107) 8 = some (.aload_n 0, 1, 0, 0, 0) := by decide +kernel
theorem k107_9 : look (codL 107) 9 = some (.getfield 22, 3, 9, 2, 0) := by decide +kernel
theorem k107_12 : look (codL 107) 12 = some (.iconst 0, 1, 0, 0, 0) := by decide +kernel
theorem k107_13 : look (codL 107) 13 = some (.putfield 167, 3, 8, 1, 0) := by decide +kernel
theorem k107_16 : look (codL 107) 16 = some (.iload_n 1, 1, 0, 0, 0) := by decide +kernel
theorem k107_17 : look (codL 107) 17 = some (.ireturn, 1, 0, 0, 0) := by decide +kernel
theorem k108_0 : look (codL 108) 0 = some (.aload_n 0, 1, 0, 0, 0) := by decide +kernel
theorem k108_1 : look (codL 108) 1 = some (.getfield 31, 3, 9, 3, 0) := by decide +kernel
theorem k108_4 : look (codL 108) 4 = some (.aload_n 0, 1, 0, 0, 0) := by decide +kernel
theorem k108_5 : look (codL 108) 5 = some (.getfield 16, 3, 9, 1, 0) := by decide +kernel
theorem k108_8 : look (codL 108) 8 = some (.invokevirtual 174, 3, 88, 2, 0) := by decide +kernel
theorem k108_11 : look (codL 108) 11 = some (.istore_n 1, 1, 0, 0, 0) := by decide +kernel
theorem k108_12 : look (codL 108) 12 = some (.iload_n 1, 1, 0, 0, 0) := by decide +kernel
theorem k108_13 : look (codL 108) 13 = some (.ifCond .le 21, 3, 0, 0, 0) := by decide +kernel
theorem k108_16 : look (codL 108) 16 = some (.aload_n 0, 1, 0, 0, 0) := by decide +kernel
theorem k108_17 : look (codL 108) 17 = some (.getfield 10, 3, 9, 0, 0) := by decide +kernel
theorem k108_20 : look (codL 108) 20 = some (.astore_n 2, 1, 0, 0, 0) := by decide +kernel
theorem k108_21 : look (codL 108) 21 = some (.aload_n 0, 1, 0, 0, 0) := by decide +kernel
theorem k108_22 : look (codL 108) 22 = some (.aload_n 0, 1, 0, 0, 0) := by decide +kernel
theorem k108_23 : look (codL 108) 23 = some (.getfield 16, 3, 9, 1, 0) := by decide +kernel
theorem k108_26 : look (codL 108) 26 = some (.putfield 10, 3, 9, 0, 0) := by decide +kernel
theorem k108_29 : look (codL 108) 29 = some (.aload_n 0, 1, 0, 0, 0) := by decide +kernel
theorem k108_30 : look (codL 108) 30 = some (.aload_n 2, 1, 0, 0, 0) := by decide +kernel
theorem k108_31 : look (codL 108) 31 = some (.putfield 16, 3, 9, 1, 0) := by decide +kernel
theorem k108_34 : look (codL 108) 34 = some (.iload_n 1, 1, 0, 0, 0) := by decide +kernel
theorem k108_35 : look (codL 108) 35 = some (.ireturn, 1, 0, 0, 0) := by decide +kernel
theorem k109_0 : look (codL 109) 0 = some (.aload_n 0, 1, 0, 0, 0) := by decide +kernel
theorem k109_1 : look (codL 109) 1 = some (.getfield 10, 3, 9, 0, 0) := by decide +kernel
theorem k109_4 : look (codL 109) 4 = some (.iload_n 1, 1, 0, 0, 0) := by decide +kernel
theorem k109_5 : look (codL 109) 5 = some (.invokevirtual 121, 3, 15, 2, 0) := by decide +kernel
theorem k109_8 : look (codL 109) 8 = some (.ifCond .eq 7, 3, 0, 0, 0) := by decide +kernel
theorem k109_11 : look (codL 109) 11 = some (.iload_n 2, 1, 0, 0, 0) := by decide +kernel
theorem k109_12 : look (codL 109) 12 = some (.ifCond .ne 7, 3, 0, 0, 0) := by decide +kernel
theorem k109_15 : look (codL 109) 15 = some (.sipush (-202), 3, 0, 0, 0) := by decide +kernel
theorem k109_18 : look (codL 109) 18 = some (.ireturn, 1, 0, 0, 0) := by decide +kernel
theorem k109_19 : look (codL 109) 19 = some (.aload_n 0, 1, 0, 0, 0) := by decide +kernel
theorem k109_20 : look (codL 109) 20 = some (.iload_n 1, 1, 0, 0, 0) := by decide +kernel
theorem k109_21 : look (codL 109) 21 = some (.invokevirtual 155, 3, 101, 2, 0) := by decide +kernel
theorem k109_24 : look (codL 109) 24 = some (.ifCond .eq 7, 3, 0, 0, 0) := by decide +kernel
theorem k109_27 : look (codL 109) 27 = some (.iconst 0, 1, 0, 0, 0) := by decide +kernel
theorem k109_28 : look (codL 109) 28 = some (.goto 6, 3, 0, 0, 0) := by decide +kernel
theorem k109_31 : look (codL 109) 31 = some (.sipush (-203), 3, 0, 0, 0) := by decide +kernel
theorem k109_34 : look (codL 109) 34 = some (.ireturn, 1, 0, 0, 0) := by decide +kernel
theorem k110_0 : look (codL 110) 0 = some (.aload_n 0, 1, 0, 0, 0) := by decide +kernel
theorem k110_1 : look (codL 110) 1 = some (.getfield 38, 3, 9, 4, 0) := by decide +kernel
theorem k110_4 : look (codL 110) 4 = some (.aload_n 0, 1, 0, 0, 0) := by decide +kernel
theorem k110_5 : look (codL 110) 5 = some (.getfield 10, 3, 9, 0, 0) := by decide +kernel
theorem k110_8 : look (codL 110) 8 = some (.iload_n 2, 1, 0, 0, 0) := by decide +kernel
theorem k110_9 : look (codL 110) 9 = some (.invokevirtual 124, 3, 16, 2, 0) := by decide +kernel
theorem k110_12 : look (codL 110) 12 = some (.aload_n 0, 1, 0, 0, 0) := by decide +kernel
theorem k110_13 : look (codL 110) 13 = some (.getfield 10, 3, 9, 0, 0) := by decide +kernel
theorem k110_16 : look (codL 110) 16 = some (.getfield 134, 3, 3, 1, 0) := by decide +kernel
theorem k110_19 : look (codL 110) 19 = some (.iload_n 2, 1, 0, 0, 0) := by decide +kernel
theorem k110_20 : look (codL 110) 20 = some (.aaload, 1, 0, 0, 0) := by decide +kernel
theorem k110_21 : look (codL 110) 21 = some (.invokevirtual 205, 3, 24, 3, 0) := by decide +kernel
theorem k110_24 : look (codL 110) 24 = some (.aload_n 1, 1, 0, 0, 0) := by decide +kernel
theorem k110_25 : look (codL 110) 25 = some (.aload_n 0, 1, 0, 0, 0) := by decide +kernel
theorem k110_26 : look (codL 110) 26 = some (.getfield 38, 3, 9, 4, 0) := by decide +kernel
theorem k110_29 : look (codL 110) 29 = some (.aload_n 0, 1, 0, 0, 0) := by decide +kernel
theorem k110_30 : look (codL 110) 30 = some (.getfield 146, 3, 9, 10, 0) := by decide +kernel
theorem k110_33 : look (codL 110) 33 = some (.invokevirtual 308, 3, 64, 3, 0) := by decide +kernel
theorem k110_36 : look (codL 110) 36 = some (.return_, 1, 0, 0, 0) := by decide +kernel
theorem k111_0 : look (codL 111) 0 = some (.aload_n 0, 1, 0, 0, 0) := by decide +kernel
theorem k111_1 : look (codL 111) 1 = some (.iload_n 1, 1, 0, 0, 0) := by decide +kernel
theorem k111_2 : look (codL 111) 2 = some (.iload_n 2, 1, 0, 0, 0) := by decide +kernel
theorem k111_3 : look (codL 111) 3 = some (.iconst 5, 1, 0, 0, 0) := by decide +kernel
theorem k111_4 : look (codL 111) 4 = some (.invokestatic 113, 3, 13, 2, 0) := by decide +kernel
theorem k111_7 : look (codL 111) 7 = some (.invokevirtual 178, 3, 109, 3, 0) := by decide +kernel
theorem k111_10 : look (codL 111) 10 = some (.istore_n 3, 1, 0, 0, 0) := by decide +kernel
theorem k111_11 : look (codL 111) 11 = some (.iload_n 3, 1, 0, 0, 0) := by decide +kernel
theorem k111_12 : look (codL 111) 12 = some (.ifCond .eq 9, 3, 0, 0, 0) := by decide +kernel
theorem k111_15 : look (codL 111) 15 = some (.aload_n 0, 1, 0, 0, 0) := by decide +kernel
theorem k111_16 : look (codL 111) 16 = some (.iload_n 3, 1, 0, 0, 0) := by decide +kernel
theorem k111_17 : look (codL 111) 17 = some (.invokevirtual 80, 3, 94, 2, 0) := by decide +kernel
theorem k111_20 : look (codL 111) 20 = some (.ireturn, 1, 0, 0, 0) := by decide +kernel
theorem k111_21 : look (codL 111) 21 = some (.aload_n 0, 1, 0, 0, 0) := by decide +kernel
theorem k111_22 : look (codL 111) 22 = some (.aload_n 0, 1, 0, 0, 0) := by decide +kernel
theorem k111_23 : look (codL 111) 23 = some (.getfield 45, 3, 9, 5, 0) := by decide +kernel
theorem k111_26 : look (codL 111) 26 = some (.iload_n 1, 1, 0, 0, 0) := by decide +kernel
theorem k111_27 : look (codL 111) 27 = some (.invokevirtual 182, 3, 110, 3, 0) := by decide +kernel
theorem k111_30 : look (codL 111) 30 = some (.iload_n 2, 1, 0, 0, 0) := by decide +kernel
theorem k111_31 : look (codL 111) 31 = some (.tableswitch 64 0 3 #[29, 37, 46, 55], 29, 0, 0, 0) := by decide +kernel
theorem k111_60 : look (codL 111) 60 = some (.aload_n 0, 1, 0, 0, 0) := by decide +kernel
theorem k111_61 : look (codL 111) 61 = some (.getfield 45, 3, 9, 5, 0) := by decide +kernel
theorem k111_64 : look (codL 111) 64 = some (.getfield 186, 3, 6, 3, 0) := by decide +kernel
theorem k111_67 : look (codL 111) 67 = some (.ireturn, 1, 0, 0, 0) := by decide +kernel
theorem k111_68 : look (codL 111) 68 = some (.aload_n 0, 1, 0, 0, 0) := by decide +kernel
theorem k111_69 : look (codL 111) 69 = some (.getfield 45, 3, 9, 5, 0) := by decide +kernel
theorem k111_72 : look (codL 111) 72 = some (.iconst 0, 1, 0, 0, 0) := by decide +kernel
theorem k111_73 : look (codL 111) 73 = some (.invokevirtual 187, 3, 65, 2, 0) := by decide +kernel
theorem k111_76 : look (codL 111) 76 = some (.ireturn, 1, 0, 0, 0) := by decide +kernel
theorem k111_77 : look (codL 111) 77 = some (.aload_n 0, 1, 0, 0, 0) := by decide +kernel
theorem k111_78 : look (codL 111) 78 = some (.getfield 45, 3, 9, 5, 0) := by decide +kernel
theorem k111_81 : look (codL 111) 81 = some (.iconst 1, 1, 0, 0, 0) := by decide +kernel
theorem k111_82 : look (codL 111) 82 = some (.invokevirtual 187, 3, 65, 2, 0) := by decide +kernel
theorem k111_85 : look (codL 111) 85 = some (.ireturn, 1, 0, 0, 0) := by decide +kernel
theorem k111_86 : look (codL 111) 86 = some (.aload_n 0, 1, 0, 0, 0) := by decide +kernel
theorem k111_87 : look (codL 111) 87 = some (.getfield 45, 3, 9, 5, 0) := by decide +kernel
theorem k111_90 : look (codL 111) 90 = some (.iconst 2, 1, 0, 0, 0) := by decide +kernel
theorem k111_91 : look (codL 111) 91 = some (.invokevirtual 187, 3, 65, 2, 0) := by decide +kernel
theorem k111_94 : look (codL 111) 94 = some (.ireturn, 1, 0, 0, 0) := by decide +kernel
theorem k111_95 : look (codL 111) 95 = some (.aload_n 0, 1, 0, 0, 0) := by decide +kernel
theorem k111_96 : look (codL 111) 96 = some (.getfield 45, 3, 9, 5, 0) := by decide +kernel
theorem k111_99 : look (codL 111) 99 = some (.invokevirtual 190, 3, 66, 1, 0) := by decide +kernel
theorem k111_102 : look (codL 111) 102 = some (.ireturn, 1, 0, 0, 0) := by decide +kernel
theorem k112_0 : look (codL 112) 0 = some (.aload_n 0, 1, 0, 0, 0) := by decide +kernel
theorem k112_1 : look (codL 112) 1 = some (.iload_n 1, 1, 0, 0, 0) := by decide +kernel
theorem k112_2 : look (codL 112) 2 = some (.iload_n 2, 1, 0, 0, 0) := by decide +kernel
theorem k112_3 : look (codL 112) 3 = some (.ifCond .lt 15, 3, 0, 0, 0) := by decide +kernel
theorem k112_6 : look (codL 112) 6 = some (.iload_n 3, 1, 0, 0, 0) := by decide +kernel
theorem k112_7 : look (codL 112) 7 = some (.iconst 3, 1, 0, 0, 0) := by decide +kernel
theorem k112_8 : look (codL 112) 8 = some (.invokestatic 113, 3, 13, 2, 0) := by decide +kernel
theorem k112_11 : look (codL 112) 11 = some (.ifCond .eq 7, 3, 0, 0, 0) := by decide +kernel
theorem k112_14 : look (codL 112) 14 = some (.iconst 1, 1, 0, 0, 0) := by decide +kernel
theorem k112_15 : look (codL 112) 15 = some (.goto 4, 3, 0, 0, 0) := by decide +kernel
theorem k112_18 : look (codL 112) 18 = some (.iconst 0, 1, 0, 0, 0) := by decide +kernel
theorem k112_19 : look (codL 112) 19 = some (.invokevirtual 178, 3, 109, 3, 0) := by decide +kernel
theorem k112_22 : look (codL 112) 22 = some (.istore 4, 2, 0, 0, 0) := by decide +kernel
theorem k112_24 : look (codL 112) 24 = some (.iload 4, 2, 0, 0, 0) := by decide +kernel
theorem k112_26 : look (codL 112) 26 = some (.ifCond .eq 10, 3, 0, 0, 0) := by decide +kernel
theorem k112_29 : look (codL 112) 29 = some (.aload_n 0, 1, 0, 0, 0) := by decide +kernel
theorem k112_30 : look (codL 112) 30 = some (.iload 4, 2, 0, 0, 0) := by decide +kernel
theorem k112_32 : look (codL 112) 32 = some (.invokevirtual 80, 3, 94, 2, 0) := by decide +kernel
theorem k112_35 : look (codL 112) 35 = some (.ireturn, 1, 0, 0, 0) := by decide +kernel
theorem k112_36 : look (codL 112) 36 = some (.aload_n 0, 1, 0, 0, 0) := by decide +kernel
theorem k112_37 : look (codL 112) 37 = some (.aload_n 0, 1, 0, 0, 0) := by decide +kernel
theorem k112_38 : look (codL 112) 38 = some (.getfield 45, 3, 9, 5, 0) := by decide +kernel
theorem k112_41 : look (codL 112) 41 = some (.iload_n 1, 1, 0, 0, 0) := by decide +kernel
theorem k112_42 : look (codL 112) 42 = some (.invokevirtual 182, 3, 110, 3, 0) := by decide +kernel
theorem k112_45 : look (codL 112) 45 = some (.iload_n 2, 1, 0, 0, 0) := by decide +kernel
theorem k112_46 : look (codL 112) 46 = some (.aload_n 0, 1, 0, 0, 0) := by decide +kernel
theorem k112_47 : look (codL 112) 47 = some (.getfield 45, 3, 9, 5, 0) := by decide +kernel
theorem k112_50 : look (codL 112) 50 = some (.getfield 186, 3, 6, 3, 0) := by decide +kernel
theorem k112_53 : look (codL 112) 53 = some (.if_icmp .lt 7, 3, 0, 0, 0) := by decide +kernel
theorem k112_56 : look (codL 112) 56 = some (.sipush (-201), 3, 0, 0, 0) := by decide +kernel
theorem k112_59 : look (codL 112) 59 = some (.ireturn, 1, 0, 0, 0) := by decide +kernel
theorem k112_60 : look (codL 112) 60 = some (.iload_n 3, 1, 0, 0, 0) := by decide +kernel
theorem k112_61 : look (codL 112) 61 = some (.lookupswitch 47 #[(0, 27), (1, 37)], 27, 0, 0, 0) := by decide +kernel
theorem k112_88 : look (codL 112) 88 = some (.aload_n 0, 1, 0, 0, 0) := by decide +kernel
theorem k112_89 : look (codL 112) 89 = some (.getfield 45, 3, 9, 5, 0) := by decide +kernel
theorem k112_92 : look (codL 112) 92 = some (.getfield 193, 3, 6, 0, 0) := by decide +kernel
theorem k112_95 : look (codL 112) 95 = some (.iload_n 2, 1, 0, 0, 0) := by decide +kernel
theorem k112_96 : look (codL 112) 96 = some (.iaload, 1, 0, 0, 0) := by decide +kernel
theorem k112_97 : look (codL 112) 97 = some (.ireturn, 1, 0, 0, 0) := by decide +kernel
theorem k112_98 : look (codL 112) 98 = some (.aload_n 0, 1, 0, 0, 0) := by decide +kernel
theorem k112_99 : look (codL 112) 99 = some (.getfield 45, 3, 9, 5, 0) := by decide +kernel
theorem k112_102 : look (codL 112) 102 = some (.getfield 196, 3, 6, 1, 0) := by decide +kernel
theorem k112_105 : look (codL 112) 105 = some (.iload_n 2, 1, 0, 0, 0) := by decide +kernel
theorem k112_106 : look (codL 112) 106 = some (.iaload, 1, 0, 0, 0) := by decide +kernel
theorem k112_107 : look (codL 112) 107 = some (.ireturn, 1, 0, 0, 0) := by decide +kernel
theorem k112_108 : look (codL 112) 108 = some (.aload_n 0, 1, 0, 0, 0) := by decide +kernel
theorem k112_109 : look (codL 112) 109 = some (.getfield 45, 3, 9, 5, 0) := by decide +kernel
theorem k112_112 : look (codL 112) 112 = some (.getfield 199, 3, 6, 2, 0) := by decide +kernel
theorem k112_115 : look (codL 112) 115 = some (.iload_n 2, 1, 0, 0, 0) := by decide +kernel
theorem k112_116 : look (codL 112) 116 = some (.iaload, 1, 0, 0, 0) := by decide +kernel
theorem k112_117 : look (codL 112) 117 = some (.ireturn, 1, 0, 0, 0) := by decide +kernel
theorem k113_0 : look (codL 113) 0 = some (.aload_n 0, 1, 0, 0, 0) := by decide +kernel
theorem k113_1 : look (codL 113) 1 = some (.iload_n 1, 1, 0, 0, 0) := by decide +kernel
theorem k113_2 : look (codL 113) 2 = some (.iconst 1, 1, 0, 0, 0) := by decide +kernel
theorem k113_3 : look (codL 113) 3 = some (.invokevirtual 178, 3, 109, 3, 0) := by decide +kernel
theorem k113_6 : look (codL 113) 6 = some (.istore_n 2, 1, 0, 0, 0) := by decide +kernel
theorem k113_7 : look (codL 113) 7 = some (.iload_n 2, 1, 0, 0, 0) := by decide +kernel
theorem k113_8 : look (codL 113) 8 = some (.ifCond .eq 9, 3, 0, 0, 0) := by decide +kernel
theorem k113_11 : look (codL 113) 11 = some (.aload_n 0, 1, 0, 0, 0) := by decide +kernel
theorem k113_12 : look (codL 113) 12 = some (.iload_n 2, 1, 0, 0, 0) := by decide +kernel
theorem k113_13 : look (codL 113) 13 = some (.invokevirtual 80, 3, 94, 2, 0) := by decide +kernel
theorem k113_16 : look (codL 113) 16 = some (.ireturn, 1, 0, 0, 0) := by decide +kernel
theorem k113_17 : look (codL 113) 17 = some (.aload_n 0, 1, 0, 0, 0) := by decide +kernel
theorem k113_18 : look (codL 113) 18 = some (.aload_n 0, 1, 0, 0, 0) := by decide +kernel
theorem k113_19 : look (codL 113) 19 = some (.getfield 45, 3, 9, 5, 0) := by decide +kernel
theorem k113_22 : look (codL 113) 22 = some (.iload_n 1, 1, 0, 0, 0) := by decide +kernel
theorem k113_23 : look (codL 113) 23 = some (.invokevirtual 182, 3, 110, 3, 0) := by decide +kernel
theorem k113_26 : look (codL 113) 26 = some (.aload_n 0, 1, 0, 0, 0) := by decide +kernel
theorem k113_27 : look (codL 113) 27 = some (.getfield 45, 3, 9, 5, 0) := by decide +kernel
theorem k113_30 : look (codL 113) 30 = some (.invokevirtual 202, 3, 67, 1, 0) := by decide +kernel
theorem k113_33 : look (codL 113) 33 = some (.ireturn, 1, 0, 0, 0) := by decide +kernel
theorem k114_0 : look (codL 114) 0 = some (.aload_n 0, 1, 0, 0, 0) := by decide +kernel
theorem k114_1 : look (codL 114) 1 = some (.iload_n 1, 1, 0, 0, 0) := by decide +kernel
theorem k114_2 : look (codL 114) 2 = some (.iload_n 2, 1, 0, 0, 0) := by decide +kernel
theorem k114_3 : look (codL 114) 3 = some (.iconst 3, 1, 0, 0, 0) := by decide +kernel
theorem k114_4 : look (codL 114) 4 = some (.invokestatic 113, 3, 13, 2, 0) := by decide +kernel
theorem k114_7 : look (codL 114) 7 = some (.invokevirtual 178, 3, 109, 3, 0) := by decide +kernel
theorem k114_10 : look (codL 114) 10 = some (.istore_n 3, 1, 0, 0, 0) := by decide +kernel
theorem k114_11 : look (codL 114) 11 = some (.iload_n 3, 1, 0, 0, 0) := by decide +kernel
theorem k114_12 : look (codL 114) 12 = some (.ifCond .eq 9, 3, 0, 0, 0) := by decide +kernel
theorem k114_15 : look (codL 114) 15 = some (.aload_n 0, 1, 0, 0, 0) := by decide +kernel
theorem k114_16 : look (codL 114) 16 = some (.iload_n 3, 1, 0, 0, 0) := by decide +kernel
theorem k114_17 : look (codL 114) 17 = some (.invokevirtual 80, 3, 94, 2, 0) := by decide +kernel
theorem k114_20 : look (codL 114) 20 = some (.ireturn, 1, 0, 0, 0) := by decide +kernel
theorem k114_21 : look (codL 114) 21 = some (.aload_n 0, 1, 0, 0, 0) := by decide +kernel
theorem k114_22 : look (codL 114) 22 = some (.getfield 38, 3, 9, 4, 0) := by decide +kernel
theorem k114_25 : look (codL 114) 25 = some (.aload_n 0, 1, 0, 0, 0) := by decide +kernel
theorem k114_26 : look (codL 114) 26 = some (.getfield 10, 3, 9, 0, 0) := by decide +kernel
theorem k114_29 : look (codL 114) 29 = some (.iload_n 1, 1, 0, 0, 0) := by decide +kernel
theorem k114_30 : look (codL 114) 30 = some (.invokevirtual 124, 3, 16, 2, 0) := by decide +kernel
theorem k114_33 : look (codL 114) 33 = some (.aload_n 0, 1, 0, 0, 0) := by decide +kernel
theorem k114_34 : look (codL 114) 34 = some (.getfield 10, 3, 9, 0, 0) := by decide +kernel
theorem k114_37 : look (codL 114) 37 = some (.getfield 134, 3, 3, 1, 0) := by decide +kernel
theorem k114_40 : look (codL 114) 40 = some (.iload_n 1, 1, 0, 0, 0) := by decide +kernel
theorem k114_41 : look (codL 114) 41 = some (.aaload, 1, 0, 0, 0) := by decide +kernel
theorem k114_42 : look (codL 114) 42 = some (.invokevirtual 205, 3, 24, 3, 0) := by decide +kernel
theorem k114_45 : look (codL 114) 45 = some (.iload_n 2, 1, 0, 0, 0) := by decide +kernel
theorem k114_46 : look (codL 114) 46 = some (.lookupswitch 42 #[(0, 26), (1, 34)], 26, 0, 0, 0) := by decide +kernel
theorem k114_72 : look (codL 114) 72 = some (.aload_n 0, 1, 0, 0, 0) := by decide +kernel
theorem k114_73 : look (codL 114) 73 = some (.getfield 38, 3, 9, 4, 0) := by decide +kernel
theorem k114_76 : look (codL 114) 76 = some (.invokevirtual 209, 3, 35, 1, 0) := by decide +kernel
theorem k114_79 : look (codL 114) 79 = some (.ireturn, 1, 0, 0, 0) := by decide +kernel
theorem k114_80 : look (codL 114) 80 = some (.aload_n 0, 1, 0, 0, 0) := by decide +kernel
theorem k114_81 : look (codL 114) 81 = some (.getfield 38, 3, 9, 4, 0) := by decide +kernel
theorem k114_84 : look (codL 114) 84 = some (.invokevirtual 212, 3, 36, 1, 0) := by decide +kernel
theorem k114_87 : look (codL 114) 87 = some (.ireturn, 1, 0, 0, 0) := by decide +kernel
theorem k114_88 : look (codL 114) 88 = some (.aload_n 0, 1, 0, 0, 0) := by decide +kernel
theorem k114_89 : look (codL 114) 89 = some (.getfield 38, 3, 9, 4, 0) := by decide +kernel
theorem k114_92 : look (codL 114) 92 = some (.invokevirtual 215, 3, 37, 1, 0) := by decide +kernel
theorem k114_95 : look (codL 114) 95 = some (.ireturn, 1, 0, 0, 0) := by decide +kernel
theorem k115_0 : look (codL 115) 0 = some (.aload_n 0, 1, 0, 0, 0) := by decide +kernel
theorem k115_1 : look (codL 115) 1 = some (.getfield 38, 3, 9, 4, 0) := by decide +kernel
theorem k115_4 : look (codL 115) 4 = some (.aload_n 0, 1, 0, 0, 0) := by decide +kernel
theorem k115_5 : look (codL 115) 5 = some (.getfield 10, 3, 9, 0, 0) := by decide +kernel
theorem k115_8 : look (codL 115) 8 = some (.iload_n 1, 1, 0, 0, 0) := by decide +kernel
theorem k115_9 : look (codL 115) 9 = some (.invokevirtual 124, 3, 16, 2, 0) := by decide +kernel
theorem k115_12 : look (codL 115) 12 = some (.aload_n 0, 1, 0, 0, 0) := by decide +kernel
theorem k115_13 : look (codL 115) 13 = some (.getfield 10, 3, 9, 0, 0) := by decide +kernel
theorem k115_16 : look (codL 115) 16 = some (.getfield 134, 3, 3, 1, 0) := by decide +kernel
theorem k115_19 : look (codL 115) 19 = some (.iload_n 1, 1, 0, 0, 0) := by decide +kernel
theorem k115_20 : look (codL 115) 20 = some (.aaload, 1, 0, 0, 0) := by decide +kernel
theorem k115_21 : look (codL 115) 21 = some (.invokevirtual 205, 3, 24, 3, 0) := by decide +kernel
theorem k115_24 : look (codL 115) 24 = some (.aload_n 0, 1, 0, 0, 0) := by decide +kernel
theorem k115_25 : look (codL 115) 25 = some (.getfield 45, 3, 9, 5, 0) := by decide +kernel
theorem k115_28 : look (codL 115) 28 = some (.aload_n 0, 1, 0, 0, 0) := by decide +kernel
theorem k115_29 : look (codL 115) 29 = some (.getfield 38, 3, 9, 4, 0) := by decide +kernel
theorem k115_32 : look (codL 115) 32 = some (.iload_n 2, 1, 0, 0, 0) := by decide +kernel
theorem k115_33 : look (codL 115) 33 = some (.invokevirtual 308, 3, 64, 3, 0) := by decide +kernel
theorem k115_36 : look (codL 115) 36 = some (.aload_n 0, 1, 0, 0, 0) := by decide +kernel
theorem k115_37 : look (codL 115) 37 = some (.getfield 45, 3, 9, 5, 0) := by decide +kernel
theorem k115_40 : look (codL 115) 40 = some (.invokevirtual 202, 3, 67, 1, 0) := by decide +kernel
theorem k115_43 : look (codL 115) 43 = some (.ireturn, 1, 0, 0, 0) := by decide +kernel
theorem k116_0 : look (codL 116) 0 = some (.aload_n 0, 1, 0, 0, 0) := by decide +kernel
theorem k116_1 : look (codL 116) 1 = some (.iload_n 1, 1, 0, 0, 0) := by decide +kernel
theorem k116_2 : look (codL 116) 2 = some (.iload_n 2, 1, 0, 0, 0) := by decide +kernel
theorem k116_3 : look (codL 116) 3 = some (.iconst 2, 1, 0, 0, 0) := by decide +kernel
theorem k116_4 : look (codL 116) 4 = some (.invokestatic 113, 3, 13, 2, 0) := by decide +kernel
theorem k116_7 : look (codL 116) 7 = some (.invokevirtual 178, 3, 109, 3, 0) := by decide +kernel
theorem k116_10 : look (codL 116) 10 = some (.istore_n 3, 1, 0, 0, 0) := by decide +kernel
theorem k116_11 : look (codL 116) 11 = some (.iload_n 3, 1, 0, 0, 0) := by decide +kernel
theorem k116_12 : look (codL 116) 12 = some (.ifCond .eq 9, 3, 0, 0, 0) := by decide +kernel
theorem k116_15 : look (codL 116) 15 = some (.aload_n 0, 1, 0, 0, 0) := by decide +kernel
theorem k116_16 : look (codL 116) 16 = some (.iload_n 3, 1, 0, 0, 0) := by decide +kernel
theorem k116_17 : look (codL 116) 17 = some (.invokevirtual 80, 3, 94, 2, 0) := by decide +kernel
theorem k116_20 : look (codL 116) 20 = some (.ireturn, 1, 0, 0, 0) := by decide +kernel
theorem k116_21 : look (codL 116) 21 = some (.iconst 0, 1, 0, 0, 0) := by decide +kernel
theorem k116_22 : look (codL 116) 22 = some (.istore 4, 2, 0, 0, 0) := by decide +kernel
theorem k116_24 : look (codL 116) 24 = some (.aload_n 0, 1, 0, 0, 0) := by decide +kernel
theorem k116_25 : look (codL 116) 25 = some (.iload_n 1, 1, 0, 0, 0) := by decide +kernel
theorem k116_26 : look (codL 116) 26 = some (.iconst 0, 1, 0, 0, 0) := by decide +kernel
theorem k116_27 : look (codL 116) 27 = some (.invokevirtual 218, 3, 115, 3, 0) := by decide +kernel
theorem k116_30 : look (codL 116) 30 = some (.istore 5, 2, 0, 0, 0) := by decide +kernel
theorem k116_32 : look (codL 116) 32 = some (.iconst 1, 1, 0, 0, 0) := by decide +kernel
theorem k116_33 : look (codL 116) 33 = some (.istore 6, 2, 0, 0, 0) := by decide +kernel
theorem k116_35 : look (codL 116) 35 = some (.iload 6, 2, 0, 0, 0) := by decide +kernel
theorem k116_37 : look (codL 116) 37 = some (.iconst 5, 1, 0, 0, 0) := by decide +kernel
theorem k116_38 : look (codL 116) 38 = some (.if_icmp .ge 33, 3, 0, 0, 0) := by decide +kernel
theorem k116_41 : look (codL 116) 41 = some (.aload_n 0, 1, 0, 0, 0) := by decide +kernel
theorem k116_42 : look (codL 116) 42 = some (.iload_n 1, 1, 0, 0, 0) := by decide +kernel
theorem k116_43 : look (codL 116) 43 = some (.iload 6, 2, 0, 0, 0) := by decide +kernel
theorem k116_45 : look (codL 116) 45 = some (.invokevirtual 218, 3, 115, 3, 0) := by decide +kernel
theorem k116_48 : look (codL 116) 48 = some (.istore 7, 2, 0, 0, 0) := by decide +kernel
theorem k116_50 : look (codL 116) 50 = some (.iload 7, 2, 0, 0, 0) := by decide +kernel
theorem k116_52 : look (codL 116) 52 = some (.iload 5, 2, 0, 0, 0) := by decide +kernel
theorem k116_54 : look (codL 116) 54 = some (.if_icmp .ge 11, 3, 0, 0, 0) := by decide +kernel
theorem k116_57 : look (codL 116) 57 = some (.iload 6, 2, 0, 0, 0) := by decide +kernel
theorem k116_59 : look (codL 116) 59 = some (.istore 4, 2, 0, 0, 0) := by decide +kernel
theorem k116_61 : look (codL 116) 61 = some (.iload 7, 2, 0, 0, 0) := by decide +kernel
theorem k116_63 : look (codL 116) 63 = some (.istore 5, 2, 0, 0, 0) := by decide +kernel
theorem k116_65 : look (codL 116) 65 = some (.iinc 6 1, 3, 0, 0, 0) := by decide +kernel
theorem k116_68 : look (codL 116) 68 = some (.goto (-33), 3, 0, 0, 0) := by decide +kernel
theorem k116_71 : look (codL 116) 71 = some (.iload_n 2, 1, 0, 0, 0) := by decide +kernel
theorem k116_72 : look (codL 116) 72 = some (.ifCond .ne 8, 3, 0, 0, 0) := by decide +kernel
theorem k116_75 : look (codL 116) 75 = some (.iload 4, 2, 0, 0, 0) := by decide +kernel
theorem k116_77 : look (codL 116) 77 = some (.goto 5, 3, 0, 0, 0) := by decide +kernel
theorem k116_80 : look (codL 116) 80 = some (.iload 5, 2, 0, 0, 0) := by decide +kernel
theorem k116_82 : look (codL 116) 82 = some (.ireturn, 1, 0, 0, 0) := by decide +kernel
theorem k117_0 : look (codL 117) 0 = some (.aload_n 0, 1, 0, 0, 0) := by decide +kernel
theorem k117_1 : look (codL 117) 1 = some (.getfield 10, 3, 9, 0, 0) := by decide +kernel
theorem k117_4 : look (codL 117) 4 = some (.iload_n 1, 1, 0, 0, 0) := by decide +kernel
theorem k117_5 : look (codL 117) 5 = some (.invokevirtual 121, 3, 15, 2, 0) := by decide +kernel
theorem k117_8 : look (codL 117) 8 = some (.ifCond .eq 10, 3, 0, 0, 0) := by decide +kernel
theorem k117_11 : look (codL 117) 11 = some (.iload_n 2, 1, 0, 0, 0) := by decide +kernel
theorem k117_12 : look (codL 117) 12 = some (.invokestatic 221, 3, 76, 1, 0) := by decide +kernel
theorem k117_15 : look (codL 117) 15 = some (.ifCond .ne 11, 3, 0, 0, 0) := by decide +kernel
theorem k117_18 : look (codL 117) 18 = some (.aload_n 0, 1, 0, 0, 0) := by decide +kernel
theorem k117_19 : look (codL 117) 19 = some (.sipush (-202), 3, 0, 0, 0) := by decide +kernel
theorem k117_22 : look (codL 117) 22 = some (.invokevirtual 80, 3, 94, 2, 0) := by decide +kernel
theorem k117_25 : look (codL 117) 25 = some (.ireturn, 1, 0, 0, 0) := by decide +kernel
theorem k117_26 : look (codL 117) 26 = some (.aload_n 0, 1, 0, 0, 0) := by decide +kernel
theorem k117_27 : look (codL 117) 27 = some (.getfield 38, 3, 9, 4, 0) := by decide +kernel
theorem k117_30 : look (codL 117) 30 = some (.aload_n 0, 1, 0, 0, 0) := by decide +kernel
theorem k117_31 : look (codL 117) 31 = some (.getfield 10, 3, 9, 0, 0) := by decide +kernel
theorem k117_34 : look (codL 117) 34 = some (.iload_n 1, 1, 0, 0, 0) := by decide +kernel
theorem k117_35 : look (codL 117) 35 = some (.invokevirtual 124, 3, 16, 2, 0) := by decide +kernel
theorem k117_38 : look (codL 117) 38 = some (.aload_n 0, 1, 0, 0, 0) := by decide +kernel
theorem k117_39 : look (codL 117) 39 = some (.getfield 10, 3, 9, 0, 0) := by decide +kernel
theorem k117_42 : look (codL 117) 42 = some (.getfield 134, 3, 3, 1, 0) := by decide +kernel
theorem k117_45 : look (codL 117) 45 = some (.iload_n 1, 1, 0, 0, 0) := by decide +kernel
theorem k117_46 : look (codL 117) 46 = some (.aaload, 1, 0, 0, 0) := by decide +kernel
theorem k117_47 : look (codL 117) 47 = some (.invokevirtual 205, 3, 24, 3, 0) := by decide +kernel
theorem k117_50 : look (codL 117) 50 = some (.iconst 0, 1, 0, 0, 0) := by decide +kernel
theorem k117_51 : look (codL 117) 51 = some (.istore_n 3, 1, 0, 0, 0) := by decide +kernel
theorem k117_52 : look (codL 117) 52 = some (.iload_n 3, 1, 0, 0, 0) := by decide +kernel
theorem k117_53 : look (codL 117) 53 = some (.iload_n 2, 1, 0, 0, 0) := by decide +kernel
theorem k117_54 : look (codL 117) 54 = some (.iadd, 1, 0, 0, 0) := by decide +kernel
theorem k117_55 : look (codL 117) 55 = some (.bipush 32, 2, 0, 0, 0) := by decide +kernel
theorem k117_57 : look (codL 117) 57 = some (.if_icmp .gt 32, 3, 0, 0, 0) := by decide +kernel
theorem k117_60 : look (codL 117) 60 = some (.iload_n 3, 1, 0, 0, 0) := by decide +kernel
theorem k117_61 : look (codL 117) 61 = some (.iload_n 2, 1, 0, 0, 0) := by decide +kernel
theorem k117_62 : look (codL 117) 62 = some (.invokestatic 224, 3, 60, 2, 0) := by decide +kernel
theorem k117_65 : look (codL 117) 65 = some (.istore 4, 2, 0, 0, 0) := by decide +kernel
theorem k117_67 : look (codL 117) 67 = some (.aload_n 0, 1, 0, 0, 0) := by decide +kernel
theorem k117_68 : look (codL 117) 68 = some (.getfield 38, 3, 9, 4, 0) := by decide +kernel
theorem k117_71 : look (codL 117) 71 = some (.iload 4, 2, 0, 0, 0) := by decide +kernel
theorem k117_73 : look (codL 117) 73 = some (.invokevirtual 227, 3, 30, 2, 0) := by decide +kernel
theorem k117_76 : look (codL 117) 76 = some (.ifCond .ne 6, 3, 0, 0, 0) := by decide +kernel
theorem k117_79 : look (codL 117) 79 = some (.iload 4, 2, 0, 0, 0) := by decide +kernel
theorem k117_81 : look (codL 117) 81 = some (.ireturn, 1, 0, 0, 0) := by decide +kernel
theorem k117_82 : look (codL 117) 82 = some (.iload_n 3, 1, 0, 0, 0) := by decide +kernel
theorem k117_83 : look (codL 117) 83 = some (.iload_n 2, 1, 0, 0, 0) := by decide +kernel
theorem k117_84 : look (codL 117) 84 = some (.iadd, 1, 0, 0, 0) := by decide +kernel
theorem k117_85 : look (codL 117) 85 = some (.istore_n 3, 1, 0, 0, 0) := by decide +kernel
theorem k117_86 : look (codL 117) 86 = some (.goto (-34), 3, 0, 0, 0) := by decide +kernel
theorem k117_89 : look (codL 117) 89 = some (.sipush (-201), 3, 0, 0, 0) := by decide +kernel
theorem k117_92 : look (codL 117) 92 = some (.ireturn, 1, 0, 0, 0) := by decide +kernel
theorem k118_0 : look (codL 118) 0 = some (.iconst 0, 1, 0, 0, 0) := by decide +kernel
theorem k118_1 : look (codL 118) 1 = some (.istore_n 2, 1, 0, 0, 0) := by decide +kernel
theorem k118_2 : look (codL 118) 2 = some (.iload_n 2, 1, 0, 0, 0) := by decide +kernel
theorem k118_3 : look (codL 118) 3 = some (.aload_n 0, 1, 0, 0, 0) := by decide +kernel
theorem k118_4 : look (codL 118) 4 = some (.getfield 10, 3, 9, 0, 0) := by decide +kernel
theorem k118_7 : look (codL 118) 7 = some (.getfield 70, 3, 3, 3, 0) := by decide +kernel
theorem k118_10 : look (codL 118) 10 = some (.if_icmp .ge 35, 3, 0, 0, 0) := by decide +kernel
theorem k118_13 : look (codL 118) 13 = some (.aload_n 0, 1, 0, 0, 0) := by decide +kernel
theorem k118_14 : look (codL 118) 14 = some (.getfield 10, 3, 9, 0, 0) := by decide +kernel
theorem k118_17 : look (codL 118) 17 = some (.getfield 134, 3, 3, 1, 0) := by decide +kernel
theorem k118_20 : look (codL 118) 20 = some (.iload_n 2, 1, 0, 0, 0) := by decide +kernel
theorem k118_21 : look (codL 118) 21 = some (.aaload, 1, 0, 0, 0) := by decide +kernel
theorem k118_22 : look (codL 118) 22 = some (.getfield 152, 3, 2, 2, 0) := by decide +kernel
theorem k118_25 : look (codL 118) 25 = some (.iload_n 1, 1, 0, 0, 0) := by decide +kernel
theorem k118_26 : look (codL 118) 26 = some (.if_icmp .ne 13, 3, 0, 0, 0) := by decide +kernel
theorem k118_29 : look (codL 118) 29 = some (.aload_n 0, 1, 0, 0, 0) := by decide +kernel
theorem k118_30 : look (codL 118) 30 = some (.iload_n 2, 1, 0, 0, 0) := by decide +kernel
theorem k118_31 : look (codL 118) 31 = some (.invokevirtual 155, 3, 101, 2, 0) := by decide +kernel
theorem k118_34 : look (codL 118) 34 = some (.ifCond .ne 5, 3, 0, 0, 0) := by decide +kernel
theorem k118_37 : look (codL 118) 37 = some (.iconst 0, 1, 0, 0, 0) := by decide +kernel
theorem k118_38 : look (codL 118) 38 = some (.ireturn, 1, 0, 0, 0) := by decide +kernel
theorem k118_39 : look (codL 118) 39 = some (.iinc 2 1, 3, 0, 0, 0) := by decide +kernel
theorem k118_42 : look (codL 118) 42 = some (.goto (-40), 3, 0, 0, 0) := by decide +kernel
theorem k118_45 : look (codL 118) 45 = some (.iconst 1, 1, 0, 0, 0) := by decide +kernel
theorem k118_46 : look (codL 118) 46 = some (.ireturn, 1, 0, 0, 0) := by decide +kernel
theorem k119_0 : look (codL 119) 0 = some (.aload_n 0, 1, 0, 0, 0) := by decide +kernel
theorem k119_1 : look (codL 119) 1 = some (.getfield 10, 3, 9, 0, 0) := by decide +kernel
theorem k119_4 : look (codL 119) 4 = some (.iload_n 1, 1, 0, 0, 0) := by decide +kernel
theorem k119_5 : look (codL 119) 5 = some (.invokevirtual 88, 3, 14, 2, 0) := by decide +kernel
theorem k119_8 : look (codL 119) 8 = some (.ifCond .ne 11, 3, 0, 0, 0) := by decide +kernel
theorem k119_11 : look (codL 119) 11 = some (.aload_n 0, 1, 0, 0, 0) := by decide +kernel
theorem k119_12 : look (codL 119) 12 = some (.sipush (-202), 3, 0, 0, 0) := by decide +kernel
theorem k119_15 : look (codL 119) 15 = some (.invokevirtual 80, 3, 94, 2, 0) := by decide +kernel
theorem k119_18 : look (codL 119) 18 = some (.ireturn, 1, 0, 0, 0) := by decide +kernel
theorem k119_19 : look (codL 119) 19 = some (.aload_n 0, 1, 0, 0, 0) := by decide +kernel
theorem k119_20 : look (codL 119) 20 = some (.iload_n 1, 1, 0, 0, 0) := by decide +kernel
theorem k119_21 : look (codL 119) 21 = some (.invokevirtual 230, 3, 118, 2, 0) := by decide +kernel
theorem k119_24 : look (codL 119) 24 = some (.ifCond .ne 11, 3, 0, 0, 0) := by decide +kernel
theorem k119_27 : look (codL 119) 27 = some (.aload_n 0, 1, 0, 0, 0) := by decide +kernel
theorem k119_28 : look (codL 119) 28 = some (.sipush (-203), 3, 0, 0, 0) := by decide +kernel
theorem k119_31 : look (codL 119) 31 = some (.invokevirtual 80, 3, 94, 2, 0) := by decide +kernel
theorem k119_34 : look (codL 119) 34 = some (.ireturn, 1, 0, 0, 0) := by decide +kernel
theorem k119_35 : look (codL 119) 35 = some (.iconst 0, 1, 0, 0, 0) := by decide +kernel
theorem k119_36 : look (codL 119) 36 = some (.istore_n 2, 1, 0, 0, 0) := by decide +kernel
theorem k119_37 : look (codL 119) 37 = some (.iconst 1, 1, 0, 0, 0) := by decide +kernel
theorem k119_38 : look (codL 119) 38 = some (.istore_n 3, 1, 0, 0, 0) := by decide +kernel
theorem k119_39 : look (codL 119) 39 = some (.iconst 0, 1, 0, 0, 0) := by decide +kernel
theorem k119_40 : look (codL 119) 40 = some (.istore 4, 2, 0, 0, 0) := by decide +kernel
theorem k119_42 : look (codL 119) 42 = some (.iload 4, 2, 0, 0, 0) := by decide +kernel
theorem k119_44 : look (codL 119) 44 = some (.aload_n 0, 1, 0, 0, 0) := by decide +kernel
theorem k119_45 : look (codL 119) 45 = some (.getfield 10, 3, 9, 0, 0) := by decide +kernel
theorem k119_48 : look (codL 119) 48 = some (.getfield 70, 3, 3, 3, 0) := by decide +kernel
theorem k119_51 : look (codL 119) 51 = some (.if_icmp .ge 96, 3, 0, 0, 0) := by decide +kernel
theorem k119_54 : look (codL 119) 54 = some (.aload_n 0, 1, 0, 0, 0) := by decide +kernel
theorem k119_55 : look (codL 119) 55 = some (.getfield 10, 3, 9, 0, 0) := by decide +kernel
theorem k119_58 : look (codL 119) 58 = some (.getfield 134, 3, 3, 1, 0) := by decide +kernel
theorem k119_61 : look (codL 119) 61 = some (.iload 4, 2, 0, 0, 0) := by decide +kernel
theorem k119_63 : look (codL 119) 63 = some (.aaload, 1, 0, 0, 0) := by decide +kernel
theorem k119_64 : look (codL 119) 64 = some (.getfield 152, 3, 2, 2, 0) := by decide +kernel
theorem k119_67 : look (codL 119) 67 = some (.iload_n 1, 1, 0, 0, 0) := by decide +kernel
theorem k119_68 : look (codL 119) 68 = some (.if_icmp .ne 30, 3, 0, 0, 0) := by decide +kernel
theorem k119_71 : look (codL 119) 71 = some (.iload_n 3, 1, 0, 0, 0) := by decide +kernel
theorem k119_72 : look (codL 119) 72 = some (.ifCond .eq 26, 3, 0, 0, 0) := by decide +kernel
theorem k119_75 : look (codL 119) 75 = some (.aload_n 0, 1, 0, 0, 0) := by decide +kernel
theorem k119_76 : look (codL 119) 76 = some (.aload_n 0, 1, 0, 0, 0) := by decide +kernel
theorem k119_77 : look (codL 119) 77 = some (.getfield 45, 3, 9, 5, 0) := by decide +kernel
theorem k119_80 : look (codL 119) 80 = some (.iload 4, 2, 0, 0, 0) := by decide +kernel
theorem k119_82 : look (codL 119) 82 = some (.invokevirtual 182, 3, 110, 3, 0) := by decide +kernel
theorem k119_85 : look (codL 119) 85 = some (.aload_n 0, 1, 0, 0, 0) := by decide +kernel
theorem k119_86 : look (codL 119) 86 = some (.getfield 45, 3, 9, 5, 0) := by decide +kernel
theorem k119_89 : look (codL 119) 89 = some (.getfield 186, 3, 6, 3, 0) := by decide +kernel
theorem k119_92 : look (codL 119) 92 = some (.istore_n 2, 1, 0, 0, 0) := by decide +kernel
theorem k119_93 : look (codL 119) 93 = some (.iconst 0, 1, 0, 0, 0) := by decide +kernel
theorem k119_94 : look (codL 119) 94 = some (.istore_n 3, 1, 0, 0, 0) := by decide +kernel
theorem k119_95 : look (codL 119) 95 = some (.goto 46, 3, 0, 0, 0) := by decide +kernel
theorem k119_98 : look (codL 119) 98 = some (.aload_n 0, 1, 0, 0, 0) := by decide +kernel
theorem k119_99 : look (codL 119) 99 = some (.getfield 10, 3, 9, 0, 0) := by decide +kernel
theorem k119_102 : look (codL 119) 102 = some (.getfield 134, 3, 3, 1, 0) := by decide +kernel
theorem k119_105 : look (codL 119) 105 = some (.iload 4, 2, 0, 0, 0) := by decide +kernel
theorem k119_107 : look (codL 119) 107 = some (.aaload, 1, 0, 0, 0) := by decide +kernel
theorem k119_108 : look (codL 119) 108 = some (.getfield 152, 3, 2, 2, 0) := by decide +kernel
theorem k119_111 : look (codL 119) 111 = some (.iload_n 1, 1, 0, 0, 0) := by decide +kernel
theorem k119_112 : look (codL 119) 112 = some (.if_icmp .ne 29, 3, 0, 0, 0) := by decide +kernel
theorem k119_115 : look (codL 119) 115 = some (.aload_n 0, 1, 0, 0, 0) := by decide +kernel
theorem k119_116 : look (codL 119) 116 = some (.aload_n 0, 1, 0, 0, 0) := by decide +kernel
theorem k119_117 : look (codL 119) 117 = some (.getfield 49, 3, 9, 6, 0) := by decide +kernel
theorem k119_120 : look (codL 119) 120 = some (.iload 4, 2, 0, 0, 0) := by decide +kernel
theorem k119_122 : look (codL 119) 122 = some (.invokevirtual 182, 3, 110, 3, 0) := by decide +kernel
theorem k119_125 : look (codL 119) 125 = some (.iload_n 2, 1, 0, 0, 0) := by decide +kernel
theorem k119_126 : look (codL 119) 126 = some (.aload_n 0, 1, 0, 0, 0) := by decide +kernel
theorem k119_127 : look (codL 119) 127 = some (.getfield 45, 3, 9, 5, 0) := by decide +kernel
theorem k119_130 : look (codL 119) 130 = some (.aload_n 0, 1, 0, 0, 0) := by decide +kernel
theorem k119_131 : look (codL 119) 131 = some (.getfield 49, 3, 9, 6, 0) := by decide +kernel
theorem k119_134 : look (codL 119) 134 = some (.invokevirtual 233, 3, 69, 2, 0) := by decide +kernel
theorem k119_137 : look (codL 119) 137 = some (.invokestatic 237, 3, 1003, 0, 0) := by decide +kernel
theorem k119_140 : look (codL 119) 140 = some (.istore_n 2, 1, 0, 0, 0) := by decide +kernel
theorem k119_141 : look (codL 119) 141 = some (.iinc 4 1, 3, 0, 0, 0) := by decide +kernel
theorem k119_144 : look (codL 119) 144 = some (.goto (-102), 3, 0, 0, 0) := by decide +kernel
theorem k119_147 : look (codL 119) 147 = some (.iload_n 2, 1, 0, 0, 0) := by decide +kernel
theorem k119_148 : look (codL 119) 148 = some (.ireturn, 1, 0, 0, 0) := by decide +kernel
theorem k120_0 : look (codL 120) 0 = some (.aload_n 0, 1, 0, 0, 0) := by decide +kernel
theorem k120_1 : look (codL 120) 1 = some (.iload_n 1, 1, 0, 0, 0) := by decide +kernel
theorem k120_2 : look (codL 120) 2 = some (.iload_n 2, 1, 0, 0, 0) := by decide +kernel
theorem k120_3 : look (codL 120) 3 = some (.ldc 242, 2, 0, 0, 1000000) := by decide +kernel
theorem k120_5 : look (codL 120) 5 = some (.invokestatic 113, 3, 13, 2, 0) := by decide +kernel
theorem k120_8 : look (codL 120) 8 = some (.ifCond .eq 15, 3, 0, 0, 0) := by decide +kernel
theorem k120_11 : look (codL 120) 11 = some (.iload_n 3, 1, 0, 0, 0) := by decide +kernel
theorem k120_12 : look (codL 120) 12 = some (.iconst 2, 1, 0, 0, 0) := by decide +kernel
theorem k120_13 : look (codL 120) 13 = some (.invokestatic 113, 3, 13, 2, 0) := by decide +kernel
theorem k120_16 : look (codL 120) 16 = some (.ifCond .eq 7, 3, 0, 0, 0) := by decide +kernel
theorem k120_19 : look (codL 120) 19 = some (.iconst 1, 1, 0, 0, 0) := by decide +kernel
theorem k120_20 : look (codL 120) 20 = some (.goto 4, 3, 0, 0, 0) := by decide +kernel
theorem k120_23 : look (codL 120) 23 = some (.iconst 0, 1, 0, 0, 0) := by decide +kernel
theorem k120_24 : look (codL 120) 24 = some (.invokevirtual 178, 3, 109, 3, 0) := by decide +kernel
theorem k120_27 : look (codL 120) 27 = some (.istore 4, 2, 0, 0, 0) := by decide +kernel
theorem k120_29 : look (codL 120) 29 = some (.iload 4, 2, 0, 0, 0) := by decide +kernel
theorem k120_31 : look (codL 120) 31 = some (.ifCond .eq 11, 3, 0, 0, 0) := by decide +kernel
theorem k120_34 : look (codL 120) 34 = some (.aload_n 0, 1, 0, 0, 0) := by decide +kernel
theorem k120_35 : look (codL 120) 35 = some (.iload 4, 2, 0, 0, 0) := by decide +kernel
theorem k120_37 : look (codL 120) 37 = some (.invokevirtual 80, 3, 94, 2, 0) := by decide +kernel
theorem k120_40 : look (codL 120) 40 = some (.i2l, 1, 0, 0, 0) := by decide +kernel
theorem k120_41 : look (codL 120) 41 = some (.lreturn, 1, 0, 0, 0) := by decide +kernel
theorem k120_42 : look (codL 120) 42 = some (.aload_n 0, 1, 0, 0, 0) := by decide +kernel
theorem k120_43 : look (codL 120) 43 = some (.getfield 55, 3, 9, 7, 0) := by decide +kernel
theorem k120_46 : look (codL 120) 46 = some (.aload_n 0, 1, 0, 0, 0) := by decide +kernel
theorem k120_47 : look (codL 120) 47 = some (.getfield 62, 3, 9, 8, 0) := by decide +kernel
theorem k120_50 : look (codL 120) 50 = some (.iload_n 2, 1, 0, 0, 0) := by decide +kernel
theorem k120_51 : look (codL 120) 51 = some (.invokevirtual 243, 3, 39, 3, 0) := by decide +kernel
theorem k120_54 : look (codL 120) 54 = some (.iload_n 3, 1, 0, 0, 0) := by decide +kernel
theorem k120_55 : look (codL 120) 55 = some (.ifCond .ne 30, 3, 0, 0, 0) := by decide +kernel
theorem k120_58 : look (codL 120) 58 = some (.aload_n 0, 1, 0, 0, 0) := by decide +kernel
theorem k120_59 : look (codL 120) 59 = some (.getfield 55, 3, 9, 7, 0) := by decide +kernel
theorem k120_62 : look (codL 120) 62 = some (.aload_n 0, 1, 0, 0, 0) := by decide +kernel
theorem k120_63 : look (codL 120) 63 = some (.getfield 10, 3, 9, 0, 0) := by decide +kernel
theorem k120_66 : look (codL 120) 66 = some (.iload_n 1, 1, 0, 0, 0) := by decide +kernel
theorem k120_67 : look (codL 120) 67 = some (.invokevirtual 124, 3, 16, 2, 0) := by decide +kernel
theorem k120_70 : look (codL 120) 70 = some (.aload_n 0, 1, 0, 0, 0) := by decide +kernel
theorem k120_71 : look (codL 120) 71 = some (.getfield 10, 3, 9, 0, 0) := by decide +kernel
theorem k120_74 : look (codL 120) 74 = some (.getfield 134, 3, 3, 1, 0) := by decide +kernel
theorem k120_77 : look (codL 120) 77 = some (.iload_n 1, 1, 0, 0, 0) := by decide +kernel
theorem k120_78 : look (codL 120) 78 = some (.aaload, 1, 0, 0, 0) := by decide +kernel
theorem k120_79 : look (codL 120) 79 = some (.invokevirtual 247, 3, 43, 3, 0) := by decide +kernel
theorem k120_82 : look (codL 120) 82 = some (.goto 23, 3, 0, 0, 0) := by decide +kernel
theorem k120_85 : look (codL 120) 85 = some (.aload_n 0, 1, 0, 0, 0) := by decide +kernel
theorem k120_86 : look (codL 120) 86 = some (.aload_n 0, 1, 0, 0, 0) := by decide +kernel
theorem k120_87 : look (codL 120) 87 = some (.getfield 45, 3, 9, 5, 0) := by decide +kernel
theorem k120_90 : look (codL 120) 90 = some (.iload_n 1, 1, 0, 0, 0) := by decide +kernel
theorem k120_91 : look (codL 120) 91 = some (.invokevirtual 182, 3, 110, 3, 0) := by decide +kernel
theorem k120_94 : look (codL 120) 94 = some (.aload_n 0, 1, 0, 0, 0) := by decide +kernel
theorem k120_95 : look (codL 120) 95 = some (.getfield 55, 3, 9, 7, 0) := by decide +kernel
theorem k120_98 : look (codL 120) 98 = some (.aload_n 0, 1, 0, 0, 0) := by decide +kernel
theorem k120_99 : look (codL 120) 99 = some (.getfield 45, 3, 9, 5, 0) := by decide +kernel
theorem k120_102 : look (codL 120) 102 = some (.invokevirtual 250, 3, 44, 2, 0) := by decide +kernel
theorem k120_105 : look (codL 120) 105 = some (.aload_n 0, 1, 0, 0, 0) := by decide +kernel
theorem k120_106 : look (codL 120) 106 = some (.getfield 55, 3, 9, 7, 0) := by decide +kernel
theorem k120_109 : look (codL 120) 109 = some (.invokevirtual 254, 3, 45, 1, 0) := by decide +kernel
theorem k120_112 : look (codL 120) 112 = some (.lreturn, 1, 0, 0, 0) := by decide +kernel
theorem k121_0 : look (codL 121) 0 = some (.aload_n 0, 1, 0, 0, 0) := by decide +kernel
theorem k121_1 : look (codL 121) 1 = some (.iload_n 1, 1, 0, 0, 0) := by decide +kernel
theorem k121_2 : look (codL 121) 2 = some (.invokevirtual 155, 3, 101, 2, 0) := by decide +kernel
theorem k121_5 : look (codL 121) 5 = some (.ifCond .ne 14, 3, 0, 0, 0) := by decide +kernel
theorem k121_8 : look (codL 121) 8 = some (.iload_n 2, 1, 0, 0, 0) := by decide +kernel
theorem k121_9 : look (codL 121) 9 = some (.iconst 2, 1, 0, 0, 0) := by decide +kernel
theorem k121_10 : look (codL 121) 10 = some (.if_icmp .ne 7, 3, 0, 0, 0) := by decide +kernel
theorem k121_13 : look (codL 121) 13 = some (.iconst 1, 1, 0, 0, 0) := by decide +kernel
theorem k121_14 : look (codL 121) 14 = some (.goto 4, 3, 0, 0, 0) := by decide +kernel
theorem k121_17 : look (codL 121) 17 = some (.iconst 0, 1, 0, 0, 0) := by decide +kernel
theorem k121_18 : look (codL 121) 18 = some (.ireturn, 1, 0, 0, 0) := by decide +kernel
theorem k121_19 : look (codL 121) 19 = some (.aload_n 0, 1, 0, 0, 0) := by decide +kernel
theorem k121_20 : look (codL 121) 20 = some (.aload_n 0, 1, 0, 0, 0) := by decide +kernel
theorem k121_21 : look (codL 121) 21 = some (.getfield 45, 3, 9, 5, 0) := by decide +kernel
theorem k121_24 : look (codL 121) 24 = some (.iload_n 1, 1, 0, 0, 0) := by decide +kernel
theorem k121_25 : look (codL 121) 25 = some (.invokevirtual 182, 3, 110, 3, 0) := by decide +kernel
theorem k121_28 : look (codL 121) 28 = some (.iload_n 2, 1, 0, 0, 0) := by decide +kernel
theorem k121_29 : look (codL 121) 29 = some (.tableswitch 78 0 2 #[27, 48, 76], 27, 0, 0, 0) := by decide +kernel
theorem k121_56 : look (codL 121) 56 = some (.aload_n 0, 1, 0, 0, 0) := by decide +kernel
theorem k121_57 : look (codL 121) 57 = some (.getfield 10, 3, 9, 0, 0) := by decide +kernel
theorem k121_60 : look (codL 121) 60 = some (.getfield 134, 3, 3, 1, 0) := by decide +kernel
theorem k121_63 : look (codL 121) 63 = some (.iload_n 1, 1, 0, 0, 0) := by decide +kernel
theorem k121_64 : look (codL 121) 64 = some (.aaload, 1, 0, 0, 0) := by decide +kernel
theorem k121_65 : look (codL 121) 65 = some (.getfield 143, 3, 2, 3, 0) := by decide +kernel
theorem k121_68 : look (codL 121) 68 = some (.aload_n 0, 1, 0, 0, 0) := by decide +kernel
theorem k121_69 : look (codL 121) 69 = some (.getfield 45, 3, 9, 5, 0) := by decide +kernel
theorem k121_72 : look (codL 121) 72 = some (.invokevirtual 202, 3, 67, 1, 0) := by decide +kernel
theorem k121_75 : look (codL 121) 75 = some (.imul, 1, 0, 0, 0) := by decide +kernel
theorem k121_76 : look (codL 121) 76 = some (.ireturn, 1, 0, 0, 0) := by decide +kernel
theorem k121_77 : look (codL 121) 77 = some (.aload_n 0, 1, 0, 0, 0) := by decide +kernel
theorem k121_78 : look (codL 121) 78 = some (.getfield 10, 3, 9, 0, 0) := by decide +kernel
theorem k121_81 : look (codL 121) 81 = some (.iload_n 1, 1, 0, 0, 0) := by decide +kernel
theorem k121_82 : look (codL 121) 82 = some (.invokevirtual 158, 3, 22, 2, 0) := by decide +kernel
theorem k121_85 : look (codL 121) 85 = some (.iconst 2, 1, 0, 0, 0) := by decide +kernel
theorem k121_86 : look (codL 121) 86 = some (.if_icmp .ne 17, 3, 0, 0, 0) := by decide +kernel
theorem k121_89 : look (codL 121) 89 = some (.aload_n 0, 1, 0, 0, 0) := by decide +kernel
theorem k121_90 : look (codL 121) 90 = some (.getfield 45, 3, 9, 5, 0) := by decide +kernel
theorem k121_93 : look (codL 121) 93 = some (.getfield 186, 3, 6, 3, 0) := by decide +kernel
theorem k121_96 : look (codL 121) 96 = some (.ifCond .le 7, 3, 0, 0, 0) := by decide +kernel
theorem k121_99 : look (codL 121) 99 = some (.iconst 1, 1, 0, 0, 0) := by decide +kernel
theorem k121_100 : look (codL 121) 100 = some (.goto 4, 3, 0, 0, 0) := by decide +kernel
theorem k121_103 : look (codL 121) 103 = some (.iconst 0, 1, 0, 0, 0) := by decide +kernel
theorem k121_104 : look (codL 121) 104 = some (.ireturn, 1, 0, 0, 0) := by decide +kernel
theorem k121_105 : look (codL 121) 105 = some (.iconst 0, 1, 0, 0, 0) := by decide +kernel
theorem k121_106 : look (codL 121) 106 = some (.ireturn, 1, 0, 0, 0) := by decide +kernel
theorem k121_107 : look (codL 121) 107 = some (.aload_n 0, 1, 0, 0, 0) := by decide +kernel
theorem k121_108 : look (codL 121) 108 = some (.getfield 45, 3, 9, 5, 0) := by decide +kernel
theorem k121_111 : look (codL 121) 111 = some (.getfield 186, 3, 6, 3, 0) := by decide +kernel
theorem k121_114 : look (codL 121) 114 = some (.ireturn, 1, 0, 0, 0) := by decide +kernel
theorem k122_0 : look (codL 122) 0 = some (.iload_n 1, 1, 0, 0, 0) := by decide +kernel
theorem k122_1 : look (codL 122) 1 = some (.iconst 4, 1, 0, 0, 0) := by decide +kernel
theorem k122_2 : look (codL 122) 2 = some (.invokestatic 113, 3, 13, 2, 0) := by decide +kernel
theorem k122_5 : look (codL 122) 5 = some (.ifCond .ne 11, 3, 0, 0, 0) := by decide +kernel
theorem k122_8 : look (codL 122) 8 = some (.aload_n 0, 1, 0, 0, 0) := by decide +kernel
theorem k122_9 : look (codL 122) 9 = some (.sipush (-202), 3, 0, 0, 0) := by decide +kernel
theorem k122_12 : look (codL 122) 12 = some (.invokevirtual 80, 3, 94, 2, 0) := by decide +kernel
theorem k122_15 : look (codL 122) 15 = some (.ireturn, 1, 0, 0, 0) := by decide +kernel
theorem k122_16 : look (codL 122) 16 = some (.iconst 0, 1, 0, 0, 0) := by decide +kernel
theorem k122_17 : look (codL 122) 17 = some (.istore_n 2, 1, 0, 0, 0) := by decide +kernel
theorem k122_18 : look (codL 122) 18 = some (.iconst 0, 1, 0, 0, 0) := by decide +kernel
theorem k122_19 : look (codL 122) 19 = some (.istore_n 3, 1, 0, 0, 0) := by decide +kernel
theorem k122_20 : look (codL 122) 20 = some (.iload_n 3, 1, 0, 0, 0) := by decide +kernel
theorem k122_21 : look (codL 122) 21 = some (.aload_n 0, 1, 0, 0, 0) := by decide +kernel
theorem k122_22 : look (codL 122) 22 = some (.getfield 10, 3, 9, 0, 0) := by decide +kernel
theorem k122_25 : look (codL 122) 25 = some (.getfield 70, 3, 3, 3, 0) := by decide +kernel
theorem k122_28 : look (codL 122) 28 = some (.if_icmp .ge 18, 3, 0, 0, 0) := by decide +kernel
theorem k122_31 : look (codL 122) 31 = some (.iload_n 2, 1, 0, 0, 0) := by decide +kernel
theorem k122_32 : look (codL 122) 32 = some (.aload_n 0, 1, 0, 0, 0) := by decide +kernel
theorem k122_33 : look (codL 122) 33 = some (.iload_n 3, 1, 0, 0, 0) := by decide +kernel
theorem k122_34 : look (codL 122) 34 = some (.iload_n 1, 1, 0, 0, 0) := by decide +kernel
theorem k122_35 : look (codL 122) 35 = some (.invokevirtual 258, 3, 121, 3, 0) := by decide +kernel
theorem k122_38 : look (codL 122) 38 = some (.iadd, 1, 0, 0, 0) := by decide +kernel
theorem k122_39 : look (codL 122) 39 = some (.istore_n 2, 1, 0, 0, 0) := by decide +kernel
theorem k122_40 : look (codL 122) 40 = some (.iinc 3 1, 3, 0, 0, 0) := by decide +kernel
theorem k122_43 : look (codL 122) 43 = some (.goto (-23), 3, 0, 0, 0) := by decide +kernel
theorem k122_46 : look (codL 122) 46 = some (.iload_n 2, 1, 0, 0, 0) := by decide +kernel
theorem k122_47 : look (codL 122) 47 = some (.ireturn, 1, 0, 0, 0) := by decide +kernel
theorem k123_0 : look (codL 123) 0 = some (.aload_n 0, 1, 0, 0, 0) := by decide +kernel
theorem k123_1 : look (codL 123) 1 = some (.getfield 10, 3, 9, 0, 0) := by decide +kernel
theorem k123_4 : look (codL 123) 4 = some (.getfield 134, 3, 3, 1, 0) := by decide +kernel
theorem k123_7 : look (codL 123) 7 = some (.iload_n 1, 1, 0, 0, 0) := by decide +kernel
theorem k123_8 : look (codL 123) 8 = some (.aaload, 1, 0, 0, 0) := by decide +kernel
theorem k123_9 : look (codL 123) 9 = some (.getfield 143, 3, 2, 3, 0) := by decide +kernel
theorem k123_12 : look (codL 123) 12 = some (.aload_n 0, 1, 0, 0, 0) := by decide +kernel
theorem k123_13 : look (codL 123) 13 = some (.iload_n 1, 1, 0, 0, 0) := by decide +kernel
theorem k123_14 : look (codL 123) 14 = some (.aload_n 0, 1, 0, 0, 0) := by decide +kernel
theorem k123_15 : look (codL 123) 15 = some (.getfield 146, 3, 9, 10, 0) := by decide +kernel
theorem k123_18 : look (codL 123) 18 = some (.invokevirtual 218, 3, 115, 3, 0) := by decide +kernel
theorem k123_21 : look (codL 123) 21 = some (.imul, 1, 0, 0, 0) := by decide +kernel
theorem k123_22 : look (codL 123) 22 = some (.ireturn, 1, 0, 0, 0) := by decide +kernel
theorem k124_0 : look (codL 124) 0 = some (.sipush (-201), 3, 0, 0, 0) := by decide +kernel
theorem k124_3 : look (codL 124) 3 = some (.istore_n 1, 1, 0, 0, 0) := by decide +kernel
theorem k124_4 : look (codL 124) 4 = some (.iconst (-1), 1, 0, 0, 0) := by decide +kernel
theorem k124_5 : look (codL 124) 5 = some (.istore_n 2, 1, 0, 0, 0) := by decide +kernel
theorem k124_6 : look (codL 124) 6 = some (.iconst 0, 1, 0, 0, 0) := by decide +kernel
theorem k124_7 : look (codL 124) 7 = some (.istore_n 3, 1, 0, 0, 0) := by decide +kernel
theorem k124_8 : look (codL 124) 8 = some (.iload_n 3, 1, 0, 0, 0) := by decide +kernel
theorem k124_9 : look (codL 124) 9 = some (.aload_n 0, 1, 0, 0, 0) := by decide +kernel
theorem k124_10 : look (codL 124) 10 = some (.getfield 10, 3, 9, 0, 0) := by decide +kernel
theorem k124_13 : look (codL 124) 13 = some (.getfield 70, 3, 3, 3, 0) := by decide +kernel
theorem k124_16 : look (codL 124) 16 = some (.if_icmp .ge 34, 3, 0, 0, 0) := by decide +kernel
theorem k124_19 : look (codL 124) 19 = some (.aload_n 0, 1, 0, 0, 0) := by decide +kernel
theorem k124_20 : look (codL 124) 20 = some (.iload_n 3, 1, 0, 0, 0) := by decide +kernel
theorem k124_21 : look (codL 124) 21 = some (.invokevirtual 155, 3, 101, 2, 0) := by decide +kernel
theorem k124_24 : look (codL 124) 24 = some (.ifCond .eq 20, 3, 0, 0, 0) := by decide +kernel
theorem k124_27 : look (codL 124) 27 = some (.aload_n 0, 1, 0, 0, 0) := by decide +kernel
theorem k124_28 : look (codL 124) 28 = some (.iload_n 3, 1, 0, 0, 0) := by decide +kernel
theorem k124_29 : look (codL 124) 29 = some (.invokevirtual 261, 3, 123, 2, 0) := by decide +kernel
theorem k124_32 : look (codL 124) 32 = some (.iload_n 2, 1, 0, 0, 0) := by decide +kernel
theorem k124_33 : look (codL 124) 33 = some (.if_icmp .le 11, 3, 0, 0, 0) := by decide +kernel
theorem k124_36 : look (codL 124) 36 = some (.iload_n 3, 1, 0, 0, 0) := by decide +kernel
theorem k124_37 : look (codL 124) 37 = some (.istore_n 1, 1, 0, 0, 0) := by decide +kernel
theorem k124_38 : look (codL 124) 38 = some (.aload_n 0, 1, 0, 0, 0) := by decide +kernel
theorem k124_39 : look (codL 124) 39 = some (.iload_n 3, 1, 0, 0, 0) := by decide +kernel
theorem k124_40 : look (codL 124) 40 = some (.invokevirtual 261, 3, 123, 2, 0) := by decide +kernel
theorem k124_43 : look (codL 124) 43 = some (.istore_n 2, 1, 0, 0, 0) := by decide +kernel
theorem k124_44 : look (codL 124) 44 = some (.iinc 3 1, 3, 0, 0, 0) := by decide +kernel
theorem k124_47 : look (codL 124) 47 = some (.goto (-39), 3, 0, 0, 0) := by decide +kernel
theorem k124_50 : look (codL 124) 50 = some (.iload_n 1, 1, 0, 0, 0) := by decide +kernel
theorem k124_51 : look (codL 124) 51 = some (.ireturn, 1, 0, 0, 0) := by decide +kernel
theorem k125_0 : look (codL 125) 0 = some (.iconst 0, 1, 0, 0, 0) := by decide +kernel
theorem k125_1 : look (codL 125) 1 = some (.istore_n 2, 1, 0, 0, 0) := by decide +kernel
theorem k125_2 : look (codL 125) 2 = some (.aload_n 0, 1, 0, 0, 0) := by decide +kernel
theorem k125_3 : look (codL 125) 3 = some (.arraylength, 1, 0, 0, 0) := by decide +kernel
theorem k125_4 : look (codL 125) 4 = some (.istore_n 3, 1, 0, 0, 0) := by decide +kernel
theorem k125_5 : look (codL 125) 5 = some (.iload_n 2, 1, 0, 0, 0) := by decide +kernel
theorem k125_6 : look (codL 125) 6 = some (.iload_n 3, 1, 0, 0, 0) := by decide +kernel
theorem k125_7 : look (codL 125) 7 = some (.if_icmp .ge 13, 3, 0, 0, 0) := by decide +kernel
theorem k125_10 : look (codL 125) 10 = some (.aload_n 0, 1, 0, 0, 0) := by decide +kernel
theorem k125_11 : look (codL 125) 11 = some (.iload_n 2, 1, 0, 0, 0) := by decide +kernel
theorem k125_12 : look (codL 125) 12 = some (.iload_n 1, 1, 0, 0, 0) := by decide +kernel
theorem k125_13 : look (codL 125) 13 = some (.iastore, 1, 0, 0, 0) := by decide +kernel
theorem k125_14 : look (codL 125) 14 = some (.iinc 2 1, 3, 0, 0, 0) := by decide +kernel
theorem k125_17 : look (codL 125) 17 = some (.goto (-12), 3, 0, 0, 0) := by decide +kernel
theorem k125_20 : look (codL 125) 20 = some (.return_, 1, 0, 0, 0) := by decide +kernel
theorem k126_0 : look (codL 126) 0 = some (.iconst 0, 1, 0, 0, 0) := by decide +kernel
theorem k126_1 : look (codL 126) 1 = some (.istore_n 2, 1, 0, 0, 0) := by decide +kernel
theorem k126_2 : look (codL 126) 2 = some (.iload_n 2, 1, 0, 0, 0) := by decide +kernel
theorem k126_3 : look (codL 126) 3 = some (.aload_n 0, 1, 0, 0, 0) := by decide +kernel
theorem k126_4 : look (codL 126) 4 = some (.getfield 10, 3, 9, 0, 0) := by decide +kernel
theorem k126_7 : look (codL 126) 7 = some (.getfield 70, 3, 3, 3, 0) := by decide +kernel
theorem k126_10 : look (codL 126) 10 = some (.if_icmp .ge 59, 3, 0, 0, 0) := by decide +kernel
theorem k126_13 : look (codL 126) 13 = some (.aload_n 0, 1, 0, 0, 0) := by decide +kernel
theorem k126_14 : look (codL 126) 14 = some (.getfield 10, 3, 9, 0, 0) := by decide +kernel
theorem k126_17 : look (codL 126) 17 = some (.getfield 134, 3, 3, 1, 0) := by decide +kernel
theorem k126_20 : look (codL 126) 20 = some (.iload_n 2, 1, 0, 0, 0) := by decide +kernel
theorem k126_21 : look (codL 126) 21 = some (.aaload, 1, 0, 0, 0) := by decide +kernel
theorem k126_22 : look (codL 126) 22 = some (.astore_n 3, 1, 0, 0, 0) := by decide +kernel
theorem k126_23 : look (codL 126) 23 = some (.aload_n 0, 1, 0, 0, 0) := by decide +kernel
theorem k126_24 : look (codL 126) 24 = some (.getfield 66, 3, 9, 9, 0) := by decide +kernel
theorem k126_27 : look (codL 126) 27 = some (.aload_n 3, 1, 0, 0, 0) := by decide +kernel
theorem k126_28 : look (codL 126) 28 = some (.getfield 149, 3, 2, 1, 0) := by decide +kernel
theorem k126_31 : look (codL 126) 31 = some (.iaload, 1, 0, 0, 0) := by decide +kernel
theorem k126_32 : look (codL 126) 32 = some (.iload_n 1, 1, 0, 0, 0) := by decide +kernel
theorem k126_33 : look (codL 126) 33 = some (.if_icmp .ne 30, 3, 0, 0, 0) := by decide +kernel
theorem k126_36 : look (codL 126) 36 = some (.aload_n 0, 1, 0, 0, 0) := by decide +kernel
theorem k126_37 : look (codL 126) 37 = some (.getfield 66, 3, 9, 9, 0) := by decide +kernel
theorem k126_40 : look (codL 126) 40 = some (.aload_n 3, 1, 0, 0, 0) := by decide +kernel
theorem k126_41 : look (codL 126) 41 = some (.getfield 152, 3, 2, 2, 0) := by decide +kernel
theorem k126_44 : look (codL 126) 44 = some (.iaload, 1, 0, 0, 0) := by decide +kernel
theorem k126_45 : look (codL 126) 45 = some (.sipush (-201), 3, 0, 0, 0) := by decide +kernel
theorem k126_48 : look (codL 126) 48 = some (.if_icmp .ne 15, 3, 0, 0, 0) := by decide +kernel
theorem k126_51 : look (codL 126) 51 = some (.aload_n 0, 1, 0, 0, 0) := by decide +kernel
theorem k126_52 : look (codL 126) 52 = some (.getfield 66, 3, 9, 9, 0) := by decide +kernel
theorem k126_55 : look (codL 126) 55 = some (.aload_n 3, 1, 0, 0, 0) := by decide +kernel
theorem k126_56 : look (codL 126) 56 = some (.getfield 152, 3, 2, 2, 0) := by decide +kernel
theorem k126_59 : look (codL 126) 59 = some (.iload_n 1, 1, 0, 0, 0) := by decide +kernel
theorem k126_60 : look (codL 126) 60 = some (.iconst 1, 1, 0, 0, 0) := by decide +kernel
theorem k126_61 : look (codL 126) 61 = some (.iadd, 1, 0, 0, 0) := by decide +kernel
theorem k126_62 : look (codL 126) 62 = some (.iastore, 1, 0, 0, 0) := by decide +kernel
theorem k126_63 : look (codL 126) 63 = some (.iinc 2 1, 3, 0, 0, 0) := by decide +kernel
theorem k126_66 : look (codL 126) 66 = some (.goto (-64), 3, 0, 0, 0) := by decide +kernel
theorem k126_69 : look (codL 126) 69 = some (.return_, 1, 0, 0, 0) := by decide +kernel
theorem k127_0 : look (codL 127) 0 = some (.aload_n 0, 1, 0, 0, 0) := by decide +kernel
theorem k127_1 : look (codL 127) 1 = some (.getfield 10, 3, 9, 0, 0) := by decide +kernel
theorem k127_4 : look (codL 127) 4 = some (.iload_n 1, 1, 0, 0, 0) := by decide +kernel
theorem k127_5 : look (codL 127) 5 = some (.invokevirtual 88, 3, 14, 2, 0) := by decide +kernel
theorem k127_8 : look (codL 127) 8 = some (.ifCond .eq 14, 3, 0, 0, 0) := by decide +kernel
theorem k127_11 : look (codL 127) 11 = some (.aload_n 0, 1, 0, 0, 0) := by decide +kernel
theorem k127_12 : look (codL 127) 12 = some (.getfield 10, 3, 9, 0, 0) := by decide +kernel
theorem k127_15 : look (codL 127) 15 = some (.iload_n 2, 1, 0, 0, 0) := by decide +kernel
theorem k127_16 : look (codL 127) 16 = some (.invokevirtual 88, 3, 14, 2, 0) := by decide +kernel
theorem k127_19 : look (codL 127) 19 = some (.ifCond .ne 11, 3, 0, 0, 0) := by decide +kernel
theorem k127_22 : look (codL 127) 22 = some (.aload_n 0, 1, 0, 0, 0) := by decide +kernel
theorem k127_23 : look (codL 127) 23 = some (.sipush (-202), 3, 0, 0, 0) := by decide +kernel
theorem k127_26 : look (codL 127) 26 = some (.invokevirtual 80, 3, 94, 2, 0) := by decide +kernel
theorem k127_29 : look (codL 127) 29 = some (.ireturn, 1, 0, 0, 0) := by decide +kernel
theorem k127_30 : look (codL 127) 30 = some (.aload_n 0, 1, 0, 0, 0) := by decide +kernel
theorem k127_31 : look (codL 127) 31 = some (.getfield 66, 3, 9, 9, 0) := by decide +kernel
theorem k127_34 : look (codL 127) 34 = some (.sipush (-201), 3, 0, 0, 0) := by decide +kernel
theorem k127_37 : look (codL 127) 37 = some (.invokestatic 264, 3, 125, 2, 0) := by decide +kernel
theorem k127_40 : look (codL 127) 40 = some (.aload_n 0, 1, 0, 0, 0) := by decide +kernel
theorem k127_41 : look (codL 127) 41 = some (.getfield 66, 3, 9, 9, 0) := by decide +kernel
theorem k127_44 : look (codL 127) 44 = some (.iload_n 1, 1, 0, 0, 0) := by decide +kernel
theorem k127_45 : look (codL 127) 45 = some (.iconst 0, 1, 0, 0, 0) := by decide +kernel
theorem k127_46 : look (codL 127) 46 = some (.iastore, 1, 0, 0, 0) := by decide +kernel
theorem k127_47 : look (codL 127) 47 = some (.iconst 0, 1, 0, 0, 0) := by decide +kernel
theorem k127_48 : look (codL 127) 48 = some (.istore_n 3, 1, 0, 0, 0) := by decide +kernel
theorem k127_49 : look (codL 127) 49 = some (.iload_n 3, 1, 0, 0, 0) := by decide +kernel
theorem k127_50 : look (codL 127) 50 = some (.aload_n 0, 1, 0, 0, 0) := by decide +kernel
theorem k127_51 : look (codL 127) 51 = some (.getfield 10, 3, 9, 0, 0) := by decide +kernel
theorem k127_54 : look (codL 127) 54 = some (.getfield 77, 3, 3, 2, 0) := by decide +kernel
theorem k127_57 : look (codL 127) 57 = some (.if_icmp .ge 14, 3, 0, 0, 0) := by decide +kernel
theorem k127_60 : look (codL 127) 60 = some (.aload_n 0, 1, 0, 0, 0) := by decide +kernel
theorem k127_61 : look (codL 127) 61 = some (.iload_n 3, 1, 0, 0, 0) := by decide +kernel
theorem k127_62 : look (codL 127) 62 = some (.invokevirtual 270, 3, 126, 2, 0) := by decide +kernel
theorem k127_65 : look (codL 127) 65 = some (.iinc 3 1, 3, 0, 0, 0) := by decide +kernel
theorem k127_68 : look (codL 127) 68 = some (.goto (-19), 3, 0, 0, 0) := by decide +kernel
theorem k127_71 : look (codL 127) 71 = some (.aload_n 0, 1, 0, 0, 0) := by decide +kernel
theorem k127_72 : look (codL 127) 72 = some (.getfield 66, 3, 9, 9, 0) := by decide +kernel
theorem k127_75 : look (codL 127) 75 = some (.iload_n 2, 1, 0, 0, 0) := by decide +kernel
theorem k127_76 : look (codL 127) 76 = some (.iaload, 1, 0, 0, 0) := by decide +kernel
theorem k127_77 : look (codL 127) 77 = some (.ireturn, 1, 0, 0, 0) := by decide +kernel
theorem k128_0 : look (codL 128) 0 = some (.aload_n 0, 1, 0, 0, 0) := by decide +kernel
theorem k128_1 : look (codL 128) 1 = some (.getfield 10, 3, 9, 0, 0) := by decide +kernel
theorem k128_4 : look (codL 128) 4 = some (.invokevirtual 84, 3, 17, 1, 0) := by decide +kernel
theorem k128_7 : look (codL 128) 7 = some (.istore_n 2, 1, 0, 0, 0) := by decide +kernel
theorem k128_8 : look (codL 128) 8 = some (.iconst 0, 1, 0, 0, 0) := by decide +kernel
theorem k128_9 : look (codL 128) 9 = some (.istore_n 3, 1, 0, 0, 0) := by decide +kernel
theorem k128_10 : look (codL 128) 10 = some (.iload_n 3, 1, 0, 0, 0) := by decide +kernel
theorem k128_11 : look (codL 128) 11 = some (.iload_n 1, 1, 0, 0, 0) := by decide +kernel
theorem k128_12 : look (codL 128) 12 = some (.if_icmp .ge 38, 3, 0, 0, 0) := by decide +kernel
theorem k128_15 : look (codL 128) 15 = some (.iconst 4, 1, 0, 0, 0) := by decide +kernel
theorem k128_16 : look (codL 128) 16 = some (.aload_n 0, 1, 0, 0, 0) := by decide +kernel
theorem k128_17 : look (codL 128) 17 = some (.getfield 62, 3, 9, 8, 0) := by decide +kernel
theorem k128_20 : look (codL 128) 20 = some (.iconst 3, 1, 0, 0, 0) := by decide +kernel
theorem k128_21 : look (codL 128) 21 = some (.invokevirtual 312, 3, 8, 2, 0) := by decide +kernel
theorem k128_24 : look (codL 128) 24 = some (.ishr, 1, 0, 0, 0) := by decide +kernel
theorem k128_25 : look (codL 128) 25 = some (.istore 4, 2, 0, 0, 0) := by decide +kernel
theorem k128_27 : look (codL 128) 27 = some (.aload_n 0, 1, 0, 0, 0) := by decide +kernel
theorem k128_28 : look (codL 128) 28 = some (.getfield 10, 3, 9, 0, 0) := by decide +kernel
theorem k128_31 : look (codL 128) 31 = some (.iload_n 2, 1, 0, 0, 0) := by decide +kernel
theorem k128_32 : look (codL 128) 32 = some (.iconst 4, 1, 0, 0, 0) := by decide +kernel
theorem k128_33 : look (codL 128) 33 = some (.iload_n 3, 1, 0, 0, 0) := by decide +kernel
theorem k128_34 : look (codL 128) 34 = some (.imul, 1, 0, 0, 0) := by decide +kernel
theorem k128_35 : look (codL 128) 35 = some (.iload 4, 2, 0, 0, 0) := by decide +kernel
theorem k128_37 : look (codL 128) 37 = some (.invokestatic 224, 3, 60, 2, 0) := by decide +kernel
theorem k128_40 : look (codL 128) 40 = some (.invokevirtual 109, 3, 18, 3, 0) := by decide +kernel
theorem k128_43 : look (codL 128) 43 = some (.pop, 1, 0, 0, 0) := by decide +kernel
theorem k128_44 : look (codL 128) 44 = some (.iinc 3 1, 3, 0, 0, 0) := by decide +kernel
theorem k128_47 : look (codL 128) 47 = some (.goto (-37), 3, 0, 0, 0) := by decide +kernel
theorem k128_50 : look (codL 128) 50 = some (.return_, 1, 0, 0, 0) := by decide +kernel
theorem k129_0 : look (codL 129) 0 = some (.aload_n 0, 1, 0, 0, 0) := by decide +kernel
theorem k129_1 : look (codL 129) 1 = some (.getfield 62, 3, 9, 8, 0) := by decide +kernel
theorem k129_4 : look (codL 129) 4 = some (.bipush 8, 2, 0, 0, 0) := by decide +kernel
theorem k129_6 : look (codL 129) 6 = some (.invokevirtual 312, 3, 8, 2, 0) := by decide +kernel
theorem k129_9 : look (codL 129) 9 = some (.istore_n 1, 1, 0, 0, 0) := by decide +kernel
theorem k129_10 : look (codL 129) 10 = some (.aload_n 0, 1, 0, 0, 0) := by decide +kernel
theorem k129_11 : look (codL 129) 11 = some (.getfield 62, 3, 9, 8, 0) := by decide +kernel
theorem k129_14 : look (codL 129) 14 = some (.bipush 8, 2, 0, 0, 0) := by decide +kernel
theorem k129_16 : look (codL 129) 16 = some (.invokevirtual 312, 3, 8, 2, 0) := by decide +kernel
theorem k129_19 : look (codL 129) 19 = some (.istore_n 2, 1, 0, 0, 0) := by decide +kernel
theorem k129_20 : look (codL 129) 20 = some (.aload_n 0, 1, 0, 0, 0) := by decide +kernel
theorem k129_21 : look (codL 129) 21 = some (.getfield 10, 3, 9, 0, 0) := by decide +kernel
theorem k129_24 : look (codL 129) 24 = some (.iload_n 1, 1, 0, 0, 0) := by decide +kernel
theorem k129_25 : look (codL 129) 25 = some (.iload_n 2, 1, 0, 0, 0) := by decide +kernel
theorem k129_26 : look (codL 129) 26 = some (.aload_n 0, 1, 0, 0, 0) := by decide +kernel
theorem k129_27 : look (codL 129) 27 = some (.getfield 62, 3, 9, 8, 0) := by decide +kernel
theorem k129_30 : look (codL 129) 30 = some (.bipush 100, 2, 0, 0, 0) := by decide +kernel
theorem k129_32 : look (codL 129) 32 = some (.invokevirtual 312, 3, 8, 2, 0) := by decide +kernel
theorem k129_35 : look (codL 129) 35 = some (.invokevirtual 117, 3, 19, 4, 0) := by decide +kernel
theorem k129_38 : look (codL 129) 38 = some (.istore_n 3, 1, 0, 0, 0) := by decide +kernel
theorem k129_39 : look (codL 129) 39 = some (.aload_n 0, 1, 0, 0, 0) := by decide +kernel
theorem k129_40 : look (codL 129) 40 = some (.getfield 10, 3, 9, 0, 0) := by decide +kernel
theorem k129_43 : look (codL 129) 43 = some (.iload_n 3, 1, 0, 0, 0) := by decide +kernel
theorem k129_44 : look (codL 129) 44 = some (.invokevirtual 121, 3, 15, 2, 0) := by decide +kernel
theorem k129_47 : look (codL 129) 47 = some (.ifCond .ne 4, 3, 0, 0, 0) := by decide +kernel
theorem k129_50 : look (codL 129) 50 = some (.return_, 1, 0, 0, 0) := by decide +kernel
theorem k129_51 : look (codL 129) 51 = some (.aload_n 0, 1, 0, 0, 0) := by decide +kernel
theorem k129_52 : look (codL 129) 52 = some (.getfield 10, 3, 9, 0, 0) := by decide +kernel
theorem k129_55 : look (codL 129) 55 = some (.iload_n 3, 1, 0, 0, 0) := by decide +kernel
theorem k129_56 : look (codL 129) 56 = some (.invokevirtual 124, 3, 16, 2, 0) := by decide +kernel
theorem k129_59 : look (codL 129) 59 = some (.astore 4, 2, 0, 0, 0) := by decide +kernel
theorem k129_61 : look (codL 129) 61 = some (.iconst 0, 1, 0, 0, 0) := by decide +kernel
theorem k129_62 : look (codL 129) 62 = some (.istore 5, 2, 0, 0, 0) := by decide +kernel
theorem k129_64 : look (codL 129) 64 = some (.iload 5, 2, 0, 0, 0) := by decide +kernel
theorem k129_66 : look (codL 129) 66 = some (.aload 4, 2, 0, 0, 0) := by decide +kernel
theorem k129_68 : look (codL 129) 68 = some (.getfield 106, 3, 0, 1, 0) := by decide +kernel
theorem k129_71 : look (codL 129) 71 = some (.if_icmp .ge 82, 3, 0, 0, 0) := by decide +kernel
theorem k129_74 : look (codL 129) 74 = some (.aload_n 0, 1, 0, 0, 0) := by decide +kernel
theorem k129_75 : look (codL 129) 75 = some (.getfield 62, 3, 9, 8, 0) := by decide +kernel
theorem k129_78 : look (codL 129) 78 = some (.bipush 8, 2, 0, 0, 0) := by decide +kernel
theorem k129_80 : look (codL 129) 80 = some (.invokevirtual 312, 3, 8, 2, 0) := by decide +kernel
theorem k129_83 : look (codL 129) 83 = some (.istore 6, 2, 0, 0, 0) := by decide +kernel
theorem k129_85 : look (codL 129) 85 = some (.aload_n 0, 1, 0, 0, 0) := by decide +kernel
theorem k129_86 : look (codL 129) 86 = some (.getfield 10, 3, 9, 0, 0) := by decide +kernel
theorem k129_89 : look (codL 129) 89 = some (.getfield 134, 3, 3, 1, 0) := by decide +kernel
theorem k129_92 : look (codL 129) 92 = some (.iload_n 3, 1, 0, 0, 0) := by decide +kernel
theorem k129_93 : look (codL 129) 93 = some (.aaload, 1, 0, 0, 0) := by decide +kernel
theorem k129_94 : look (codL 129) 94 = some (.getfield 138, 3, 2, 0, 0) := by decide +kernel
theorem k129_97 : look (codL 129) 97 = some (.iload 5, 2, 0, 0, 0) := by decide +kernel
theorem k129_99 : look (codL 129) 99 = some (.iload 6, 2, 0, 0, 0) := by decide +kernel
theorem k129_101 : look (codL 129) 101 = some (.bipush 7, 2, 0, 0, 0) := by decide +kernel
theorem k129_103 : look (codL 129) 103 = some (.if_icmp .ne 25, 3, 0, 0, 0) := by decide +kernel
theorem k129_106 : look (codL 129) 106 = some (.aload_n 0, 1, 0, 0, 0) := by decide +kernel
theorem k129_107 : look (codL 129) 107 = some (.getfield 62, 3, 9, 8, 0) := by decide +kernel
theorem k129_110 : look (codL 129) 110 = some (.getfield 315, 3, 1, 0, 0) := by decide +kernel
theorem k129_113 : look (codL 129) 113 = some (.ldc2_w 319, 3, 0, 0, 1024) := by decide +kernel
theorem k129_116 : look (codL 129) 116 = some (.ldiv, 1, 0, 0, 0) := by decide +kernel
theorem k129_117 : look (codL 129) 117 = some (.ldc2_w 321, 3, 0, 0, 100) := by decide +kernel
theorem k129_120 : look (codL 129) 120 = some (.lrem, 1, 0, 0, 0) := by decide +kernel
theorem k129_121 : look (codL 129) 121 = some (.l2i, 1, 0, 0, 0) := by decide +kernel
theorem k129_122 : look (codL 129) 122 = some (.invokestatic 323, 3, 81, 1, 0) := by decide +kernel
theorem k129_125 : look (codL 129) 125 = some (.goto 21, 3, 0, 0, 0) := by decide +kernel
theorem k129_128 : look (codL 129) 128 = some (.iconst 4, 1, 0, 0, 0) := by decide +kernel
theorem k129_129 : look (codL 129) 129 = some (.iload 6, 2, 0, 0, 0) := by decide +kernel
theorem k129_131 : look (codL 129) 131 = some (.imul, 1, 0, 0, 0) := by decide +kernel
theorem k129_132 : look (codL 129) 132 = some (.aload 4, 2, 0, 0, 0) := by decide +kernel
theorem k129_134 : look (codL 129) 134 = some (.getfield 128, 3, 0, 0, 0) := by decide +kernel
theorem k129_137 : look (codL 129) 137 = some (.iload 5, 2, 0, 0, 0) := by decide +kernel
theorem k129_139 : look (codL 129) 139 = some (.iaload, 1, 0, 0, 0) := by decide +kernel
theorem k129_140 : look (codL 129) 140 = some (.invokestatic 326, 3, 2, 1, 0) := by decide +kernel
theorem k129_143 : look (codL 129) 143 = some (.invokestatic 224, 3, 60, 2, 0) := by decide +kernel
theorem k129_146 : look (codL 129) 146 = some (.iastore, 1, 0, 0, 0) := by decide +kernel
theorem k129_147 : look (codL 129) 147 = some (.iinc 5 1, 3, 0, 0, 0) := by decide +kernel
theorem k129_150 : look (codL 129) 150 = some (.goto (-86), 3, 0, 0, 0) := by decide +kernel
theorem k129_153 : look (codL 129) 153 = some (.return_, 1, 0, 0, 0) := by decide +kernel
theorem k130_0 : look (codL 130) 0 = some (.iload_n 1, 1, 0, 0, 0) := by decide +kernel
theorem k130_1 : look (codL 130) 1 = some (.ldc 242, 2, 0, 0, 1000000) := by decide +kernel
theorem k130_3 : look (codL 130) 3 = some (.invokestatic 113, 3, 13, 2, 0) := by decide +kernel
theorem k130_6 : look (codL 130) 6 = some (.ifCond .eq 21, 3, 0, 0, 0) := by decide +kernel
theorem k130_9 : look (codL 130) 9 = some (.iload_n 2, 1, 0, 0, 0) := by decide +kernel
theorem k130_10 : look (codL 130) 10 = some (.bipush 7, 2, 0, 0, 0) := by decide +kernel
theorem k130_12 : look (codL 130) 12 = some (.invokestatic 113, 3, 13, 2, 0) := by decide +kernel
theorem k130_15 : look (codL 130) 15 = some (.ifCond .eq 12, 3, 0, 0, 0) := by decide +kernel
theorem k130_18 : look (codL 130) 18 = some (.iload_n 3, 1, 0, 0, 0) := by decide +kernel
theorem k130_19 : look (codL 130) 19 = some (.bipush 17, 2, 0, 0, 0) := by decide +kernel
theorem k130_21 : look (codL 130) 21 = some (.invokestatic 113, 3, 13, 2, 0) := by decide +kernel
theorem k130_24 : look (codL 130) 24 = some (.ifCond .ne 11, 3, 0, 0, 0) := by decide +kernel
theorem k130_27 : look (codL 130) 27 = some (.aload_n 0, 1, 0, 0, 0) := by decide +kernel
theorem k130_28 : look (codL 130) 28 = some (.sipush (-202), 3, 0, 0, 0) := by decide +kernel
theorem k130_31 : look (codL 130) 31 = some (.invokevirtual 80, 3, 94, 2, 0) := by decide +kernel
theorem k130_34 : look (codL 130) 34 = some (.ireturn, 1, 0, 0, 0) := by decide +kernel
theorem k130_35 : look (codL 130) 35 = some (.aload_n 0, 1, 0, 0, 0) := by decide +kernel
theorem k130_36 : look (codL 130) 36 = some (.getfield 10, 3, 9, 0, 0) := by decide +kernel
theorem k130_39 : look (codL 130) 39 = some (.invokevirtual 74, 3, 12, 1, 0) := by decide +kernel
theorem k130_42 : look (codL 130) 42 = some (.aload_n 0, 1, 0, 0, 0) := by decide +kernel
theorem k130_43 : look (codL 130) 43 = some (.getfield 62, 3, 9, 8, 0) := by decide +kernel
theorem k130_46 : look (codL 130) 46 = some (.iload_n 1, 1, 0, 0, 0) := by decide +kernel
theorem k130_47 : look (codL 130) 47 = some (.invokevirtual 273, 3, 7, 2, 0) := by decide +kernel
theorem k130_50 : look (codL 130) 50 = some (.iconst 0, 1, 0, 0, 0) := by decide +kernel
theorem k130_51 : look (codL 130) 51 = some (.istore 4, 2, 0, 0, 0) := by decide +kernel
theorem k130_53 : look (codL 130) 53 = some (.iload 4, 2, 0, 0, 0) := by decide +kernel
theorem k130_55 : look (codL 130) 55 = some (.bipush 8, 2, 0, 0, 0) := by decide +kernel
theorem k130_57 : look (codL 130) 57 = some (.if_icmp .ge 14, 3, 0, 0, 0) := by decide +kernel
theorem k130_60 : look (codL 130) 60 = some (.aload_n 0, 1, 0, 0, 0) := by decide +kernel
theorem k130_61 : look (codL 130) 61 = some (.iload_n 2, 1, 0, 0, 0) := by decide +kernel
theorem k130_62 : look (codL 130) 62 = some (.invokevirtual 276, 3, 128, 2, 0) := by decide +kernel
theorem k130_65 : look (codL 130) 65 = some (.iinc 4 1, 3, 0, 0, 0) := by decide +kernel
theorem k130_68 : look (codL 130) 68 = some (.goto (-15), 3, 0, 0, 0) := by decide +kernel
theorem k130_71 : look (codL 130) 71 = some (.iconst 0, 1, 0, 0, 0) := by decide +kernel
theorem k130_72 : look (codL 130) 72 = some (.istore 4, 2, 0, 0, 0) := by decide +kernel
theorem k130_74 : look (codL 130) 74 = some (.iload 4, 2, 0, 0, 0) := by decide +kernel
theorem k130_76 : look (codL 130) 76 = some (.iload_n 3, 1, 0, 0, 0) := by decide +kernel
theorem k130_77 : look (codL 130) 77 = some (.if_icmp .ge 13, 3, 0, 0, 0) := by decide +kernel
theorem k130_80 : look (codL 130) 80 = some (.aload_n 0, 1, 0, 0, 0) := by decide +kernel
theorem k130_81 : look (codL 130) 81 = some (.invokevirtual 279, 3, 129, 1, 0) := by decide +kernel
theorem k130_84 : look (codL 130) 84 = some (.iinc 4 1, 3, 0, 0, 0) := by decide +kernel
theorem k130_87 : look (codL 130) 87 = some (.goto (-13), 3, 0, 0, 0) := by decide +kernel
theorem k130_90 : look (codL 130) 90 = some (.iload_n 3, 1, 0, 0, 0) := by decide +kernel
theorem k130_91 : look (codL 130) 91 = some (.ireturn, 1, 0, 0, 0) := by decide +kernel
theorem k131_0 : look (codL 131) 0 = some (.iload_n 1, 1, 0, 0, 0) := by decide +kernel
theorem k131_1 : look (codL 131) 1 = some (.tableswitch 78 0 5 #[39, 44, 49, 54, 62, 70], 39, 0, 0, 0) := by decide +kernel
theorem k131_40 : look (codL 131) 40 = some (.aload_n 0, 1, 0, 0, 0) := by decide +kernel
theorem k131_41 : look (codL 131) 41 = some (.getfield 296, 3, 9, 11, 0) := by decide +kernel
theorem k131_44 : look (codL 131) 44 = some (.ireturn, 1, 0, 0, 0) := by decide +kernel
theorem k131_45 : look (codL 131) 45 = some (.aload_n 0, 1, 0, 0, 0) := by decide +kernel
theorem k131_46 : look (codL 131) 46 = some (.getfield 299, 3, 9, 12, 0) := by decide +kernel
theorem k131_49 : look (codL 131) 49 = some (.ireturn, 1, 0, 0, 0) := by decide +kernel
theorem k131_50 : look (codL 131) 50 = some (.aload_n 0, 1, 0, 0, 0) := by decide +kernel
theorem k131_51 : look (codL 131) 51 = some (.getfield 302, 3, 9, 13, 0) := by decide +kernel
theorem k131_54 : look (codL 131) 54 = some (.ireturn, 1, 0, 0, 0) := by decide +kernel
theorem k131_55 : look (codL 131) 55 = some (.aload_n 0, 1, 0, 0, 0) := by decide +kernel
theorem k131_56 : look (codL 131) 56 = some (.getfield 22, 3, 9, 2, 0) := by decide +kernel
theorem k131_59 : look (codL 131) 59 = some (.getfield 167, 3, 8, 1, 0) := by decide +kernel
theorem k131_62 : look (codL 131) 62 = some (.ireturn, 1, 0, 0, 0) := by decide +kernel
theorem k131_63 : look (codL 131) 63 = some (.aload_n 0, 1, 0, 0, 0) := by decide +kernel
theorem k131_64 : look (codL 131) 64 = some (.getfield 10, 3, 9, 0, 0) := by decide +kernel
theorem k131_67 : look (codL 131) 67 = some (.getfield 77, 3, 3, 2, 0) := by decide +kernel
theorem k131_70 : look (codL 131) 70 = some (.ireturn, 1, 0, 0, 0) := by decide +kernel
theorem k131_71 : look (codL 131) 71 = some (.aload_n 0, 1, 0, 0, 0) := by decide +kernel
theorem k131_72 : look (codL 131) 72 = some (.getfield 10, 3, 9, 0, 0) := by decide +kernel
theorem k131_75 : look (codL 131) 75 = some (.getfield 70, 3, 3, 3, 0) := by decide +kernel
theorem k131_78 : look (codL 131) 78 = some (.ireturn, 1, 0, 0, 0) := by decide +kernel
theorem k131_79 : look (codL 131) 79 = some (.aload_n 0, 1, 0, 0, 0) := by decide +kernel
theorem k131_80 : look (codL 131) 80 = some (.getfield 146, 3, 9, 10, 0) := by decide +kernel
theorem k131_83 : look (codL 131) 83 = some (.ireturn, 1, 0, 0, 0) := by decide +kernel
theorem k132_0 : look (codL 132) 0 = some (.iload_n 1, 1, 0, 0, 0) := by decide +kernel
theorem k132_1 : look (codL 132) 1 = some (.bipush 7, 2, 0, 0, 0) := by decide +kernel
theorem k132_3 : look (codL 132) 3 = some (.invokestatic 113, 3, 13, 2, 0) := by decide +kernel
theorem k132_6 : look (codL 132) 6 = some (.ifCond .ne 11, 3, 0, 0, 0) := by decide +kernel
theorem k132_9 : look (codL 132) 9 = some (.aload_n 0, 1, 0, 0, 0) := by decide +kernel
theorem k132_10 : look (codL 132) 10 = some (.sipush (-202), 3, 0, 0, 0) := by decide +kernel
theorem k132_13 : look (codL 132) 13 = some (.invokevirtual 80, 3, 94, 2, 0) := by decide +kernel
theorem k132_16 : look (codL 132) 16 = some (.ireturn, 1, 0, 0, 0) := by decide +kernel
theorem k132_17 : look (codL 132) 17 = some (.aload_n 0, 1, 0, 0, 0) := by decide +kernel
theorem k132_18 : look (codL 132) 18 = some (.iload_n 1, 1, 0, 0, 0) := by decide +kernel
theorem k132_19 : look (codL 132) 19 = some (.invokevirtual 282, 3, 131, 2, 0) := by decide +kernel
theorem k132_22 : look (codL 132) 22 = some (.ireturn, 1, 0, 0, 0) := by decide +kernel
theorem k133_0 : look (codL 133) 0 = some (.ldc2_w 285, 3, 0, 0, 1913) := by decide +kernel
theorem k133_3 : look (codL 133) 3 = some (.lstore_n 1, 1, 0, 0, 0) := by decide +kernel
theorem k133_4 : look (codL 133) 4 = some (.iconst 0, 1, 0, 0, 0) := by decide +kernel
theorem k133_5 : look (codL 133) 5 = some (.istore_n 3, 1, 0, 0, 0) := by decide +kernel
theorem k133_6 : look (codL 133) 6 = some (.iload_n 3, 1, 0, 0, 0) := by decide +kernel
theorem k133_7 : look (codL 133) 7 = some (.bipush 7, 2, 0, 0, 0) := by decide +kernel
theorem k133_9 : look (codL 133) 9 = some (.if_icmp .ge 22, 3, 0, 0, 0) := by decide +kernel
theorem k133_12 : look (codL 133) 12 = some (.ldc2_w 287, 3, 0, 0, 31) := by decide +kernel
theorem k133_15 : look (codL 133) 15 = some (.lload_n 1, 1, 0, 0, 0) := by decide +kernel
theorem k133_16 : look (codL 133) 16 = some (.lmul, 1, 0, 0, 0) := by decide +kernel
theorem k133_17 : look (codL 133) 17 = some (.aload_n 0, 1, 0, 0, 0) := by decide +kernel
theorem k133_18 : look (codL 133) 18 = some (.iload_n 3, 1, 0, 0, 0) := by decide +kernel
theorem k133_19 : look (codL 133) 19 = some (.invokevirtual 282, 3, 131, 2, 0) := by decide +kernel
theorem k133_22 : look (codL 133) 22 = some (.i2l, 1, 0, 0, 0) := by decide +kernel
theorem k133_23 : look (codL 133) 23 = some (.ladd, 1, 0, 0, 0) := by decide +kernel
theorem k133_24 : look (codL 133) 24 = some (.lstore_n 1, 1, 0, 0, 0) := by decide +kernel
theorem k133_25 : look (codL 133) 25 = some (.iinc 3 1, 3, 0, 0, 0) := by decide +kernel
theorem k133_28 : look (codL 133) 28 = some (.goto (-22), 3, 0, 0, 0) := by decide +kernel
theorem k133_31 : look (codL 133) 31 = some (.iconst 0, 1, 0, 0, 0) := by decide +kernel
theorem k133_32 : look (codL 133) 32 = some (.istore_n 3, 1, 0, 0, 0) := by decide +kernel
theorem k133_33 : look (codL 133) 33 = some (.iload_n 3, 1, 0, 0, 0) := by decide +kernel
theorem k133_34 : look (codL 133) 34 = some (.aload_n 0, 1, 0, 0, 0) := by decide +kernel
theorem k133_35 : look (codL 133) 35 = some (.getfield 10, 3, 9, 0, 0) := by decide +kernel
theorem k133_38 : look (codL 133) 38 = some (.getfield 77, 3, 3, 2, 0) := by decide +kernel
theorem k133_41 : look (codL 133) 41 = some (.if_icmp .ge 23, 3, 0, 0, 0) := by decide +kernel
theorem k133_44 : look (codL 133) 44 = some (.aload_n 0, 1, 0, 0, 0) := by decide +kernel
theorem k133_45 : look (codL 133) 45 = some (.getfield 10, 3, 9, 0, 0) := by decide +kernel
theorem k133_48 : look (codL 133) 48 = some (.getfield 97, 3, 3, 0, 0) := by decide +kernel
theorem k133_51 : look (codL 133) 51 = some (.iload_n 3, 1, 0, 0, 0) := by decide +kernel
theorem k133_52 : look (codL 133) 52 = some (.aaload, 1, 0, 0, 0) := by decide +kernel
theorem k133_53 : look (codL 133) 53 = some (.lload_n 1, 1, 0, 0, 0) := by decide +kernel
theorem k133_54 : look (codL 133) 54 = some (.invokevirtual 289, 3, 5, 2, 0) := by decide +kernel
theorem k133_57 : look (codL 133) 57 = some (.lstore_n 1, 1, 0, 0, 0) := by decide +kernel
theorem k133_58 : look (codL 133) 58 = some (.iinc 3 1, 3, 0, 0, 0) := by decide +kernel
theorem k133_61 : look (codL 133) 61 = some (.goto (-28), 3, 0, 0, 0) := by decide +kernel
theorem k133_64 : look (codL 133) 64 = some (.iconst 0, 1, 0, 0, 0) := by decide +kernel
theorem k133_65 : look (codL 133) 65 = some (.istore_n 3, 1, 0, 0, 0) := by decide +kernel
theorem k133_66 : look (codL 133) 66 = some (.iload_n 3, 1, 0, 0, 0) := by decide +kernel
theorem k133_67 : look (codL 133) 67 = some (.aload_n 0, 1, 0, 0, 0) := by decide +kernel
theorem k133_68 : look (codL 133) 68 = some (.getfield 10, 3, 9, 0, 0) := by decide +kernel
theorem k133_71 : look (codL 133) 71 = some (.getfield 70, 3, 3, 3, 0) := by decide +kernel
theorem k133_74 : look (codL 133) 74 = some (.if_icmp .ge 34, 3, 0, 0, 0) := by decide +kernel
theorem k133_77 : look (codL 133) 77 = some (.aload_n 0, 1, 0, 0, 0) := by decide +kernel
theorem k133_78 : look (codL 133) 78 = some (.getfield 10, 3, 9, 0, 0) := by decide +kernel
theorem k133_81 : look (codL 133) 81 = some (.getfield 134, 3, 3, 1, 0) := by decide +kernel
theorem k133_84 : look (codL 133) 84 = some (.iload_n 3, 1, 0, 0, 0) := by decide +kernel
theorem k133_85 : look (codL 133) 85 = some (.aaload, 1, 0, 0, 0) := by decide +kernel
theorem k133_86 : look (codL 133) 86 = some (.lload_n 1, 1, 0, 0, 0) := by decide +kernel
theorem k133_87 : look (codL 133) 87 = some (.aload_n 0, 1, 0, 0, 0) := by decide +kernel
theorem k133_88 : look (codL 133) 88 = some (.getfield 10, 3, 9, 0, 0) := by decide +kernel
theorem k133_91 : look (codL 133) 91 = some (.iload_n 3, 1, 0, 0, 0) := by decide +kernel
theorem k133_92 : look (codL 133) 92 = some (.invokevirtual 124, 3, 16, 2, 0) := by decide +kernel
theorem k133_95 : look (codL 133) 95 = some (.getfield 106, 3, 0, 1, 0) := by decide +kernel
theorem k133_98 : look (codL 133) 98 = some (.invokevirtual 293, 3, 10, 3, 0) := by decide +kernel
theorem k133_101 : look (codL 133) 101 = some (.lstore_n 1, 1, 0, 0, 0) := by decide +kernel
theorem k133_102 : look (codL 133) 102 = some (.iinc 3 1, 3, 0, 0, 0) := by decide +kernel
theorem k133_105 : look (codL 133) 105 = some (.goto (-39), 3, 0, 0, 0) := by decide +kernel
theorem k133_108 : look (codL 133) 108 = some (.lload_n 1, 1, 0, 0, 0) := by decide +kernel
theorem k133_109 : look (codL 133) 109 = some (.lreturn, 1, 0, 0, 0) := by decide +kernel
theorem k135_0 : look (codL 135) 0 = some (.aload_n 0, 1, 0, 0, 0) := by decide +kernel
theorem k135_1 : look (codL 135) 1 = some (.getfield 7, 3, 10, 0, 0) := by decide +kernel
theorem k135_4 : look (codL 135) 4 = some (.iconst 0, 1, 0, 0, 0) := by decide +kernel
theorem k135_5 : look (codL 135) 5 = some (.dup2, 1, 0, 0, 0) := by decide +kernel
theorem k135_6 : look (codL 135) 6 = some (.iaload, 1, 0, 0, 0) := by decide +kernel
theorem k135_7 : look (codL 135) 7 = some (.iconst 1, 1, 0, 0, 0) := by decide +kernel
theorem k135_8 : look (codL 135) 8 = some (.iadd, 1, 0, 0, 0) := by decide +kernel
theorem k135_9 : look (codL 135) 9 = some (.iastore, 1, 0, 0, 0) := by decide +kernel
theorem k135_10 : look (codL 135) 10 = some (.sipush (-202), 3, 0, 0, 0) := by decide +kernel
theorem k135_13 : look (codL 135) 13 = some (.ireturn, 1, 0, 0, 0) := by decide +kernel
theorem k136_0 : look (codL 136) 0 = some (.aload_n 0, 1, 0, 0, 0) := by decide +kernel
theorem k136_1 : look (codL 136) 1 = some (.getfield 7, 3, 10, 0, 0) := by decide +kernel
theorem k136_4 : look (codL 136) 4 = some (.iconst 1, 1, 0, 0, 0) := by decide +kernel
theorem k136_5 : look (codL 136) 5 = some (.dup2, 1, 0, 0, 0) := by decide +kernel
theorem k136_6 : look (codL 136) 6 = some (.iaload, 1, 0, 0, 0) := by decide +kernel
theorem k136_7 : look (codL 136) 7 = some (.iconst 1, 1, 0, 0, 0) := by decide +kernel
theorem k136_8 : look (codL 136) 8 = some (.iadd, 1, 0, 0, 0) := by decide +kernel
theorem k136_9 : look (codL 136) 9 = some (.iastore, 1, 0, 0, 0) := by decide +kernel
theorem k136_10 : look (codL 136) 10 = some (.sipush (-203), 3, 0, 0, 0) := by decide +kernel
theorem k136_13 : look (codL 136) 13 = some (.ireturn, 1, 0, 0, 0) := by decide +kernel
theorem k137_0 : look (codL 137) 0 = some (.aload_n 0, 1, 0, 0, 0) := by decide +kernel
theorem k137_1 : look (codL 137) 1 = some (.getfield 7, 3, 10, 0, 0) := by decide +kernel
theorem k137_4 : look (codL 137) 4 = some (.iconst 2, 1, 0, 0, 0) := by decide +kernel
theorem k137_5 : look (codL 137) 5 = some (.dup2, 1, 0, 0, 0) := by decide +kernel
theorem k137_6 : look (codL 137) 6 = some (.iaload, 1, 0, 0, 0) := by decide +kernel
theorem k137_7 : look (codL 137) 7 = some (.iconst 1, 1, 0, 0, 0) := by decide +kernel
theorem k137_8 : look (codL 137) 8 = some (.iadd, 1, 0, 0, 0) := by decide +kernel
theorem k137_9 : look (codL 137) 9 = some (.iastore, 1, 0, 0, 0) := by decide +kernel
theorem k137_10 : look (codL 137) 10 = some (.sipush (-204), 3, 0, 0, 0) := by decide +kernel
theorem k137_13 : look (codL 137) 13 = some (.ireturn, 1, 0, 0, 0) := by decide +kernel
theorem k138_0 : look (codL 138) 0 = some (.iload_n 0, 1, 0, 0, 0) := by decide +kernel
theorem k138_1 : look (codL 138) 1 = some (.iload_n 1, 1, 0, 0, 0) := by decide +kernel
theorem k138_2 : look (codL 138) 2 = some (.if_icmp .lt 12, 3, 0, 0, 0) := by decide +kernel
theorem k138_5 : look (codL 138) 5 = some (.iload_n 0, 1, 0, 0, 0) := by decide +kernel
theorem k138_6 : look (codL 138) 6 = some (.iload_n 2, 1, 0, 0, 0) := by decide +kernel
theorem k138_7 : look (codL 138) 7 = some (.if_icmp .gt 7, 3, 0, 0, 0) := by decide +kernel
theorem k138_10 : look (codL 138) 10 = some (.iconst 1, 1, 0, 0, 0) := by decide +kernel
theorem k138_11 : look (codL 138) 11 = some (.goto 4, 3, 0, 0, 0) := by decide +kernel
theorem k138_14 : look (codL 138) 14 = some (.iconst 0, 1, 0, 0, 0) := by decide +kernel
theorem k138_15 : look (codL 138) 15 = some (.ireturn, 1, 0, 0, 0) := by decide +kernel
theorem k139_0 : look (codL 139) 0 = some (.iload_n 0, 1, 0, 0, 0) := by decide +kernel
theorem k139_1 : look (codL 139) 1 = some (.bipush 10, 2, 0, 0, 0) := by decide +kernel
theorem k139_3 : look (codL 139) 3 = some (.irem, 1, 0, 0, 0) := by decide +kernel
theorem k139_4 : look (codL 139) 4 = some (.ireturn, 1, 0, 0, 0) := by decide +kernel
theorem k140_0 : look (codL 140) 0 = some (.iload_n 0, 1, 0, 0, 0) := by decide +kernel
theorem k140_1 : look (codL 140) 1 = some (.bipush 10, 2, 0, 0, 0) := by decide +kernel
theorem k140_3 : look (codL 140) 3 = some (.idiv, 1, 0, 0, 0) := by decide +kernel
theorem k140_4 : look (codL 140) 4 = some (.ireturn, 1, 0, 0, 0) := by decide +kernel
theorem k141_0 : look (codL 141) 0 = some (.iload_n 0, 1, 0, 0, 0) := by decide +kernel
theorem k141_1 : look (codL 141) 1 = some (.iconst 1, 1, 0, 0, 0) := by decide +kernel
theorem k141_2 : look (codL 141) 2 = some (.if_icmp .eq 13, 3, 0, 0, 0) := by decide +kernel
theorem k141_5 : look (codL 141) 5 = some (.iload_n 0, 1, 0, 0, 0) := by decide +kernel
theorem k141_6 : look (codL 141) 6 = some (.iconst 2, 1, 0, 0, 0) := by decide +kernel
theorem k141_7 : look (codL 141) 7 = some (.if_icmp .eq 8, 3, 0, 0, 0) := by decide +kernel
theorem k141_10 : look (codL 141) 10 = some (.iload_n 0, 1, 0, 0, 0) := by decide +kernel
theorem k141_11 : look (codL 141) 11 = some (.iconst 4, 1, 0, 0, 0) := by decide +kernel
theorem k141_12 : look (codL 141) 12 = some (.if_icmp .ne 7, 3, 0, 0, 0) := by decide +kernel
theorem k141_15 : look (codL 141) 15 = some (.iconst 1, 1, 0, 0, 0) := by decide +kernel
theorem k141_16 : look (codL 141) 16 = some (.goto 4, 3, 0, 0, 0) := by decide +kernel
theorem k141_19 : look (codL 141) 19 = some (.iconst 0, 1, 0, 0, 0) := by decide +kernel
theorem k141_20 : look (codL 141) 20 = some (.ireturn, 1, 0, 0, 0) := by decide +kernel
theorem k142_0 : look (codL 142) 0 = some (.iload_n 0, 1, 0, 0, 0) := by decide +kernel
theorem k142_1 : look (codL 142) 1 = some (.ifCond .le 43, 3, 0, 0, 0) := by decide +kernel
theorem k142_4 : look (codL 142) 4 = some (.iload_n 0, 1, 0, 0, 0) := by decide +kernel
theorem k142_5 : look (codL 142) 5 = some (.invokestatic 71, 3, 139, 1, 0) := by decide +kernel
theorem k142_8 : look (codL 142) 8 = some (.invokestatic 75, 3, 141, 1, 0) := by decide +kernel
theorem k142_11 : look (codL 142) 11 = some (.ifCond .eq 33, 3, 0, 0, 0) := by decide +kernel
theorem k142_14 : look (codL 142) 14 = some (.iload_n 0, 1, 0, 0, 0) := by decide +kernel
theorem k142_15 : look (codL 142) 15 = some (.invokestatic 79, 3, 140, 1, 0) := by decide +kernel
theorem k142_18 : look (codL 142) 18 = some (.iload_n 0, 1, 0, 0, 0) := by decide +kernel
theorem k142_19 : look (codL 142) 19 = some (.invokestatic 71, 3, 139, 1, 0) := by decide +kernel
theorem k142_22 : look (codL 142) 22 = some (.irem, 1, 0, 0, 0) := by decide +kernel
theorem k142_23 : look (codL 142) 23 = some (.ifCond .ne 21, 3, 0, 0, 0) := by decide +kernel
theorem k142_26 : look (codL 142) 26 = some (.iload_n 0, 1, 0, 0, 0) := by decide +kernel
theorem k142_27 : look (codL 142) 27 = some (.invokestatic 79, 3, 140, 1, 0) := by decide +kernel
theorem k142_30 : look (codL 142) 30 = some (.iload_n 0, 1, 0, 0, 0) := by decide +kernel
theorem k142_31 : look (codL 142) 31 = some (.invokestatic 71, 3, 139, 1, 0) := by decide +kernel
theorem k142_34 : look (codL 142) 34 = some (.iadd, 1, 0, 0, 0) := by decide +kernel
theorem k142_35 : look (codL 142) 35 = some (.bipush 32, 2, 0, 0, 0) := by decide +kernel
theorem k142_37 : look (codL 142) 37 = some (.if_icmp .gt 7, 3, 0, 0, 0) := by decide +kernel
theorem k142_40 : look (codL 142) 40 = some (.iconst 1, 1, 0, 0, 0) := by decide +kernel
theorem k142_41 : look (codL 142) 41 = some (.goto 4, 3, 0, 0, 0) := by decide +kernel
theorem k142_44 : look (codL 142) 44 = some (.iconst 0, 1, 0, 0, 0) := by decide +kernel
theorem k142_45 : look (codL 142) 45 = some (.ireturn, 1, 0, 0, 0) := by decide +kernel
theorem k143_0 : look (codL 143) 0 = some (.iload_n 0, 1, 0, 0, 0) := by decide +kernel
theorem k143_1 : look (codL 143) 1 = some (.invokestatic 79, 3, 140, 1, 0) := by decide +kernel
theorem k143_4 : look (codL 143) 4 = some (.iload_n 1, 1, 0, 0, 0) := by decide +kernel
theorem k143_5 : look (codL 143) 5 = some (.invokestatic 79, 3, 140, 1, 0) := by decide +kernel
theorem k143_8 : look (codL 143) 8 = some (.iload_n 1, 1, 0, 0, 0) := by decide +kernel
theorem k143_9 : look (codL 143) 9 = some (.invokestatic 71, 3, 139, 1, 0) := by decide +kernel
theorem k143_12 : look (codL 143) 12 = some (.iadd, 1, 0, 0, 0) := by decide +kernel
theorem k143_13 : look (codL 143) 13 = some (.if_icmp .ge 23, 3, 0, 0, 0) := by decide +kernel
theorem k143_16 : look (codL 143) 16 = some (.iload_n 1, 1, 0, 0, 0) := by decide +kernel
theorem k143_17 : look (codL 143) 17 = some (.invokestatic 79, 3, 140, 1, 0) := by decide +kernel
theorem k143_20 : look (codL 143) 20 = some (.iload_n 0, 1, 0, 0, 0) := by decide +kernel
theorem k143_21 : look (codL 143) 21 = some (.invokestatic 79, 3, 140, 1, 0) := by decide +kernel
theorem k143_24 : look (codL 143) 24 = some (.iload_n 0, 1, 0, 0, 0) := by decide +kernel
theorem k143_25 : look (codL 143) 25 = some (.invokestatic 71, 3, 139, 1, 0) := by decide +kernel
theorem k143_28 : look (codL 143) 28 = some (.iadd, 1, 0, 0, 0) := by decide +kernel
theorem k143_29 : look (codL 143) 29 = some (.if_icmp .ge 7, 3, 0, 0, 0) := by decide +kernel
theorem k143_32 : look (codL 143) 32 = some (.iconst 1, 1, 0, 0, 0) := by decide +kernel
theorem k143_33 : look (codL 143) 33 = some (.goto 4, 3, 0, 0, 0) := by decide +kernel
theorem k143_36 : look (codL 143) 36 = some (.iconst 0, 1, 0, 0, 0) := by decide +kernel
theorem k143_37 : look (codL 143) 37 = some (.ireturn, 1, 0, 0, 0) := by decide +kernel
theorem k144_0 : look (codL 144) 0 = some (.iload_n 0, 1, 0, 0, 0) := by decide +kernel
theorem k144_1 : look (codL 144) 1 = some (.iload_n 1, 1, 0, 0, 0) := by decide +kernel
theorem k144_2 : look (codL 144) 2 = some (.if_icmp .eq 15, 3, 0, 0, 0) := by decide +kernel
theorem k144_5 : look (codL 144) 5 = some (.iload_n 0, 1, 0, 0, 0) := by decide +kernel
theorem k144_6 : look (codL 144) 6 = some (.iload_n 1, 1, 0, 0, 0) := by decide +kernel
theorem k144_7 : look (codL 144) 7 = some (.invokestatic 82, 3, 143, 2, 0) := by decide +kernel
theorem k144_10 : look (codL 144) 10 = some (.ifCond .eq 7, 3, 0, 0, 0) := by decide +kernel
theorem k144_13 : look (codL 144) 13 = some (.iconst 1, 1, 0, 0, 0) := by decide +kernel
theorem k144_14 : look (codL 144) 14 = some (.goto 4, 3, 0, 0, 0) := by decide +kernel
theorem k144_17 : look (codL 144) 17 = some (.iconst 0, 1, 0, 0, 0) := by decide +kernel
theorem k144_18 : look (codL 144) 18 = some (.ireturn, 1, 0, 0, 0) := by decide +kernel
theorem k145_0 : look (codL 145) 0 = some (.iload_n 1, 1, 0, 0, 0) := by decide +kernel
theorem k145_1 : look (codL 145) 1 = some (.iconst 0, 1, 0, 0, 0) := by decide +kernel
theorem k145_2 : look (codL 145) 2 = some (.aload_n 0, 1, 0, 0, 0) := by decide +kernel
theorem k145_3 : look (codL 145) 3 = some (.getfield 86, 3, 10, 1, 0) := by decide +kernel
theorem k145_6 : look (codL 145) 6 = some (.iconst 1, 1, 0, 0, 0) := by decide +kernel
theorem k145_7 : look (codL 145) 7 = some (.isub, 1, 0, 0, 0) := by decide +kernel
theorem k145_8 : look (codL 145) 8 = some (.invokestatic 90, 3, 138, 3, 0) := by decide +kernel
theorem k145_11 : look (codL 145) 11 = some (.ireturn, 1, 0, 0, 0) := by decide +kernel
theorem k146_0 : look (codL 146) 0 = some (.iload_n 1, 1, 0, 0, 0) := by decide +kernel
theorem k146_1 : look (codL 146) 1 = some (.iconst 0, 1, 0, 0, 0) := by decide +kernel
theorem k146_2 : look (codL 146) 2 = some (.aload_n 0, 1, 0, 0, 0) := by decide +kernel
theorem k146_3 : look (codL 146) 3 = some (.getfield 94, 3, 10, 2, 0) := by decide +kernel
theorem k146_6 : look (codL 146) 6 = some (.iconst 1, 1, 0, 0, 0) := by decide +kernel
theorem k146_7 : look (codL 146) 7 = some (.isub, 1, 0, 0, 0) := by decide +kernel
theorem k146_8 : look (codL 146) 8 = some (.invokestatic 90, 3, 138, 3, 0) := by decide +kernel
theorem k146_11 : look (codL 146) 11 = some (.ireturn, 1, 0, 0, 0) := by decide +kernel
theorem k147_0 : look (codL 147) 0 = some (.aload_n 0, 1, 0, 0, 0) := by decide +kernel
theorem k147_1 : look (codL 147) 1 = some (.getfield 16, 3, 10, 5, 0) := by decide +kernel
theorem k147_4 : look (codL 147) 4 = some (.bipush 6, 2, 0, 0, 0) := by decide +kernel
theorem k147_6 : look (codL 147) 6 = some (.aload_n 0, 1, 0, 0, 0) := by decide +kernel
theorem k147_7 : look (codL 147) 7 = some (.getfield 22, 3, 10, 7, 0) := by decide +kernel
theorem k147_10 : look (codL 147) 10 = some (.iload_n 1, 1, 0, 0, 0) := by decide +kernel
theorem k147_11 : look (codL 147) 11 = some (.iaload, 1, 0, 0, 0) := by decide +kernel
theorem k147_12 : look (codL 147) 12 = some (.imul, 1, 0, 0, 0) := by decide +kernel
theorem k147_13 : look (codL 147) 13 = some (.iload_n 2, 1, 0, 0, 0) := by decide +kernel
theorem k147_14 : look (codL 147) 14 = some (.iadd, 1, 0, 0, 0) := by decide +kernel
theorem k147_15 : look (codL 147) 15 = some (.iaload, 1, 0, 0, 0) := by decide +kernel
theorem k147_16 : look (codL 147) 16 = some (.ireturn, 1, 0, 0, 0) := by decide +kernel
theorem k148_0 : look (codL 148) 0 = some (.aload_n 0, 1, 0, 0, 0) := by decide +kernel
theorem k148_1 : look (codL 148) 1 = some (.getfield 13, 3, 10, 4, 0) := by decide +kernel
theorem k148_4 : look (codL 148) 4 = some (.aload_n 0, 1, 0, 0, 0) := by decide +kernel
theorem k148_5 : look (codL 148) 5 = some (.getfield 22, 3, 10, 7, 0) := by decide +kernel
theorem k148_8 : look (codL 148) 8 = some (.iload_n 1, 1, 0, 0, 0) := by decide +kernel
theorem k148_9 : look (codL 148) 9 = some (.iaload, 1, 0, 0, 0) := by decide +kernel
theorem k148_10 : look (codL 148) 10 = some (.iaload, 1, 0, 0, 0) := by decide +kernel
theorem k148_11 : look (codL 148) 11 = some (.ireturn, 1, 0, 0, 0) := by decide +kernel
theorem k149_0 : look (codL 149) 0 = some (.aload_n 0, 1, 0, 0, 0) := by decide +kernel
theorem k149_1 : look (codL 149) 1 = some (.getfield 28, 3, 10, 9, 0) := by decide +kernel
theorem k149_4 : look (codL 149) 4 = some (.bipush 6, 2, 0, 0, 0) := by decide +kernel
theorem k149_6 : look (codL 149) 6 = some (.iload_n 1, 1, 0, 0, 0) := by decide +kernel
theorem k149_7 : look (codL 149) 7 = some (.imul, 1, 0, 0, 0) := by decide +kernel
theorem k149_8 : look (codL 149) 8 = some (.iload_n 2, 1, 0, 0, 0) := by decide +kernel
theorem k149_9 : look (codL 149) 9 = some (.iadd, 1, 0, 0, 0) := by decide +kernel
theorem k149_10 : look (codL 149) 10 = some (.iaload, 1, 0, 0, 0) := by decide +kernel
theorem k149_11 : look (codL 149) 11 = some (.ireturn, 1, 0, 0, 0) := by decide +kernel
theorem k150_0 : look (codL 150) 0 = some (.aload_n 0, 1, 0, 0, 0) := by decide +kernel
theorem k150_1 : look (codL 150) 1 = some (.getfield 94, 3, 10, 2, 0) := by decide +kernel
theorem k150_4 : look (codL 150) 4 = some (.istore_n 1, 1, 0, 0, 0) := by decide +kernel
theorem k150_5 : look (codL 150) 5 = some (.aload_n 0, 1, 0, 0, 0) := by decide +kernel
theorem k150_6 : look (codL 150) 6 = some (.iconst 0, 1, 0, 0, 0) := by decide +kernel
theorem k150_7 : look (codL 150) 7 = some (.putfield 86, 3, 10, 1, 0) := by decide +kernel
theorem k150_10 : look (codL 150) 10 = some (.aload_n 0, 1, 0, 0, 0) := by decide +kernel
theorem k150_11 : look (codL 150) 11 = some (.iconst 0, 1, 0, 0, 0) := by decide +kernel
theorem k150_12 : look (codL 150) 12 = some (.putfield 94, 3, 10, 2, 0) := by decide +kernel
theorem k150_15 : look (codL 150) 15 = some (.iload_n 1, 1, 0, 0, 0) := by decide +kernel
theorem k150_16 : look (codL 150) 16 = some (.ireturn, 1, 0, 0, 0) := by decide +kernel
theorem k151_0 : look (codL 151) 0 = some (.aload_n 0, 1, 0, 0, 0) := by decide +kernel
theorem k151_1 : look (codL 151) 1 = some (.getfield 13, 3, 10, 4, 0) := by decide +kernel
theorem k151_4 : look (codL 151) 4 = some (.aload_n 0, 1, 0, 0, 0) := by decide +kernel
theorem k151_5 : look (codL 151) 5 = some (.getfield 86, 3, 10, 1, 0) := by decide +kernel
theorem k151_8 : look (codL 151) 8 = some (.iconst 0, 1, 0, 0, 0) := by decide +kernel
theorem k151_9 : look (codL 151) 9 = some (.iastore, 1, 0, 0, 0) := by decide +kernel
theorem k151_10 : look (codL 151) 10 = some (.aload_n 0, 1, 0, 0, 0) := by decide +kernel
theorem k151_11 : look (codL 151) 11 = some (.dup, 1, 0, 0, 0) := by decide +kernel
theorem k151_12 : look (codL 151) 12 = some (.getfield 86, 3, 10, 1, 0) := by decide +kernel
theorem k151_15 : look (codL 151) 15 = some (.iconst 1, 1, 0, 0, 0) := by decide +kernel
theorem k151_16 : look (codL 151) 16 = some (.iadd, 1, 0, 0, 0) := by decide +kernel
theorem k151_17 : look (codL 151) 17 = some (.putfield 86, 3, 10, 1, 0) := by decide +kernel
theorem k151_20 : look (codL 151) 20 = some (.aload_n 0, 1, 0, 0, 0) := by decide +kernel
theorem k151_21 : look (codL 151) 21 = some (.getfield 86, 3, 10, 1, 0) := by decide +kernel
theorem k151_24 : look (codL 151) 24 = some (.iconst 1, 1, 0, 0, 0) := by decide +kernel
theorem k151_25 : look (codL 151) 25 = some (.isub, 1, 0, 0, 0) := by decide +kernel
theorem k151_26 : look (codL 151) 26 = some (.ireturn, 1, 0, 0, 0) := by decide +kernel
theorem k152_0 : look (codL 152) 0 = some (.aload_n 0, 1, 0, 0, 0) := by decide +kernel
theorem k152_1 : look (codL 152) 1 = some (.getfield 86, 3, 10, 1, 0) := by decide +kernel
theorem k152_4 : look (codL 152) 4 = some (.bipush 10, 2, 0, 0, 0) := by decide +kernel
theorem k152_6 : look (codL 152) 6 = some (.if_icmp .ne 10, 3, 0, 0, 0) := by decide +kernel
theorem k152_9 : look (codL 152) 9 = some (.aload_n 0, 1, 0, 0, 0) := by decide +kernel
theorem k152_10 : look (codL 152) 10 = some (.invokevirtual 97, 3, 137, 1, 0) := by decide +kernel
theorem k152_13 : look (codL 152) 13 = some (.goto 7, 3, 0, 0, 0) := by decide +kernel
theorem k152_16 : look (codL 152) 16 = some (.aload_n 0, 1, 0, 0, 0) := by decide +kernel
theorem k152_17 : look (codL 152) 17 = some (.invokevirtual 101, 3, 151, 1, 0) := by decide +kernel
theorem k152_20 : look (codL 152) 20 = some (.ireturn, 1, 0, 0, 0) := by decide +kernel
theorem k153_0 : look (codL 153) 0 = some (.iconst 0, 1, 0, 0, 0) := by decide +kernel
theorem k153_1 : look (codL 153) 1 = some (.istore_n 3, 1, 0, 0, 0) := by decide +kernel
theorem k153_2 : look (codL 153) 2 = some (.iconst 0, 1, 0, 0, 0) := by decide +kernel
theorem k153_3 : look (codL 153) 3 = some (.istore 4, 2, 0, 0, 0) := by decide +kernel
theorem k153_5 : look (codL 153) 5 = some (.iload 4, 2, 0, 0, 0) := by decide +kernel
theorem k153_7 : look (codL 153) 7 = some (.aload_n 0, 1, 0, 0, 0) := by decide +kernel
theorem k153_8 : look (codL 153) 8 = some (.getfield 13, 3, 10, 4, 0) := by decide +kernel
theorem k153_11 : look (codL 153) 11 = some (.iload_n 1, 1, 0, 0, 0) := by decide +kernel
theorem k153_12 : look (codL 153) 12 = some (.iaload, 1, 0, 0, 0) := by decide +kernel
theorem k153_13 : look (codL 153) 13 = some (.if_icmp .ge 38, 3, 0, 0, 0) := by decide +kernel
theorem k153_16 : look (codL 153) 16 = some (.iload_n 3, 1, 0, 0, 0) := by decide +kernel
theorem k153_17 : look (codL 153) 17 = some (.ifCond .ne 22, 3, 0, 0, 0) := by decide +kernel
theorem k153_20 : look (codL 153) 20 = some (.aload_n 0, 1, 0, 0, 0) := by decide +kernel
theorem k153_21 : look (codL 153) 21 = some (.getfield 16, 3, 10, 5, 0) := by decide +kernel
theorem k153_24 : look (codL 153) 24 = some (.bipush 6, 2, 0, 0, 0) := by decide +kernel
theorem k153_26 : look (codL 153) 26 = some (.iload_n 1, 1, 0, 0, 0) := by decide +kernel
theorem k153_27 : look (codL 153) 27 = some (.imul, 1, 0, 0, 0) := by decide +kernel
theorem k153_28 : look (codL 153) 28 = some (.iload 4, 2, 0, 0, 0) := by decide +kernel
theorem k153_30 : look (codL 153) 30 = some (.iadd, 1, 0, 0, 0) := by decide +kernel
theorem k153_31 : look (codL 153) 31 = some (.iaload, 1, 0, 0, 0) := by decide +kernel
theorem k153_32 : look (codL 153) 32 = some (.iload_n 2, 1, 0, 0, 0) := by decide +kernel
theorem k153_33 : look (codL 153) 33 = some (.invokestatic 82, 3, 143, 2, 0) := by decide +kernel
theorem k153_36 : look (codL 153) 36 = some (.ifCond .eq 7, 3, 0, 0, 0) := by decide +kernel
theorem k153_39 : look (codL 153) 39 = some (.iconst 1, 1, 0, 0, 0) := by decide +kernel
theorem k153_40 : look (codL 153) 40 = some (.goto 4, 3, 0, 0, 0) := by decide +kernel
theorem k153_43 : look (codL 153) 43 = some (.iconst 0, 1, 0, 0, 0) := by decide +kernel
theorem k153_44 : look (codL 153) 44 = some (.istore_n 3, 1, 0, 0, 0) := by decide +kernel
theorem k153_45 : look (codL 153) 45 = some (.iinc 4 1, 3, 0, 0, 0) := by decide +kernel
theorem k153_48 : look (codL 153) 48 = some (.goto (-43), 3, 0, 0, 0) := by decide +kernel
theorem k153_51 : look (codL 153) 51 = some (.iload_n 3, 1, 0, 0, 0) := by decide +kernel
theorem k153_52 : look (codL 153) 52 = some (.ireturn, 1, 0, 0, 0) := by decide +kernel
theorem k154_0 : look (codL 154) 0 = some (.aload_n 0, 1, 0, 0, 0) := by decide +kernel
theorem k154_1 : look (codL 154) 1 = some (.getfield 13, 3, 10, 4, 0) := by decide +kernel
theorem k154_4 : look (codL 154) 4 = some (.iload_n 1, 1, 0, 0, 0) := by decide +kernel
theorem k154_5 : look (codL 154) 5 = some (.iaload, 1, 0, 0, 0) := by decide +kernel
theorem k154_6 : look (codL 154) 6 = some (.istore_n 3, 1, 0, 0, 0) := by decide +kernel
theorem k154_7 : look (codL 154) 7 = some (.aload_n 0, 1, 0, 0, 0) := by decide +kernel
theorem k154_8 : look (codL 154) 8 = some (.getfield 16, 3, 10, 5, 0) := by decide +kernel
theorem k154_11 : look (codL 154) 11 = some (.bipush 6, 2, 0, 0, 0) := by decide +kernel
theorem k154_13 : look (codL 154) 13 = some (.iload_n 1, 1, 0, 0, 0) := by decide +kernel
theorem k154_14 : look (codL 154) 14 = some (.imul, 1, 0, 0, 0) := by decide +kernel
theorem k154_15 : look (codL 154) 15 = some (.iload_n 3, 1, 0, 0, 0) := by decide +kernel
theorem k154_16 : look (codL 154) 16 = some (.iadd, 1, 0, 0, 0) := by decide +kernel
theorem k154_17 : look (codL 154) 17 = some (.iload_n 2, 1, 0, 0, 0) := by decide +kernel
theorem k154_18 : look (codL 154) 18 = some (.iastore, 1, 0, 0, 0) := by decide +kernel
theorem k154_19 : look (codL 154) 19 = some (.aload_n 0, 1, 0, 0, 0) := by decide +kernel
theorem k154_20 : look (codL 154) 20 = some (.getfield 13, 3, 10, 4, 0) := by decide +kernel
theorem k154_23 : look (codL 154) 23 = some (.iload_n 1, 1, 0, 0, 0) := by decide +kernel
theorem k154_24 : look (codL 154) 24 = some (.dup2, 1, 0, 0, 0) := by decide +kernel
theorem k154_25 : look (codL 154) 25 = some (.iaload, 1, 0, 0, 0) := by decide +kernel
theorem k154_26 : look (codL 154) 26 = some (.iconst 1, 1, 0, 0, 0) := by decide +kernel
theorem k154_27 : look (codL 154) 27 = some (.iadd, 1, 0, 0, 0) := by decide +kernel
theorem k154_28 : look (codL 154) 28 = some (.iastore, 1, 0, 0, 0) := by decide +kernel
theorem k154_29 : look (codL 154) 29 = some (.iconst 0, 1, 0, 0, 0) := by decide +kernel
theorem k154_30 : look (codL 154) 30 = some (.istore 4, 2, 0, 0, 0) := by decide +kernel
theorem k154_32 : look (codL 154) 32 = some (.iload 4, 2, 0, 0, 0) := by decide +kernel
theorem k154_34 : look (codL 154) 34 = some (.aload_n 0, 1, 0, 0, 0) := by decide +kernel
theorem k154_35 : look (codL 154) 35 = some (.getfield 94, 3, 10, 2, 0) := by decide +kernel
theorem k154_38 : look (codL 154) 38 = some (.if_icmp .ge 33, 3, 0, 0, 0) := by decide +kernel
theorem k154_41 : look (codL 154) 41 = some (.aload_n 0, 1, 0, 0, 0) := by decide +kernel
theorem k154_42 : look (codL 154) 42 = some (.getfield 22, 3, 10, 7, 0) := by decide +kernel
theorem k154_45 : look (codL 154) 45 = some (.iload 4, 2, 0, 0, 0) := by decide +kernel
theorem k154_47 : look (codL 154) 47 = some (.iaload, 1, 0, 0, 0) := by decide +kernel
theorem k154_48 : look (codL 154) 48 = some (.iload_n 1, 1, 0, 0, 0) := by decide +kernel
theorem k154_49 : look (codL 154) 49 = some (.if_icmp .ne 16, 3, 0, 0, 0) := by decide +kernel
theorem k154_52 : look (codL 154) 52 = some (.aload_n 0, 1, 0, 0, 0) := by decide +kernel
theorem k154_53 : look (codL 154) 53 = some (.getfield 28, 3, 10, 9, 0) := by decide +kernel
theorem k154_56 : look (codL 154) 56 = some (.bipush 6, 2, 0, 0, 0) := by decide +kernel
theorem k154_58 : look (codL 154) 58 = some (.iload 4, 2, 0, 0, 0) := by decide +kernel
theorem k154_60 : look (codL 154) 60 = some (.imul, 1, 0, 0, 0) := by decide +kernel
theorem k154_61 : look (codL 154) 61 = some (.iload_n 3, 1, 0, 0, 0) := by decide +kernel
theorem k154_62 : look (codL 154) 62 = some (.iadd, 1, 0, 0, 0) := by decide +kernel
theorem k154_63 : look (codL 154) 63 = some (.iload_n 2, 1, 0, 0, 0) := by decide +kernel
theorem k154_64 : look (codL 154) 64 = some (.iastore, 1, 0, 0, 0) := by decide +kernel
theorem k154_65 : look (codL 154) 65 = some (.iinc 4 1, 3, 0, 0, 0) := by decide +kernel
theorem k154_68 : look (codL 154) 68 = some (.goto (-36), 3, 0, 0, 0) := by decide +kernel
theorem k154_71 : look (codL 154) 71 = some (.iload_n 3, 1, 0, 0, 0) := by decide +kernel
theorem k154_72 : look (codL 154) 72 = some (.ireturn, 1, 0, 0, 0) := by decide +kernel
theorem k155_0 : look (codL 155) 0 = some (.aload_n 0, 1, 0, 0, 0) := by decide +kernel
theorem k155_1 : look (codL 155) 1 = some (.iload_n 1, 1, 0, 0, 0) := by decide +kernel
theorem k155_2 : look (codL 155) 2 = some (.invokevirtual 104, 3, 145, 2, 0) := by decide +kernel
theorem k155_5 : look (codL 155) 5 = some (.ifCond .eq 10, 3, 0, 0, 0) := by decide +kernel
theorem k155_8 : look (codL 155) 8 = some (.iload_n 2, 1, 0, 0, 0) := by decide +kernel
theorem k155_9 : look (codL 155) 9 = some (.invokestatic 107, 3, 142, 1, 0) := by decide +kernel
theorem k155_12 : look (codL 155) 12 = some (.ifCond .ne 8, 3, 0, 0, 0) := by decide +kernel
theorem k155_15 : look (codL 155) 15 = some (.aload_n 0, 1, 0, 0, 0) := by decide +kernel
theorem k155_16 : look (codL 155) 16 = some (.invokevirtual 110, 3, 135, 1, 0) := by decide +kernel
theorem k155_19 : look (codL 155) 19 = some (.ireturn, 1, 0, 0, 0) := by decide +kernel
theorem k155_20 : look (codL 155) 20 = some (.aload_n 0, 1, 0, 0, 0) := by decide +kernel
theorem k155_21 : look (codL 155) 21 = some (.iload_n 1, 1, 0, 0, 0) := by decide +kernel
theorem k155_22 : look (codL 155) 22 = some (.iload_n 2, 1, 0, 0, 0) := by decide +kernel
theorem k155_23 : look (codL 155) 23 = some (.invokevirtual 113, 3, 153, 3, 0) := by decide +kernel
theorem k155_26 : look (codL 155) 26 = some (.ifCond .eq 8, 3, 0, 0, 0) := by decide +kernel
theorem k155_29 : look (codL 155) 29 = some (.aload_n 0, 1, 0, 0, 0) := by decide +kernel
theorem k155_30 : look (codL 155) 30 = some (.invokevirtual 116, 3, 136, 1, 0) := by decide +kernel
theorem k155_33 : look (codL 155) 33 = some (.ireturn, 1, 0, 0, 0) := by decide +kernel
theorem k155_34 : look (codL 155) 34 = some (.aload_n 0, 1, 0, 0, 0) := by decide +kernel
theorem k155_35 : look (codL 155) 35 = some (.getfield 13, 3, 10, 4, 0) := by decide +kernel
theorem k155_38 : look (codL 155) 38 = some (.iload_n 1, 1, 0, 0, 0) := by decide +kernel
theorem k155_39 : look (codL 155) 39 = some (.iaload, 1, 0, 0, 0) := by decide +kernel
theorem k155_40 : look (codL 155) 40 = some (.bipush 6, 2, 0, 0, 0) := by decide +kernel
theorem k155_42 : look (codL 155) 42 = some (.if_icmp .ne 10, 3, 0, 0, 0) := by decide +kernel
theorem k155_45 : look (codL 155) 45 = some (.aload_n 0, 1, 0, 0, 0) := by decide +kernel
theorem k155_46 : look (codL 155) 46 = some (.invokevirtual 97, 3, 137, 1, 0) := by decide +kernel
theorem k155_49 : look (codL 155) 49 = some (.goto 9, 3, 0, 0, 0) := by decide +kernel
theorem k155_52 : look (codL 155) 52 = some (.aload_n 0, 1, 0, 0, 0) := by decide +kernel
theorem k155_53 : look (codL 155) 53 = some (.iload_n 1, 1, 0, 0, 0) := by decide +kernel
theorem k155_54 : look (codL 155) 54 = some (.iload_n 2, 1, 0, 0, 0) := by decide +kernel
theorem k155_55 : look (codL 155) 55 = some (.invokevirtual 119, 3, 154, 3, 0) := by decide +kernel
theorem k155_58 : look (codL 155) 58 = some (.ireturn, 1, 0, 0, 0) := by decide +kernel
theorem k156_0 : look (codL 156) 0 = some (.aload_n 0, 1, 0, 0, 0) := by decide +kernel
theorem k156_1 : look (codL 156) 1 = some (.getfield 94, 3, 10, 2, 0) := by decide +kernel
theorem k156_4 : look (codL 156) 4 = some (.istore 4, 2, 0, 0, 0) := by decide +kernel
theorem k156_6 : look (codL 156) 6 = some (.aload_n 0, 1, 0, 0, 0) := by decide +kernel
theorem k156_7 : look (codL 156) 7 = some (.getfield 19, 3, 10, 6, 0) := by decide +kernel
theorem k156_10 : look (codL 156) 10 = some (.iload 4, 2, 0, 0, 0) := by decide +kernel
theorem k156_12 : look (codL 156) 12 = some (.iload_n 1, 1, 0, 0, 0) := by decide +kernel
theorem k156_13 : look (codL 156) 13 = some (.iastore, 1, 0, 0, 0) := by decide +kernel
theorem k156_14 : look (codL 156) 14 = some (.aload_n 0, 1, 0, 0, 0) := by decide +kernel
theorem k156_15 : look (codL 156) 15 = some (.getfield 22, 3, 10, 7, 0) := by decide +kernel
theorem k156_18 : look (codL 156) 18 = some (.iload 4, 2, 0, 0, 0) := by decide +kernel
theorem k156_20 : look (codL 156) 20 = some (.iload_n 2, 1, 0, 0, 0) := by decide +kernel
theorem k156_21 : look (codL 156) 21 = some (.iastore, 1, 0, 0, 0) := by decide +kernel
theorem k156_22 : look (codL 156) 22 = some (.aload_n 0, 1, 0, 0, 0) := by decide +kernel
theorem k156_23 : look (codL 156) 23 = some (.getfield 25, 3, 10, 8, 0) := by decide +kernel
theorem k156_26 : look (codL 156) 26 = some (.iload 4, 2, 0, 0, 0) := by decide +kernel
theorem k156_28 : look (codL 156) 28 = some (.iload_n 3, 1, 0, 0, 0) := by decide +kernel
theorem k156_29 : look (codL 156) 29 = some (.iastore, 1, 0, 0, 0) := by decide +kernel
theorem k156_30 : look (codL 156) 30 = some (.iconst 0, 1, 0, 0, 0) := by decide +kernel
theorem k156_31 : look (codL 156) 31 = some (.istore 5, 2, 0, 0, 0) := by decide +kernel
theorem k156_33 : look (codL 156) 33 = some (.iload 5, 2, 0, 0, 0) := by decide +kernel
theorem k156_35 : look (codL 156) 35 = some (.aload_n 0, 1, 0, 0, 0) := by decide +kernel
theorem k156_36 : look (codL 156) 36 = some (.getfield 13, 3, 10, 4, 0) := by decide +kernel
theorem k156_39 : look (codL 156) 39 = some (.iload_n 2, 1, 0, 0, 0) := by decide +kernel
