theorem dX12_wind_29 : decode cX12_wind 29 = .ok (.invokevirtual 76, 3) := by decide +kernel
theorem dX12_wind_32 : decode cX12_wind 32 = .ok (.ireturn, 1) := by decide +kernel
theorem dX12_wind_33 : decode cX12_wind 33 = .ok (.aload_n 0, 1) := by decide +kernel
theorem dX12_wind_34 : decode cX12_wind 34 = .ok (.getfield 7, 3) := by decide +kernel
theorem dX12_wind_37 : decode cX12_wind 37 = .ok (.bipush 21, 2) := by decide +kernel
theorem dX12_wind_39 : decode cX12_wind 39 = .ok (.iload_n 1, 1) := by decide +kernel
theorem dX12_wind_40 : decode cX12_wind 40 = .ok (.iadd, 1) := by decide +kernel
theorem dX12_wind_41 : decode cX12_wind 41 = .ok (.iaload, 1) := by decide +kernel
theorem dX12_wind_42 : decode cX12_wind 42 = .ok (.istore_n 3, 1) := by decide +kernel
theorem dX12_wind_43 : decode cX12_wind 43 = .ok (.aload_n 0, 1) := by decide +kernel
theorem dX12_wind_44 : decode cX12_wind 44 = .ok (.getfield 7, 3) := by decide +kernel
theorem dX12_wind_47 : decode cX12_wind 47 = .ok (.bipush 21, 2) := by decide +kernel
theorem dX12_wind_49 : decode cX12_wind 49 = .ok (.iload_n 1, 1) := by decide +kernel
theorem dX12_wind_50 : decode cX12_wind 50 = .ok (.iadd, 1) := by decide +kernel
theorem dX12_wind_51 : decode cX12_wind 51 = .ok (.iload_n 2, 1) := by decide +kernel
theorem dX12_wind_52 : decode cX12_wind 52 = .ok (.iastore, 1) := by decide +kernel
theorem dX12_wind_53 : decode cX12_wind 53 = .ok (.iload_n 3, 1) := by decide +kernel
theorem dX12_wind_54 : decode cX12_wind 54 = .ok (.ireturn, 1) := by decide +kernel
theorem dX12_layHead_0 : decode cX12_layHead 0 = .ok (.aload_n 0, 1) := by decide +kernel
theorem dX12_layHead_1 : decode cX12_layHead 1 = .ok (.bipush 27, 2) := by decide +kernel
theorem dX12_layHead_3 : decode cX12_layHead 3 = .ok (.iconst 2, 1) := by decide +kernel
theorem dX12_layHead_4 : decode cX12_layHead 4 = .ok (.aload_n 0, 1) := by decide +kernel
theorem dX12_layHead_5 : decode cX12_layHead 5 = .ok (.iconst 2, 1) := by decide +kernel
theorem dX12_layHead_6 : decode cX12_layHead 6 = .ok (.iaload, 1) := by decide +kernel
theorem dX12_layHead_7 : decode cX12_layHead 7 = .ok (.imul, 1) := by decide +kernel
theorem dX12_layHead_8 : decode cX12_layHead 8 = .ok (.iadd, 1) := by decide +kernel
theorem dX12_layHead_9 : decode cX12_layHead 9 = .ok (.iload_n 1, 1) := by decide +kernel
theorem dX12_layHead_10 : decode cX12_layHead 10 = .ok (.iastore, 1) := by decide +kernel
theorem dX12_layHead_11 : decode cX12_layHead 11 = .ok (.aload_n 0, 1) := by decide +kernel
theorem dX12_layHead_12 : decode cX12_layHead 12 = .ok (.bipush 27, 2) := by decide +kernel
theorem dX12_layHead_14 : decode cX12_layHead 14 = .ok (.iconst 2, 1) := by decide +kernel
theorem dX12_layHead_15 : decode cX12_layHead 15 = .ok (.aload_n 0, 1) := by decide +kernel
theorem dX12_layHead_16 : decode cX12_layHead 16 = .ok (.iconst 2, 1) := by decide +kernel
theorem dX12_layHead_17 : decode cX12_layHead 17 = .ok (.iaload, 1) := by decide +kernel
theorem dX12_layHead_18 : decode cX12_layHead 18 = .ok (.imul, 1) := by decide +kernel
theorem dX12_layHead_19 : decode cX12_layHead 19 = .ok (.iadd, 1) := by decide +kernel
theorem dX12_layHead_20 : decode cX12_layHead 20 = .ok (.iconst 1, 1) := by decide +kernel
theorem dX12_layHead_21 : decode cX12_layHead 21 = .ok (.iadd, 1) := by decide +kernel
theorem dX12_layHead_22 : decode cX12_layHead 22 = .ok (.iload_n 2, 1) := by decide +kernel
theorem dX12_layHead_23 : decode cX12_layHead 23 = .ok (.iastore, 1) := by decide +kernel
theorem dX12_layHead_24 : decode cX12_layHead 24 = .ok (.aload_n 0, 1) := by decide +kernel
theorem dX12_layHead_25 : decode cX12_layHead 25 = .ok (.iconst 2, 1) := by decide +kernel
theorem dX12_layHead_26 : decode cX12_layHead 26 = .ok (.dup2, 1) := by decide +kernel
theorem dX12_layHead_27 : decode cX12_layHead 27 = .ok (.iaload, 1) := by decide +kernel
theorem dX12_layHead_28 : decode cX12_layHead 28 = .ok (.iconst 1, 1) := by decide +kernel
theorem dX12_layHead_29 : decode cX12_layHead 29 = .ok (.iadd, 1) := by decide +kernel
theorem dX12_layHead_30 : decode cX12_layHead 30 = .ok (.iastore, 1) := by decide +kernel
theorem dX12_layHead_31 : decode cX12_layHead 31 = .ok (.return_, 1) := by decide +kernel
theorem dX12_head_0 : decode cX12_head 0 = .ok (.iload_n 1, 1) := by decide +kernel
theorem dX12_head_1 : decode cX12_head 1 = .ok (.i2l, 1) := by decide +kernel
theorem dX12_head_2 : decode cX12_head 2 = .ok (.lconst 0, 1) := by decide +kernel
theorem dX12_head_3 : decode cX12_head 3 = .ok (.ldc2_w 64, 3) := by decide +kernel
theorem dX12_head_6 : decode cX12_head 6 = .ok (.invokestatic 56, 3) := by decide +kernel
theorem dX12_head_9 : decode cX12_head 9 = .ok (.ifCond .eq 17, 3) := by decide +kernel
theorem dX12_head_12 : decode cX12_head 12 = .ok (.iload_n 2, 1) := by decide +kernel
theorem dX12_head_13 : decode cX12_head 13 = .ok (.i2l, 1) := by decide +kernel
theorem dX12_head_14 : decode cX12_head 14 = .ok (.ldc2_w 90, 3) := by decide +kernel
theorem dX12_head_17 : decode cX12_head 17 = .ok (.ldc2_w 70, 3) := by decide +kernel
theorem dX12_head_20 : decode cX12_head 20 = .ok (.invokestatic 56, 3) := by decide +kernel
theorem dX12_head_23 : decode cX12_head 23 = .ok (.ifCond .ne 10, 3) := by decide +kernel
theorem dX12_head_26 : decode cX12_head 26 = .ok (.aload_n 0, 1) := by decide +kernel
theorem dX12_head_27 : decode cX12_head 27 = .ok (.bipush (-2), 2) := by decide +kernel
theorem dX12_head_29 : decode cX12_head 29 = .ok (.invokevirtual 76, 3) := by decide +kernel
theorem dX12_head_32 : decode cX12_head 32 = .ok (.ireturn, 1) := by decide +kernel
theorem dX12_head_33 : decode cX12_head 33 = .ok (.aload_n 0, 1) := by decide +kernel
theorem dX12_head_34 : decode cX12_head 34 = .ok (.getfield 7, 3) := by decide +kernel
theorem dX12_head_37 : decode cX12_head 37 = .ok (.iconst 2, 1) := by decide +kernel
theorem dX12_head_38 : decode cX12_head 38 = .ok (.iaload, 1) := by decide +kernel
theorem dX12_head_39 : decode cX12_head 39 = .ok (.iconst 5, 1) := by decide +kernel
theorem dX12_head_40 : decode cX12_head 40 = .ok (.if_icmp .ne 8, 3) := by decide +kernel
theorem dX12_head_43 : decode cX12_head 43 = .ok (.aload_n 0, 1) := by decide +kernel
theorem dX12_head_44 : decode cX12_head 44 = .ok (.invokevirtual 92, 3) := by decide +kernel
theorem dX12_head_47 : decode cX12_head 47 = .ok (.ireturn, 1) := by decide +kernel
theorem dX12_head_48 : decode cX12_head 48 = .ok (.aload_n 0, 1) := by decide +kernel
theorem dX12_head_49 : decode cX12_head 49 = .ok (.getfield 7, 3) := by decide +kernel
theorem dX12_head_52 : decode cX12_head 52 = .ok (.iload_n 1, 1) := by decide +kernel
theorem dX12_head_53 : decode cX12_head 53 = .ok (.iload_n 2, 1) := by decide +kernel
theorem dX12_head_54 : decode cX12_head 54 = .ok (.invokestatic 95, 3) := by decide +kernel
theorem dX12_head_57 : decode cX12_head 57 = .ok (.aload_n 0, 1) := by decide +kernel
theorem dX12_head_58 : decode cX12_head 58 = .ok (.getfield 7, 3) := by decide +kernel
theorem dX12_head_61 : decode cX12_head 61 = .ok (.iconst 2, 1) := by decide +kernel
theorem dX12_head_62 : decode cX12_head 62 = .ok (.iaload, 1) := by decide +kernel
theorem dX12_head_63 : decode cX12_head 63 = .ok (.iconst 1, 1) := by decide +kernel
theorem dX12_head_64 : decode cX12_head 64 = .ok (.isub, 1) := by decide +kernel
theorem dX12_head_65 : decode cX12_head 65 = .ok (.ireturn, 1) := by decide +kernel
theorem dX12_kindOf_0 : decode cX12_kindOf 0 = .ok (.aload_n 0, 1) := by decide +kernel
theorem dX12_kindOf_1 : decode cX12_kindOf 1 = .ok (.getfield 7, 3) := by decide +kernel
theorem dX12_kindOf_4 : decode cX12_kindOf 4 = .ok (.bipush 27, 2) := by decide +kernel
theorem dX12_kindOf_6 : decode cX12_kindOf 6 = .ok (.iconst 2, 1) := by decide +kernel
theorem dX12_kindOf_7 : decode cX12_kindOf 7 = .ok (.iload_n 1, 1) := by decide +kernel
theorem dX12_kindOf_8 : decode cX12_kindOf 8 = .ok (.imul, 1) := by decide +kernel
theorem dX12_kindOf_9 : decode cX12_kindOf 9 = .ok (.iadd, 1) := by decide +kernel
theorem dX12_kindOf_10 : decode cX12_kindOf 10 = .ok (.iaload, 1) := by decide +kernel
theorem dX12_kindOf_11 : decode cX12_kindOf 11 = .ok (.ireturn, 1) := by decide +kernel
theorem dX12_setOf_0 : decode cX12_setOf 0 = .ok (.aload_n 0, 1) := by decide +kernel
theorem dX12_setOf_1 : decode cX12_setOf 1 = .ok (.getfield 7, 3) := by decide +kernel
theorem dX12_setOf_4 : decode cX12_setOf 4 = .ok (.bipush 27, 2) := by decide +kernel
theorem dX12_setOf_6 : decode cX12_setOf 6 = .ok (.iconst 2, 1) := by decide +kernel
theorem dX12_setOf_7 : decode cX12_setOf 7 = .ok (.iload_n 1, 1) := by decide +kernel
theorem dX12_setOf_8 : decode cX12_setOf 8 = .ok (.imul, 1) := by decide +kernel
theorem dX12_setOf_9 : decode cX12_setOf 9 = .ok (.iadd, 1) := by decide +kernel
theorem dX12_setOf_10 : decode cX12_setOf 10 = .ok (.iconst 1, 1) := by decide +kernel
theorem dX12_setOf_11 : decode cX12_setOf 11 = .ok (.iadd, 1) := by decide +kernel
theorem dX12_setOf_12 : decode cX12_setOf 12 = .ok (.iaload, 1) := by decide +kernel
theorem dX12_setOf_13 : decode cX12_setOf 13 = .ok (.ireturn, 1) := by decide +kernel
theorem dX12_of_0 : decode cX12_of 0 = .ok (.aload_n 0, 1) := by decide +kernel
theorem dX12_of_1 : decode cX12_of 1 = .ok (.iload_n 1, 1) := by decide +kernel
theorem dX12_of_2 : decode cX12_of 2 = .ok (.invokevirtual 98, 3) := by decide +kernel
theorem dX12_of_5 : decode cX12_of 5 = .ok (.ifCond .eq 13, 3) := by decide +kernel
theorem dX12_of_8 : decode cX12_of 8 = .ok (.iload_n 2, 1) := by decide +kernel
theorem dX12_of_9 : decode cX12_of 9 = .ok (.i2l, 1) := by decide +kernel
theorem dX12_of_10 : decode cX12_of 10 = .ok (.lconst 0, 1) := by decide +kernel
theorem dX12_of_11 : decode cX12_of 11 = .ok (.lconst 1, 1) := by decide +kernel
theorem dX12_of_12 : decode cX12_of 12 = .ok (.invokestatic 56, 3) := by decide +kernel
theorem dX12_of_15 : decode cX12_of 15 = .ok (.ifCond .ne 12, 3) := by decide +kernel
theorem dX12_of_18 : decode cX12_of 18 = .ok (.aload_n 0, 1) := by decide +kernel
theorem dX12_of_19 : decode cX12_of 19 = .ok (.bipush (-100), 2) := by decide +kernel
theorem dX12_of_21 : decode cX12_of 21 = .ok (.invokevirtual 76, 3) := by decide +kernel
theorem dX12_of_24 : decode cX12_of 24 = .ok (.goto 20, 3) := by decide +kernel
theorem dX12_of_27 : decode cX12_of 27 = .ok (.iload_n 2, 1) := by decide +kernel
theorem dX12_of_28 : decode cX12_of 28 = .ok (.ifCond .ne 11, 3) := by decide +kernel
theorem dX12_of_31 : decode cX12_of 31 = .ok (.aload_n 0, 1) := by decide +kernel
theorem dX12_of_32 : decode cX12_of 32 = .ok (.iload_n 1, 1) := by decide +kernel
theorem dX12_of_33 : decode cX12_of 33 = .ok (.invokevirtual 101, 3) := by decide +kernel
theorem dX12_of_36 : decode cX12_of 36 = .ok (.goto 8, 3) := by decide +kernel
theorem dX12_of_39 : decode cX12_of 39 = .ok (.aload_n 0, 1) := by decide +kernel
theorem dX12_of_40 : decode cX12_of 40 = .ok (.iload_n 1, 1) := by decide +kernel
theorem dX12_of_41 : decode cX12_of 41 = .ok (.invokevirtual 104, 3) := by decide +kernel
theorem dX12_of_44 : decode cX12_of 44 = .ok (.ireturn, 1) := by decide +kernel
theorem dX12_falls_0 : decode cX12_falls 0 = .ok (.iload_n 1, 1) := by decide +kernel
theorem dX12_falls_1 : decode cX12_falls 1 = .ok (.i2l, 1) := by decide +kernel
theorem dX12_falls_2 : decode cX12_falls 2 = .ok (.aload_n 0, 1) := by decide +kernel
theorem dX12_falls_3 : decode cX12_falls 3 = .ok (.getfield 7, 3) := by decide +kernel
theorem dX12_falls_6 : decode cX12_falls 6 = .ok (.iconst 1, 1) := by decide +kernel
theorem dX12_falls_7 : decode cX12_falls 7 = .ok (.iaload, 1) := by decide +kernel
theorem dX12_falls_8 : decode cX12_falls 8 = .ok (.ineg, 1) := by decide +kernel
theorem dX12_falls_9 : decode cX12_falls 9 = .ok (.i2l, 1) := by decide +kernel
theorem dX12_falls_10 : decode cX12_falls 10 = .ok (.aload_n 0, 1) := by decide +kernel
theorem dX12_falls_11 : decode cX12_falls 11 = .ok (.getfield 7, 3) := by decide +kernel
theorem dX12_falls_14 : decode cX12_falls 14 = .ok (.iconst 1, 1) := by decide +kernel
theorem dX12_falls_15 : decode cX12_falls 15 = .ok (.iaload, 1) := by decide +kernel
theorem dX12_falls_16 : decode cX12_falls 16 = .ok (.i2l, 1) := by decide +kernel
theorem dX12_falls_17 : decode cX12_falls 17 = .ok (.invokestatic 56, 3) := by decide +kernel
theorem dX12_falls_20 : decode cX12_falls 20 = .ok (.ifCond .ne 7, 3) := by decide +kernel
theorem dX12_falls_23 : decode cX12_falls 23 = .ok (.iconst 1, 1) := by decide +kernel
theorem dX12_falls_24 : decode cX12_falls 24 = .ok (.goto 4, 3) := by decide +kernel
theorem dX12_falls_27 : decode cX12_falls 27 = .ok (.iconst 0, 1) := by decide +kernel
theorem dX12_falls_28 : decode cX12_falls 28 = .ok (.ireturn, 1) := by decide +kernel
theorem dX12_stiff_0 : decode cX12_stiff 0 = .ok (.iload_n 0, 1) := by decide +kernel
theorem dX12_stiff_1 : decode cX12_stiff 1 = .ok (.ifCond .le 9, 3) := by decide +kernel
theorem dX12_stiff_4 : decode cX12_stiff 4 = .ok (.iload_n 0, 1) := by decide +kernel
theorem dX12_stiff_5 : decode cX12_stiff 5 = .ok (.iconst 1, 1) := by decide +kernel
theorem dX12_stiff_6 : decode cX12_stiff 6 = .ok (.isub, 1) := by decide +kernel
theorem dX12_stiff_7 : decode cX12_stiff 7 = .ok (.goto 14, 3) := by decide +kernel
theorem dX12_stiff_10 : decode cX12_stiff 10 = .ok (.iload_n 0, 1) := by decide +kernel
theorem dX12_stiff_11 : decode cX12_stiff 11 = .ok (.ifCond .ge 9, 3) := by decide +kernel
theorem dX12_stiff_14 : decode cX12_stiff 14 = .ok (.iload_n 0, 1) := by decide +kernel
theorem dX12_stiff_15 : decode cX12_stiff 15 = .ok (.iconst 1, 1) := by decide +kernel
theorem dX12_stiff_16 : decode cX12_stiff 16 = .ok (.iadd, 1) := by decide +kernel
theorem dX12_stiff_17 : decode cX12_stiff 17 = .ok (.goto 4, 3) := by decide +kernel
theorem dX12_stiff_20 : decode cX12_stiff 20 = .ok (.iconst 0, 1) := by decide +kernel
theorem dX12_stiff_21 : decode cX12_stiff 21 = .ok (.ireturn, 1) := by decide +kernel
theorem dX12_layStones_0 : decode cX12_layStones 0 = .ok (.iconst 0, 1) := by decide +kernel
theorem dX12_layStones_1 : decode cX12_layStones 1 = .ok (.istore_n 1, 1) := by decide +kernel
theorem dX12_layStones_2 : decode cX12_layStones 2 = .ok (.iload_n 1, 1) := by decide +kernel
theorem dX12_layStones_3 : decode cX12_layStones 3 = .ok (.bipush 16, 2) := by decide +kernel
theorem dX12_layStones_5 : decode cX12_layStones 5 = .ok (.if_icmp .ge 23, 3) := by decide +kernel
theorem dX12_layStones_8 : decode cX12_layStones 8 = .ok (.aload_n 0, 1) := by decide +kernel
theorem dX12_layStones_9 : decode cX12_layStones 9 = .ok (.getfield 27, 3) := by decide +kernel
theorem dX12_layStones_12 : decode cX12_layStones 12 = .ok (.iload_n 1, 1) := by decide +kernel
theorem dX12_layStones_13 : decode cX12_layStones 13 = .ok (.aload_n 0, 1) := by decide +kernel
theorem dX12_layStones_14 : decode cX12_layStones 14 = .ok (.getfield 7, 3) := by decide +kernel
theorem dX12_layStones_17 : decode cX12_layStones 17 = .ok (.iconst 5, 1) := by decide +kernel
theorem dX12_layStones_18 : decode cX12_layStones 18 = .ok (.iload_n 1, 1) := by decide +kernel
theorem dX12_layStones_19 : decode cX12_layStones 19 = .ok (.iadd, 1) := by decide +kernel
theorem dX12_layStones_20 : decode cX12_layStones 20 = .ok (.iaload, 1) := by decide +kernel
theorem dX12_layStones_21 : decode cX12_layStones 21 = .ok (.iastore, 1) := by decide +kernel
theorem dX12_layStones_22 : decode cX12_layStones 22 = .ok (.iinc 1 1, 3) := by decide +kernel
theorem dX12_layStones_25 : decode cX12_layStones 25 = .ok (.goto (-23), 3) := by decide +kernel
theorem dX12_layStones_28 : decode cX12_layStones 28 = .ok (.return_, 1) := by decide +kernel
theorem dX12_leanBy_0 : decode cX12_leanBy 0 = .ok (.iload 4, 2) := by decide +kernel
theorem dX12_leanBy_2 : decode cX12_leanBy 2 = .ok (.iconst 3, 1) := by decide +kernel
theorem dX12_leanBy_3 : decode cX12_leanBy 3 = .ok (.if_icmp .ne 19, 3) := by decide +kernel
theorem dX12_leanBy_6 : decode cX12_leanBy 6 = .ok (.iload_n 0, 1) := by decide +kernel
theorem dX12_leanBy_7 : decode cX12_leanBy 7 = .ok (.iconst 2, 1) := by decide +kernel
theorem dX12_leanBy_8 : decode cX12_leanBy 8 = .ok (.if_icmp .eq 8, 3) := by decide +kernel
theorem dX12_leanBy_11 : decode cX12_leanBy 11 = .ok (.iload_n 0, 1) := by decide +kernel
theorem dX12_leanBy_12 : decode cX12_leanBy 12 = .ok (.iconst 5, 1) := by decide +kernel
theorem dX12_leanBy_13 : decode cX12_leanBy 13 = .ok (.if_icmp .ne 9, 3) := by decide +kernel
theorem dX12_leanBy_16 : decode cX12_leanBy 16 = .ok (.iconst 2, 1) := by decide +kernel
theorem dX12_leanBy_17 : decode cX12_leanBy 17 = .ok (.iload_n 2, 1) := by decide +kernel
theorem dX12_leanBy_18 : decode cX12_leanBy 18 = .ok (.imul, 1) := by decide +kernel
theorem dX12_leanBy_19 : decode cX12_leanBy 19 = .ok (.goto 4, 3) := by decide +kernel
theorem dX12_leanBy_22 : decode cX12_leanBy 22 = .ok (.iload_n 2, 1) := by decide +kernel
theorem dX12_leanBy_23 : decode cX12_leanBy 23 = .ok (.istore 5, 2) := by decide +kernel
theorem dX12_leanBy_25 : decode cX12_leanBy 25 = .ok (.iload_n 1, 1) := by decide +kernel
theorem dX12_leanBy_26 : decode cX12_leanBy 26 = .ok (.iload 5, 2) := by decide +kernel
theorem dX12_leanBy_28 : decode cX12_leanBy 28 = .ok (.iadd, 1) := by decide +kernel
theorem dX12_leanBy_29 : decode cX12_leanBy 29 = .ok (.iload_n 0, 1) := by decide +kernel
theorem dX12_leanBy_30 : decode cX12_leanBy 30 = .ok (.iconst 5, 1) := by decide +kernel
theorem dX12_leanBy_31 : decode cX12_leanBy 31 = .ok (.if_icmp .ne 7, 3) := by decide +kernel
theorem dX12_leanBy_34 : decode cX12_leanBy 34 = .ok (.iconst 0, 1) := by decide +kernel
theorem dX12_leanBy_35 : decode cX12_leanBy 35 = .ok (.goto 4, 3) := by decide +kernel
theorem dX12_leanBy_38 : decode cX12_leanBy 38 = .ok (.iload_n 3, 1) := by decide +kernel
theorem dX12_leanBy_39 : decode cX12_leanBy 39 = .ok (.iadd, 1) := by decide +kernel
theorem dX12_leanBy_40 : decode cX12_leanBy 40 = .ok (.istore 6, 2) := by decide +kernel
theorem dX12_leanBy_42 : decode cX12_leanBy 42 = .ok (.iload_n 0, 1) := by decide +kernel
theorem dX12_leanBy_43 : decode cX12_leanBy 43 = .ok (.tableswitch 64 1 4 #[29, 64, 35, 43], 29) := by decide +kernel
theorem dX12_leanBy_72 : decode cX12_leanBy 72 = .ok (.iload 6, 2) := by decide +kernel
theorem dX12_leanBy_74 : decode cX12_leanBy 74 = .ok (.invokestatic 107, 3) := by decide +kernel
theorem dX12_leanBy_77 : decode cX12_leanBy 77 = .ok (.ireturn, 1) := by decide +kernel
theorem dX12_leanBy_78 : decode cX12_leanBy 78 = .ok (.iload 6, 2) := by decide +kernel
theorem dX12_leanBy_80 : decode cX12_leanBy 80 = .ok (.invokestatic 107, 3) := by decide +kernel
theorem dX12_leanBy_83 : decode cX12_leanBy 83 = .ok (.iconst 1, 1) := by decide +kernel
theorem dX12_leanBy_84 : decode cX12_leanBy 84 = .ok (.iadd, 1) := by decide +kernel
theorem dX12_leanBy_85 : decode cX12_leanBy 85 = .ok (.ireturn, 1) := by decide +kernel
theorem dX12_leanBy_86 : decode cX12_leanBy 86 = .ok (.iload 4, 2) := by decide +kernel
theorem dX12_leanBy_88 : decode cX12_leanBy 88 = .ok (.iconst 2, 1) := by decide +kernel
theorem dX12_leanBy_89 : decode cX12_leanBy 89 = .ok (.if_icmp .ne 12, 3) := by decide +kernel
theorem dX12_leanBy_92 : decode cX12_leanBy 92 = .ok (.iload 6, 2) := by decide +kernel
theorem dX12_leanBy_94 : decode cX12_leanBy 94 = .ok (.invokestatic 107, 3) := by decide +kernel
theorem dX12_leanBy_97 : decode cX12_leanBy 97 = .ok (.ineg, 1) := by decide +kernel
theorem dX12_leanBy_98 : decode cX12_leanBy 98 = .ok (.goto 8, 3) := by decide +kernel
theorem dX12_leanBy_101 : decode cX12_leanBy 101 = .ok (.iload 6, 2) := by decide +kernel
theorem dX12_leanBy_103 : decode cX12_leanBy 103 = .ok (.invokestatic 107, 3) := by decide +kernel
theorem dX12_leanBy_106 : decode cX12_leanBy 106 = .ok (.ireturn, 1) := by decide +kernel
theorem dX12_leanBy_107 : decode cX12_leanBy 107 = .ok (.iload 6, 2) := by decide +kernel
theorem dX12_leanBy_109 : decode cX12_leanBy 109 = .ok (.ireturn, 1) := by decide +kernel
theorem dX12_cellBy_0 : decode cX12_cellBy 0 = .ok (.iload_n 1, 1) := by decide +kernel
theorem dX12_cellBy_1 : decode cX12_cellBy 1 = .ok (.iload_n 2, 1) := by decide +kernel
theorem dX12_cellBy_2 : decode cX12_cellBy 2 = .ok (.iadd, 1) := by decide +kernel
theorem dX12_cellBy_3 : decode cX12_cellBy 3 = .ok (.aload_n 0, 1) := by decide +kernel
theorem dX12_cellBy_4 : decode cX12_cellBy 4 = .ok (.invokevirtual 60, 3) := by decide +kernel
theorem dX12_cellBy_7 : decode cX12_cellBy 7 = .ok (.if_icmp .le 10, 3) := by decide +kernel
theorem dX12_cellBy_10 : decode cX12_cellBy 10 = .ok (.aload_n 0, 1) := by decide +kernel
theorem dX12_cellBy_11 : decode cX12_cellBy 11 = .ok (.invokevirtual 60, 3) := by decide +kernel
theorem dX12_cellBy_14 : decode cX12_cellBy 14 = .ok (.goto 6, 3) := by decide +kernel
theorem dX12_cellBy_17 : decode cX12_cellBy 17 = .ok (.iload_n 1, 1) := by decide +kernel
theorem dX12_cellBy_18 : decode cX12_cellBy 18 = .ok (.iload_n 2, 1) := by decide +kernel
theorem dX12_cellBy_19 : decode cX12_cellBy 19 = .ok (.iadd, 1) := by decide +kernel
theorem dX12_cellBy_20 : decode cX12_cellBy 20 = .ok (.ireturn, 1) := by decide +kernel
theorem dX12_leanBehind_0 : decode cX12_leanBehind 0 = .ok (.iload_n 1, 1) := by decide +kernel
theorem dX12_leanBehind_1 : decode cX12_leanBehind 1 = .ok (.iload_n 3, 1) := by decide +kernel
theorem dX12_leanBehind_2 : decode cX12_leanBehind 2 = .ok (.aload_n 0, 1) := by decide +kernel
theorem dX12_leanBehind_3 : decode cX12_leanBehind 3 = .ok (.getfield 27, 3) := by decide +kernel
theorem dX12_leanBehind_6 : decode cX12_leanBehind 6 = .ok (.aload_n 0, 1) := by decide +kernel
theorem dX12_leanBehind_7 : decode cX12_leanBehind 7 = .ok (.iload_n 2, 1) := by decide +kernel
theorem dX12_leanBehind_8 : decode cX12_leanBehind 8 = .ok (.iload 5, 2) := by decide +kernel
theorem dX12_leanBehind_10 : decode cX12_leanBehind 10 = .ok (.invokevirtual 110, 3) := by decide +kernel
theorem dX12_leanBehind_13 : decode cX12_leanBehind 13 = .ok (.iaload, 1) := by decide +kernel
theorem dX12_leanBehind_14 : decode cX12_leanBehind 14 = .ok (.aload_n 0, 1) := by decide +kernel
theorem dX12_leanBehind_15 : decode cX12_leanBehind 15 = .ok (.getfield 7, 3) := by decide +kernel
theorem dX12_leanBehind_18 : decode cX12_leanBehind 18 = .ok (.bipush 21, 2) := by decide +kernel
theorem dX12_leanBehind_20 : decode cX12_leanBehind 20 = .ok (.iload 4, 2) := by decide +kernel
theorem dX12_leanBehind_22 : decode cX12_leanBehind 22 = .ok (.bipush 6, 2) := by decide +kernel
theorem dX12_leanBehind_24 : decode cX12_leanBehind 24 = .ok (.irem, 1) := by decide +kernel
theorem dX12_leanBehind_25 : decode cX12_leanBehind 25 = .ok (.iadd, 1) := by decide +kernel
theorem dX12_leanBehind_26 : decode cX12_leanBehind 26 = .ok (.iaload, 1) := by decide +kernel
theorem dX12_leanBehind_27 : decode cX12_leanBehind 27 = .ok (.iload 5, 2) := by decide +kernel
theorem dX12_leanBehind_29 : decode cX12_leanBehind 29 = .ok (.invokestatic 114, 3) := by decide +kernel
theorem dX12_leanBehind_32 : decode cX12_leanBehind 32 = .ok (.ireturn, 1) := by decide +kernel
theorem dX12_walk_0 : decode cX12_walk 0 = .ok (.aload_n 0, 1) := by decide +kernel
theorem dX12_walk_1 : decode cX12_walk 1 = .ok (.iload_n 1, 1) := by decide +kernel
theorem dX12_walk_2 : decode cX12_walk 2 = .ok (.invokevirtual 98, 3) := by decide +kernel
theorem dX12_walk_5 : decode cX12_walk 5 = .ok (.ifCond .ne 10, 3) := by decide +kernel
theorem dX12_walk_8 : decode cX12_walk 8 = .ok (.aload_n 0, 1) := by decide +kernel
theorem dX12_walk_9 : decode cX12_walk 9 = .ok (.bipush (-2), 2) := by decide +kernel
theorem dX12_walk_11 : decode cX12_walk 11 = .ok (.invokevirtual 76, 3) := by decide +kernel
theorem dX12_walk_14 : decode cX12_walk 14 = .ok (.ireturn, 1) := by decide +kernel
theorem dX12_walk_15 : decode cX12_walk 15 = .ok (.aload_n 0, 1) := by decide +kernel
theorem dX12_walk_16 : decode cX12_walk 16 = .ok (.getfield 7, 3) := by decide +kernel
theorem dX12_walk_19 : decode cX12_walk 19 = .ok (.bipush 37, 2) := by decide +kernel
theorem dX12_walk_21 : decode cX12_walk 21 = .ok (.iload_n 1, 1) := by decide +kernel
theorem dX12_walk_22 : decode cX12_walk 22 = .ok (.iastore, 1) := by decide +kernel
theorem dX12_walk_23 : decode cX12_walk 23 = .ok (.aload_n 0, 1) := by decide +kernel
theorem dX12_walk_24 : decode cX12_walk 24 = .ok (.getfield 7, 3) := by decide +kernel
theorem dX12_walk_27 : decode cX12_walk 27 = .ok (.bipush 38, 2) := by decide +kernel
theorem dX12_walk_29 : decode cX12_walk 29 = .ok (.iconst 0, 1) := by decide +kernel
theorem dX12_walk_30 : decode cX12_walk 30 = .ok (.iastore, 1) := by decide +kernel
theorem dX12_walk_31 : decode cX12_walk 31 = .ok (.aload_n 0, 1) := by decide +kernel
theorem dX12_walk_32 : decode cX12_walk 32 = .ok (.getfield 7, 3) := by decide +kernel
theorem dX12_walk_35 : decode cX12_walk 35 = .ok (.bipush 39, 2) := by decide +kernel
theorem dX12_walk_37 : decode cX12_walk 37 = .ok (.iconst 0, 1) := by decide +kernel
theorem dX12_walk_38 : decode cX12_walk 38 = .ok (.iastore, 1) := by decide +kernel
theorem dX12_walk_39 : decode cX12_walk 39 = .ok (.aload_n 0, 1) := by decide +kernel
theorem dX12_walk_40 : decode cX12_walk 40 = .ok (.getfield 7, 3) := by decide +kernel
theorem dX12_walk_43 : decode cX12_walk 43 = .ok (.bipush 40, 2) := by decide +kernel
theorem dX12_walk_45 : decode cX12_walk 45 = .ok (.aload_n 0, 1) := by decide +kernel
theorem dX12_walk_46 : decode cX12_walk 46 = .ok (.iload_n 1, 1) := by decide +kernel
theorem dX12_walk_47 : decode cX12_walk 47 = .ok (.invokevirtual 104, 3) := by decide +kernel
theorem dX12_walk_50 : decode cX12_walk 50 = .ok (.iastore, 1) := by decide +kernel
theorem dX12_walk_51 : decode cX12_walk 51 = .ok (.aload_n 0, 1) := by decide +kernel
theorem dX12_walk_52 : decode cX12_walk 52 = .ok (.getfield 7, 3) := by decide +kernel
theorem dX12_walk_55 : decode cX12_walk 55 = .ok (.bipush 41, 2) := by decide +kernel
theorem dX12_walk_57 : decode cX12_walk 57 = .ok (.aload_n 0, 1) := by decide +kernel
theorem dX12_walk_58 : decode cX12_walk 58 = .ok (.aload_n 0, 1) := by decide +kernel
theorem dX12_walk_59 : decode cX12_walk 59 = .ok (.iload_n 1, 1) := by decide +kernel
theorem dX12_walk_60 : decode cX12_walk 60 = .ok (.invokevirtual 104, 3) := by decide +kernel
theorem dX12_walk_63 : decode cX12_walk 63 = .ok (.invokevirtual 118, 3) := by decide +kernel
theorem dX12_walk_66 : decode cX12_walk 66 = .ok (.ifCond .eq 7, 3) := by decide +kernel
theorem dX12_walk_69 : decode cX12_walk 69 = .ok (.iconst 1, 1) := by decide +kernel
theorem dX12_walk_70 : decode cX12_walk 70 = .ok (.goto 4, 3) := by decide +kernel
theorem dX12_walk_73 : decode cX12_walk 73 = .ok (.iconst 0, 1) := by decide +kernel
theorem dX12_walk_74 : decode cX12_walk 74 = .ok (.iastore, 1) := by decide +kernel
theorem dX12_walk_75 : decode cX12_walk 75 = .ok (.aload_n 0, 1) := by decide +kernel
theorem dX12_walk_76 : decode cX12_walk 76 = .ok (.getfield 7, 3) := by decide +kernel
theorem dX12_walk_79 : decode cX12_walk 79 = .ok (.iconst 4, 1) := by decide +kernel
theorem dX12_walk_80 : decode cX12_walk 80 = .ok (.iconst 0, 1) := by decide +kernel
theorem dX12_walk_81 : decode cX12_walk 81 = .ok (.iastore, 1) := by decide +kernel
theorem dX12_walk_82 : decode cX12_walk 82 = .ok (.aload_n 0, 1) := by decide +kernel
theorem dX12_walk_83 : decode cX12_walk 83 = .ok (.getfield 7, 3) := by decide +kernel
theorem dX12_walk_86 : decode cX12_walk 86 = .ok (.bipush 41, 2) := by decide +kernel
theorem dX12_walk_88 : decode cX12_walk 88 = .ok (.iaload, 1) := by decide +kernel
theorem dX12_walk_89 : decode cX12_walk 89 = .ok (.ireturn, 1) := by decide +kernel
theorem dX12_keep_0 : decode cX12_keep 0 = .ok (.aload_n 0, 1) := by decide +kernel
theorem dX12_keep_1 : decode cX12_keep 1 = .ok (.getfield 7, 3) := by decide +kernel
theorem dX12_keep_4 : decode cX12_keep 4 = .ok (.iconst 4, 1) := by decide +kernel
theorem dX12_keep_5 : decode cX12_keep 5 = .ok (.iaload, 1) := by decide +kernel
theorem dX12_keep_6 : decode cX12_keep 6 = .ok (.bipush 8, 2) := by decide +kernel
theorem dX12_keep_8 : decode cX12_keep 8 = .ok (.if_icmp .ne 43, 3) := by decide +kernel
theorem dX12_keep_11 : decode cX12_keep 11 = .ok (.iconst 0, 1) := by decide +kernel
theorem dX12_keep_12 : decode cX12_keep 12 = .ok (.istore_n 1, 1) := by decide +kernel
theorem dX12_keep_13 : decode cX12_keep 13 = .ok (.iload_n 1, 1) := by decide +kernel
theorem dX12_keep_14 : decode cX12_keep 14 = .ok (.bipush 28, 2) := by decide +kernel
theorem dX12_keep_16 : decode cX12_keep 16 = .ok (.if_icmp .ge 27, 3) := by decide +kernel
theorem dX12_keep_19 : decode cX12_keep 19 = .ok (.aload_n 0, 1) := by decide +kernel
theorem dX12_keep_20 : decode cX12_keep 20 = .ok (.getfield 7, 3) := by decide +kernel
theorem dX12_keep_23 : decode cX12_keep 23 = .ok (.bipush 66, 2) := by decide +kernel
theorem dX12_keep_25 : decode cX12_keep 25 = .ok (.iload_n 1, 1) := by decide +kernel
theorem dX12_keep_26 : decode cX12_keep 26 = .ok (.iadd, 1) := by decide +kernel
theorem dX12_keep_27 : decode cX12_keep 27 = .ok (.aload_n 0, 1) := by decide +kernel
theorem dX12_keep_28 : decode cX12_keep 28 = .ok (.getfield 7, 3) := by decide +kernel
theorem dX12_keep_31 : decode cX12_keep 31 = .ok (.bipush 70, 2) := by decide +kernel
theorem dX12_keep_33 : decode cX12_keep 33 = .ok (.iload_n 1, 1) := by decide +kernel
theorem dX12_keep_34 : decode cX12_keep 34 = .ok (.iadd, 1) := by decide +kernel
theorem dX12_keep_35 : decode cX12_keep 35 = .ok (.iaload, 1) := by decide +kernel
theorem dX12_keep_36 : decode cX12_keep 36 = .ok (.iastore, 1) := by decide +kernel
theorem dX12_keep_37 : decode cX12_keep 37 = .ok (.iinc 1 1, 3) := by decide +kernel
theorem dX12_keep_40 : decode cX12_keep 40 = .ok (.goto (-27), 3) := by decide +kernel
theorem dX12_keep_43 : decode cX12_keep 43 = .ok (.aload_n 0, 1) := by decide +kernel
theorem dX12_keep_44 : decode cX12_keep 44 = .ok (.getfield 7, 3) := by decide +kernel
theorem dX12_keep_47 : decode cX12_keep 47 = .ok (.iconst 4, 1) := by decide +kernel
theorem dX12_keep_48 : decode cX12_keep 48 = .ok (.bipush 7, 2) := by decide +kernel
theorem dX12_keep_50 : decode cX12_keep 50 = .ok (.iastore, 1) := by decide +kernel
theorem dX12_keep_51 : decode cX12_keep 51 = .ok (.iconst 0, 1) := by decide +kernel
theorem dX12_keep_52 : decode cX12_keep 52 = .ok (.istore_n 1, 1) := by decide +kernel
theorem dX12_keep_53 : decode cX12_keep 53 = .ok (.iload_n 1, 1) := by decide +kernel
theorem dX12_keep_54 : decode cX12_keep 54 = .ok (.iconst 4, 1) := by decide +kernel
theorem dX12_keep_55 : decode cX12_keep 55 = .ok (.if_icmp .ge 36, 3) := by decide +kernel
theorem dX12_keep_58 : decode cX12_keep 58 = .ok (.aload_n 0, 1) := by decide +kernel
theorem dX12_keep_59 : decode cX12_keep 59 = .ok (.getfield 7, 3) := by decide +kernel
theorem dX12_keep_62 : decode cX12_keep 62 = .ok (.bipush 66, 2) := by decide +kernel
theorem dX12_keep_64 : decode cX12_keep 64 = .ok (.iconst 4, 1) := by decide +kernel
theorem dX12_keep_65 : decode cX12_keep 65 = .ok (.aload_n 0, 1) := by decide +kernel
theorem dX12_keep_66 : decode cX12_keep 66 = .ok (.getfield 7, 3) := by decide +kernel
theorem dX12_keep_69 : decode cX12_keep 69 = .ok (.iconst 4, 1) := by decide +kernel
theorem dX12_keep_70 : decode cX12_keep 70 = .ok (.iaload, 1) := by decide +kernel
theorem dX12_keep_71 : decode cX12_keep 71 = .ok (.imul, 1) := by decide +kernel
theorem dX12_keep_72 : decode cX12_keep 72 = .ok (.iadd, 1) := by decide +kernel
theorem dX12_keep_73 : decode cX12_keep 73 = .ok (.iload_n 1, 1) := by decide +kernel
theorem dX12_keep_74 : decode cX12_keep 74 = .ok (.iadd, 1) := by decide +kernel
theorem dX12_keep_75 : decode cX12_keep 75 = .ok (.aload_n 0, 1) := by decide +kernel
theorem dX12_keep_76 : decode cX12_keep 76 = .ok (.getfield 7, 3) := by decide +kernel
theorem dX12_keep_79 : decode cX12_keep 79 = .ok (.bipush 38, 2) := by decide +kernel
theorem dX12_keep_81 : decode cX12_keep 81 = .ok (.iload_n 1, 1) := by decide +kernel
theorem dX12_keep_82 : decode cX12_keep 82 = .ok (.iadd, 1) := by decide +kernel
theorem dX12_keep_83 : decode cX12_keep 83 = .ok (.iaload, 1) := by decide +kernel
theorem dX12_keep_84 : decode cX12_keep 84 = .ok (.iastore, 1) := by decide +kernel
theorem dX12_keep_85 : decode cX12_keep 85 = .ok (.iinc 1 1, 3) := by decide +kernel
theorem dX12_keep_88 : decode cX12_keep 88 = .ok (.goto (-35), 3) := by decide +kernel
theorem dX12_keep_91 : decode cX12_keep 91 = .ok (.aload_n 0, 1) := by decide +kernel
theorem dX12_keep_92 : decode cX12_keep 92 = .ok (.getfield 7, 3) := by decide +kernel
theorem dX12_keep_95 : decode cX12_keep 95 = .ok (.iconst 4, 1) := by decide +kernel
theorem dX12_keep_96 : decode cX12_keep 96 = .ok (.dup2, 1) := by decide +kernel
theorem dX12_keep_97 : decode cX12_keep 97 = .ok (.iaload, 1) := by decide +kernel
theorem dX12_keep_98 : decode cX12_keep 98 = .ok (.iconst 1, 1) := by decide +kernel
theorem dX12_keep_99 : decode cX12_keep 99 = .ok (.iadd, 1) := by decide +kernel
theorem dX12_keep_100 : decode cX12_keep 100 = .ok (.iastore, 1) := by decide +kernel
theorem dX12_keep_101 : decode cX12_keep 101 = .ok (.return_, 1) := by decide +kernel
theorem dX12_isWalk_0 : decode cX12_isWalk 0 = .ok (.aload_n 0, 1) := by decide +kernel
theorem dX12_isWalk_1 : decode cX12_isWalk 1 = .ok (.getfield 7, 3) := by decide +kernel
theorem dX12_isWalk_4 : decode cX12_isWalk 4 = .ok (.bipush 37, 2) := by decide +kernel
theorem dX12_isWalk_6 : decode cX12_isWalk 6 = .ok (.iaload, 1) := by decide +kernel
theorem dX12_isWalk_7 : decode cX12_isWalk 7 = .ok (.iconst (-1), 1) := by decide +kernel
theorem dX12_isWalk_8 : decode cX12_isWalk 8 = .ok (.if_icmp .eq 7, 3) := by decide +kernel
theorem dX12_isWalk_11 : decode cX12_isWalk 11 = .ok (.iconst 1, 1) := by decide +kernel
theorem dX12_isWalk_12 : decode cX12_isWalk 12 = .ok (.goto 4, 3) := by decide +kernel
theorem dX12_isWalk_15 : decode cX12_isWalk 15 = .ok (.iconst 0, 1) := by decide +kernel
theorem dX12_isWalk_16 : decode cX12_isWalk 16 = .ok (.ireturn, 1) := by decide +kernel
theorem dX12_isThere_0 : decode cX12_isThere 0 = .ok (.aload_n 0, 1) := by decide +kernel
theorem dX12_isThere_1 : decode cX12_isThere 1 = .ok (.getfield 7, 3) := by decide +kernel
theorem dX12_isThere_4 : decode cX12_isThere 4 = .ok (.bipush 38, 2) := by decide +kernel
theorem dX12_isThere_6 : decode cX12_isThere 6 = .ok (.iaload, 1) := by decide +kernel
theorem dX12_isThere_7 : decode cX12_isThere 7 = .ok (.aload_n 0, 1) := by decide +kernel
theorem dX12_isThere_8 : decode cX12_isThere 8 = .ok (.invokevirtual 60, 3) := by decide +kernel
theorem dX12_isThere_11 : decode cX12_isThere 11 = .ok (.if_icmp .ne 7, 3) := by decide +kernel
theorem dX12_isThere_14 : decode cX12_isThere 14 = .ok (.iconst 1, 1) := by decide +kernel
theorem dX12_isThere_15 : decode cX12_isThere 15 = .ok (.goto 4, 3) := by decide +kernel
theorem dX12_isThere_18 : decode cX12_isThere 18 = .ok (.iconst 0, 1) := by decide +kernel
theorem dX12_isThere_19 : decode cX12_isThere 19 = .ok (.ireturn, 1) := by decide +kernel
theorem dX12_step_0 : decode cX12_step 0 = .ok (.iload_n 1, 1) := by decide +kernel
theorem dX12_step_1 : decode cX12_step 1 = .ok (.invokestatic 121, 3) := by decide +kernel
theorem dX12_step_4 : decode cX12_step 4 = .ok (.ifCond .ne 10, 3) := by decide +kernel
theorem dX12_step_7 : decode cX12_step 7 = .ok (.aload_n 0, 1) := by decide +kernel
theorem dX12_step_8 : decode cX12_step 8 = .ok (.bipush (-10), 2) := by decide +kernel
theorem dX12_step_10 : decode cX12_step 10 = .ok (.invokevirtual 76, 3) := by decide +kernel
theorem dX12_step_13 : decode cX12_step 13 = .ok (.ireturn, 1) := by decide +kernel
theorem dX12_step_14 : decode cX12_step 14 = .ok (.aload_n 0, 1) := by decide +kernel
theorem dX12_step_15 : decode cX12_step 15 = .ok (.invokevirtual 124, 3) := by decide +kernel
theorem dX12_step_18 : decode cX12_step 18 = .ok (.ifCond .eq 21, 3) := by decide +kernel
theorem dX12_step_21 : decode cX12_step 21 = .ok (.aload_n 0, 1) := by decide +kernel
theorem dX12_step_22 : decode cX12_step 22 = .ok (.invokevirtual 128, 3) := by decide +kernel
theorem dX12_step_25 : decode cX12_step 25 = .ok (.ifCond .ne 14, 3) := by decide +kernel
theorem dX12_step_28 : decode cX12_step 28 = .ok (.aload_n 0, 1) := by decide +kernel
theorem dX12_step_29 : decode cX12_step 29 = .ok (.getfield 7, 3) := by decide +kernel
theorem dX12_step_32 : decode cX12_step 32 = .ok (.bipush 41, 2) := by decide +kernel
theorem dX12_step_34 : decode cX12_step 34 = .ok (.iaload, 1) := by decide +kernel
theorem dX12_step_35 : decode cX12_step 35 = .ok (.iconst 1, 1) := by decide +kernel
theorem dX12_step_36 : decode cX12_step 36 = .ok (.if_icmp .ne 10, 3) := by decide +kernel
theorem dX12_step_39 : decode cX12_step 39 = .ok (.aload_n 0, 1) := by decide +kernel
theorem dX12_step_40 : decode cX12_step 40 = .ok (.bipush (-3), 2) := by decide +kernel
theorem dX12_step_42 : decode cX12_step 42 = .ok (.invokevirtual 131, 3) := by decide +kernel
theorem dX12_step_45 : decode cX12_step 45 = .ok (.ireturn, 1) := by decide +kernel
theorem dX12_step_46 : decode cX12_step 46 = .ok (.aload_n 0, 1) := by decide +kernel
theorem dX12_step_47 : decode cX12_step 47 = .ok (.invokevirtual 134, 3) := by decide +kernel
theorem dX12_step_50 : decode cX12_step 50 = .ok (.aload_n 0, 1) := by decide +kernel
theorem dX12_step_51 : decode cX12_step 51 = .ok (.invokevirtual 137, 3) := by decide +kernel
theorem dX12_step_54 : decode cX12_step 54 = .ok (.aload_n 0, 1) := by decide +kernel
theorem dX12_step_55 : decode cX12_step 55 = .ok (.aload_n 0, 1) := by decide +kernel
theorem dX12_step_56 : decode cX12_step 56 = .ok (.aload_n 0, 1) := by decide +kernel
theorem dX12_step_57 : decode cX12_step 57 = .ok (.getfield 7, 3) := by decide +kernel
theorem dX12_step_60 : decode cX12_step 60 = .ok (.bipush 37, 2) := by decide +kernel
theorem dX12_step_62 : decode cX12_step 62 = .ok (.iaload, 1) := by decide +kernel
theorem dX12_step_63 : decode cX12_step 63 = .ok (.invokevirtual 101, 3) := by decide +kernel
theorem dX12_step_66 : decode cX12_step 66 = .ok (.aload_n 0, 1) := by decide +kernel
theorem dX12_step_67 : decode cX12_step 67 = .ok (.getfield 7, 3) := by decide +kernel
theorem dX12_step_70 : decode cX12_step 70 = .ok (.bipush 38, 2) := by decide +kernel
theorem dX12_step_72 : decode cX12_step 72 = .ok (.iaload, 1) := by decide +kernel
theorem dX12_step_73 : decode cX12_step 73 = .ok (.aload_n 0, 1) := by decide +kernel
theorem dX12_step_74 : decode cX12_step 74 = .ok (.getfield 7, 3) := by decide +kernel
theorem dX12_step_77 : decode cX12_step 77 = .ok (.bipush 40, 2) := by decide +kernel
theorem dX12_step_79 : decode cX12_step 79 = .ok (.iaload, 1) := by decide +kernel
theorem dX12_step_80 : decode cX12_step 80 = .ok (.aload_n 0, 1) := by decide +kernel
theorem dX12_step_81 : decode cX12_step 81 = .ok (.getfield 7, 3) := by decide +kernel
theorem dX12_step_84 : decode cX12_step 84 = .ok (.bipush 39, 2) := by decide +kernel
theorem dX12_step_86 : decode cX12_step 86 = .ok (.iaload, 1) := by decide +kernel
theorem dX12_step_87 : decode cX12_step 87 = .ok (.iload_n 1, 1) := by decide +kernel
theorem dX12_step_88 : decode cX12_step 88 = .ok (.invokevirtual 140, 3) := by decide +kernel
theorem dX12_step_91 : decode cX12_step 91 = .ok (.istore_n 2, 1) := by decide +kernel
theorem dX12_step_92 : decode cX12_step 92 = .ok (.aload_n 0, 1) := by decide +kernel
theorem dX12_step_93 : decode cX12_step 93 = .ok (.getfield 7, 3) := by decide +kernel
theorem dX12_step_96 : decode cX12_step 96 = .ok (.bipush 38, 2) := by decide +kernel
theorem dX12_step_98 : decode cX12_step 98 = .ok (.aload_n 0, 1) := by decide +kernel
theorem dX12_step_99 : decode cX12_step 99 = .ok (.aload_n 0, 1) := by decide +kernel
theorem dX12_step_100 : decode cX12_step 100 = .ok (.getfield 7, 3) := by decide +kernel
theorem dX12_step_103 : decode cX12_step 103 = .ok (.bipush 38, 2) := by decide +kernel
theorem dX12_step_105 : decode cX12_step 105 = .ok (.iaload, 1) := by decide +kernel
theorem dX12_step_106 : decode cX12_step 106 = .ok (.iload_n 1, 1) := by decide +kernel
theorem dX12_step_107 : decode cX12_step 107 = .ok (.invokevirtual 110, 3) := by decide +kernel
theorem dX12_step_110 : decode cX12_step 110 = .ok (.iastore, 1) := by decide +kernel
theorem dX12_step_111 : decode cX12_step 111 = .ok (.aload_n 0, 1) := by decide +kernel
theorem dX12_step_112 : decode cX12_step 112 = .ok (.getfield 7, 3) := by decide +kernel
theorem dX12_step_115 : decode cX12_step 115 = .ok (.bipush 39, 2) := by decide +kernel
theorem dX12_step_117 : decode cX12_step 117 = .ok (.dup2, 1) := by decide +kernel
theorem dX12_step_118 : decode cX12_step 118 = .ok (.iaload, 1) := by decide +kernel
theorem dX12_step_119 : decode cX12_step 119 = .ok (.iconst 1, 1) := by decide +kernel
theorem dX12_step_120 : decode cX12_step 120 = .ok (.iadd, 1) := by decide +kernel
theorem dX12_step_121 : decode cX12_step 121 = .ok (.iastore, 1) := by decide +kernel
theorem dX12_step_122 : decode cX12_step 122 = .ok (.aload_n 0, 1) := by decide +kernel
theorem dX12_step_123 : decode cX12_step 123 = .ok (.getfield 7, 3) := by decide +kernel
theorem dX12_step_126 : decode cX12_step 126 = .ok (.bipush 40, 2) := by decide +kernel
theorem dX12_step_128 : decode cX12_step 128 = .ok (.iload_n 2, 1) := by decide +kernel
theorem dX12_step_129 : decode cX12_step 129 = .ok (.iastore, 1) := by decide +kernel
theorem dX12_step_130 : decode cX12_step 130 = .ok (.aload_n 0, 1) := by decide +kernel
theorem dX12_step_131 : decode cX12_step 131 = .ok (.getfield 7, 3) := by decide +kernel
theorem dX12_step_134 : decode cX12_step 134 = .ok (.bipush 41, 2) := by decide +kernel
theorem dX12_step_136 : decode cX12_step 136 = .ok (.aload_n 0, 1) := by decide +kernel
theorem dX12_step_137 : decode cX12_step 137 = .ok (.iload_n 2, 1) := by decide +kernel
theorem dX12_step_138 : decode cX12_step 138 = .ok (.invokevirtual 118, 3) := by decide +kernel
theorem dX12_step_141 : decode cX12_step 141 = .ok (.ifCond .eq 7, 3) := by decide +kernel
theorem dX12_step_144 : decode cX12_step 144 = .ok (.iconst 1, 1) := by decide +kernel
theorem dX12_step_145 : decode cX12_step 145 = .ok (.goto 4, 3) := by decide +kernel
theorem dX12_step_148 : decode cX12_step 148 = .ok (.iconst 0, 1) := by decide +kernel
theorem dX12_step_149 : decode cX12_step 149 = .ok (.iastore, 1) := by decide +kernel
theorem dX12_step_150 : decode cX12_step 150 = .ok (.aload_n 0, 1) := by decide +kernel
theorem dX12_step_151 : decode cX12_step 151 = .ok (.getfield 7, 3) := by decide +kernel
theorem dX12_step_154 : decode cX12_step 154 = .ok (.bipush 38, 2) := by decide +kernel
theorem dX12_step_156 : decode cX12_step 156 = .ok (.iaload, 1) := by decide +kernel
theorem dX12_step_157 : decode cX12_step 157 = .ok (.ireturn, 1) := by decide +kernel
theorem dX12_hand_0 : decode cX12_hand 0 = .ok (.aload_n 0, 1) := by decide +kernel
theorem dX12_hand_1 : decode cX12_hand 1 = .ok (.invokevirtual 124, 3) := by decide +kernel
theorem dX12_hand_4 : decode cX12_hand 4 = .ok (.ifCond .eq 20, 3) := by decide +kernel
theorem dX12_hand_7 : decode cX12_hand 7 = .ok (.aload_n 0, 1) := by decide +kernel
theorem dX12_hand_8 : decode cX12_hand 8 = .ok (.invokevirtual 128, 3) := by decide +kernel
theorem dX12_hand_11 : decode cX12_hand 11 = .ok (.ifCond .eq 20, 3) := by decide +kernel
theorem dX12_hand_14 : decode cX12_hand 14 = .ok (.aload_n 0, 1) := by decide +kernel
theorem dX12_hand_15 : decode cX12_hand 15 = .ok (.getfield 7, 3) := by decide +kernel
theorem dX12_hand_18 : decode cX12_hand 18 = .ok (.bipush 41, 2) := by decide +kernel
theorem dX12_hand_20 : decode cX12_hand 20 = .ok (.iaload, 1) := by decide +kernel
theorem dX12_hand_21 : decode cX12_hand 21 = .ok (.ifCond .ne 10, 3) := by decide +kernel
theorem dX12_hand_24 : decode cX12_hand 24 = .ok (.aload_n 0, 1) := by decide +kernel
theorem dX12_hand_25 : decode cX12_hand 25 = .ok (.bipush (-99), 2) := by decide +kernel
theorem dX12_hand_27 : decode cX12_hand 27 = .ok (.invokevirtual 131, 3) := by decide +kernel
theorem dX12_hand_30 : decode cX12_hand 30 = .ok (.ireturn, 1) := by decide +kernel
theorem dX12_hand_31 : decode cX12_hand 31 = .ok (.aload_n 0, 1) := by decide +kernel
theorem dX12_hand_32 : decode cX12_hand 32 = .ok (.getfield 7, 3) := by decide +kernel
theorem dX12_hand_35 : decode cX12_hand 35 = .ok (.bipush 40, 2) := by decide +kernel
theorem dX12_hand_37 : decode cX12_hand 37 = .ok (.iaload, 1) := by decide +kernel
theorem dX12_hand_38 : decode cX12_hand 38 = .ok (.istore_n 1, 1) := by decide +kernel
theorem dX12_hand_39 : decode cX12_hand 39 = .ok (.aload_n 0, 1) := by decide +kernel
theorem dX12_hand_40 : decode cX12_hand 40 = .ok (.invokevirtual 134, 3) := by decide +kernel
theorem dX12_hand_43 : decode cX12_hand 43 = .ok (.aload_n 0, 1) := by decide +kernel
theorem dX12_hand_44 : decode cX12_hand 44 = .ok (.getfield 7, 3) := by decide +kernel
theorem dX12_hand_47 : decode cX12_hand 47 = .ok (.bipush 40, 2) := by decide +kernel
theorem dX12_hand_49 : decode cX12_hand 49 = .ok (.iconst 0, 1) := by decide +kernel
theorem dX12_hand_50 : decode cX12_hand 50 = .ok (.iastore, 1) := by decide +kernel
theorem dX12_hand_51 : decode cX12_hand 51 = .ok (.aload_n 0, 1) := by decide +kernel
theorem dX12_hand_52 : decode cX12_hand 52 = .ok (.getfield 7, 3) := by decide +kernel
theorem dX12_hand_55 : decode cX12_hand 55 = .ok (.bipush 41, 2) := by decide +kernel
theorem dX12_hand_57 : decode cX12_hand 57 = .ok (.iconst 0, 1) := by decide +kernel
theorem dX12_hand_58 : decode cX12_hand 58 = .ok (.iastore, 1) := by decide +kernel
theorem dX12_hand_59 : decode cX12_hand 59 = .ok (.iload_n 1, 1) := by decide +kernel
theorem dX12_hand_60 : decode cX12_hand 60 = .ok (.ireturn, 1) := by decide +kernel
theorem dX12_undo_0 : decode cX12_undo 0 = .ok (.aload_n 0, 1) := by decide +kernel
theorem dX12_undo_1 : decode cX12_undo 1 = .ok (.getfield 7, 3) := by decide +kernel
theorem dX12_undo_4 : decode cX12_undo 4 = .ok (.iconst 4, 1) := by decide +kernel
theorem dX12_undo_5 : decode cX12_undo 5 = .ok (.iaload, 1) := by decide +kernel
theorem dX12_undo_6 : decode cX12_undo 6 = .ok (.ifCond .ne 10, 3) := by decide +kernel
theorem dX12_undo_9 : decode cX12_undo 9 = .ok (.aload_n 0, 1) := by decide +kernel
theorem dX12_undo_10 : decode cX12_undo 10 = .ok (.bipush (-3), 2) := by decide +kernel
theorem dX12_undo_12 : decode cX12_undo 12 = .ok (.invokevirtual 131, 3) := by decide +kernel
theorem dX12_undo_15 : decode cX12_undo 15 = .ok (.ireturn, 1) := by decide +kernel
theorem dX12_undo_16 : decode cX12_undo 16 = .ok (.aload_n 0, 1) := by decide +kernel
theorem dX12_undo_17 : decode cX12_undo 17 = .ok (.getfield 7, 3) := by decide +kernel
theorem dX12_undo_20 : decode cX12_undo 20 = .ok (.iconst 4, 1) := by decide +kernel
theorem dX12_undo_21 : decode cX12_undo 21 = .ok (.dup2, 1) := by decide +kernel
theorem dX12_undo_22 : decode cX12_undo 22 = .ok (.iaload, 1) := by decide +kernel
theorem dX12_undo_23 : decode cX12_undo 23 = .ok (.iconst 1, 1) := by decide +kernel
theorem dX12_undo_24 : decode cX12_undo 24 = .ok (.isub, 1) := by decide +kernel
theorem dX12_undo_25 : decode cX12_undo 25 = .ok (.iastore, 1) := by decide +kernel
theorem dX12_undo_26 : decode cX12_undo 26 = .ok (.iconst 0, 1) := by decide +kernel
theorem dX12_undo_27 : decode cX12_undo 27 = .ok (.istore_n 1, 1) := by decide +kernel
theorem dX12_undo_28 : decode cX12_undo 28 = .ok (.iload_n 1, 1) := by decide +kernel
theorem dX12_undo_29 : decode cX12_undo 29 = .ok (.iconst 4, 1) := by decide +kernel
theorem dX12_undo_30 : decode cX12_undo 30 = .ok (.if_icmp .ge 36, 3) := by decide +kernel
theorem dX12_undo_33 : decode cX12_undo 33 = .ok (.aload_n 0, 1) := by decide +kernel
theorem dX12_undo_34 : decode cX12_undo 34 = .ok (.getfield 7, 3) := by decide +kernel
theorem dX12_undo_37 : decode cX12_undo 37 = .ok (.bipush 38, 2) := by decide +kernel
theorem dX12_undo_39 : decode cX12_undo 39 = .ok (.iload_n 1, 1) := by decide +kernel
theorem dX12_undo_40 : decode cX12_undo 40 = .ok (.iadd, 1) := by decide +kernel
theorem dX12_undo_41 : decode cX12_undo 41 = .ok (.aload_n 0, 1) := by decide +kernel
theorem dX12_undo_42 : decode cX12_undo 42 = .ok (.getfield 7, 3) := by decide +kernel
theorem dX12_undo_45 : decode cX12_undo 45 = .ok (.bipush 66, 2) := by decide +kernel
theorem dX12_undo_47 : decode cX12_undo 47 = .ok (.iconst 4, 1) := by decide +kernel
theorem dX12_undo_48 : decode cX12_undo 48 = .ok (.aload_n 0, 1) := by decide +kernel
theorem dX12_undo_49 : decode cX12_undo 49 = .ok (.getfield 7, 3) := by decide +kernel
theorem dX12_undo_52 : decode cX12_undo 52 = .ok (.iconst 4, 1) := by decide +kernel
theorem dX12_undo_53 : decode cX12_undo 53 = .ok (.iaload, 1) := by decide +kernel
theorem dX12_undo_54 : decode cX12_undo 54 = .ok (.imul, 1) := by decide +kernel
theorem dX12_undo_55 : decode cX12_undo 55 = .ok (.iadd, 1) := by decide +kernel
theorem dX12_undo_56 : decode cX12_undo 56 = .ok (.iload_n 1, 1) := by decide +kernel
theorem dX12_undo_57 : decode cX12_undo 57 = .ok (.iadd, 1) := by decide +kernel
theorem dX12_undo_58 : decode cX12_undo 58 = .ok (.iaload, 1) := by decide +kernel
theorem dX12_undo_59 : decode cX12_undo 59 = .ok (.iastore, 1) := by decide +kernel
theorem dX12_undo_60 : decode cX12_undo 60 = .ok (.iinc 1 1, 3) := by decide +kernel
theorem dX12_undo_63 : decode cX12_undo 63 = .ok (.goto (-35), 3) := by decide +kernel
theorem dX12_undo_66 : decode cX12_undo 66 = .ok (.aload_n 0, 1) := by decide +kernel
theorem dX12_undo_67 : decode cX12_undo 67 = .ok (.getfield 7, 3) := by decide +kernel
theorem dX12_undo_70 : decode cX12_undo 70 = .ok (.bipush 38, 2) := by decide +kernel
theorem dX12_undo_72 : decode cX12_undo 72 = .ok (.iaload, 1) := by decide +kernel
theorem dX12_undo_73 : decode cX12_undo 73 = .ok (.ireturn, 1) := by decide +kernel
theorem dX12_now_0 : decode cX12_now 0 = .ok (.iload_n 1, 1) := by decide +kernel
theorem dX12_now_1 : decode cX12_now 1 = .ok (.i2l, 1) := by decide +kernel
theorem dX12_now_2 : decode cX12_now 2 = .ok (.lconst 0, 1) := by decide +kernel
theorem dX12_now_3 : decode cX12_now 3 = .ok (.ldc2_w 86, 3) := by decide +kernel
theorem dX12_now_6 : decode cX12_now 6 = .ok (.invokestatic 56, 3) := by decide +kernel
theorem dX12_now_9 : decode cX12_now 9 = .ok (.ifCond .eq 15, 3) := by decide +kernel
theorem dX12_now_12 : decode cX12_now 12 = .ok (.aload_n 0, 1) := by decide +kernel
theorem dX12_now_13 : decode cX12_now 13 = .ok (.getfield 7, 3) := by decide +kernel
theorem dX12_now_16 : decode cX12_now 16 = .ok (.bipush 37, 2) := by decide +kernel
theorem dX12_now_18 : decode cX12_now 18 = .ok (.iload_n 1, 1) := by decide +kernel
theorem dX12_now_19 : decode cX12_now 19 = .ok (.iadd, 1) := by decide +kernel
theorem dX12_now_20 : decode cX12_now 20 = .ok (.iaload, 1) := by decide +kernel
theorem dX12_now_21 : decode cX12_now 21 = .ok (.goto 9, 3) := by decide +kernel
theorem dX12_now_24 : decode cX12_now 24 = .ok (.aload_n 0, 1) := by decide +kernel
theorem dX12_now_25 : decode cX12_now 25 = .ok (.bipush (-100), 2) := by decide +kernel
theorem dX12_now_27 : decode cX12_now 27 = .ok (.invokevirtual 76, 3) := by decide +kernel
theorem dX12_now_30 : decode cX12_now 30 = .ok (.ireturn, 1) := by decide +kernel
theorem dX12_isRow_0 : decode cX12_isRow 0 = .ok (.iload_n 0, 1) := by decide +kernel
theorem dX12_isRow_1 : decode cX12_isRow 1 = .ok (.ifCond .lt 13, 3) := by decide +kernel
theorem dX12_isRow_4 : decode cX12_isRow 4 = .ok (.iload_n 0, 1) := by decide +kernel
theorem dX12_isRow_5 : decode cX12_isRow 5 = .ok (.ldc 143, 2) := by decide +kernel
theorem dX12_isRow_7 : decode cX12_isRow 7 = .ok (.if_icmp .gt 7, 3) := by decide +kernel
theorem dX12_isRow_10 : decode cX12_isRow 10 = .ok (.iconst 1, 1) := by decide +kernel
theorem dX12_isRow_11 : decode cX12_isRow 11 = .ok (.goto 4, 3) := by decide +kernel
theorem dX12_isRow_14 : decode cX12_isRow 14 = .ok (.iconst 0, 1) := by decide +kernel
theorem dX12_isRow_15 : decode cX12_isRow 15 = .ok (.istore_n 1, 1) := by decide +kernel
theorem dX12_isRow_16 : decode cX12_isRow 16 = .ok (.iload_n 0, 1) := by decide +kernel
theorem dX12_isRow_17 : decode cX12_isRow 17 = .ok (.istore_n 2, 1) := by decide +kernel
theorem dX12_isRow_18 : decode cX12_isRow 18 = .ok (.iload_n 2, 1) := by decide +kernel
theorem dX12_isRow_19 : decode cX12_isRow 19 = .ok (.ifCond .le 23, 3) := by decide +kernel
theorem dX12_isRow_22 : decode cX12_isRow 22 = .ok (.iload_n 1, 1) := by decide +kernel
theorem dX12_isRow_23 : decode cX12_isRow 23 = .ok (.ifCond .eq 19, 3) := by decide +kernel
theorem dX12_isRow_26 : decode cX12_isRow 26 = .ok (.iload_n 2, 1) := by decide +kernel
theorem dX12_isRow_27 : decode cX12_isRow 27 = .ok (.bipush 10, 2) := by decide +kernel
theorem dX12_isRow_29 : decode cX12_isRow 29 = .ok (.irem, 1) := by decide +kernel
theorem dX12_isRow_30 : decode cX12_isRow 30 = .ok (.invokestatic 121, 3) := by decide +kernel
theorem dX12_isRow_33 : decode cX12_isRow 33 = .ok (.istore_n 1, 1) := by decide +kernel
theorem dX12_isRow_34 : decode cX12_isRow 34 = .ok (.iload_n 2, 1) := by decide +kernel
theorem dX12_isRow_35 : decode cX12_isRow 35 = .ok (.bipush 10, 2) := by decide +kernel
theorem dX12_isRow_37 : decode cX12_isRow 37 = .ok (.idiv, 1) := by decide +kernel
theorem dX12_isRow_38 : decode cX12_isRow 38 = .ok (.istore_n 2, 1) := by decide +kernel
theorem dX12_isRow_39 : decode cX12_isRow 39 = .ok (.goto (-21), 3) := by decide +kernel
theorem dX12_isRow_42 : decode cX12_isRow 42 = .ok (.iload_n 1, 1) := by decide +kernel
theorem dX12_isRow_43 : decode cX12_isRow 43 = .ok (.ireturn, 1) := by decide +kernel
theorem dX12_manyOf_0 : decode cX12_manyOf 0 = .ok (.iconst 0, 1) := by decide +kernel
theorem dX12_manyOf_1 : decode cX12_manyOf 1 = .ok (.istore_n 1, 1) := by decide +kernel
theorem dX12_manyOf_2 : decode cX12_manyOf 2 = .ok (.iload_n 0, 1) := by decide +kernel
theorem dX12_manyOf_3 : decode cX12_manyOf 3 = .ok (.istore_n 2, 1) := by decide +kernel
theorem dX12_manyOf_4 : decode cX12_manyOf 4 = .ok (.iload_n 2, 1) := by decide +kernel
theorem dX12_manyOf_5 : decode cX12_manyOf 5 = .ok (.ifCond .le 14, 3) := by decide +kernel
theorem dX12_manyOf_8 : decode cX12_manyOf 8 = .ok (.iinc 1 1, 3) := by decide +kernel
theorem dX12_manyOf_11 : decode cX12_manyOf 11 = .ok (.iload_n 2, 1) := by decide +kernel
theorem dX12_manyOf_12 : decode cX12_manyOf 12 = .ok (.bipush 10, 2) := by decide +kernel
theorem dX12_manyOf_14 : decode cX12_manyOf 14 = .ok (.idiv, 1) := by decide +kernel
theorem dX12_manyOf_15 : decode cX12_manyOf 15 = .ok (.istore_n 2, 1) := by decide +kernel
theorem dX12_manyOf_16 : decode cX12_manyOf 16 = .ok (.goto (-12), 3) := by decide +kernel
theorem dX12_manyOf_19 : decode cX12_manyOf 19 = .ok (.iload_n 1, 1) := by decide +kernel
theorem dX12_manyOf_20 : decode cX12_manyOf 20 = .ok (.ireturn, 1) := by decide +kernel
theorem dX12_paceOf_0 : decode cX12_paceOf 0 = .ok (.iload_n 0, 1) := by decide +kernel
theorem dX12_paceOf_1 : decode cX12_paceOf 1 = .ok (.istore_n 2, 1) := by decide +kernel
theorem dX12_paceOf_2 : decode cX12_paceOf 2 = .ok (.iload_n 0, 1) := by decide +kernel
theorem dX12_paceOf_3 : decode cX12_paceOf 3 = .ok (.invokestatic 144, 3) := by decide +kernel
theorem dX12_paceOf_6 : decode cX12_paceOf 6 = .ok (.iconst 1, 1) := by decide +kernel
theorem dX12_paceOf_7 : decode cX12_paceOf 7 = .ok (.isub, 1) := by decide +kernel
theorem dX12_paceOf_8 : decode cX12_paceOf 8 = .ok (.istore_n 3, 1) := by decide +kernel
theorem dX12_paceOf_9 : decode cX12_paceOf 9 = .ok (.iload_n 3, 1) := by decide +kernel
theorem dX12_paceOf_10 : decode cX12_paceOf 10 = .ok (.iload_n 1, 1) := by decide +kernel
theorem dX12_paceOf_11 : decode cX12_paceOf 11 = .ok (.if_icmp .le 14, 3) := by decide +kernel
theorem dX12_paceOf_14 : decode cX12_paceOf 14 = .ok (.iload_n 2, 1) := by decide +kernel
theorem dX12_paceOf_15 : decode cX12_paceOf 15 = .ok (.bipush 10, 2) := by decide +kernel
theorem dX12_paceOf_17 : decode cX12_paceOf 17 = .ok (.idiv, 1) := by decide +kernel
theorem dX12_paceOf_18 : decode cX12_paceOf 18 = .ok (.istore_n 2, 1) := by decide +kernel
theorem dX12_paceOf_19 : decode cX12_paceOf 19 = .ok (.iinc 3 (-1), 3) := by decide +kernel
theorem dX12_paceOf_22 : decode cX12_paceOf 22 = .ok (.goto (-13), 3) := by decide +kernel
theorem dX12_paceOf_25 : decode cX12_paceOf 25 = .ok (.iload_n 2, 1) := by decide +kernel
theorem dX12_paceOf_26 : decode cX12_paceOf 26 = .ok (.bipush 10, 2) := by decide +kernel
theorem dX12_paceOf_28 : decode cX12_paceOf 28 = .ok (.irem, 1) := by decide +kernel
theorem dX12_paceOf_29 : decode cX12_paceOf 29 = .ok (.ireturn, 1) := by decide +kernel
theorem dX12_isOver_0 : decode cX12_isOver 0 = .ok (.aload_n 0, 1) := by decide +kernel
theorem dX12_isOver_1 : decode cX12_isOver 1 = .ok (.aload_n 0, 1) := by decide +kernel
theorem dX12_isOver_2 : decode cX12_isOver 2 = .ok (.getfield 147, 3) := by decide +kernel
theorem dX12_isOver_5 : decode cX12_isOver 5 = .ok (.invokevirtual 118, 3) := by decide +kernel
theorem dX12_isOver_8 : decode cX12_isOver 8 = .ok (.ifCond .ne 14, 3) := by decide +kernel
theorem dX12_isOver_11 : decode cX12_isOver 11 = .ok (.aload_n 0, 1) := by decide +kernel
theorem dX12_isOver_12 : decode cX12_isOver 12 = .ok (.getfield 151, 3) := by decide +kernel
theorem dX12_isOver_15 : decode cX12_isOver 15 = .ok (.aload_n 0, 1) := by decide +kernel
theorem dX12_isOver_16 : decode cX12_isOver 16 = .ok (.invokevirtual 60, 3) := by decide +kernel
theorem dX12_isOver_19 : decode cX12_isOver 19 = .ok (.if_icmp .ne 7, 3) := by decide +kernel
theorem dX12_isOver_22 : decode cX12_isOver 22 = .ok (.iconst 1, 1) := by decide +kernel
theorem dX12_isOver_23 : decode cX12_isOver 23 = .ok (.goto 4, 3) := by decide +kernel
theorem dX12_isOver_26 : decode cX12_isOver 26 = .ok (.iconst 0, 1) := by decide +kernel
theorem dX12_isOver_27 : decode cX12_isOver 27 = .ok (.ireturn, 1) := by decide +kernel
theorem dX12_goStep_0 : decode cX12_goStep 0 = .ok (.aload_n 0, 1) := by decide +kernel
theorem dX12_goStep_1 : decode cX12_goStep 1 = .ok (.aload_n 0, 1) := by decide +kernel
theorem dX12_goStep_2 : decode cX12_goStep 2 = .ok (.iload_n 1, 1) := by decide +kernel
theorem dX12_goStep_3 : decode cX12_goStep 3 = .ok (.aload_n 0, 1) := by decide +kernel
theorem dX12_goStep_4 : decode cX12_goStep 4 = .ok (.getfield 151, 3) := by decide +kernel
theorem dX12_goStep_7 : decode cX12_goStep 7 = .ok (.aload_n 0, 1) := by decide +kernel
theorem dX12_goStep_8 : decode cX12_goStep 8 = .ok (.getfield 147, 3) := by decide +kernel
theorem dX12_goStep_11 : decode cX12_goStep 11 = .ok (.iload_n 2, 1) := by decide +kernel
theorem dX12_goStep_12 : decode cX12_goStep 12 = .ok (.aload_n 0, 1) := by decide +kernel
theorem dX12_goStep_13 : decode cX12_goStep 13 = .ok (.getfield 154, 3) := by decide +kernel
theorem dX12_goStep_16 : decode cX12_goStep 16 = .ok (.iadd, 1) := by decide +kernel
theorem dX12_goStep_17 : decode cX12_goStep 17 = .ok (.iload_n 3, 1) := by decide +kernel
theorem dX12_goStep_18 : decode cX12_goStep 18 = .ok (.invokevirtual 140, 3) := by decide +kernel
theorem dX12_goStep_21 : decode cX12_goStep 21 = .ok (.iload 4, 2) := by decide +kernel
theorem dX12_goStep_23 : decode cX12_goStep 23 = .ok (.iadd, 1) := by decide +kernel
theorem dX12_goStep_24 : decode cX12_goStep 24 = .ok (.putfield 147, 3) := by decide +kernel
theorem dX12_goStep_27 : decode cX12_goStep 27 = .ok (.aload_n 0, 1) := by decide +kernel
theorem dX12_goStep_28 : decode cX12_goStep 28 = .ok (.aload_n 0, 1) := by decide +kernel
theorem dX12_goStep_29 : decode cX12_goStep 29 = .ok (.aload_n 0, 1) := by decide +kernel
theorem dX12_goStep_30 : decode cX12_goStep 30 = .ok (.getfield 151, 3) := by decide +kernel
theorem dX12_goStep_33 : decode cX12_goStep 33 = .ok (.iload_n 3, 1) := by decide +kernel
theorem dX12_goStep_34 : decode cX12_goStep 34 = .ok (.invokevirtual 110, 3) := by decide +kernel
theorem dX12_goStep_37 : decode cX12_goStep 37 = .ok (.putfield 151, 3) := by decide +kernel
theorem dX12_goStep_40 : decode cX12_goStep 40 = .ok (.aload_n 0, 1) := by decide +kernel
theorem dX12_goStep_41 : decode cX12_goStep 41 = .ok (.dup, 1) := by decide +kernel
theorem dX12_goStep_42 : decode cX12_goStep 42 = .ok (.getfield 154, 3) := by decide +kernel
theorem dX12_goStep_45 : decode cX12_goStep 45 = .ok (.iconst 1, 1) := by decide +kernel
theorem dX12_goStep_46 : decode cX12_goStep 46 = .ok (.iadd, 1) := by decide +kernel
theorem dX12_goStep_47 : decode cX12_goStep 47 = .ok (.putfield 154, 3) := by decide +kernel
theorem dX12_goStep_50 : decode cX12_goStep 50 = .ok (.return_, 1) := by decide +kernel
theorem dX12_beginAt_0 : decode cX12_beginAt 0 = .ok (.aload_n 0, 1) := by decide +kernel
theorem dX12_beginAt_1 : decode cX12_beginAt 1 = .ok (.invokevirtual 137, 3) := by decide +kernel
theorem dX12_beginAt_4 : decode cX12_beginAt 4 = .ok (.aload_n 0, 1) := by decide +kernel
theorem dX12_beginAt_5 : decode cX12_beginAt 5 = .ok (.iconst 0, 1) := by decide +kernel
theorem dX12_beginAt_6 : decode cX12_beginAt 6 = .ok (.putfield 151, 3) := by decide +kernel
theorem dX12_beginAt_9 : decode cX12_beginAt 9 = .ok (.aload_n 0, 1) := by decide +kernel
theorem dX12_beginAt_10 : decode cX12_beginAt 10 = .ok (.iload_n 1, 1) := by decide +kernel
theorem dX12_beginAt_11 : decode cX12_beginAt 11 = .ok (.putfield 147, 3) := by decide +kernel
theorem dX12_beginAt_14 : decode cX12_beginAt 14 = .ok (.aload_n 0, 1) := by decide +kernel
theorem dX12_beginAt_15 : decode cX12_beginAt 15 = .ok (.iconst 0, 1) := by decide +kernel
theorem dX12_beginAt_16 : decode cX12_beginAt 16 = .ok (.putfield 154, 3) := by decide +kernel
theorem dX12_beginAt_19 : decode cX12_beginAt 19 = .ok (.return_, 1) := by decide +kernel
theorem dX12_goRow_0 : decode cX12_goRow 0 = .ok (.aload_n 0, 1) := by decide +kernel
theorem dX12_goRow_1 : decode cX12_goRow 1 = .ok (.iload_n 2, 1) := by decide +kernel
theorem dX12_goRow_2 : decode cX12_goRow 2 = .ok (.invokevirtual 157, 3) := by decide +kernel
theorem dX12_goRow_5 : decode cX12_goRow 5 = .ok (.iload 4, 2) := by decide +kernel
theorem dX12_goRow_7 : decode cX12_goRow 7 = .ok (.invokestatic 144, 3) := by decide +kernel
theorem dX12_goRow_10 : decode cX12_goRow 10 = .ok (.istore 7, 2) := by decide +kernel
theorem dX12_goRow_12 : decode cX12_goRow 12 = .ok (.aload_n 0, 1) := by decide +kernel
theorem dX12_goRow_13 : decode cX12_goRow 13 = .ok (.getfield 154, 3) := by decide +kernel
theorem dX12_goRow_16 : decode cX12_goRow 16 = .ok (.iload 7, 2) := by decide +kernel
theorem dX12_goRow_18 : decode cX12_goRow 18 = .ok (.if_icmp .ge 43, 3) := by decide +kernel
theorem dX12_goRow_21 : decode cX12_goRow 21 = .ok (.aload_n 0, 1) := by decide +kernel
theorem dX12_goRow_22 : decode cX12_goRow 22 = .ok (.invokevirtual 161, 3) := by decide +kernel
theorem dX12_goRow_25 : decode cX12_goRow 25 = .ok (.ifCond .ne 36, 3) := by decide +kernel
theorem dX12_goRow_28 : decode cX12_goRow 28 = .ok (.aload_n 0, 1) := by decide +kernel
theorem dX12_goRow_29 : decode cX12_goRow 29 = .ok (.iload_n 1, 1) := by decide +kernel
theorem dX12_goRow_30 : decode cX12_goRow 30 = .ok (.iload_n 3, 1) := by decide +kernel
theorem dX12_goRow_31 : decode cX12_goRow 31 = .ok (.iload 4, 2) := by decide +kernel
theorem dX12_goRow_33 : decode cX12_goRow 33 = .ok (.aload_n 0, 1) := by decide +kernel
theorem dX12_goRow_34 : decode cX12_goRow 34 = .ok (.getfield 154, 3) := by decide +kernel
theorem dX12_goRow_37 : decode cX12_goRow 37 = .ok (.invokestatic 164, 3) := by decide +kernel
theorem dX12_goRow_40 : decode cX12_goRow 40 = .ok (.aload_n 0, 1) := by decide +kernel
theorem dX12_goRow_41 : decode cX12_goRow 41 = .ok (.getfield 154, 3) := by decide +kernel
theorem dX12_goRow_44 : decode cX12_goRow 44 = .ok (.iload 5, 2) := by decide +kernel
theorem dX12_goRow_46 : decode cX12_goRow 46 = .ok (.if_icmp .ne 8, 3) := by decide +kernel
theorem dX12_goRow_49 : decode cX12_goRow 49 = .ok (.iload 6, 2) := by decide +kernel
theorem dX12_goRow_51 : decode cX12_goRow 51 = .ok (.goto 4, 3) := by decide +kernel
theorem dX12_goRow_54 : decode cX12_goRow 54 = .ok (.iconst 0, 1) := by decide +kernel
theorem dX12_goRow_55 : decode cX12_goRow 55 = .ok (.invokevirtual 167, 3) := by decide +kernel
theorem dX12_goRow_58 : decode cX12_goRow 58 = .ok (.goto (-46), 3) := by decide +kernel
theorem dX12_goRow_61 : decode cX12_goRow 61 = .ok (.return_, 1) := by decide +kernel
theorem dX12_paces_0 : decode cX12_paces 0 = .ok (.aload_n 0, 1) := by decide +kernel
theorem dX12_paces_1 : decode cX12_paces 1 = .ok (.iload_n 1, 1) := by decide +kernel
theorem dX12_paces_2 : decode cX12_paces 2 = .ok (.invokevirtual 98, 3) := by decide +kernel
theorem dX12_paces_5 : decode cX12_paces 5 = .ok (.ifCond .eq 30, 3) := by decide +kernel
theorem dX12_paces_8 : decode cX12_paces 8 = .ok (.iload_n 2, 1) := by decide +kernel
theorem dX12_paces_9 : decode cX12_paces 9 = .ok (.invokestatic 171, 3) := by decide +kernel
theorem dX12_paces_12 : decode cX12_paces 12 = .ok (.ifCond .eq 23, 3) := by decide +kernel
theorem dX12_paces_15 : decode cX12_paces 15 = .ok (.iload_n 3, 1) := by decide +kernel
theorem dX12_paces_16 : decode cX12_paces 16 = .ok (.invokestatic 174, 3) := by decide +kernel
theorem dX12_paces_19 : decode cX12_paces 19 = .ok (.ifCond .eq 16, 3) := by decide +kernel
theorem dX12_paces_22 : decode cX12_paces 22 = .ok (.iload 4, 2) := by decide +kernel
theorem dX12_paces_24 : decode cX12_paces 24 = .ok (.i2l, 1) := by decide +kernel
theorem dX12_paces_25 : decode cX12_paces 25 = .ok (.lconst 0, 1) := by decide +kernel
theorem dX12_paces_26 : decode cX12_paces 26 = .ok (.ldc2_w 66, 3) := by decide +kernel
theorem dX12_paces_29 : decode cX12_paces 29 = .ok (.invokestatic 56, 3) := by decide +kernel
theorem dX12_paces_32 : decode cX12_paces 32 = .ok (.ifCond .ne 10, 3) := by decide +kernel
theorem dX12_paces_35 : decode cX12_paces 35 = .ok (.aload_n 0, 1) := by decide +kernel
theorem dX12_paces_36 : decode cX12_paces 36 = .ok (.bipush (-100), 2) := by decide +kernel
theorem dX12_paces_38 : decode cX12_paces 38 = .ok (.invokevirtual 76, 3) := by decide +kernel
theorem dX12_paces_41 : decode cX12_paces 41 = .ok (.ireturn, 1) := by decide +kernel
theorem dX12_paces_42 : decode cX12_paces 42 = .ok (.aload_n 0, 1) := by decide +kernel
theorem dX12_paces_43 : decode cX12_paces 43 = .ok (.aload_n 0, 1) := by decide +kernel
theorem dX12_paces_44 : decode cX12_paces 44 = .ok (.iload_n 1, 1) := by decide +kernel
theorem dX12_paces_45 : decode cX12_paces 45 = .ok (.invokevirtual 101, 3) := by decide +kernel
theorem dX12_paces_48 : decode cX12_paces 48 = .ok (.aload_n 0, 1) := by decide +kernel
theorem dX12_paces_49 : decode cX12_paces 49 = .ok (.iload_n 1, 1) := by decide +kernel
theorem dX12_paces_50 : decode cX12_paces 50 = .ok (.invokevirtual 104, 3) := by decide +kernel
theorem dX12_paces_53 : decode cX12_paces 53 = .ok (.iload_n 2, 1) := by decide +kernel
theorem dX12_paces_54 : decode cX12_paces 54 = .ok (.iload_n 3, 1) := by decide +kernel
theorem dX12_paces_55 : decode cX12_paces 55 = .ok (.iconst (-1), 1) := by decide +kernel
theorem dX12_paces_56 : decode cX12_paces 56 = .ok (.iconst 0, 1) := by decide +kernel
theorem dX12_paces_57 : decode cX12_paces 57 = .ok (.invokevirtual 177, 3) := by decide +kernel
theorem dX12_paces_60 : decode cX12_paces 60 = .ok (.iload 4, 2) := by decide +kernel
theorem dX12_paces_62 : decode cX12_paces 62 = .ok (.ifCond .ne 10, 3) := by decide +kernel
theorem dX12_paces_65 : decode cX12_paces 65 = .ok (.aload_n 0, 1) := by decide +kernel
theorem dX12_paces_66 : decode cX12_paces 66 = .ok (.getfield 151, 3) := by decide +kernel
theorem dX12_paces_69 : decode cX12_paces 69 = .ok (.goto 45, 3) := by decide +kernel
theorem dX12_paces_72 : decode cX12_paces 72 = .ok (.iload 4, 2) := by decide +kernel
theorem dX12_paces_74 : decode cX12_paces 74 = .ok (.iconst 1, 1) := by decide +kernel
theorem dX12_paces_75 : decode cX12_paces 75 = .ok (.if_icmp .ne 10, 3) := by decide +kernel
theorem dX12_paces_78 : decode cX12_paces 78 = .ok (.aload_n 0, 1) := by decide +kernel
theorem dX12_paces_79 : decode cX12_paces 79 = .ok (.getfield 147, 3) := by decide +kernel
theorem dX12_paces_82 : decode cX12_paces 82 = .ok (.goto 32, 3) := by decide +kernel
theorem dX12_paces_85 : decode cX12_paces 85 = .ok (.iload 4, 2) := by decide +kernel
theorem dX12_paces_87 : decode cX12_paces 87 = .ok (.iconst 2, 1) := by decide +kernel
theorem dX12_paces_88 : decode cX12_paces 88 = .ok (.if_icmp .ne 10, 3) := by decide +kernel
theorem dX12_paces_91 : decode cX12_paces 91 = .ok (.aload_n 0, 1) := by decide +kernel
theorem dX12_paces_92 : decode cX12_paces 92 = .ok (.getfield 154, 3) := by decide +kernel
theorem dX12_paces_95 : decode cX12_paces 95 = .ok (.goto 19, 3) := by decide +kernel
theorem dX12_paces_98 : decode cX12_paces 98 = .ok (.aload_n 0, 1) := by decide +kernel
theorem dX12_paces_99 : decode cX12_paces 99 = .ok (.aload_n 0, 1) := by decide +kernel
theorem dX12_paces_100 : decode cX12_paces 100 = .ok (.getfield 147, 3) := by decide +kernel
theorem dX12_paces_103 : decode cX12_paces 103 = .ok (.invokevirtual 118, 3) := by decide +kernel
theorem dX12_paces_106 : decode cX12_paces 106 = .ok (.ifCond .eq 7, 3) := by decide +kernel
theorem dX12_paces_109 : decode cX12_paces 109 = .ok (.iconst 1, 1) := by decide +kernel
theorem dX12_paces_110 : decode cX12_paces 110 = .ok (.goto 4, 3) := by decide +kernel
theorem dX12_paces_113 : decode cX12_paces 113 = .ok (.iconst 0, 1) := by decide +kernel
theorem dX12_paces_114 : decode cX12_paces 114 = .ok (.ireturn, 1) := by decide +kernel
theorem dX12_latestAt_0 : decode cX12_latestAt 0 = .ok (.iload_n 1, 1) := by decide +kernel
theorem dX12_latestAt_1 : decode cX12_latestAt 1 = .ok (.aload_n 0, 1) := by decide +kernel
theorem dX12_latestAt_2 : decode cX12_latestAt 2 = .ok (.invokevirtual 60, 3) := by decide +kernel
theorem dX12_latestAt_5 : decode cX12_latestAt 5 = .ok (.if_icmp .ne 7, 3) := by decide +kernel
theorem dX12_latestAt_8 : decode cX12_latestAt 8 = .ok (.iconst 0, 1) := by decide +kernel
theorem dX12_latestAt_9 : decode cX12_latestAt 9 = .ok (.goto 25, 3) := by decide +kernel
theorem dX12_latestAt_12 : decode cX12_latestAt 12 = .ok (.aload_n 0, 1) := by decide +kernel
theorem dX12_latestAt_13 : decode cX12_latestAt 13 = .ok (.getfield 30, 3) := by decide +kernel
theorem dX12_latestAt_16 : decode cX12_latestAt 16 = .ok (.bipush 25, 2) := by decide +kernel
theorem dX12_latestAt_18 : decode cX12_latestAt 18 = .ok (.bipush 6, 2) := by decide +kernel
theorem dX12_latestAt_20 : decode cX12_latestAt 20 = .ok (.iload_n 1, 1) := by decide +kernel
theorem dX12_latestAt_21 : decode cX12_latestAt 21 = .ok (.imul, 1) := by decide +kernel
theorem dX12_latestAt_22 : decode cX12_latestAt 22 = .ok (.iload_n 3, 1) := by decide +kernel
theorem dX12_latestAt_23 : decode cX12_latestAt 23 = .ok (.bipush 6, 2) := by decide +kernel
theorem dX12_latestAt_25 : decode cX12_latestAt 25 = .ok (.irem, 1) := by decide +kernel
theorem dX12_latestAt_26 : decode cX12_latestAt 26 = .ok (.iadd, 1) := by decide +kernel
theorem dX12_latestAt_27 : decode cX12_latestAt 27 = .ok (.imul, 1) := by decide +kernel
theorem dX12_latestAt_28 : decode cX12_latestAt 28 = .ok (.iload_n 2, 1) := by decide +kernel
theorem dX12_latestAt_29 : decode cX12_latestAt 29 = .ok (.iadd, 1) := by decide +kernel
theorem dX12_latestAt_30 : decode cX12_latestAt 30 = .ok (.bipush 12, 2) := by decide +kernel
theorem dX12_latestAt_32 : decode cX12_latestAt 32 = .ok (.iadd, 1) := by decide +kernel
theorem dX12_latestAt_33 : decode cX12_latestAt 33 = .ok (.iaload, 1) := by decide +kernel
theorem dX12_latestAt_34 : decode cX12_latestAt 34 = .ok (.ireturn, 1) := by decide +kernel
theorem dX12_byPace_0 : decode cX12_byPace 0 = .ok (.aload_n 0, 1) := by decide +kernel
theorem dX12_byPace_1 : decode cX12_byPace 1 = .ok (.iload_n 2, 1) := by decide +kernel
theorem dX12_byPace_2 : decode cX12_byPace 2 = .ok (.iload 5, 2) := by decide +kernel
theorem dX12_byPace_4 : decode cX12_byPace 4 = .ok (.invokevirtual 110, 3) := by decide +kernel
theorem dX12_byPace_7 : decode cX12_byPace 7 = .ok (.istore 7, 2) := by decide +kernel
theorem dX12_byPace_9 : decode cX12_byPace 9 = .ok (.aload_n 0, 1) := by decide +kernel
theorem dX12_byPace_10 : decode cX12_byPace 10 = .ok (.iload_n 1, 1) := by decide +kernel
theorem dX12_byPace_11 : decode cX12_byPace 11 = .ok (.iload_n 2, 1) := by decide +kernel
theorem dX12_byPace_12 : decode cX12_byPace 12 = .ok (.iload_n 3, 1) := by decide +kernel
theorem dX12_byPace_13 : decode cX12_byPace 13 = .ok (.iload 4, 2) := by decide +kernel
theorem dX12_byPace_15 : decode cX12_byPace 15 = .ok (.iload 5, 2) := by decide +kernel
theorem dX12_byPace_17 : decode cX12_byPace 17 = .ok (.invokevirtual 140, 3) := by decide +kernel
theorem dX12_byPace_20 : decode cX12_byPace 20 = .ok (.istore 8, 2) := by decide +kernel
theorem dX12_byPace_22 : decode cX12_byPace 22 = .ok (.iconst 0, 1) := by decide +kernel
theorem dX12_byPace_23 : decode cX12_byPace 23 = .ok (.istore 9, 2) := by decide +kernel
theorem dX12_byPace_25 : decode cX12_byPace 25 = .ok (.iconst (-1), 1) := by decide +kernel
theorem dX12_byPace_26 : decode cX12_byPace 26 = .ok (.istore 10, 2) := by decide +kernel
theorem dX12_byPace_28 : decode cX12_byPace 28 = .ok (.iload 10, 2) := by decide +kernel
theorem dX12_byPace_30 : decode cX12_byPace 30 = .ok (.iconst 2, 1) := by decide +kernel
theorem dX12_byPace_31 : decode cX12_byPace 31 = .ok (.if_icmp .ge 65, 3) := by decide +kernel
theorem dX12_byPace_34 : decode cX12_byPace 34 = .ok (.iload 8, 2) := by decide +kernel
theorem dX12_byPace_36 : decode cX12_byPace 36 = .ok (.iload 10, 2) := by decide +kernel
theorem dX12_byPace_38 : decode cX12_byPace 38 = .ok (.iload 6, 2) := by decide +kernel
theorem dX12_byPace_40 : decode cX12_byPace 40 = .ok (.imul, 1) := by decide +kernel
theorem dX12_byPace_41 : decode cX12_byPace 41 = .ok (.iadd, 1) := by decide +kernel
theorem dX12_byPace_42 : decode cX12_byPace 42 = .ok (.istore 11, 2) := by decide +kernel
theorem dX12_byPace_44 : decode cX12_byPace 44 = .ok (.aload_n 0, 1) := by decide +kernel
theorem dX12_byPace_45 : decode cX12_byPace 45 = .ok (.iload 11, 2) := by decide +kernel
theorem dX12_byPace_47 : decode cX12_byPace 47 = .ok (.invokevirtual 118, 3) := by decide +kernel
theorem dX12_byPace_50 : decode cX12_byPace 50 = .ok (.ifCond .eq 8, 3) := by decide +kernel
theorem dX12_byPace_53 : decode cX12_byPace 53 = .ok (.ldc 181, 2) := by decide +kernel
theorem dX12_byPace_55 : decode cX12_byPace 55 = .ok (.goto 17, 3) := by decide +kernel
theorem dX12_byPace_58 : decode cX12_byPace 58 = .ok (.iconst 1, 1) := by decide +kernel
theorem dX12_byPace_59 : decode cX12_byPace 59 = .ok (.aload_n 0, 1) := by decide +kernel
theorem dX12_byPace_60 : decode cX12_byPace 60 = .ok (.iload 7, 2) := by decide +kernel
theorem dX12_byPace_62 : decode cX12_byPace 62 = .ok (.iload 11, 2) := by decide +kernel
theorem dX12_byPace_64 : decode cX12_byPace 64 = .ok (.iload 4, 2) := by decide +kernel
theorem dX12_byPace_66 : decode cX12_byPace 66 = .ok (.iconst 1, 1) := by decide +kernel
theorem dX12_byPace_67 : decode cX12_byPace 67 = .ok (.iadd, 1) := by decide +kernel
theorem dX12_byPace_68 : decode cX12_byPace 68 = .ok (.invokevirtual 182, 3) := by decide +kernel
theorem dX12_byPace_71 : decode cX12_byPace 71 = .ok (.iadd, 1) := by decide +kernel
theorem dX12_byPace_72 : decode cX12_byPace 72 = .ok (.istore 12, 2) := by decide +kernel
theorem dX12_byPace_74 : decode cX12_byPace 74 = .ok (.iload 12, 2) := by decide +kernel
theorem dX12_byPace_76 : decode cX12_byPace 76 = .ok (.iload 9, 2) := by decide +kernel
theorem dX12_byPace_78 : decode cX12_byPace 78 = .ok (.if_icmp .le 8, 3) := by decide +kernel
theorem dX12_byPace_81 : decode cX12_byPace 81 = .ok (.iload 12, 2) := by decide +kernel
theorem dX12_byPace_83 : decode cX12_byPace 83 = .ok (.goto 5, 3) := by decide +kernel
theorem dX12_byPace_86 : decode cX12_byPace 86 = .ok (.iload 9, 2) := by decide +kernel
theorem dX12_byPace_88 : decode cX12_byPace 88 = .ok (.istore 9, 2) := by decide +kernel
theorem dX12_byPace_90 : decode cX12_byPace 90 = .ok (.iinc 10 1, 3) := by decide +kernel
theorem dX12_byPace_93 : decode cX12_byPace 93 = .ok (.goto (-65), 3) := by decide +kernel
theorem dX12_byPace_96 : decode cX12_byPace 96 = .ok (.iload 9, 2) := by decide +kernel
theorem dX12_byPace_98 : decode cX12_byPace 98 = .ok (.ldc 181, 2) := by decide +kernel
theorem dX12_byPace_100 : decode cX12_byPace 100 = .ok (.if_icmp .le 8, 3) := by decide +kernel
theorem dX12_byPace_103 : decode cX12_byPace 103 = .ok (.ldc 181, 2) := by decide +kernel
theorem dX12_byPace_105 : decode cX12_byPace 105 = .ok (.goto 5, 3) := by decide +kernel
theorem dX12_byPace_108 : decode cX12_byPace 108 = .ok (.iload 9, 2) := by decide +kernel
theorem dX12_byPace_110 : decode cX12_byPace 110 = .ok (.ireturn, 1) := by decide +kernel
theorem dX12_layLatest_0 : decode cX12_layLatest 0 = .ok (.aload_n 0, 1) := by decide +kernel
theorem dX12_layLatest_1 : decode cX12_layLatest 1 = .ok (.invokevirtual 60, 3) := by decide +kernel
theorem dX12_layLatest_4 : decode cX12_layLatest 4 = .ok (.iconst 1, 1) := by decide +kernel
theorem dX12_layLatest_5 : decode cX12_layLatest 5 = .ok (.isub, 1) := by decide +kernel
theorem dX12_layLatest_6 : decode cX12_layLatest 6 = .ok (.istore_n 3, 1) := by decide +kernel
theorem dX12_layLatest_7 : decode cX12_layLatest 7 = .ok (.iload_n 3, 1) := by decide +kernel
theorem dX12_layLatest_8 : decode cX12_layLatest 8 = .ok (.ifCond .lt 124, 3) := by decide +kernel
theorem dX12_layLatest_11 : decode cX12_layLatest 11 = .ok (.iconst 0, 1) := by decide +kernel
theorem dX12_layLatest_12 : decode cX12_layLatest 12 = .ok (.istore 4, 2) := by decide +kernel
theorem dX12_layLatest_14 : decode cX12_layLatest 14 = .ok (.iload 4, 2) := by decide +kernel
theorem dX12_layLatest_16 : decode cX12_layLatest 16 = .ok (.bipush 6, 2) := by decide +kernel
theorem dX12_layLatest_18 : decode cX12_layLatest 18 = .ok (.if_icmp .ge 108, 3) := by decide +kernel
theorem dX12_layLatest_21 : decode cX12_layLatest 21 = .ok (.aload_n 0, 1) := by decide +kernel
theorem dX12_layLatest_22 : decode cX12_layLatest 22 = .ok (.getfield 7, 3) := by decide +kernel
theorem dX12_layLatest_25 : decode cX12_layLatest 25 = .ok (.iconst 1, 1) := by decide +kernel
theorem dX12_layLatest_26 : decode cX12_layLatest 26 = .ok (.iaload, 1) := by decide +kernel
theorem dX12_layLatest_27 : decode cX12_layLatest 27 = .ok (.ineg, 1) := by decide +kernel
theorem dX12_layLatest_28 : decode cX12_layLatest 28 = .ok (.istore 5, 2) := by decide +kernel
theorem dX12_layLatest_30 : decode cX12_layLatest 30 = .ok (.iload 5, 2) := by decide +kernel
theorem dX12_layLatest_32 : decode cX12_layLatest 32 = .ok (.aload_n 0, 1) := by decide +kernel
theorem dX12_layLatest_33 : decode cX12_layLatest 33 = .ok (.getfield 7, 3) := by decide +kernel
theorem dX12_layLatest_36 : decode cX12_layLatest 36 = .ok (.iconst 1, 1) := by decide +kernel
theorem dX12_layLatest_37 : decode cX12_layLatest 37 = .ok (.iaload, 1) := by decide +kernel
theorem dX12_layLatest_38 : decode cX12_layLatest 38 = .ok (.if_icmp .gt 82, 3) := by decide +kernel
theorem dX12_layLatest_41 : decode cX12_layLatest 41 = .ok (.ldc 181, 2) := by decide +kernel
theorem dX12_layLatest_43 : decode cX12_layLatest 43 = .ok (.istore 6, 2) := by decide +kernel
theorem dX12_layLatest_45 : decode cX12_layLatest 45 = .ok (.iconst 1, 1) := by decide +kernel
theorem dX12_layLatest_46 : decode cX12_layLatest 46 = .ok (.istore 7, 2) := by decide +kernel
theorem dX12_layLatest_48 : decode cX12_layLatest 48 = .ok (.iload 7, 2) := by decide +kernel
theorem dX12_layLatest_50 : decode cX12_layLatest 50 = .ok (.iconst 4, 1) := by decide +kernel
theorem dX12_layLatest_51 : decode cX12_layLatest 51 = .ok (.if_icmp .ge 40, 3) := by decide +kernel
theorem dX12_layLatest_54 : decode cX12_layLatest 54 = .ok (.aload_n 0, 1) := by decide +kernel
theorem dX12_layLatest_55 : decode cX12_layLatest 55 = .ok (.iload_n 1, 1) := by decide +kernel
theorem dX12_layLatest_56 : decode cX12_layLatest 56 = .ok (.iload_n 3, 1) := by decide +kernel
theorem dX12_layLatest_57 : decode cX12_layLatest 57 = .ok (.iload 5, 2) := by decide +kernel
theorem dX12_layLatest_59 : decode cX12_layLatest 59 = .ok (.iload 4, 2) := by decide +kernel
theorem dX12_layLatest_61 : decode cX12_layLatest 61 = .ok (.iload 7, 2) := by decide +kernel
theorem dX12_layLatest_63 : decode cX12_layLatest 63 = .ok (.iload_n 2, 1) := by decide +kernel
theorem dX12_layLatest_64 : decode cX12_layLatest 64 = .ok (.invokevirtual 186, 3) := by decide +kernel
theorem dX12_layLatest_67 : decode cX12_layLatest 67 = .ok (.istore 8, 2) := by decide +kernel
theorem dX12_layLatest_69 : decode cX12_layLatest 69 = .ok (.iload 8, 2) := by decide +kernel
theorem dX12_layLatest_71 : decode cX12_layLatest 71 = .ok (.iload 6, 2) := by decide +kernel
theorem dX12_layLatest_73 : decode cX12_layLatest 73 = .ok (.if_icmp .ge 8, 3) := by decide +kernel
theorem dX12_layLatest_76 : decode cX12_layLatest 76 = .ok (.iload 8, 2) := by decide +kernel
theorem dX12_layLatest_78 : decode cX12_layLatest 78 = .ok (.goto 5, 3) := by decide +kernel
theorem dX12_layLatest_81 : decode cX12_layLatest 81 = .ok (.iload 6, 2) := by decide +kernel
theorem dX12_layLatest_83 : decode cX12_layLatest 83 = .ok (.istore 6, 2) := by decide +kernel
theorem dX12_layLatest_85 : decode cX12_layLatest 85 = .ok (.iinc 7 1, 3) := by decide +kernel
theorem dX12_layLatest_88 : decode cX12_layLatest 88 = .ok (.goto (-40), 3) := by decide +kernel
theorem dX12_layLatest_91 : decode cX12_layLatest 91 = .ok (.aload_n 0, 1) := by decide +kernel
theorem dX12_layLatest_92 : decode cX12_layLatest 92 = .ok (.getfield 30, 3) := by decide +kernel
theorem dX12_layLatest_95 : decode cX12_layLatest 95 = .ok (.bipush 25, 2) := by decide +kernel
theorem dX12_layLatest_97 : decode cX12_layLatest 97 = .ok (.bipush 6, 2) := by decide +kernel
theorem dX12_layLatest_99 : decode cX12_layLatest 99 = .ok (.iload_n 3, 1) := by decide +kernel
theorem dX12_layLatest_100 : decode cX12_layLatest 100 = .ok (.imul, 1) := by decide +kernel
theorem dX12_layLatest_101 : decode cX12_layLatest 101 = .ok (.iload 4, 2) := by decide +kernel
theorem dX12_layLatest_103 : decode cX12_layLatest 103 = .ok (.iadd, 1) := by decide +kernel
theorem dX12_layLatest_104 : decode cX12_layLatest 104 = .ok (.imul, 1) := by decide +kernel
theorem dX12_layLatest_105 : decode cX12_layLatest 105 = .ok (.iload 5, 2) := by decide +kernel
theorem dX12_layLatest_107 : decode cX12_layLatest 107 = .ok (.iadd, 1) := by decide +kernel
theorem dX12_layLatest_108 : decode cX12_layLatest 108 = .ok (.bipush 12, 2) := by decide +kernel
theorem dX12_layLatest_110 : decode cX12_layLatest 110 = .ok (.iadd, 1) := by decide +kernel
theorem dX12_layLatest_111 : decode cX12_layLatest 111 = .ok (.iload 6, 2) := by decide +kernel
theorem dX12_layLatest_113 : decode cX12_layLatest 113 = .ok (.iastore, 1) := by decide +kernel
theorem dX12_layLatest_114 : decode cX12_layLatest 114 = .ok (.iinc 5 1, 3) := by decide +kernel
theorem dX12_layLatest_117 : decode cX12_layLatest 117 = .ok (.goto (-87), 3) := by decide +kernel
theorem dX12_layLatest_120 : decode cX12_layLatest 120 = .ok (.iinc 4 1, 3) := by decide +kernel
theorem dX12_layLatest_123 : decode cX12_layLatest 123 = .ok (.goto (-109), 3) := by decide +kernel
theorem dX12_layLatest_126 : decode cX12_layLatest 126 = .ok (.iinc 3 (-1), 3) := by decide +kernel
theorem dX12_layLatest_129 : decode cX12_layLatest 129 = .ok (.goto (-122), 3) := by decide +kernel
theorem dX12_layLatest_132 : decode cX12_layLatest 132 = .ok (.return_, 1) := by decide +kernel
theorem dX12_throughIn_0 : decode cX12_throughIn 0 = .ok (.aload_n 0, 1) := by decide +kernel
theorem dX12_throughIn_1 : decode cX12_throughIn 1 = .ok (.aload_n 0, 1) := by decide +kernel
theorem dX12_throughIn_2 : decode cX12_throughIn 2 = .ok (.iload_n 1, 1) := by decide +kernel
theorem dX12_throughIn_3 : decode cX12_throughIn 3 = .ok (.invokevirtual 104, 3) := by decide +kernel
theorem dX12_throughIn_6 : decode cX12_throughIn 6 = .ok (.invokevirtual 118, 3) := by decide +kernel
theorem dX12_throughIn_9 : decode cX12_throughIn 9 = .ok (.ifCond .eq 8, 3) := by decide +kernel
theorem dX12_throughIn_12 : decode cX12_throughIn 12 = .ok (.ldc 181, 2) := by decide +kernel
theorem dX12_throughIn_14 : decode cX12_throughIn 14 = .ok (.goto 14, 3) := by decide +kernel
theorem dX12_throughIn_17 : decode cX12_throughIn 17 = .ok (.aload_n 0, 1) := by decide +kernel
theorem dX12_throughIn_18 : decode cX12_throughIn 18 = .ok (.iconst 0, 1) := by decide +kernel
theorem dX12_throughIn_19 : decode cX12_throughIn 19 = .ok (.aload_n 0, 1) := by decide +kernel
theorem dX12_throughIn_20 : decode cX12_throughIn 20 = .ok (.iload_n 1, 1) := by decide +kernel
theorem dX12_throughIn_21 : decode cX12_throughIn 21 = .ok (.invokevirtual 104, 3) := by decide +kernel
theorem dX12_throughIn_24 : decode cX12_throughIn 24 = .ok (.iload_n 2, 1) := by decide +kernel
theorem dX12_throughIn_25 : decode cX12_throughIn 25 = .ok (.invokevirtual 182, 3) := by decide +kernel
theorem dX12_throughIn_28 : decode cX12_throughIn 28 = .ok (.ireturn, 1) := by decide +kernel
theorem dX12_soonest_0 : decode cX12_soonest 0 = .ok (.aload_n 0, 1) := by decide +kernel
theorem dX12_soonest_1 : decode cX12_soonest 1 = .ok (.iload_n 1, 1) := by decide +kernel
theorem dX12_soonest_2 : decode cX12_soonest 2 = .ok (.invokevirtual 98, 3) := by decide +kernel
theorem dX12_soonest_5 : decode cX12_soonest 5 = .ok (.ifCond .eq 15, 3) := by decide +kernel
theorem dX12_soonest_8 : decode cX12_soonest 8 = .ok (.iload_n 2, 1) := by decide +kernel
theorem dX12_soonest_9 : decode cX12_soonest 9 = .ok (.invokestatic 171, 3) := by decide +kernel
theorem dX12_soonest_12 : decode cX12_soonest 12 = .ok (.ifCond .eq 8, 3) := by decide +kernel
theorem dX12_soonest_15 : decode cX12_soonest 15 = .ok (.iload_n 3, 1) := by decide +kernel
theorem dX12_soonest_16 : decode cX12_soonest 16 = .ok (.iconst (-1), 1) := by decide +kernel
theorem dX12_soonest_17 : decode cX12_soonest 17 = .ok (.if_icmp .ge 10, 3) := by decide +kernel
theorem dX12_soonest_20 : decode cX12_soonest 20 = .ok (.aload_n 0, 1) := by decide +kernel
theorem dX12_soonest_21 : decode cX12_soonest 21 = .ok (.bipush (-10), 2) := by decide +kernel
theorem dX12_soonest_23 : decode cX12_soonest 23 = .ok (.invokevirtual 76, 3) := by decide +kernel
theorem dX12_soonest_26 : decode cX12_soonest 26 = .ok (.ireturn, 1) := by decide +kernel
theorem dX12_soonest_27 : decode cX12_soonest 27 = .ok (.aload_n 0, 1) := by decide +kernel
theorem dX12_soonest_28 : decode cX12_soonest 28 = .ok (.invokevirtual 137, 3) := by decide +kernel
theorem dX12_soonest_31 : decode cX12_soonest 31 = .ok (.aload_n 0, 1) := by decide +kernel
theorem dX12_soonest_32 : decode cX12_soonest 32 = .ok (.aload_n 0, 1) := by decide +kernel
theorem dX12_soonest_33 : decode cX12_soonest 33 = .ok (.iload_n 1, 1) := by decide +kernel
theorem dX12_soonest_34 : decode cX12_soonest 34 = .ok (.invokevirtual 101, 3) := by decide +kernel
theorem dX12_soonest_37 : decode cX12_soonest 37 = .ok (.iconst 0, 1) := by decide +kernel
theorem dX12_soonest_38 : decode cX12_soonest 38 = .ok (.invokevirtual 190, 3) := by decide +kernel
theorem dX12_soonest_41 : decode cX12_soonest 41 = .ok (.aload_n 0, 1) := by decide +kernel
theorem dX12_soonest_42 : decode cX12_soonest 42 = .ok (.iload_n 1, 1) := by decide +kernel
theorem dX12_soonest_43 : decode cX12_soonest 43 = .ok (.iload_n 2, 1) := by decide +kernel
theorem dX12_soonest_44 : decode cX12_soonest 44 = .ok (.invokevirtual 194, 3) := by decide +kernel
theorem dX12_soonest_47 : decode cX12_soonest 47 = .ok (.istore 4, 2) := by decide +kernel
theorem dX12_soonest_49 : decode cX12_soonest 49 = .ok (.iload 4, 2) := by decide +kernel
theorem dX12_soonest_51 : decode cX12_soonest 51 = .ok (.ldc 181, 2) := by decide +kernel
theorem dX12_soonest_53 : decode cX12_soonest 53 = .ok (.if_icmp .lt 5, 3) := by decide +kernel
theorem dX12_soonest_56 : decode cX12_soonest 56 = .ok (.iconst (-1), 1) := by decide +kernel
theorem dX12_soonest_57 : decode cX12_soonest 57 = .ok (.ireturn, 1) := by decide +kernel
theorem dX12_soonest_58 : decode cX12_soonest 58 = .ok (.iload_n 3, 1) := by decide +kernel
theorem dX12_soonest_59 : decode cX12_soonest 59 = .ok (.iconst (-1), 1) := by decide +kernel
theorem dX12_soonest_60 : decode cX12_soonest 60 = .ok (.if_icmp .eq 9, 3) := by decide +kernel
theorem dX12_soonest_63 : decode cX12_soonest 63 = .ok (.iload_n 3, 1) := by decide +kernel
theorem dX12_soonest_64 : decode cX12_soonest 64 = .ok (.iload 4, 2) := by decide +kernel
theorem dX12_soonest_66 : decode cX12_soonest 66 = .ok (.if_icmp .lt 16, 3) := by decide +kernel
theorem dX12_soonest_69 : decode cX12_soonest 69 = .ok (.iload_n 3, 1) := by decide +kernel
theorem dX12_soonest_70 : decode cX12_soonest 70 = .ok (.iconst (-1), 1) := by decide +kernel
theorem dX12_soonest_71 : decode cX12_soonest 71 = .ok (.if_icmp .ne 8, 3) := by decide +kernel
theorem dX12_soonest_74 : decode cX12_soonest 74 = .ok (.iload 4, 2) := by decide +kernel
theorem dX12_soonest_76 : decode cX12_soonest 76 = .ok (.goto 5, 3) := by decide +kernel
theorem dX12_soonest_79 : decode cX12_soonest 79 = .ok (.bipush (-5), 2) := by decide +kernel
theorem dX12_soonest_81 : decode cX12_soonest 81 = .ok (.ireturn, 1) := by decide +kernel
theorem dX12_soonest_82 : decode cX12_soonest 82 = .ok (.aload_n 0, 1) := by decide +kernel
theorem dX12_soonest_83 : decode cX12_soonest 83 = .ok (.aload_n 0, 1) := by decide +kernel
theorem dX12_soonest_84 : decode cX12_soonest 84 = .ok (.iload_n 1, 1) := by decide +kernel
theorem dX12_soonest_85 : decode cX12_soonest 85 = .ok (.invokevirtual 104, 3) := by decide +kernel
theorem dX12_soonest_88 : decode cX12_soonest 88 = .ok (.invokevirtual 157, 3) := by decide +kernel
theorem dX12_soonest_91 : decode cX12_soonest 91 = .ok (.iconst 0, 1) := by decide +kernel
theorem dX12_soonest_92 : decode cX12_soonest 92 = .ok (.istore 5, 2) := by decide +kernel
theorem dX12_soonest_94 : decode cX12_soonest 94 = .ok (.aload_n 0, 1) := by decide +kernel
theorem dX12_soonest_95 : decode cX12_soonest 95 = .ok (.getfield 154, 3) := by decide +kernel
theorem dX12_soonest_98 : decode cX12_soonest 98 = .ok (.iload_n 3, 1) := by decide +kernel
theorem dX12_soonest_99 : decode cX12_soonest 99 = .ok (.if_icmp .gt 75, 3) := by decide +kernel
theorem dX12_soonest_102 : decode cX12_soonest 102 = .ok (.iconst 1, 1) := by decide +kernel
theorem dX12_soonest_103 : decode cX12_soonest 103 = .ok (.istore 5, 2) := by decide +kernel
theorem dX12_soonest_105 : decode cX12_soonest 105 = .ok (.aload_n 0, 1) := by decide +kernel
theorem dX12_soonest_106 : decode cX12_soonest 106 = .ok (.aload_n 0, 1) := by decide +kernel
theorem dX12_soonest_107 : decode cX12_soonest 107 = .ok (.iload_n 1, 1) := by decide +kernel
theorem dX12_soonest_108 : decode cX12_soonest 108 = .ok (.invokevirtual 101, 3) := by decide +kernel
theorem dX12_soonest_111 : decode cX12_soonest 111 = .ok (.aload_n 0, 1) := by decide +kernel
theorem dX12_soonest_112 : decode cX12_soonest 112 = .ok (.getfield 151, 3) := by decide +kernel
theorem dX12_soonest_115 : decode cX12_soonest 115 = .ok (.aload_n 0, 1) := by decide +kernel
theorem dX12_soonest_116 : decode cX12_soonest 116 = .ok (.getfield 147, 3) := by decide +kernel
theorem dX12_soonest_119 : decode cX12_soonest 119 = .ok (.iload_n 2, 1) := by decide +kernel
theorem dX12_soonest_120 : decode cX12_soonest 120 = .ok (.aload_n 0, 1) := by decide +kernel
theorem dX12_soonest_121 : decode cX12_soonest 121 = .ok (.getfield 154, 3) := by decide +kernel
theorem dX12_soonest_124 : decode cX12_soonest 124 = .ok (.iadd, 1) := by decide +kernel
theorem dX12_soonest_125 : decode cX12_soonest 125 = .ok (.iload 5, 2) := by decide +kernel
theorem dX12_soonest_127 : decode cX12_soonest 127 = .ok (.iconst 0, 1) := by decide +kernel
theorem dX12_soonest_128 : decode cX12_soonest 128 = .ok (.invokevirtual 186, 3) := by decide +kernel
theorem dX12_soonest_131 : decode cX12_soonest 131 = .ok (.aload_n 0, 1) := by decide +kernel
theorem dX12_soonest_132 : decode cX12_soonest 132 = .ok (.aload_n 0, 1) := by decide +kernel
theorem dX12_soonest_133 : decode cX12_soonest 133 = .ok (.getfield 151, 3) := by decide +kernel
theorem dX12_soonest_136 : decode cX12_soonest 136 = .ok (.aload_n 0, 1) := by decide +kernel
theorem dX12_soonest_137 : decode cX12_soonest 137 = .ok (.getfield 147, 3) := by decide +kernel
theorem dX12_soonest_140 : decode cX12_soonest 140 = .ok (.iload_n 2, 1) := by decide +kernel
theorem dX12_soonest_141 : decode cX12_soonest 141 = .ok (.aload_n 0, 1) := by decide +kernel
theorem dX12_soonest_142 : decode cX12_soonest 142 = .ok (.getfield 154, 3) := by decide +kernel
theorem dX12_soonest_145 : decode cX12_soonest 145 = .ok (.iadd, 1) := by decide +kernel
theorem dX12_soonest_146 : decode cX12_soonest 146 = .ok (.invokevirtual 182, 3) := by decide +kernel
theorem dX12_soonest_149 : decode cX12_soonest 149 = .ok (.if_icmp .eq 9, 3) := by decide +kernel
theorem dX12_soonest_152 : decode cX12_soonest 152 = .ok (.iinc 5 1, 3) := by decide +kernel
theorem dX12_soonest_155 : decode cX12_soonest 155 = .ok (.goto (-50), 3) := by decide +kernel
theorem dX12_soonest_158 : decode cX12_soonest 158 = .ok (.aload_n 0, 1) := by decide +kernel
theorem dX12_soonest_159 : decode cX12_soonest 159 = .ok (.aload_n 0, 1) := by decide +kernel
theorem dX12_soonest_160 : decode cX12_soonest 160 = .ok (.iload_n 1, 1) := by decide +kernel
theorem dX12_soonest_161 : decode cX12_soonest 161 = .ok (.invokevirtual 101, 3) := by decide +kernel
theorem dX12_soonest_164 : decode cX12_soonest 164 = .ok (.iload_n 2, 1) := by decide +kernel
theorem dX12_soonest_165 : decode cX12_soonest 165 = .ok (.iload 5, 2) := by decide +kernel
theorem dX12_soonest_167 : decode cX12_soonest 167 = .ok (.iconst 0, 1) := by decide +kernel
theorem dX12_soonest_168 : decode cX12_soonest 168 = .ok (.invokevirtual 167, 3) := by decide +kernel
theorem dX12_soonest_171 : decode cX12_soonest 171 = .ok (.goto (-77), 3) := by decide +kernel
theorem dX12_soonest_174 : decode cX12_soonest 174 = .ok (.iload 5, 2) := by decide +kernel
theorem dX12_soonest_176 : decode cX12_soonest 176 = .ok (.ireturn, 1) := by decide +kernel
theorem dX12_hour_0 : decode cX12_hour 0 = .ok (.aload_n 0, 1) := by decide +kernel
theorem dX12_hour_1 : decode cX12_hour 1 = .ok (.iload_n 1, 1) := by decide +kernel
theorem dX12_hour_2 : decode cX12_hour 2 = .ok (.invokevirtual 98, 3) := by decide +kernel
theorem dX12_hour_5 : decode cX12_hour 5 = .ok (.ifCond .ne 10, 3) := by decide +kernel
theorem dX12_hour_8 : decode cX12_hour 8 = .ok (.aload_n 0, 1) := by decide +kernel
theorem dX12_hour_9 : decode cX12_hour 9 = .ok (.bipush (-2), 2) := by decide +kernel
theorem dX12_hour_11 : decode cX12_hour 11 = .ok (.invokevirtual 76, 3) := by decide +kernel
theorem dX12_hour_14 : decode cX12_hour 14 = .ok (.ireturn, 1) := by decide +kernel
theorem dX12_hour_15 : decode cX12_hour 15 = .ok (.iconst (-1), 1) := by decide +kernel
theorem dX12_hour_16 : decode cX12_hour 16 = .ok (.istore_n 2, 1) := by decide +kernel
theorem dX12_hour_17 : decode cX12_hour 17 = .ok (.ldc 181, 2) := by decide +kernel
theorem dX12_hour_19 : decode cX12_hour 19 = .ok (.istore_n 3, 1) := by decide +kernel
theorem dX12_hour_20 : decode cX12_hour 20 = .ok (.aload_n 0, 1) := by decide +kernel
theorem dX12_hour_21 : decode cX12_hour 21 = .ok (.invokevirtual 137, 3) := by decide +kernel
theorem dX12_hour_24 : decode cX12_hour 24 = .ok (.aload_n 0, 1) := by decide +kernel
theorem dX12_hour_25 : decode cX12_hour 25 = .ok (.aload_n 0, 1) := by decide +kernel
theorem dX12_hour_26 : decode cX12_hour 26 = .ok (.iload_n 1, 1) := by decide +kernel
theorem dX12_hour_27 : decode cX12_hour 27 = .ok (.invokevirtual 101, 3) := by decide +kernel
theorem dX12_hour_30 : decode cX12_hour 30 = .ok (.iconst 0, 1) := by decide +kernel
theorem dX12_hour_31 : decode cX12_hour 31 = .ok (.invokevirtual 190, 3) := by decide +kernel
theorem dX12_hour_34 : decode cX12_hour 34 = .ok (.iconst 0, 1) := by decide +kernel
theorem dX12_hour_35 : decode cX12_hour 35 = .ok (.istore 4, 2) := by decide +kernel
theorem dX12_hour_37 : decode cX12_hour 37 = .ok (.iload 4, 2) := by decide +kernel
theorem dX12_hour_39 : decode cX12_hour 39 = .ok (.bipush 6, 2) := by decide +kernel
theorem dX12_hour_41 : decode cX12_hour 41 = .ok (.if_icmp .ge 44, 3) := by decide +kernel
theorem dX12_hour_44 : decode cX12_hour 44 = .ok (.aload_n 0, 1) := by decide +kernel
theorem dX12_hour_45 : decode cX12_hour 45 = .ok (.iload_n 1, 1) := by decide +kernel
theorem dX12_hour_46 : decode cX12_hour 46 = .ok (.iload 4, 2) := by decide +kernel
theorem dX12_hour_48 : decode cX12_hour 48 = .ok (.invokevirtual 194, 3) := by decide +kernel
theorem dX12_hour_51 : decode cX12_hour 51 = .ok (.istore 5, 2) := by decide +kernel
theorem dX12_hour_53 : decode cX12_hour 53 = .ok (.iload 5, 2) := by decide +kernel
theorem dX12_hour_55 : decode cX12_hour 55 = .ok (.iload_n 3, 1) := by decide +kernel
theorem dX12_hour_56 : decode cX12_hour 56 = .ok (.if_icmp .ge 8, 3) := by decide +kernel
theorem dX12_hour_59 : decode cX12_hour 59 = .ok (.iload 4, 2) := by decide +kernel
theorem dX12_hour_61 : decode cX12_hour 61 = .ok (.goto 4, 3) := by decide +kernel
theorem dX12_hour_64 : decode cX12_hour 64 = .ok (.iload_n 2, 1) := by decide +kernel
theorem dX12_hour_65 : decode cX12_hour 65 = .ok (.istore_n 2, 1) := by decide +kernel
theorem dX12_hour_66 : decode cX12_hour 66 = .ok (.iload 5, 2) := by decide +kernel
theorem dX12_hour_68 : decode cX12_hour 68 = .ok (.iload_n 3, 1) := by decide +kernel
theorem dX12_hour_69 : decode cX12_hour 69 = .ok (.if_icmp .ge 8, 3) := by decide +kernel
theorem dX12_hour_72 : decode cX12_hour 72 = .ok (.iload 5, 2) := by decide +kernel
theorem dX12_hour_74 : decode cX12_hour 74 = .ok (.goto 4, 3) := by decide +kernel
theorem dX12_hour_77 : decode cX12_hour 77 = .ok (.iload_n 3, 1) := by decide +kernel
theorem dX12_hour_78 : decode cX12_hour 78 = .ok (.istore_n 3, 1) := by decide +kernel
theorem dX12_hour_79 : decode cX12_hour 79 = .ok (.iinc 4 1, 3) := by decide +kernel
theorem dX12_hour_82 : decode cX12_hour 82 = .ok (.goto (-45), 3) := by decide +kernel
theorem dX12_hour_85 : decode cX12_hour 85 = .ok (.iload_n 2, 1) := by decide +kernel
theorem dX12_hour_86 : decode cX12_hour 86 = .ok (.ireturn, 1) := by decide +kernel
theorem dX12_sure_0 : decode cX12_sure 0 = .ok (.aload_n 0, 1) := by decide +kernel
theorem dX12_sure_1 : decode cX12_sure 1 = .ok (.iload_n 1, 1) := by decide +kernel
theorem dX12_sure_2 : decode cX12_sure 2 = .ok (.invokevirtual 98, 3) := by decide +kernel
theorem dX12_sure_5 : decode cX12_sure 5 = .ok (.ifCond .eq 22, 3) := by decide +kernel
theorem dX12_sure_8 : decode cX12_sure 8 = .ok (.iload_n 2, 1) := by decide +kernel
theorem dX12_sure_9 : decode cX12_sure 9 = .ok (.invokestatic 171, 3) := by decide +kernel
theorem dX12_sure_12 : decode cX12_sure 12 = .ok (.ifCond .eq 15, 3) := by decide +kernel
theorem dX12_sure_15 : decode cX12_sure 15 = .ok (.iload_n 3, 1) := by decide +kernel
theorem dX12_sure_16 : decode cX12_sure 16 = .ok (.i2l, 1) := by decide +kernel
theorem dX12_sure_17 : decode cX12_sure 17 = .ok (.lconst 0, 1) := by decide +kernel
theorem dX12_sure_18 : decode cX12_sure 18 = .ok (.ldc2_w 66, 3) := by decide +kernel
theorem dX12_sure_21 : decode cX12_sure 21 = .ok (.invokestatic 56, 3) := by decide +kernel
theorem dX12_sure_24 : decode cX12_sure 24 = .ok (.ifCond .ne 10, 3) := by decide +kernel
theorem dX12_sure_27 : decode cX12_sure 27 = .ok (.aload_n 0, 1) := by decide +kernel
theorem dX12_sure_28 : decode cX12_sure 28 = .ok (.bipush (-2), 2) := by decide +kernel
theorem dX12_sure_30 : decode cX12_sure 30 = .ok (.invokevirtual 76, 3) := by decide +kernel
theorem dX12_sure_33 : decode cX12_sure 33 = .ok (.ireturn, 1) := by decide +kernel
theorem dX12_sure_34 : decode cX12_sure 34 = .ok (.aload_n 0, 1) := by decide +kernel
theorem dX12_sure_35 : decode cX12_sure 35 = .ok (.invokevirtual 137, 3) := by decide +kernel
theorem dX12_sure_38 : decode cX12_sure 38 = .ok (.aload_n 0, 1) := by decide +kernel
theorem dX12_sure_39 : decode cX12_sure 39 = .ok (.aload_n 0, 1) := by decide +kernel
theorem dX12_sure_40 : decode cX12_sure 40 = .ok (.iload_n 1, 1) := by decide +kernel
theorem dX12_sure_41 : decode cX12_sure 41 = .ok (.invokevirtual 101, 3) := by decide +kernel
theorem dX12_sure_44 : decode cX12_sure 44 = .ok (.iload_n 3, 1) := by decide +kernel
theorem dX12_sure_45 : decode cX12_sure 45 = .ok (.invokevirtual 190, 3) := by decide +kernel
theorem dX12_sure_48 : decode cX12_sure 48 = .ok (.aload_n 0, 1) := by decide +kernel
theorem dX12_sure_49 : decode cX12_sure 49 = .ok (.iload_n 1, 1) := by decide +kernel
theorem dX12_sure_50 : decode cX12_sure 50 = .ok (.iload_n 2, 1) := by decide +kernel
theorem dX12_sure_51 : decode cX12_sure 51 = .ok (.invokevirtual 194, 3) := by decide +kernel
theorem dX12_sure_54 : decode cX12_sure 54 = .ok (.istore 4, 2) := by decide +kernel
theorem dX12_sure_56 : decode cX12_sure 56 = .ok (.iload 4, 2) := by decide +kernel
theorem dX12_sure_58 : decode cX12_sure 58 = .ok (.ldc 181, 2) := by decide +kernel
theorem dX12_sure_60 : decode cX12_sure 60 = .ok (.if_icmp .lt 7, 3) := by decide +kernel
theorem dX12_sure_63 : decode cX12_sure 63 = .ok (.iconst (-1), 1) := by decide +kernel
theorem dX12_sure_64 : decode cX12_sure 64 = .ok (.goto 5, 3) := by decide +kernel
theorem dX12_sure_67 : decode cX12_sure 67 = .ok (.iload 4, 2) := by decide +kernel
theorem dX12_sure_69 : decode cX12_sure 69 = .ok (.ireturn, 1) := by decide +kernel
theorem dX12_flat_0 : decode cX12_flat 0 = .ok (.aload_n 0, 1) := by decide +kernel
theorem dX12_flat_1 : decode cX12_flat 1 = .ok (.iload_n 1, 1) := by decide +kernel
theorem dX12_flat_2 : decode cX12_flat 2 = .ok (.invokevirtual 98, 3) := by decide +kernel
theorem dX12_flat_5 : decode cX12_flat 5 = .ok (.ifCond .eq 10, 3) := by decide +kernel
theorem dX12_flat_8 : decode cX12_flat 8 = .ok (.iload_n 2, 1) := by decide +kernel
theorem dX12_flat_9 : decode cX12_flat 9 = .ok (.invokestatic 171, 3) := by decide +kernel
theorem dX12_flat_12 : decode cX12_flat 12 = .ok (.ifCond .ne 10, 3) := by decide +kernel
theorem dX12_flat_15 : decode cX12_flat 15 = .ok (.aload_n 0, 1) := by decide +kernel
theorem dX12_flat_16 : decode cX12_flat 16 = .ok (.bipush (-2), 2) := by decide +kernel
theorem dX12_flat_18 : decode cX12_flat 18 = .ok (.invokevirtual 76, 3) := by decide +kernel
theorem dX12_flat_21 : decode cX12_flat 21 = .ok (.ireturn, 1) := by decide +kernel
theorem dX12_flat_22 : decode cX12_flat 22 = .ok (.iconst (-1), 1) := by decide +kernel
theorem dX12_flat_23 : decode cX12_flat 23 = .ok (.istore_n 3, 1) := by decide +kernel
theorem dX12_flat_24 : decode cX12_flat 24 = .ok (.iconst 0, 1) := by decide +kernel
theorem dX12_flat_25 : decode cX12_flat 25 = .ok (.istore 4, 2) := by decide +kernel
theorem dX12_flat_27 : decode cX12_flat 27 = .ok (.iload 4, 2) := by decide +kernel
theorem dX12_flat_29 : decode cX12_flat 29 = .ok (.iconst 1, 1) := by decide +kernel
theorem dX12_flat_30 : decode cX12_flat 30 = .ok (.aload_n 0, 1) := by decide +kernel
theorem dX12_flat_31 : decode cX12_flat 31 = .ok (.invokevirtual 60, 3) := by decide +kernel
theorem dX12_flat_34 : decode cX12_flat 34 = .ok (.iconst 1, 1) := by decide +kernel
theorem dX12_flat_35 : decode cX12_flat 35 = .ok (.iadd, 1) := by decide +kernel
theorem dX12_flat_36 : decode cX12_flat 36 = .ok (.ishl, 1) := by decide +kernel
theorem dX12_flat_37 : decode cX12_flat 37 = .ok (.if_icmp .ge 115, 3) := by decide +kernel
theorem dX12_flat_40 : decode cX12_flat 40 = .ok (.iload 4, 2) := by decide +kernel
theorem dX12_flat_42 : decode cX12_flat 42 = .ok (.invokestatic 197, 3) := by decide +kernel
theorem dX12_flat_45 : decode cX12_flat 45 = .ok (.istore 5, 2) := by decide +kernel
theorem dX12_flat_47 : decode cX12_flat 47 = .ok (.iload 5, 2) := by decide +kernel
theorem dX12_flat_49 : decode cX12_flat 49 = .ok (.iconst 4, 1) := by decide +kernel
theorem dX12_flat_50 : decode cX12_flat 50 = .ok (.if_icmp .ge 96, 3) := by decide +kernel
theorem dX12_flat_53 : decode cX12_flat 53 = .ok (.iload_n 3, 1) := by decide +kernel
theorem dX12_flat_54 : decode cX12_flat 54 = .ok (.iconst (-1), 1) := by decide +kernel
theorem dX12_flat_55 : decode cX12_flat 55 = .ok (.if_icmp .eq 12, 3) := by decide +kernel
theorem dX12_flat_58 : decode cX12_flat 58 = .ok (.iload 5, 2) := by decide +kernel
theorem dX12_flat_60 : decode cX12_flat 60 = .ok (.iload_n 3, 1) := by decide +kernel
theorem dX12_flat_61 : decode cX12_flat 61 = .ok (.invokestatic 197, 3) := by decide +kernel
theorem dX12_flat_64 : decode cX12_flat 64 = .ok (.if_icmp .ge 82, 3) := by decide +kernel
theorem dX12_flat_67 : decode cX12_flat 67 = .ok (.aload_n 0, 1) := by decide +kernel
theorem dX12_flat_68 : decode cX12_flat 68 = .ok (.invokevirtual 137, 3) := by decide +kernel
theorem dX12_flat_71 : decode cX12_flat 71 = .ok (.iconst 1, 1) := by decide +kernel
theorem dX12_flat_72 : decode cX12_flat 72 = .ok (.istore 6, 2) := by decide +kernel
theorem dX12_flat_74 : decode cX12_flat 74 = .ok (.iload 6, 2) := by decide +kernel
theorem dX12_flat_76 : decode cX12_flat 76 = .ok (.aload_n 0, 1) := by decide +kernel
theorem dX12_flat_77 : decode cX12_flat 77 = .ok (.invokevirtual 60, 3) := by decide +kernel
theorem dX12_flat_80 : decode cX12_flat 80 = .ok (.if_icmp .gt 38, 3) := by decide +kernel
theorem dX12_flat_83 : decode cX12_flat 83 = .ok (.aload_n 0, 1) := by decide +kernel
theorem dX12_flat_84 : decode cX12_flat 84 = .ok (.getfield 27, 3) := by decide +kernel
theorem dX12_flat_87 : decode cX12_flat 87 = .ok (.iload 6, 2) := by decide +kernel
theorem dX12_flat_89 : decode cX12_flat 89 = .ok (.iload 4, 2) := by decide +kernel
theorem dX12_flat_91 : decode cX12_flat 91 = .ok (.iload 6, 2) := by decide +kernel
theorem dX12_flat_93 : decode cX12_flat 93 = .ok (.ishr, 1) := by decide +kernel
theorem dX12_flat_94 : decode cX12_flat 94 = .ok (.iconst 1, 1) := by decide +kernel
theorem dX12_flat_95 : decode cX12_flat 95 = .ok (.iand, 1) := by decide +kernel
theorem dX12_flat_96 : decode cX12_flat 96 = .ok (.iconst 1, 1) := by decide +kernel
theorem dX12_flat_97 : decode cX12_flat 97 = .ok (.if_icmp .ne 7, 3) := by decide +kernel
theorem dX12_flat_100 : decode cX12_flat 100 = .ok (.iconst 0, 1) := by decide +kernel
theorem dX12_flat_101 : decode cX12_flat 101 = .ok (.goto 10, 3) := by decide +kernel
theorem dX12_flat_104 : decode cX12_flat 104 = .ok (.aload_n 0, 1) := by decide +kernel
theorem dX12_flat_105 : decode cX12_flat 105 = .ok (.getfield 27, 3) := by decide +kernel
theorem dX12_flat_108 : decode cX12_flat 108 = .ok (.iload 6, 2) := by decide +kernel
theorem dX12_flat_110 : decode cX12_flat 110 = .ok (.iaload, 1) := by decide +kernel
theorem dX12_flat_111 : decode cX12_flat 111 = .ok (.iastore, 1) := by decide +kernel
theorem dX12_flat_112 : decode cX12_flat 112 = .ok (.iinc 6 1, 3) := by decide +kernel
theorem dX12_flat_115 : decode cX12_flat 115 = .ok (.goto (-41), 3) := by decide +kernel
theorem dX12_flat_118 : decode cX12_flat 118 = .ok (.aload_n 0, 1) := by decide +kernel
theorem dX12_flat_119 : decode cX12_flat 119 = .ok (.aload_n 0, 1) := by decide +kernel
theorem dX12_flat_120 : decode cX12_flat 120 = .ok (.iload_n 1, 1) := by decide +kernel
theorem dX12_flat_121 : decode cX12_flat 121 = .ok (.invokevirtual 101, 3) := by decide +kernel
theorem dX12_flat_124 : decode cX12_flat 124 = .ok (.iconst 0, 1) := by decide +kernel
theorem dX12_flat_125 : decode cX12_flat 125 = .ok (.invokevirtual 190, 3) := by decide +kernel
theorem dX12_flat_128 : decode cX12_flat 128 = .ok (.aload_n 0, 1) := by decide +kernel
theorem dX12_flat_129 : decode cX12_flat 129 = .ok (.iload_n 1, 1) := by decide +kernel
theorem dX12_flat_130 : decode cX12_flat 130 = .ok (.iload_n 2, 1) := by decide +kernel
theorem dX12_flat_131 : decode cX12_flat 131 = .ok (.invokevirtual 194, 3) := by decide +kernel
theorem dX12_flat_134 : decode cX12_flat 134 = .ok (.ldc 181, 2) := by decide +kernel
theorem dX12_flat_136 : decode cX12_flat 136 = .ok (.if_icmp .ge 8, 3) := by decide +kernel
theorem dX12_flat_139 : decode cX12_flat 139 = .ok (.iload 4, 2) := by decide +kernel
theorem dX12_flat_141 : decode cX12_flat 141 = .ok (.goto 4, 3) := by decide +kernel
theorem dX12_flat_144 : decode cX12_flat 144 = .ok (.iload_n 3, 1) := by decide +kernel
theorem dX12_flat_145 : decode cX12_flat 145 = .ok (.istore_n 3, 1) := by decide +kernel
theorem dX12_flat_146 : decode cX12_flat 146 = .ok (.iinc 4 2, 3) := by decide +kernel
theorem dX12_flat_149 : decode cX12_flat 149 = .ok (.goto (-122), 3) := by decide +kernel
theorem dX12_flat_152 : decode cX12_flat 152 = .ok (.iload_n 3, 1) := by decide +kernel
theorem dX12_flat_153 : decode cX12_flat 153 = .ok (.ireturn, 1) := by decide +kernel
theorem dX12_note_0 : decode cX12_note 0 = .ok (.aload_n 0, 1) := by decide +kernel
theorem dX12_note_1 : decode cX12_note 1 = .ok (.iload_n 1, 1) := by decide +kernel
theorem dX12_note_2 : decode cX12_note 2 = .ok (.invokevirtual 98, 3) := by decide +kernel
theorem dX12_note_5 : decode cX12_note 5 = .ok (.ifCond .eq 34, 3) := by decide +kernel
theorem dX12_note_8 : decode cX12_note 8 = .ok (.iload_n 2, 1) := by decide +kernel
theorem dX12_note_9 : decode cX12_note 9 = .ok (.invokestatic 171, 3) := by decide +kernel
theorem dX12_note_12 : decode cX12_note 12 = .ok (.ifCond .eq 27, 3) := by decide +kernel
theorem dX12_note_15 : decode cX12_note 15 = .ok (.iload_n 3, 1) := by decide +kernel
theorem dX12_note_16 : decode cX12_note 16 = .ok (.invokestatic 174, 3) := by decide +kernel
theorem dX12_note_19 : decode cX12_note 19 = .ok (.ifCond .eq 20, 3) := by decide +kernel
theorem dX12_note_22 : decode cX12_note 22 = .ok (.iload 4, 2) := by decide +kernel
theorem dX12_note_24 : decode cX12_note 24 = .ok (.i2l, 1) := by decide +kernel
theorem dX12_note_25 : decode cX12_note 25 = .ok (.ldc2_w 200, 3) := by decide +kernel
theorem dX12_note_28 : decode cX12_note 28 = .ok (.aload_n 0, 1) := by decide +kernel
theorem dX12_note_29 : decode cX12_note 29 = .ok (.invokevirtual 60, 3) := by decide +kernel
theorem dX12_note_32 : decode cX12_note 32 = .ok (.i2l, 1) := by decide +kernel
theorem dX12_note_33 : decode cX12_note 33 = .ok (.invokestatic 56, 3) := by decide +kernel
theorem dX12_note_36 : decode cX12_note 36 = .ok (.ifCond .ne 10, 3) := by decide +kernel
theorem dX12_note_39 : decode cX12_note 39 = .ok (.aload_n 0, 1) := by decide +kernel
theorem dX12_note_40 : decode cX12_note 40 = .ok (.bipush (-2), 2) := by decide +kernel
theorem dX12_note_42 : decode cX12_note 42 = .ok (.invokevirtual 76, 3) := by decide +kernel
theorem dX12_note_45 : decode cX12_note 45 = .ok (.ireturn, 1) := by decide +kernel
theorem dX12_note_46 : decode cX12_note 46 = .ok (.aload_n 0, 1) := by decide +kernel
theorem dX12_note_47 : decode cX12_note 47 = .ok (.getfield 7, 3) := by decide +kernel
theorem dX12_note_50 : decode cX12_note 50 = .ok (.iconst 3, 1) := by decide +kernel
theorem dX12_note_51 : decode cX12_note 51 = .ok (.iaload, 1) := by decide +kernel
theorem dX12_note_52 : decode cX12_note 52 = .ok (.bipush 6, 2) := by decide +kernel
theorem dX12_note_54 : decode cX12_note 54 = .ok (.if_icmp .ne 8, 3) := by decide +kernel
theorem dX12_note_57 : decode cX12_note 57 = .ok (.aload_n 0, 1) := by decide +kernel
theorem dX12_note_58 : decode cX12_note 58 = .ok (.invokevirtual 92, 3) := by decide +kernel
theorem dX12_note_61 : decode cX12_note 61 = .ok (.ireturn, 1) := by decide +kernel
theorem dX12_note_62 : decode cX12_note 62 = .ok (.bipush 42, 2) := by decide +kernel
theorem dX12_note_64 : decode cX12_note 64 = .ok (.iconst 4, 1) := by decide +kernel
theorem dX12_note_65 : decode cX12_note 65 = .ok (.aload_n 0, 1) := by decide +kernel
theorem dX12_note_66 : decode cX12_note 66 = .ok (.getfield 7, 3) := by decide +kernel
theorem dX12_note_69 : decode cX12_note 69 = .ok (.iconst 3, 1) := by decide +kernel
theorem dX12_note_70 : decode cX12_note 70 = .ok (.iaload, 1) := by decide +kernel
theorem dX12_note_71 : decode cX12_note 71 = .ok (.imul, 1) := by decide +kernel
theorem dX12_note_72 : decode cX12_note 72 = .ok (.iadd, 1) := by decide +kernel
theorem dX12_note_73 : decode cX12_note 73 = .ok (.istore 5, 2) := by decide +kernel
theorem dX12_note_75 : decode cX12_note 75 = .ok (.aload_n 0, 1) := by decide +kernel
theorem dX12_note_76 : decode cX12_note 76 = .ok (.getfield 7, 3) := by decide +kernel
theorem dX12_note_79 : decode cX12_note 79 = .ok (.iload 5, 2) := by decide +kernel
theorem dX12_note_81 : decode cX12_note 81 = .ok (.iload_n 1, 1) := by decide +kernel
theorem dX12_note_82 : decode cX12_note 82 = .ok (.iastore, 1) := by decide +kernel
theorem dX12_note_83 : decode cX12_note 83 = .ok (.aload_n 0, 1) := by decide +kernel
theorem dX12_note_84 : decode cX12_note 84 = .ok (.getfield 7, 3) := by decide +kernel
theorem dX12_note_87 : decode cX12_note 87 = .ok (.iload 5, 2) := by decide +kernel
theorem dX12_note_89 : decode cX12_note 89 = .ok (.iconst 1, 1) := by decide +kernel
theorem dX12_note_90 : decode cX12_note 90 = .ok (.iadd, 1) := by decide +kernel
theorem dX12_note_91 : decode cX12_note 91 = .ok (.iload_n 2, 1) := by decide +kernel
theorem dX12_note_92 : decode cX12_note 92 = .ok (.iastore, 1) := by decide +kernel
theorem dX12_note_93 : decode cX12_note 93 = .ok (.aload_n 0, 1) := by decide +kernel
theorem dX12_note_94 : decode cX12_note 94 = .ok (.getfield 7, 3) := by decide +kernel
theorem dX12_note_97 : decode cX12_note 97 = .ok (.iload 5, 2) := by decide +kernel
theorem dX12_note_99 : decode cX12_note 99 = .ok (.iconst 2, 1) := by decide +kernel
theorem dX12_note_100 : decode cX12_note 100 = .ok (.iadd, 1) := by decide +kernel
theorem dX12_note_101 : decode cX12_note 101 = .ok (.iload_n 3, 1) := by decide +kernel
theorem dX12_note_102 : decode cX12_note 102 = .ok (.iastore, 1) := by decide +kernel
theorem dX12_note_103 : decode cX12_note 103 = .ok (.aload_n 0, 1) := by decide +kernel
theorem dX12_note_104 : decode cX12_note 104 = .ok (.getfield 7, 3) := by decide +kernel
theorem dX12_note_107 : decode cX12_note 107 = .ok (.iload 5, 2) := by decide +kernel
theorem dX12_note_109 : decode cX12_note 109 = .ok (.iconst 3, 1) := by decide +kernel
theorem dX12_note_110 : decode cX12_note 110 = .ok (.iadd, 1) := by decide +kernel
theorem dX12_note_111 : decode cX12_note 111 = .ok (.iload 4, 2) := by decide +kernel
theorem dX12_note_113 : decode cX12_note 113 = .ok (.iastore, 1) := by decide +kernel
theorem dX12_note_114 : decode cX12_note 114 = .ok (.aload_n 0, 1) := by decide +kernel
theorem dX12_note_115 : decode cX12_note 115 = .ok (.getfield 7, 3) := by decide +kernel
theorem dX12_note_118 : decode cX12_note 118 = .ok (.iconst 3, 1) := by decide +kernel
theorem dX12_note_119 : decode cX12_note 119 = .ok (.dup2, 1) := by decide +kernel
theorem dX12_note_120 : decode cX12_note 120 = .ok (.iaload, 1) := by decide +kernel
theorem dX12_note_121 : decode cX12_note 121 = .ok (.iconst 1, 1) := by decide +kernel
theorem dX12_note_122 : decode cX12_note 122 = .ok (.iadd, 1) := by decide +kernel
theorem dX12_note_123 : decode cX12_note 123 = .ok (.iastore, 1) := by decide +kernel
theorem dX12_note_124 : decode cX12_note 124 = .ok (.aload_n 0, 1) := by decide +kernel
theorem dX12_note_125 : decode cX12_note 125 = .ok (.getfield 7, 3) := by decide +kernel
theorem dX12_note_128 : decode cX12_note 128 = .ok (.iconst 3, 1) := by decide +kernel
theorem dX12_note_129 : decode cX12_note 129 = .ok (.iaload, 1) := by decide +kernel
theorem dX12_note_130 : decode cX12_note 130 = .ok (.ireturn, 1) := by decide +kernel
theorem dX12_forget_0 : decode cX12_forget 0 = .ok (.aload_n 0, 1) := by decide +kernel
theorem dX12_forget_1 : decode cX12_forget 1 = .ok (.getfield 7, 3) := by decide +kernel
theorem dX12_forget_4 : decode cX12_forget 4 = .ok (.iconst 3, 1) := by decide +kernel
theorem dX12_forget_5 : decode cX12_forget 5 = .ok (.iaload, 1) := by decide +kernel
theorem dX12_forget_6 : decode cX12_forget 6 = .ok (.istore_n 1, 1) := by decide +kernel
theorem dX12_forget_7 : decode cX12_forget 7 = .ok (.aload_n 0, 1) := by decide +kernel
theorem dX12_forget_8 : decode cX12_forget 8 = .ok (.getfield 7, 3) := by decide +kernel
theorem dX12_forget_11 : decode cX12_forget 11 = .ok (.iconst 3, 1) := by decide +kernel
theorem dX12_forget_12 : decode cX12_forget 12 = .ok (.iconst 0, 1) := by decide +kernel
theorem dX12_forget_13 : decode cX12_forget 13 = .ok (.iastore, 1) := by decide +kernel
theorem dX12_forget_14 : decode cX12_forget 14 = .ok (.iload_n 1, 1) := by decide +kernel
theorem dX12_forget_15 : decode cX12_forget 15 = .ok (.ireturn, 1) := by decide +kernel
theorem dX12_fellIn_0 : decode cX12_fellIn 0 = .ok (.aload_n 0, 1) := by decide +kernel
theorem dX12_fellIn_1 : decode cX12_fellIn 1 = .ok (.aload_n 0, 1) := by decide +kernel
theorem dX12_fellIn_2 : decode cX12_fellIn 2 = .ok (.getfield 147, 3) := by decide +kernel
theorem dX12_fellIn_5 : decode cX12_fellIn 5 = .ok (.invokevirtual 118, 3) := by decide +kernel
theorem dX12_fellIn_8 : decode cX12_fellIn 8 = .ok (.ifCond .eq 10, 3) := by decide +kernel
theorem dX12_fellIn_11 : decode cX12_fellIn 11 = .ok (.aload_n 0, 1) := by decide +kernel
theorem dX12_fellIn_12 : decode cX12_fellIn 12 = .ok (.getfield 151, 3) := by decide +kernel
theorem dX12_fellIn_15 : decode cX12_fellIn 15 = .ok (.goto 4, 3) := by decide +kernel
theorem dX12_fellIn_18 : decode cX12_fellIn 18 = .ok (.iconst (-1), 1) := by decide +kernel
theorem dX12_fellIn_19 : decode cX12_fellIn 19 = .ok (.ireturn, 1) := by decide +kernel
theorem dX12_canBe_0 : decode cX12_canBe 0 = .ok (.iconst 1, 1) := by decide +kernel
theorem dX12_canBe_1 : decode cX12_canBe 1 = .ok (.istore_n 3, 1) := by decide +kernel
theorem dX12_canBe_2 : decode cX12_canBe 2 = .ok (.iconst 0, 1) := by decide +kernel
theorem dX12_canBe_3 : decode cX12_canBe 3 = .ok (.istore 4, 2) := by decide +kernel
theorem dX12_canBe_5 : decode cX12_canBe 5 = .ok (.iload 4, 2) := by decide +kernel
theorem dX12_canBe_7 : decode cX12_canBe 7 = .ok (.aload_n 0, 1) := by decide +kernel
theorem dX12_canBe_8 : decode cX12_canBe 8 = .ok (.getfield 7, 3) := by decide +kernel
theorem dX12_canBe_11 : decode cX12_canBe 11 = .ok (.iconst 3, 1) := by decide +kernel
theorem dX12_canBe_12 : decode cX12_canBe 12 = .ok (.iaload, 1) := by decide +kernel
theorem dX12_canBe_13 : decode cX12_canBe 13 = .ok (.if_icmp .ge 85, 3) := by decide +kernel
theorem dX12_canBe_16 : decode cX12_canBe 16 = .ok (.bipush 42, 2) := by decide +kernel
theorem dX12_canBe_18 : decode cX12_canBe 18 = .ok (.iconst 4, 1) := by decide +kernel
theorem dX12_canBe_19 : decode cX12_canBe 19 = .ok (.iload 4, 2) := by decide +kernel
theorem dX12_canBe_21 : decode cX12_canBe 21 = .ok (.imul, 1) := by decide +kernel
theorem dX12_canBe_22 : decode cX12_canBe 22 = .ok (.iadd, 1) := by decide +kernel
theorem dX12_canBe_23 : decode cX12_canBe 23 = .ok (.istore 5, 2) := by decide +kernel
theorem dX12_canBe_25 : decode cX12_canBe 25 = .ok (.aload_n 0, 1) := by decide +kernel
theorem dX12_canBe_26 : decode cX12_canBe 26 = .ok (.getfield 7, 3) := by decide +kernel
theorem dX12_canBe_29 : decode cX12_canBe 29 = .ok (.iload 5, 2) := by decide +kernel
theorem dX12_canBe_31 : decode cX12_canBe 31 = .ok (.iaload, 1) := by decide +kernel
theorem dX12_canBe_32 : decode cX12_canBe 32 = .ok (.iload_n 1, 1) := by decide +kernel
theorem dX12_canBe_33 : decode cX12_canBe 33 = .ok (.if_icmp .ne 59, 3) := by decide +kernel
theorem dX12_canBe_36 : decode cX12_canBe 36 = .ok (.aload_n 0, 1) := by decide +kernel
theorem dX12_canBe_37 : decode cX12_canBe 37 = .ok (.iload_n 2, 1) := by decide +kernel
theorem dX12_canBe_38 : decode cX12_canBe 38 = .ok (.aload_n 0, 1) := by decide +kernel
theorem dX12_canBe_39 : decode cX12_canBe 39 = .ok (.iload_n 1, 1) := by decide +kernel
theorem dX12_canBe_40 : decode cX12_canBe 40 = .ok (.invokevirtual 104, 3) := by decide +kernel
theorem dX12_canBe_43 : decode cX12_canBe 43 = .ok (.aload_n 0, 1) := by decide +kernel
theorem dX12_canBe_44 : decode cX12_canBe 44 = .ok (.getfield 7, 3) := by decide +kernel
theorem dX12_canBe_47 : decode cX12_canBe 47 = .ok (.iload 5, 2) := by decide +kernel
theorem dX12_canBe_49 : decode cX12_canBe 49 = .ok (.iconst 1, 1) := by decide +kernel
theorem dX12_canBe_50 : decode cX12_canBe 50 = .ok (.iadd, 1) := by decide +kernel
theorem dX12_canBe_51 : decode cX12_canBe 51 = .ok (.iaload, 1) := by decide +kernel
theorem dX12_canBe_52 : decode cX12_canBe 52 = .ok (.aload_n 0, 1) := by decide +kernel
theorem dX12_canBe_53 : decode cX12_canBe 53 = .ok (.getfield 7, 3) := by decide +kernel
theorem dX12_canBe_56 : decode cX12_canBe 56 = .ok (.iload 5, 2) := by decide +kernel
theorem dX12_canBe_58 : decode cX12_canBe 58 = .ok (.iconst 2, 1) := by decide +kernel
theorem dX12_canBe_59 : decode cX12_canBe 59 = .ok (.iadd, 1) := by decide +kernel
theorem dX12_canBe_60 : decode cX12_canBe 60 = .ok (.iaload, 1) := by decide +kernel
theorem dX12_canBe_61 : decode cX12_canBe 61 = .ok (.iconst (-1), 1) := by decide +kernel
theorem dX12_canBe_62 : decode cX12_canBe 62 = .ok (.iconst 0, 1) := by decide +kernel
theorem dX12_canBe_63 : decode cX12_canBe 63 = .ok (.invokevirtual 177, 3) := by decide +kernel
theorem dX12_canBe_66 : decode cX12_canBe 66 = .ok (.iload_n 3, 1) := by decide +kernel
theorem dX12_canBe_67 : decode cX12_canBe 67 = .ok (.ifCond .eq 23, 3) := by decide +kernel
theorem dX12_canBe_70 : decode cX12_canBe 70 = .ok (.aload_n 0, 1) := by decide +kernel
theorem dX12_canBe_71 : decode cX12_canBe 71 = .ok (.invokevirtual 202, 3) := by decide +kernel
theorem dX12_canBe_74 : decode cX12_canBe 74 = .ok (.aload_n 0, 1) := by decide +kernel
theorem dX12_canBe_75 : decode cX12_canBe 75 = .ok (.getfield 7, 3) := by decide +kernel
theorem dX12_canBe_78 : decode cX12_canBe 78 = .ok (.iload 5, 2) := by decide +kernel
theorem dX12_canBe_80 : decode cX12_canBe 80 = .ok (.iconst 3, 1) := by decide +kernel
theorem dX12_canBe_81 : decode cX12_canBe 81 = .ok (.iadd, 1) := by decide +kernel
theorem dX12_canBe_82 : decode cX12_canBe 82 = .ok (.iaload, 1) := by decide +kernel
theorem dX12_canBe_83 : decode cX12_canBe 83 = .ok (.if_icmp .ne 7, 3) := by decide +kernel
theorem dX12_canBe_86 : decode cX12_canBe 86 = .ok (.iconst 1, 1) := by decide +kernel
theorem dX12_canBe_87 : decode cX12_canBe 87 = .ok (.goto 4, 3) := by decide +kernel
theorem dX12_canBe_90 : decode cX12_canBe 90 = .ok (.iconst 0, 1) := by decide +kernel
theorem dX12_canBe_91 : decode cX12_canBe 91 = .ok (.istore_n 3, 1) := by decide +kernel
theorem dX12_canBe_92 : decode cX12_canBe 92 = .ok (.iinc 4 1, 3) := by decide +kernel
theorem dX12_canBe_95 : decode cX12_canBe 95 = .ok (.goto (-90), 3) := by decide +kernel
theorem dX12_canBe_98 : decode cX12_canBe 98 = .ok (.iload_n 3, 1) := by decide +kernel
theorem dX12_canBe_99 : decode cX12_canBe 99 = .ok (.ireturn, 1) := by decide +kernel
theorem dX12_kindsOf_0 : decode cX12_kindsOf 0 = .ok (.iconst 0, 1) := by decide +kernel
theorem dX12_kindsOf_1 : decode cX12_kindsOf 1 = .ok (.istore_n 2, 1) := by decide +kernel
theorem dX12_kindsOf_2 : decode cX12_kindsOf 2 = .ok (.iconst 0, 1) := by decide +kernel
theorem dX12_kindsOf_3 : decode cX12_kindsOf 3 = .ok (.istore_n 3, 1) := by decide +kernel
theorem dX12_kindsOf_4 : decode cX12_kindsOf 4 = .ok (.iload_n 3, 1) := by decide +kernel
theorem dX12_kindsOf_5 : decode cX12_kindsOf 5 = .ok (.bipush 6, 2) := by decide +kernel
theorem dX12_kindsOf_7 : decode cX12_kindsOf 7 = .ok (.if_icmp .ge 28, 3) := by decide +kernel
theorem dX12_kindsOf_10 : decode cX12_kindsOf 10 = .ok (.iload_n 2, 1) := by decide +kernel
theorem dX12_kindsOf_11 : decode cX12_kindsOf 11 = .ok (.aload_n 0, 1) := by decide +kernel
theorem dX12_kindsOf_12 : decode cX12_kindsOf 12 = .ok (.iload_n 1, 1) := by decide +kernel
theorem dX12_kindsOf_13 : decode cX12_kindsOf 13 = .ok (.iload_n 3, 1) := by decide +kernel
theorem dX12_kindsOf_14 : decode cX12_kindsOf 14 = .ok (.invokevirtual 205, 3) := by decide +kernel
theorem dX12_kindsOf_17 : decode cX12_kindsOf 17 = .ok (.ifCond .eq 9, 3) := by decide +kernel
theorem dX12_kindsOf_20 : decode cX12_kindsOf 20 = .ok (.iconst 1, 1) := by decide +kernel
theorem dX12_kindsOf_21 : decode cX12_kindsOf 21 = .ok (.iload_n 3, 1) := by decide +kernel
theorem dX12_kindsOf_22 : decode cX12_kindsOf 22 = .ok (.ishl, 1) := by decide +kernel
theorem dX12_kindsOf_23 : decode cX12_kindsOf 23 = .ok (.goto 4, 3) := by decide +kernel
theorem dX12_kindsOf_26 : decode cX12_kindsOf 26 = .ok (.iconst 0, 1) := by decide +kernel
theorem dX12_kindsOf_27 : decode cX12_kindsOf 27 = .ok (.ior, 1) := by decide +kernel
theorem dX12_kindsOf_28 : decode cX12_kindsOf 28 = .ok (.istore_n 2, 1) := by decide +kernel
theorem dX12_kindsOf_29 : decode cX12_kindsOf 29 = .ok (.iinc 3 1, 3) := by decide +kernel
theorem dX12_kindsOf_32 : decode cX12_kindsOf 32 = .ok (.goto (-28), 3) := by decide +kernel
theorem dX12_kindsOf_35 : decode cX12_kindsOf 35 = .ok (.iload_n 2, 1) := by decide +kernel
theorem dX12_kindsOf_36 : decode cX12_kindsOf 36 = .ok (.ireturn, 1) := by decide +kernel
theorem dX12_is_0 : decode cX12_is 0 = .ok (.aload_n 0, 1) := by decide +kernel
theorem dX12_is_1 : decode cX12_is 1 = .ok (.iload_n 1, 1) := by decide +kernel
theorem dX12_is_2 : decode cX12_is 2 = .ok (.invokevirtual 98, 3) := by decide +kernel
theorem dX12_is_5 : decode cX12_is 5 = .ok (.ifCond .eq 11, 3) := by decide +kernel
theorem dX12_is_8 : decode cX12_is 8 = .ok (.aload_n 0, 1) := by decide +kernel
theorem dX12_is_9 : decode cX12_is 9 = .ok (.iload_n 1, 1) := by decide +kernel
theorem dX12_is_10 : decode cX12_is 10 = .ok (.invokevirtual 208, 3) := by decide +kernel
theorem dX12_is_13 : decode cX12_is 13 = .ok (.goto 9, 3) := by decide +kernel
theorem dX12_is_16 : decode cX12_is 16 = .ok (.aload_n 0, 1) := by decide +kernel
theorem dX12_is_17 : decode cX12_is 17 = .ok (.bipush (-2), 2) := by decide +kernel
theorem dX12_is_19 : decode cX12_is 19 = .ok (.invokevirtual 76, 3) := by decide +kernel
theorem dX12_is_22 : decode cX12_is 22 = .ok (.ireturn, 1) := by decide +kernel
theorem dX12_bowl_0 : decode cX12_bowl 0 = .ok (.aload_n 0, 1) := by decide +kernel
theorem dX12_bowl_1 : decode cX12_bowl 1 = .ok (.iload_n 1, 1) := by decide +kernel
theorem dX12_bowl_2 : decode cX12_bowl 2 = .ok (.invokevirtual 98, 3) := by decide +kernel
theorem dX12_bowl_5 : decode cX12_bowl 5 = .ok (.ifCond .ne 10, 3) := by decide +kernel
theorem dX12_bowl_8 : decode cX12_bowl 8 = .ok (.aload_n 0, 1) := by decide +kernel
theorem dX12_bowl_9 : decode cX12_bowl 9 = .ok (.bipush (-2), 2) := by decide +kernel
theorem dX12_bowl_11 : decode cX12_bowl 11 = .ok (.invokevirtual 76, 3) := by decide +kernel
theorem dX12_bowl_14 : decode cX12_bowl 14 = .ok (.ireturn, 1) := by decide +kernel
theorem dX12_bowl_15 : decode cX12_bowl 15 = .ok (.aload_n 0, 1) := by decide +kernel
theorem dX12_bowl_16 : decode cX12_bowl 16 = .ok (.iload_n 1, 1) := by decide +kernel
theorem dX12_bowl_17 : decode cX12_bowl 17 = .ok (.invokevirtual 208, 3) := by decide +kernel
theorem dX12_bowl_20 : decode cX12_bowl 20 = .ok (.istore_n 2, 1) := by decide +kernel
theorem dX12_bowl_21 : decode cX12_bowl 21 = .ok (.iconst (-1), 1) := by decide +kernel
theorem dX12_bowl_22 : decode cX12_bowl 22 = .ok (.istore_n 3, 1) := by decide +kernel
theorem dX12_bowl_23 : decode cX12_bowl 23 = .ok (.ldc 181, 2) := by decide +kernel
theorem dX12_bowl_25 : decode cX12_bowl 25 = .ok (.istore 4, 2) := by decide +kernel
theorem dX12_bowl_27 : decode cX12_bowl 27 = .ok (.iconst 1, 1) := by decide +kernel
theorem dX12_bowl_28 : decode cX12_bowl 28 = .ok (.istore 5, 2) := by decide +kernel
theorem dX12_bowl_30 : decode cX12_bowl 30 = .ok (.iload 5, 2) := by decide +kernel
theorem dX12_bowl_32 : decode cX12_bowl 32 = .ok (.iconst 4, 1) := by decide +kernel
theorem dX12_bowl_33 : decode cX12_bowl 33 = .ok (.if_icmp .ge 168, 3) := by decide +kernel
theorem dX12_bowl_36 : decode cX12_bowl 36 = .ok (.iload_n 2, 1) := by decide +kernel
theorem dX12_bowl_37 : decode cX12_bowl 37 = .ok (.ifCond .le 164, 3) := by decide +kernel
theorem dX12_bowl_40 : decode cX12_bowl 40 = .ok (.iconst 0, 1) := by decide +kernel
theorem dX12_bowl_41 : decode cX12_bowl 41 = .ok (.istore 6, 2) := by decide +kernel
theorem dX12_bowl_43 : decode cX12_bowl 43 = .ok (.iconst 0, 1) := by decide +kernel
theorem dX12_bowl_44 : decode cX12_bowl 44 = .ok (.istore 7, 2) := by decide +kernel
theorem dX12_bowl_46 : decode cX12_bowl 46 = .ok (.iload 7, 2) := by decide +kernel
theorem dX12_bowl_48 : decode cX12_bowl 48 = .ok (.bipush 16, 2) := by decide +kernel
theorem dX12_bowl_50 : decode cX12_bowl 50 = .ok (.if_icmp .ge 17, 3) := by decide +kernel
theorem dX12_bowl_53 : decode cX12_bowl 53 = .ok (.aload_n 0, 1) := by decide +kernel
theorem dX12_bowl_54 : decode cX12_bowl 54 = .ok (.getfield 33, 3) := by decide +kernel
theorem dX12_bowl_57 : decode cX12_bowl 57 = .ok (.iload 7, 2) := by decide +kernel
theorem dX12_bowl_59 : decode cX12_bowl 59 = .ok (.iconst 0, 1) := by decide +kernel
theorem dX12_bowl_60 : decode cX12_bowl 60 = .ok (.iastore, 1) := by decide +kernel
theorem dX12_bowl_61 : decode cX12_bowl 61 = .ok (.iinc 7 1, 3) := by decide +kernel
theorem dX12_bowl_64 : decode cX12_bowl 64 = .ok (.goto (-18), 3) := by decide +kernel
theorem dX12_bowl_67 : decode cX12_bowl 67 = .ok (.iconst 0, 1) := by decide +kernel
theorem dX12_bowl_68 : decode cX12_bowl 68 = .ok (.istore 7, 2) := by decide +kernel
theorem dX12_bowl_70 : decode cX12_bowl 70 = .ok (.iload 7, 2) := by decide +kernel
theorem dX12_bowl_72 : decode cX12_bowl 72 = .ok (.bipush 6, 2) := by decide +kernel
theorem dX12_bowl_74 : decode cX12_bowl 74 = .ok (.if_icmp .ge 91, 3) := by decide +kernel
theorem dX12_bowl_77 : decode cX12_bowl 77 = .ok (.iload_n 2, 1) := by decide +kernel
theorem dX12_bowl_78 : decode cX12_bowl 78 = .ok (.iload 7, 2) := by decide +kernel
theorem dX12_bowl_80 : decode cX12_bowl 80 = .ok (.ishr, 1) := by decide +kernel
theorem dX12_bowl_81 : decode cX12_bowl 81 = .ok (.iconst 1, 1) := by decide +kernel
theorem dX12_bowl_82 : decode cX12_bowl 82 = .ok (.iand, 1) := by decide +kernel
theorem dX12_bowl_83 : decode cX12_bowl 83 = .ok (.iconst 1, 1) := by decide +kernel
theorem dX12_bowl_84 : decode cX12_bowl 84 = .ok (.if_icmp .ne 75, 3) := by decide +kernel
theorem dX12_bowl_87 : decode cX12_bowl 87 = .ok (.aload_n 0, 1) := by decide +kernel
theorem dX12_bowl_88 : decode cX12_bowl 88 = .ok (.aload_n 0, 1) := by decide +kernel
theorem dX12_bowl_89 : decode cX12_bowl 89 = .ok (.iload_n 1, 1) := by decide +kernel
theorem dX12_bowl_90 : decode cX12_bowl 90 = .ok (.invokevirtual 104, 3) := by decide +kernel
theorem dX12_bowl_93 : decode cX12_bowl 93 = .ok (.invokevirtual 157, 3) := by decide +kernel
theorem dX12_bowl_96 : decode cX12_bowl 96 = .ok (.aload_n 0, 1) := by decide +kernel
theorem dX12_bowl_97 : decode cX12_bowl 97 = .ok (.invokevirtual 161, 3) := by decide +kernel
theorem dX12_bowl_100 : decode cX12_bowl 100 = .ok (.ifCond .ne 16, 3) := by decide +kernel
theorem dX12_bowl_103 : decode cX12_bowl 103 = .ok (.aload_n 0, 1) := by decide +kernel
theorem dX12_bowl_104 : decode cX12_bowl 104 = .ok (.iload 7, 2) := by decide +kernel
theorem dX12_bowl_106 : decode cX12_bowl 106 = .ok (.iconst 0, 1) := by decide +kernel
theorem dX12_bowl_107 : decode cX12_bowl 107 = .ok (.iload 5, 2) := by decide +kernel
theorem dX12_bowl_109 : decode cX12_bowl 109 = .ok (.iconst 0, 1) := by decide +kernel
theorem dX12_bowl_110 : decode cX12_bowl 110 = .ok (.invokevirtual 167, 3) := by decide +kernel
theorem dX12_bowl_113 : decode cX12_bowl 113 = .ok (.goto (-17), 3) := by decide +kernel
theorem dX12_bowl_116 : decode cX12_bowl 116 = .ok (.aload_n 0, 1) := by decide +kernel
theorem dX12_bowl_117 : decode cX12_bowl 117 = .ok (.getfield 33, 3) := by decide +kernel
theorem dX12_bowl_120 : decode cX12_bowl 120 = .ok (.aload_n 0, 1) := by decide +kernel
theorem dX12_bowl_121 : decode cX12_bowl 121 = .ok (.getfield 151, 3) := by decide +kernel
theorem dX12_bowl_124 : decode cX12_bowl 124 = .ok (.dup2, 1) := by decide +kernel
theorem dX12_bowl_125 : decode cX12_bowl 125 = .ok (.iaload, 1) := by decide +kernel
theorem dX12_bowl_126 : decode cX12_bowl 126 = .ok (.iconst 1, 1) := by decide +kernel
theorem dX12_bowl_127 : decode cX12_bowl 127 = .ok (.iadd, 1) := by decide +kernel
theorem dX12_bowl_128 : decode cX12_bowl 128 = .ok (.iastore, 1) := by decide +kernel
theorem dX12_bowl_129 : decode cX12_bowl 129 = .ok (.aload_n 0, 1) := by decide +kernel
theorem dX12_bowl_130 : decode cX12_bowl 130 = .ok (.getfield 33, 3) := by decide +kernel
theorem dX12_bowl_133 : decode cX12_bowl 133 = .ok (.aload_n 0, 1) := by decide +kernel
theorem dX12_bowl_134 : decode cX12_bowl 134 = .ok (.getfield 151, 3) := by decide +kernel
theorem dX12_bowl_137 : decode cX12_bowl 137 = .ok (.iaload, 1) := by decide +kernel
theorem dX12_bowl_138 : decode cX12_bowl 138 = .ok (.iload 6, 2) := by decide +kernel
theorem dX12_bowl_140 : decode cX12_bowl 140 = .ok (.if_icmp .le 15, 3) := by decide +kernel
theorem dX12_bowl_143 : decode cX12_bowl 143 = .ok (.aload_n 0, 1) := by decide +kernel
theorem dX12_bowl_144 : decode cX12_bowl 144 = .ok (.getfield 33, 3) := by decide +kernel
theorem dX12_bowl_147 : decode cX12_bowl 147 = .ok (.aload_n 0, 1) := by decide +kernel
theorem dX12_bowl_148 : decode cX12_bowl 148 = .ok (.getfield 151, 3) := by decide +kernel
theorem dX12_bowl_151 : decode cX12_bowl 151 = .ok (.iaload, 1) := by decide +kernel
theorem dX12_bowl_152 : decode cX12_bowl 152 = .ok (.goto 5, 3) := by decide +kernel
theorem dX12_bowl_155 : decode cX12_bowl 155 = .ok (.iload 6, 2) := by decide +kernel
theorem dX12_bowl_157 : decode cX12_bowl 157 = .ok (.istore 6, 2) := by decide +kernel
theorem dX12_bowl_159 : decode cX12_bowl 159 = .ok (.iinc 7 1, 3) := by decide +kernel
theorem dX12_bowl_162 : decode cX12_bowl 162 = .ok (.goto (-92), 3) := by decide +kernel
theorem dX12_bowl_165 : decode cX12_bowl 165 = .ok (.iload 6, 2) := by decide +kernel
theorem dX12_bowl_167 : decode cX12_bowl 167 = .ok (.iload 4, 2) := by decide +kernel
theorem dX12_bowl_169 : decode cX12_bowl 169 = .ok (.if_icmp .ge 8, 3) := by decide +kernel
theorem dX12_bowl_172 : decode cX12_bowl 172 = .ok (.iload 5, 2) := by decide +kernel
theorem dX12_bowl_174 : decode cX12_bowl 174 = .ok (.goto 4, 3) := by decide +kernel
theorem dX12_bowl_177 : decode cX12_bowl 177 = .ok (.iload_n 3, 1) := by decide +kernel
theorem dX12_bowl_178 : decode cX12_bowl 178 = .ok (.istore_n 3, 1) := by decide +kernel
theorem dX12_bowl_179 : decode cX12_bowl 179 = .ok (.iload 6, 2) := by decide +kernel
theorem dX12_bowl_181 : decode cX12_bowl 181 = .ok (.iload 4, 2) := by decide +kernel
theorem dX12_bowl_183 : decode cX12_bowl 183 = .ok (.if_icmp .ge 8, 3) := by decide +kernel
theorem dX12_bowl_186 : decode cX12_bowl 186 = .ok (.iload 6, 2) := by decide +kernel
theorem dX12_bowl_188 : decode cX12_bowl 188 = .ok (.goto 5, 3) := by decide +kernel
theorem dX12_bowl_191 : decode cX12_bowl 191 = .ok (.iload 4, 2) := by decide +kernel
theorem dX12_bowl_193 : decode cX12_bowl 193 = .ok (.istore 4, 2) := by decide +kernel
theorem dX12_bowl_195 : decode cX12_bowl 195 = .ok (.iinc 5 1, 3) := by decide +kernel
theorem dX12_bowl_198 : decode cX12_bowl 198 = .ok (.goto (-168), 3) := by decide +kernel
theorem dX12_bowl_201 : decode cX12_bowl 201 = .ok (.iload_n 3, 1) := by decide +kernel
theorem dX12_bowl_202 : decode cX12_bowl 202 = .ok (.ireturn, 1) := by decide +kernel
theorem dX12_bowed_0 : decode cX12_bowed 0 = .ok (.aload_n 0, 1) := by decide +kernel
theorem dX12_bowed_1 : decode cX12_bowed 1 = .ok (.iload_n 1, 1) := by decide +kernel
theorem dX12_bowed_2 : decode cX12_bowed 2 = .ok (.invokevirtual 98, 3) := by decide +kernel
theorem dX12_bowed_5 : decode cX12_bowed 5 = .ok (.ifCond .eq 41, 3) := by decide +kernel
theorem dX12_bowed_8 : decode cX12_bowed 8 = .ok (.iload_n 2, 1) := by decide +kernel
theorem dX12_bowed_9 : decode cX12_bowed 9 = .ok (.invokestatic 171, 3) := by decide +kernel
theorem dX12_bowed_12 : decode cX12_bowed 12 = .ok (.ifCond .eq 34, 3) := by decide +kernel
theorem dX12_bowed_15 : decode cX12_bowed 15 = .ok (.iload_n 3, 1) := by decide +kernel
theorem dX12_bowed_16 : decode cX12_bowed 16 = .ok (.invokestatic 174, 3) := by decide +kernel
theorem dX12_bowed_19 : decode cX12_bowed 19 = .ok (.ifCond .eq 27, 3) := by decide +kernel
theorem dX12_bowed_22 : decode cX12_bowed 22 = .ok (.iload 4, 2) := by decide +kernel
theorem dX12_bowed_24 : decode cX12_bowed 24 = .ok (.i2l, 1) := by decide +kernel
theorem dX12_bowed_25 : decode cX12_bowed 25 = .ok (.ldc2_w 88, 3) := by decide +kernel
theorem dX12_bowed_28 : decode cX12_bowed 28 = .ok (.ldc2_w 66, 3) := by decide +kernel
theorem dX12_bowed_31 : decode cX12_bowed 31 = .ok (.invokestatic 56, 3) := by decide +kernel
theorem dX12_bowed_34 : decode cX12_bowed 34 = .ok (.ifCond .eq 12, 3) := by decide +kernel
theorem dX12_bowed_37 : decode cX12_bowed 37 = .ok (.aload_n 0, 1) := by decide +kernel
theorem dX12_bowed_38 : decode cX12_bowed 38 = .ok (.iload 5, 2) := by decide +kernel
theorem dX12_bowed_40 : decode cX12_bowed 40 = .ok (.invokevirtual 80, 3) := by decide +kernel
theorem dX12_bowed_43 : decode cX12_bowed 43 = .ok (.ifCond .ne 10, 3) := by decide +kernel
theorem dX12_bowed_46 : decode cX12_bowed 46 = .ok (.aload_n 0, 1) := by decide +kernel
theorem dX12_bowed_47 : decode cX12_bowed 47 = .ok (.bipush (-2), 2) := by decide +kernel
theorem dX12_bowed_49 : decode cX12_bowed 49 = .ok (.invokevirtual 76, 3) := by decide +kernel
theorem dX12_bowed_52 : decode cX12_bowed 52 = .ok (.ireturn, 1) := by decide +kernel
theorem dX12_bowed_53 : decode cX12_bowed 53 = .ok (.iconst 0, 1) := by decide +kernel
theorem dX12_bowed_54 : decode cX12_bowed 54 = .ok (.istore 6, 2) := by decide +kernel
theorem dX12_bowed_56 : decode cX12_bowed 56 = .ok (.iconst 0, 1) := by decide +kernel
theorem dX12_bowed_57 : decode cX12_bowed 57 = .ok (.istore 7, 2) := by decide +kernel
theorem dX12_bowed_59 : decode cX12_bowed 59 = .ok (.iload 7, 2) := by decide +kernel
theorem dX12_bowed_61 : decode cX12_bowed 61 = .ok (.iload_n 3, 1) := by decide +kernel
theorem dX12_bowed_62 : decode cX12_bowed 62 = .ok (.invokestatic 144, 3) := by decide +kernel
theorem dX12_bowed_65 : decode cX12_bowed 65 = .ok (.if_icmp .ge 105, 3) := by decide +kernel
theorem dX12_bowed_68 : decode cX12_bowed 68 = .ok (.aload_n 0, 1) := by decide +kernel
theorem dX12_bowed_69 : decode cX12_bowed 69 = .ok (.aload_n 0, 1) := by decide +kernel
theorem dX12_bowed_70 : decode cX12_bowed 70 = .ok (.iload_n 1, 1) := by decide +kernel
theorem dX12_bowed_71 : decode cX12_bowed 71 = .ok (.invokevirtual 101, 3) := by decide +kernel
theorem dX12_bowed_74 : decode cX12_bowed 74 = .ok (.aload_n 0, 1) := by decide +kernel
theorem dX12_bowed_75 : decode cX12_bowed 75 = .ok (.iload_n 1, 1) := by decide +kernel
theorem dX12_bowed_76 : decode cX12_bowed 76 = .ok (.invokevirtual 104, 3) := by decide +kernel
theorem dX12_bowed_79 : decode cX12_bowed 79 = .ok (.iload_n 2, 1) := by decide +kernel
theorem dX12_bowed_80 : decode cX12_bowed 80 = .ok (.iload_n 3, 1) := by decide +kernel
theorem dX12_bowed_81 : decode cX12_bowed 81 = .ok (.iload 7, 2) := by decide +kernel
theorem dX12_bowed_83 : decode cX12_bowed 83 = .ok (.iload 4, 2) := by decide +kernel
theorem dX12_bowed_85 : decode cX12_bowed 85 = .ok (.invokevirtual 177, 3) := by decide +kernel
theorem dX12_bowed_88 : decode cX12_bowed 88 = .ok (.aload_n 0, 1) := by decide +kernel
theorem dX12_bowed_89 : decode cX12_bowed 89 = .ok (.getfield 154, 3) := by decide +kernel
theorem dX12_bowed_92 : decode cX12_bowed 92 = .ok (.iload 7, 2) := by decide +kernel
theorem dX12_bowed_94 : decode cX12_bowed 94 = .ok (.if_icmp .le 16, 3) := by decide +kernel
theorem dX12_bowed_97 : decode cX12_bowed 97 = .ok (.aload_n 0, 1) := by decide +kernel
theorem dX12_bowed_98 : decode cX12_bowed 98 = .ok (.invokevirtual 202, 3) := by decide +kernel
theorem dX12_bowed_101 : decode cX12_bowed 101 = .ok (.iload 5, 2) := by decide +kernel
theorem dX12_bowed_103 : decode cX12_bowed 103 = .ok (.if_icmp .ne 7, 3) := by decide +kernel
theorem dX12_bowed_106 : decode cX12_bowed 106 = .ok (.iconst 1, 1) := by decide +kernel
theorem dX12_bowed_107 : decode cX12_bowed 107 = .ok (.goto 4, 3) := by decide +kernel
theorem dX12_bowed_110 : decode cX12_bowed 110 = .ok (.iconst 0, 1) := by decide +kernel
theorem dX12_bowed_111 : decode cX12_bowed 111 = .ok (.istore 8, 2) := by decide +kernel
theorem dX12_bowed_113 : decode cX12_bowed 113 = .ok (.iconst 0, 1) := by decide +kernel
theorem dX12_bowed_114 : decode cX12_bowed 114 = .ok (.istore 9, 2) := by decide +kernel
theorem dX12_bowed_116 : decode cX12_bowed 116 = .ok (.iconst 0, 1) := by decide +kernel
theorem dX12_bowed_117 : decode cX12_bowed 117 = .ok (.istore 10, 2) := by decide +kernel
theorem dX12_bowed_119 : decode cX12_bowed 119 = .ok (.iload 10, 2) := by decide +kernel
theorem dX12_bowed_121 : decode cX12_bowed 121 = .ok (.iload 7, 2) := by decide +kernel
theorem dX12_bowed_123 : decode cX12_bowed 123 = .ok (.if_icmp .gt 23, 3) := by decide +kernel
theorem dX12_bowed_126 : decode cX12_bowed 126 = .ok (.aload_n 0, 1) := by decide +kernel
theorem dX12_bowed_127 : decode cX12_bowed 127 = .ok (.iload 9, 2) := by decide +kernel
theorem dX12_bowed_129 : decode cX12_bowed 129 = .ok (.iload_n 3, 1) := by decide +kernel
theorem dX12_bowed_130 : decode cX12_bowed 130 = .ok (.iload 10, 2) := by decide +kernel
theorem dX12_bowed_132 : decode cX12_bowed 132 = .ok (.invokestatic 164, 3) := by decide +kernel
theorem dX12_bowed_135 : decode cX12_bowed 135 = .ok (.invokevirtual 110, 3) := by decide +kernel
theorem dX12_bowed_138 : decode cX12_bowed 138 = .ok (.istore 9, 2) := by decide +kernel
theorem dX12_bowed_140 : decode cX12_bowed 140 = .ok (.iinc 10 1, 3) := by decide +kernel
theorem dX12_bowed_143 : decode cX12_bowed 143 = .ok (.goto (-24), 3) := by decide +kernel
theorem dX12_bowed_146 : decode cX12_bowed 146 = .ok (.iload 6, 2) := by decide +kernel
theorem dX12_bowed_148 : decode cX12_bowed 148 = .ok (.iload 8, 2) := by decide +kernel
theorem dX12_bowed_150 : decode cX12_bowed 150 = .ok (.ifCond .eq 10, 3) := by decide +kernel
theorem dX12_bowed_153 : decode cX12_bowed 153 = .ok (.iconst 1, 1) := by decide +kernel
theorem dX12_bowed_154 : decode cX12_bowed 154 = .ok (.iload 9, 2) := by decide +kernel
theorem dX12_bowed_156 : decode cX12_bowed 156 = .ok (.ishl, 1) := by decide +kernel
theorem dX12_bowed_157 : decode cX12_bowed 157 = .ok (.goto 4, 3) := by decide +kernel
theorem dX12_bowed_160 : decode cX12_bowed 160 = .ok (.iconst 0, 1) := by decide +kernel
theorem dX12_bowed_161 : decode cX12_bowed 161 = .ok (.ior, 1) := by decide +kernel
theorem dX12_bowed_162 : decode cX12_bowed 162 = .ok (.istore 6, 2) := by decide +kernel
theorem dX12_bowed_164 : decode cX12_bowed 164 = .ok (.iinc 7 1, 3) := by decide +kernel
theorem dX12_bowed_167 : decode cX12_bowed 167 = .ok (.goto (-108), 3) := by decide +kernel
theorem dX12_bowed_170 : decode cX12_bowed 170 = .ok (.iload 6, 2) := by decide +kernel
theorem dX12_bowed_172 : decode cX12_bowed 172 = .ok (.ireturn, 1) := by decide +kernel
theorem dX12_fraction_0 : decode cX12_fraction 0 = .ok (.lload_n 1, 1) := by decide +kernel
theorem dX12_fraction_1 : decode cX12_fraction 1 = .ok (.lstore 5, 2) := by decide +kernel
theorem dX12_fraction_3 : decode cX12_fraction 3 = .ok (.lload_n 3, 1) := by decide +kernel
theorem dX12_fraction_4 : decode cX12_fraction 4 = .ok (.lstore 7, 2) := by decide +kernel
theorem dX12_fraction_6 : decode cX12_fraction 6 = .ok (.lload 7, 2) := by decide +kernel
theorem dX12_fraction_8 : decode cX12_fraction 8 = .ok (.lconst 0, 1) := by decide +kernel
theorem dX12_fraction_9 : decode cX12_fraction 9 = .ok (.lcmp, 1) := by decide +kernel
theorem dX12_fraction_10 : decode cX12_fraction 10 = .ok (.ifCond .eq 21, 3) := by decide +kernel
theorem dX12_fraction_13 : decode cX12_fraction 13 = .ok (.lload 5, 2) := by decide +kernel
theorem dX12_fraction_15 : decode cX12_fraction 15 = .ok (.lload 7, 2) := by decide +kernel
theorem dX12_fraction_17 : decode cX12_fraction 17 = .ok (.lrem, 1) := by decide +kernel
theorem dX12_fraction_18 : decode cX12_fraction 18 = .ok (.lstore 9, 2) := by decide +kernel
theorem dX12_fraction_20 : decode cX12_fraction 20 = .ok (.lload 7, 2) := by decide +kernel
theorem dX12_fraction_22 : decode cX12_fraction 22 = .ok (.lstore 5, 2) := by decide +kernel
theorem dX12_fraction_24 : decode cX12_fraction 24 = .ok (.lload 9, 2) := by decide +kernel
theorem dX12_fraction_26 : decode cX12_fraction 26 = .ok (.lstore 7, 2) := by decide +kernel
theorem dX12_fraction_28 : decode cX12_fraction 28 = .ok (.goto (-22), 3) := by decide +kernel
theorem dX12_fraction_31 : decode cX12_fraction 31 = .ok (.aload_n 0, 1) := by decide +kernel
theorem dX12_fraction_32 : decode cX12_fraction 32 = .ok (.lload_n 1, 1) := by decide +kernel
theorem dX12_fraction_33 : decode cX12_fraction 33 = .ok (.lload 5, 2) := by decide +kernel
theorem dX12_fraction_35 : decode cX12_fraction 35 = .ok (.ldiv, 1) := by decide +kernel
theorem dX12_fraction_36 : decode cX12_fraction 36 = .ok (.putfield 211, 3) := by decide +kernel
theorem dX12_fraction_39 : decode cX12_fraction 39 = .ok (.aload_n 0, 1) := by decide +kernel
theorem dX12_fraction_40 : decode cX12_fraction 40 = .ok (.lload_n 3, 1) := by decide +kernel
theorem dX12_fraction_41 : decode cX12_fraction 41 = .ok (.lload 5, 2) := by decide +kernel
theorem dX12_fraction_43 : decode cX12_fraction 43 = .ok (.ldiv, 1) := by decide +kernel
theorem dX12_fraction_44 : decode cX12_fraction 44 = .ok (.putfield 23, 3) := by decide +kernel
theorem dX12_fraction_47 : decode cX12_fraction 47 = .ok (.return_, 1) := by decide +kernel
theorem dX12_goCases_0 : decode cX12_goCases 0 = .ok (.iconst 0, 1) := by decide +kernel
theorem dX12_goCases_1 : decode cX12_goCases 1 = .ok (.istore 6, 2) := by decide +kernel
theorem dX12_goCases_3 : decode cX12_goCases 3 = .ok (.iload 6, 2) := by decide +kernel
theorem dX12_goCases_5 : decode cX12_goCases 5 = .ok (.bipush 25, 2) := by decide +kernel
theorem dX12_goCases_7 : decode cX12_goCases 7 = .ok (.if_icmp .ge 17, 3) := by decide +kernel
theorem dX12_goCases_10 : decode cX12_goCases 10 = .ok (.aload_n 0, 1) := by decide +kernel
theorem dX12_goCases_11 : decode cX12_goCases 11 = .ok (.getfield 40, 3) := by decide +kernel
theorem dX12_goCases_14 : decode cX12_goCases 14 = .ok (.iload 6, 2) := by decide +kernel
theorem dX12_goCases_16 : decode cX12_goCases 16 = .ok (.lconst 0, 1) := by decide +kernel
theorem dX12_goCases_17 : decode cX12_goCases 17 = .ok (.lastore, 1) := by decide +kernel
theorem dX12_goCases_18 : decode cX12_goCases 18 = .ok (.iinc 6 1, 3) := by decide +kernel
theorem dX12_goCases_21 : decode cX12_goCases 21 = .ok (.goto (-18), 3) := by decide +kernel
theorem dX12_goCases_24 : decode cX12_goCases 24 = .ok (.aload_n 0, 1) := by decide +kernel
theorem dX12_goCases_25 : decode cX12_goCases 25 = .ok (.getfield 7, 3) := by decide +kernel
theorem dX12_goCases_28 : decode cX12_goCases 28 = .ok (.iconst 1, 1) := by decide +kernel
theorem dX12_goCases_29 : decode cX12_goCases 29 = .ok (.iaload, 1) := by decide +kernel
theorem dX12_goCases_30 : decode cX12_goCases 30 = .ok (.ineg, 1) := by decide +kernel
theorem dX12_goCases_31 : decode cX12_goCases 31 = .ok (.istore 6, 2) := by decide +kernel
theorem dX12_goCases_33 : decode cX12_goCases 33 = .ok (.iload 6, 2) := by decide +kernel
theorem dX12_goCases_35 : decode cX12_goCases 35 = .ok (.aload_n 0, 1) := by decide +kernel
theorem dX12_goCases_36 : decode cX12_goCases 36 = .ok (.getfield 7, 3) := by decide +kernel
theorem dX12_goCases_39 : decode cX12_goCases 39 = .ok (.iconst 1, 1) := by decide +kernel
theorem dX12_goCases_40 : decode cX12_goCases 40 = .ok (.iaload, 1) := by decide +kernel
theorem dX12_goCases_41 : decode cX12_goCases 41 = .ok (.if_icmp .gt 101, 3) := by decide +kernel
theorem dX12_goCases_44 : decode cX12_goCases 44 = .ok (.aload_n 0, 1) := by decide +kernel
theorem dX12_goCases_45 : decode cX12_goCases 45 = .ok (.iload_n 1, 1) := by decide +kernel
theorem dX12_goCases_46 : decode cX12_goCases 46 = .ok (.iload_n 2, 1) := by decide +kernel
theorem dX12_goCases_47 : decode cX12_goCases 47 = .ok (.iload 6, 2) := by decide +kernel
theorem dX12_goCases_49 : decode cX12_goCases 49 = .ok (.iload_n 3, 1) := by decide +kernel
theorem dX12_goCases_50 : decode cX12_goCases 50 = .ok (.iload 4, 2) := by decide +kernel
theorem dX12_goCases_52 : decode cX12_goCases 52 = .ok (.invokevirtual 140, 3) := by decide +kernel
theorem dX12_goCases_55 : decode cX12_goCases 55 = .ok (.istore 7, 2) := by decide +kernel
theorem dX12_goCases_57 : decode cX12_goCases 57 = .ok (.aload_n 0, 1) := by decide +kernel
theorem dX12_goCases_58 : decode cX12_goCases 58 = .ok (.iload 7, 2) := by decide +kernel
theorem dX12_goCases_60 : decode cX12_goCases 60 = .ok (.invokevirtual 118, 3) := by decide +kernel
theorem dX12_goCases_63 : decode cX12_goCases 63 = .ok (.ifCond .ne 33, 3) := by decide +kernel
theorem dX12_goCases_66 : decode cX12_goCases 66 = .ok (.aload_n 0, 1) := by decide +kernel
theorem dX12_goCases_67 : decode cX12_goCases 67 = .ok (.getfield 40, 3) := by decide +kernel
theorem dX12_goCases_70 : decode cX12_goCases 70 = .ok (.iload 7, 2) := by decide +kernel
theorem dX12_goCases_72 : decode cX12_goCases 72 = .ok (.bipush 12, 2) := by decide +kernel
theorem dX12_goCases_74 : decode cX12_goCases 74 = .ok (.iadd, 1) := by decide +kernel
theorem dX12_goCases_75 : decode cX12_goCases 75 = .ok (.dup2, 1) := by decide +kernel
theorem dX12_goCases_76 : decode cX12_goCases 76 = .ok (.laload, 1) := by decide +kernel
theorem dX12_goCases_77 : decode cX12_goCases 77 = .ok (.bipush 10, 2) := by decide +kernel
theorem dX12_goCases_79 : decode cX12_goCases 79 = .ok (.iload 5, 2) := by decide +kernel
theorem dX12_goCases_81 : decode cX12_goCases 81 = .ok (.isub, 1) := by decide +kernel
theorem dX12_goCases_82 : decode cX12_goCases 82 = .ok (.i2l, 1) := by decide +kernel
theorem dX12_goCases_83 : decode cX12_goCases 83 = .ok (.aload_n 0, 1) := by decide +kernel
theorem dX12_goCases_84 : decode cX12_goCases 84 = .ok (.getfield 36, 3) := by decide +kernel
theorem dX12_goCases_87 : decode cX12_goCases 87 = .ok (.iload 6, 2) := by decide +kernel
theorem dX12_goCases_89 : decode cX12_goCases 89 = .ok (.bipush 12, 2) := by decide +kernel
theorem dX12_goCases_91 : decode cX12_goCases 91 = .ok (.iadd, 1) := by decide +kernel
theorem dX12_goCases_92 : decode cX12_goCases 92 = .ok (.laload, 1) := by decide +kernel
theorem dX12_goCases_93 : decode cX12_goCases 93 = .ok (.lmul, 1) := by decide +kernel
theorem dX12_goCases_94 : decode cX12_goCases 94 = .ok (.ladd, 1) := by decide +kernel
theorem dX12_goCases_95 : decode cX12_goCases 95 = .ok (.lastore, 1) := by decide +kernel
theorem dX12_goCases_96 : decode cX12_goCases 96 = .ok (.aload_n 0, 1) := by decide +kernel
theorem dX12_goCases_97 : decode cX12_goCases 97 = .ok (.iload 7, 2) := by decide +kernel
theorem dX12_goCases_99 : decode cX12_goCases 99 = .ok (.iconst 1, 1) := by decide +kernel
theorem dX12_goCases_100 : decode cX12_goCases 100 = .ok (.iadd, 1) := by decide +kernel
theorem dX12_goCases_101 : decode cX12_goCases 101 = .ok (.invokevirtual 118, 3) := by decide +kernel
theorem dX12_goCases_104 : decode cX12_goCases 104 = .ok (.ifCond .ne 32, 3) := by decide +kernel
theorem dX12_goCases_107 : decode cX12_goCases 107 = .ok (.aload_n 0, 1) := by decide +kernel
theorem dX12_goCases_108 : decode cX12_goCases 108 = .ok (.getfield 40, 3) := by decide +kernel
theorem dX12_goCases_111 : decode cX12_goCases 111 = .ok (.iload 7, 2) := by decide +kernel
theorem dX12_goCases_113 : decode cX12_goCases 113 = .ok (.iconst 1, 1) := by decide +kernel
theorem dX12_goCases_114 : decode cX12_goCases 114 = .ok (.iadd, 1) := by decide +kernel
theorem dX12_goCases_115 : decode cX12_goCases 115 = .ok (.bipush 12, 2) := by decide +kernel
theorem dX12_goCases_117 : decode cX12_goCases 117 = .ok (.iadd, 1) := by decide +kernel
theorem dX12_goCases_118 : decode cX12_goCases 118 = .ok (.dup2, 1) := by decide +kernel
theorem dX12_goCases_119 : decode cX12_goCases 119 = .ok (.laload, 1) := by decide +kernel
theorem dX12_goCases_120 : decode cX12_goCases 120 = .ok (.iload 5, 2) := by decide +kernel
theorem dX12_goCases_122 : decode cX12_goCases 122 = .ok (.i2l, 1) := by decide +kernel
theorem dX12_goCases_123 : decode cX12_goCases 123 = .ok (.aload_n 0, 1) := by decide +kernel
theorem dX12_goCases_124 : decode cX12_goCases 124 = .ok (.getfield 36, 3) := by decide +kernel
theorem dX12_goCases_127 : decode cX12_goCases 127 = .ok (.iload 6, 2) := by decide +kernel
theorem dX12_goCases_129 : decode cX12_goCases 129 = .ok (.bipush 12, 2) := by decide +kernel
theorem dX12_goCases_131 : decode cX12_goCases 131 = .ok (.iadd, 1) := by decide +kernel
theorem dX12_goCases_132 : decode cX12_goCases 132 = .ok (.laload, 1) := by decide +kernel
theorem dX12_goCases_133 : decode cX12_goCases 133 = .ok (.lmul, 1) := by decide +kernel
theorem dX12_goCases_134 : decode cX12_goCases 134 = .ok (.ladd, 1) := by decide +kernel
theorem dX12_goCases_135 : decode cX12_goCases 135 = .ok (.lastore, 1) := by decide +kernel
theorem dX12_goCases_136 : decode cX12_goCases 136 = .ok (.iinc 6 1, 3) := by decide +kernel
theorem dX12_goCases_139 : decode cX12_goCases 139 = .ok (.goto (-106), 3) := by decide +kernel
theorem dX12_goCases_142 : decode cX12_goCases 142 = .ok (.iconst 0, 1) := by decide +kernel
theorem dX12_goCases_143 : decode cX12_goCases 143 = .ok (.istore 6, 2) := by decide +kernel
theorem dX12_goCases_145 : decode cX12_goCases 145 = .ok (.iload 6, 2) := by decide +kernel
theorem dX12_goCases_147 : decode cX12_goCases 147 = .ok (.bipush 25, 2) := by decide +kernel
theorem dX12_goCases_149 : decode cX12_goCases 149 = .ok (.if_icmp .ge 23, 3) := by decide +kernel
theorem dX12_goCases_152 : decode cX12_goCases 152 = .ok (.aload_n 0, 1) := by decide +kernel
theorem dX12_goCases_153 : decode cX12_goCases 153 = .ok (.getfield 36, 3) := by decide +kernel
theorem dX12_goCases_156 : decode cX12_goCases 156 = .ok (.iload 6, 2) := by decide +kernel
theorem dX12_goCases_158 : decode cX12_goCases 158 = .ok (.aload_n 0, 1) := by decide +kernel
theorem dX12_goCases_159 : decode cX12_goCases 159 = .ok (.getfield 40, 3) := by decide +kernel
theorem dX12_goCases_162 : decode cX12_goCases 162 = .ok (.iload 6, 2) := by decide +kernel
theorem dX12_goCases_164 : decode cX12_goCases 164 = .ok (.laload, 1) := by decide +kernel
theorem dX12_goCases_165 : decode cX12_goCases 165 = .ok (.lastore, 1) := by decide +kernel
theorem dX12_goCases_166 : decode cX12_goCases 166 = .ok (.iinc 6 1, 3) := by decide +kernel
theorem dX12_goCases_169 : decode cX12_goCases 169 = .ok (.goto (-24), 3) := by decide +kernel
theorem dX12_goCases_172 : decode cX12_goCases 172 = .ok (.return_, 1) := by decide +kernel
theorem dX12_pigeons_0 : decode cX12_pigeons 0 = .ok (.aload_n 0, 1) := by decide +kernel
theorem dX12_pigeons_1 : decode cX12_pigeons 1 = .ok (.iload_n 1, 1) := by decide +kernel
theorem dX12_pigeons_2 : decode cX12_pigeons 2 = .ok (.invokevirtual 98, 3) := by decide +kernel
theorem dX12_pigeons_5 : decode cX12_pigeons 5 = .ok (.ifCond .eq 22, 3) := by decide +kernel
theorem dX12_pigeons_8 : decode cX12_pigeons 8 = .ok (.iload_n 2, 1) := by decide +kernel
theorem dX12_pigeons_9 : decode cX12_pigeons 9 = .ok (.invokestatic 121, 3) := by decide +kernel
theorem dX12_pigeons_12 : decode cX12_pigeons 12 = .ok (.ifCond .eq 15, 3) := by decide +kernel
theorem dX12_pigeons_15 : decode cX12_pigeons 15 = .ok (.iload_n 3, 1) := by decide +kernel
theorem dX12_pigeons_16 : decode cX12_pigeons 16 = .ok (.i2l, 1) := by decide +kernel
theorem dX12_pigeons_17 : decode cX12_pigeons 17 = .ok (.lconst 0, 1) := by decide +kernel
theorem dX12_pigeons_18 : decode cX12_pigeons 18 = .ok (.ldc2_w 214, 3) := by decide +kernel
theorem dX12_pigeons_21 : decode cX12_pigeons 21 = .ok (.invokestatic 56, 3) := by decide +kernel
theorem dX12_pigeons_24 : decode cX12_pigeons 24 = .ok (.ifCond .ne 10, 3) := by decide +kernel
theorem dX12_pigeons_27 : decode cX12_pigeons 27 = .ok (.aload_n 0, 1) := by decide +kernel
theorem dX12_pigeons_28 : decode cX12_pigeons 28 = .ok (.bipush (-2), 2) := by decide +kernel
theorem dX12_pigeons_30 : decode cX12_pigeons 30 = .ok (.invokevirtual 76, 3) := by decide +kernel
theorem dX12_pigeons_33 : decode cX12_pigeons 33 = .ok (.ireturn, 1) := by decide +kernel
theorem dX12_pigeons_34 : decode cX12_pigeons 34 = .ok (.aload_n 0, 1) := by decide +kernel
theorem dX12_pigeons_35 : decode cX12_pigeons 35 = .ok (.invokevirtual 137, 3) := by decide +kernel
theorem dX12_pigeons_38 : decode cX12_pigeons 38 = .ok (.iconst 0, 1) := by decide +kernel
theorem dX12_pigeons_39 : decode cX12_pigeons 39 = .ok (.istore 4, 2) := by decide +kernel
theorem dX12_pigeons_41 : decode cX12_pigeons 41 = .ok (.iload 4, 2) := by decide +kernel
theorem dX12_pigeons_43 : decode cX12_pigeons 43 = .ok (.bipush 25, 2) := by decide +kernel
theorem dX12_pigeons_45 : decode cX12_pigeons 45 = .ok (.if_icmp .ge 46, 3) := by decide +kernel
theorem dX12_pigeons_48 : decode cX12_pigeons 48 = .ok (.aload_n 0, 1) := by decide +kernel
theorem dX12_pigeons_49 : decode cX12_pigeons 49 = .ok (.getfield 36, 3) := by decide +kernel
theorem dX12_pigeons_52 : decode cX12_pigeons 52 = .ok (.iload 4, 2) := by decide +kernel
theorem dX12_pigeons_54 : decode cX12_pigeons 54 = .ok (.iload 4, 2) := by decide +kernel
theorem dX12_pigeons_56 : decode cX12_pigeons 56 = .ok (.bipush 12, 2) := by decide +kernel
theorem dX12_pigeons_58 : decode cX12_pigeons 58 = .ok (.isub, 1) := by decide +kernel
theorem dX12_pigeons_59 : decode cX12_pigeons 59 = .ok (.aload_n 0, 1) := by decide +kernel
theorem dX12_pigeons_60 : decode cX12_pigeons 60 = .ok (.iload_n 1, 1) := by decide +kernel
theorem dX12_pigeons_61 : decode cX12_pigeons 61 = .ok (.invokevirtual 104, 3) := by decide +kernel
theorem dX12_pigeons_64 : decode cX12_pigeons 64 = .ok (.if_icmp .ne 19, 3) := by decide +kernel
theorem dX12_pigeons_67 : decode cX12_pigeons 67 = .ok (.aload_n 0, 1) := by decide +kernel
theorem dX12_pigeons_68 : decode cX12_pigeons 68 = .ok (.aload_n 0, 1) := by decide +kernel
theorem dX12_pigeons_69 : decode cX12_pigeons 69 = .ok (.iload_n 1, 1) := by decide +kernel
theorem dX12_pigeons_70 : decode cX12_pigeons 70 = .ok (.invokevirtual 104, 3) := by decide +kernel
theorem dX12_pigeons_73 : decode cX12_pigeons 73 = .ok (.invokevirtual 118, 3) := by decide +kernel
theorem dX12_pigeons_76 : decode cX12_pigeons 76 = .ok (.ifCond .ne 7, 3) := by decide +kernel
theorem dX12_pigeons_79 : decode cX12_pigeons 79 = .ok (.lconst 1, 1) := by decide +kernel
theorem dX12_pigeons_80 : decode cX12_pigeons 80 = .ok (.goto 4, 3) := by decide +kernel
theorem dX12_pigeons_83 : decode cX12_pigeons 83 = .ok (.lconst 0, 1) := by decide +kernel
theorem dX12_pigeons_84 : decode cX12_pigeons 84 = .ok (.lastore, 1) := by decide +kernel
theorem dX12_pigeons_85 : decode cX12_pigeons 85 = .ok (.iinc 4 1, 3) := by decide +kernel
theorem dX12_pigeons_88 : decode cX12_pigeons 88 = .ok (.goto (-47), 3) := by decide +kernel
theorem dX12_pigeons_91 : decode cX12_pigeons 91 = .ok (.lconst 1, 1) := by decide +kernel
theorem dX12_pigeons_92 : decode cX12_pigeons 92 = .ok (.lstore 4, 2) := by decide +kernel
theorem dX12_pigeons_94 : decode cX12_pigeons 94 = .ok (.iconst 0, 1) := by decide +kernel
theorem dX12_pigeons_95 : decode cX12_pigeons 95 = .ok (.istore 6, 2) := by decide +kernel
theorem dX12_pigeons_97 : decode cX12_pigeons 97 = .ok (.iconst 0, 1) := by decide +kernel
theorem dX12_pigeons_98 : decode cX12_pigeons 98 = .ok (.istore 7, 2) := by decide +kernel
theorem dX12_pigeons_100 : decode cX12_pigeons 100 = .ok (.iload 6, 2) := by decide +kernel
theorem dX12_pigeons_102 : decode cX12_pigeons 102 = .ok (.aload_n 0, 1) := by decide +kernel
theorem dX12_pigeons_103 : decode cX12_pigeons 103 = .ok (.invokevirtual 60, 3) := by decide +kernel
theorem dX12_pigeons_106 : decode cX12_pigeons 106 = .ok (.if_icmp .ge 41, 3) := by decide +kernel
theorem dX12_pigeons_109 : decode cX12_pigeons 109 = .ok (.aload_n 0, 1) := by decide +kernel
theorem dX12_pigeons_110 : decode cX12_pigeons 110 = .ok (.aload_n 0, 1) := by decide +kernel
theorem dX12_pigeons_111 : decode cX12_pigeons 111 = .ok (.iload_n 1, 1) := by decide +kernel
theorem dX12_pigeons_112 : decode cX12_pigeons 112 = .ok (.invokevirtual 101, 3) := by decide +kernel
theorem dX12_pigeons_115 : decode cX12_pigeons 115 = .ok (.iload 6, 2) := by decide +kernel
theorem dX12_pigeons_117 : decode cX12_pigeons 117 = .ok (.iload 7, 2) := by decide +kernel
theorem dX12_pigeons_119 : decode cX12_pigeons 119 = .ok (.iload_n 2, 1) := by decide +kernel
theorem dX12_pigeons_120 : decode cX12_pigeons 120 = .ok (.iload_n 3, 1) := by decide +kernel
theorem dX12_pigeons_121 : decode cX12_pigeons 121 = .ok (.invokevirtual 216, 3) := by decide +kernel
theorem dX12_pigeons_124 : decode cX12_pigeons 124 = .ok (.aload_n 0, 1) := by decide +kernel
theorem dX12_pigeons_125 : decode cX12_pigeons 125 = .ok (.iload 6, 2) := by decide +kernel
theorem dX12_pigeons_127 : decode cX12_pigeons 127 = .ok (.iload_n 2, 1) := by decide +kernel
theorem dX12_pigeons_128 : decode cX12_pigeons 128 = .ok (.invokevirtual 110, 3) := by decide +kernel
theorem dX12_pigeons_131 : decode cX12_pigeons 131 = .ok (.istore 6, 2) := by decide +kernel
theorem dX12_pigeons_133 : decode cX12_pigeons 133 = .ok (.lload 4, 2) := by decide +kernel
theorem dX12_pigeons_135 : decode cX12_pigeons 135 = .ok (.ldc2_w 214, 3) := by decide +kernel
theorem dX12_pigeons_138 : decode cX12_pigeons 138 = .ok (.lmul, 1) := by decide +kernel
theorem dX12_pigeons_139 : decode cX12_pigeons 139 = .ok (.lstore 4, 2) := by decide +kernel
theorem dX12_pigeons_141 : decode cX12_pigeons 141 = .ok (.iinc 7 1, 3) := by decide +kernel
theorem dX12_pigeons_144 : decode cX12_pigeons 144 = .ok (.goto (-44), 3) := by decide +kernel
theorem dX12_pigeons_147 : decode cX12_pigeons 147 = .ok (.lconst 0, 1) := by decide +kernel
theorem dX12_pigeons_148 : decode cX12_pigeons 148 = .ok (.lstore 7, 2) := by decide +kernel
theorem dX12_pigeons_150 : decode cX12_pigeons 150 = .ok (.iconst 0, 1) := by decide +kernel
theorem dX12_pigeons_151 : decode cX12_pigeons 151 = .ok (.istore 9, 2) := by decide +kernel
theorem dX12_pigeons_153 : decode cX12_pigeons 153 = .ok (.iload 9, 2) := by decide +kernel
theorem dX12_pigeons_155 : decode cX12_pigeons 155 = .ok (.bipush 25, 2) := by decide +kernel
theorem dX12_pigeons_157 : decode cX12_pigeons 157 = .ok (.if_icmp .ge 21, 3) := by decide +kernel
theorem dX12_pigeons_160 : decode cX12_pigeons 160 = .ok (.lload 7, 2) := by decide +kernel
theorem dX12_pigeons_162 : decode cX12_pigeons 162 = .ok (.aload_n 0, 1) := by decide +kernel
theorem dX12_pigeons_163 : decode cX12_pigeons 163 = .ok (.getfield 36, 3) := by decide +kernel
theorem dX12_pigeons_166 : decode cX12_pigeons 166 = .ok (.iload 9, 2) := by decide +kernel
theorem dX12_pigeons_168 : decode cX12_pigeons 168 = .ok (.laload, 1) := by decide +kernel
theorem dX12_pigeons_169 : decode cX12_pigeons 169 = .ok (.ladd, 1) := by decide +kernel
theorem dX12_pigeons_170 : decode cX12_pigeons 170 = .ok (.lstore 7, 2) := by decide +kernel
theorem dX12_pigeons_172 : decode cX12_pigeons 172 = .ok (.iinc 9 1, 3) := by decide +kernel
theorem dX12_pigeons_175 : decode cX12_pigeons 175 = .ok (.goto (-22), 3) := by decide +kernel
theorem dX12_pigeons_178 : decode cX12_pigeons 178 = .ok (.aload_n 0, 1) := by decide +kernel
theorem dX12_pigeons_179 : decode cX12_pigeons 179 = .ok (.lload 7, 2) := by decide +kernel
theorem dX12_pigeons_181 : decode cX12_pigeons 181 = .ok (.lload 4, 2) := by decide +kernel
theorem dX12_pigeons_183 : decode cX12_pigeons 183 = .ok (.invokevirtual 220, 3) := by decide +kernel
theorem dX12_pigeons_186 : decode cX12_pigeons 186 = .ok (.iconst 1, 1) := by decide +kernel
theorem dX12_pigeons_187 : decode cX12_pigeons 187 = .ok (.ireturn, 1) := by decide +kernel
theorem dX12_crowned_0 : decode cX12_crowned 0 = .ok (.aload_n 0, 1) := by decide +kernel
theorem dX12_crowned_1 : decode cX12_crowned 1 = .ok (.iload_n 1, 1) := by decide +kernel
theorem dX12_crowned_2 : decode cX12_crowned 2 = .ok (.invokevirtual 98, 3) := by decide +kernel
theorem dX12_crowned_5 : decode cX12_crowned 5 = .ok (.ifCond .eq 27, 3) := by decide +kernel
theorem dX12_crowned_8 : decode cX12_crowned 8 = .ok (.iload_n 2, 1) := by decide +kernel
theorem dX12_crowned_9 : decode cX12_crowned 9 = .ok (.i2l, 1) := by decide +kernel
theorem dX12_crowned_10 : decode cX12_crowned 10 = .ok (.lconst 0, 1) := by decide +kernel
theorem dX12_crowned_11 : decode cX12_crowned 11 = .ok (.ldc2_w 224, 3) := by decide +kernel
theorem dX12_crowned_14 : decode cX12_crowned 14 = .ok (.invokestatic 56, 3) := by decide +kernel
theorem dX12_crowned_17 : decode cX12_crowned 17 = .ok (.ifCond .eq 15, 3) := by decide +kernel
theorem dX12_crowned_20 : decode cX12_crowned 20 = .ok (.iload_n 3, 1) := by decide +kernel
theorem dX12_crowned_21 : decode cX12_crowned 21 = .ok (.i2l, 1) := by decide +kernel
theorem dX12_crowned_22 : decode cX12_crowned 22 = .ok (.lconst 0, 1) := by decide +kernel
theorem dX12_crowned_23 : decode cX12_crowned 23 = .ok (.ldc2_w 226, 3) := by decide +kernel
theorem dX12_crowned_26 : decode cX12_crowned 26 = .ok (.invokestatic 56, 3) := by decide +kernel
theorem dX12_crowned_29 : decode cX12_crowned 29 = .ok (.ifCond .ne 10, 3) := by decide +kernel
theorem dX12_crowned_32 : decode cX12_crowned 32 = .ok (.aload_n 0, 1) := by decide +kernel
theorem dX12_crowned_33 : decode cX12_crowned 33 = .ok (.bipush (-2), 2) := by decide +kernel
theorem dX12_crowned_35 : decode cX12_crowned 35 = .ok (.invokevirtual 76, 3) := by decide +kernel
theorem dX12_crowned_38 : decode cX12_crowned 38 = .ok (.ireturn, 1) := by decide +kernel
theorem dX12_crowned_39 : decode cX12_crowned 39 = .ok (.iload_n 2, 1) := by decide +kernel
theorem dX12_crowned_40 : decode cX12_crowned 40 = .ok (.i2l, 1) := by decide +kernel
theorem dX12_crowned_41 : decode cX12_crowned 41 = .ok (.lstore 4, 2) := by decide +kernel
theorem dX12_crowned_43 : decode cX12_crowned 43 = .ok (.iconst 0, 1) := by decide +kernel
theorem dX12_crowned_44 : decode cX12_crowned 44 = .ok (.istore 6, 2) := by decide +kernel
theorem dX12_crowned_46 : decode cX12_crowned 46 = .ok (.iconst 0, 1) := by decide +kernel
theorem dX12_crowned_47 : decode cX12_crowned 47 = .ok (.istore 7, 2) := by decide +kernel
theorem dX12_crowned_49 : decode cX12_crowned 49 = .ok (.iload 7, 2) := by decide +kernel
theorem dX12_crowned_51 : decode cX12_crowned 51 = .ok (.iload_n 3, 1) := by decide +kernel
theorem dX12_crowned_52 : decode cX12_crowned 52 = .ok (.if_icmp .ge 89, 3) := by decide +kernel
theorem dX12_crowned_55 : decode cX12_crowned 55 = .ok (.aload_n 0, 1) := by decide +kernel
theorem dX12_crowned_56 : decode cX12_crowned 56 = .ok (.aload_n 0, 1) := by decide +kernel
theorem dX12_crowned_57 : decode cX12_crowned 57 = .ok (.iload_n 1, 1) := by decide +kernel
theorem dX12_crowned_58 : decode cX12_crowned 58 = .ok (.invokevirtual 104, 3) := by decide +kernel
theorem dX12_crowned_61 : decode cX12_crowned 61 = .ok (.invokevirtual 157, 3) := by decide +kernel
theorem dX12_crowned_64 : decode cX12_crowned 64 = .ok (.aload_n 0, 1) := by decide +kernel
theorem dX12_crowned_65 : decode cX12_crowned 65 = .ok (.invokevirtual 161, 3) := by decide +kernel
theorem dX12_crowned_68 : decode cX12_crowned 68 = .ok (.ifCond .ne 46, 3) := by decide +kernel
theorem dX12_crowned_71 : decode cX12_crowned 71 = .ok (.lload 4, 2) := by decide +kernel
theorem dX12_crowned_73 : decode cX12_crowned 73 = .ok (.ldc2_w 228, 3) := by decide +kernel
theorem dX12_crowned_76 : decode cX12_crowned 76 = .ok (.lmul, 1) := by decide +kernel
theorem dX12_crowned_77 : decode cX12_crowned 77 = .ok (.ldc2_w 230, 3) := by decide +kernel
theorem dX12_crowned_80 : decode cX12_crowned 80 = .ok (.ladd, 1) := by decide +kernel
theorem dX12_crowned_81 : decode cX12_crowned 81 = .ok (.ldc2_w 232, 3) := by decide +kernel
theorem dX12_crowned_84 : decode cX12_crowned 84 = .ok (.lrem, 1) := by decide +kernel
theorem dX12_crowned_85 : decode cX12_crowned 85 = .ok (.lstore 4, 2) := by decide +kernel
theorem dX12_crowned_87 : decode cX12_crowned 87 = .ok (.aload_n 0, 1) := by decide +kernel
theorem dX12_crowned_88 : decode cX12_crowned 88 = .ok (.aload_n 0, 1) := by decide +kernel
theorem dX12_crowned_89 : decode cX12_crowned 89 = .ok (.iload_n 1, 1) := by decide +kernel
theorem dX12_crowned_90 : decode cX12_crowned 90 = .ok (.invokevirtual 101, 3) := by decide +kernel
theorem dX12_crowned_93 : decode cX12_crowned 93 = .ok (.iconst 0, 1) := by decide +kernel
theorem dX12_crowned_94 : decode cX12_crowned 94 = .ok (.lload 4, 2) := by decide +kernel
theorem dX12_crowned_96 : decode cX12_crowned 96 = .ok (.ldc2_w 234, 3) := by decide +kernel
theorem dX12_crowned_99 : decode cX12_crowned 99 = .ok (.ldiv, 1) := by decide +kernel
theorem dX12_crowned_100 : decode cX12_crowned 100 = .ok (.ldc2_w 66, 3) := by decide +kernel
theorem dX12_crowned_103 : decode cX12_crowned 103 = .ok (.lrem, 1) := by decide +kernel
