theorem dX0_init_0 : decode cX0_init 0 = .ok (.aload_n 0, 1) := by decide +kernel
theorem dX0_init_1 : decode cX0_init 1 = .ok (.invokespecial 1, 3) := by decide +kernel
theorem dX0_init_4 : decode cX0_init 4 = .ok (.return_, 1) := by decide +kernel
theorem dX0_leanBehind_0 : decode cX0_leanBehind 0 = .ok (.aload_n 0, 1) := by decide +kernel
theorem dX0_leanBehind_1 : decode cX0_leanBehind 1 = .ok (.iload_n 1, 1) := by decide +kernel
theorem dX0_leanBehind_2 : decode cX0_leanBehind 2 = .ok (.iload_n 2, 1) := by decide +kernel
theorem dX0_leanBehind_3 : decode cX0_leanBehind 3 = .ok (.iload_n 3, 1) := by decide +kernel
theorem dX0_leanBehind_4 : decode cX0_leanBehind 4 = .ok (.iload 4, 2) := by decide +kernel
theorem dX0_leanBehind_6 : decode cX0_leanBehind 6 = .ok (.invokespecial 7, 3) := by decide +kernel
theorem dX0_leanBehind_9 : decode cX0_leanBehind 9 = .ok (.iconst 1, 1) := by decide +kernel
theorem dX0_leanBehind_10 : decode cX0_leanBehind 10 = .ok (.iadd, 1) := by decide +kernel
theorem dX0_leanBehind_11 : decode cX0_leanBehind 11 = .ok (.ireturn, 1) := by decide +kernel
theorem dX1_init_0 : decode cX1_init 0 = .ok (.aload_n 0, 1) := by decide +kernel
theorem dX1_init_1 : decode cX1_init 1 = .ok (.invokespecial 1, 3) := by decide +kernel
theorem dX1_init_4 : decode cX1_init 4 = .ok (.return_, 1) := by decide +kernel
theorem dX1_leanBehind_0 : decode cX1_leanBehind 0 = .ok (.aload_n 0, 1) := by decide +kernel
theorem dX1_leanBehind_1 : decode cX1_leanBehind 1 = .ok (.iload_n 1, 1) := by decide +kernel
theorem dX1_leanBehind_2 : decode cX1_leanBehind 2 = .ok (.iload_n 2, 1) := by decide +kernel
theorem dX1_leanBehind_3 : decode cX1_leanBehind 3 = .ok (.iconst 0, 1) := by decide +kernel
theorem dX1_leanBehind_4 : decode cX1_leanBehind 4 = .ok (.iload 4, 2) := by decide +kernel
theorem dX1_leanBehind_6 : decode cX1_leanBehind 6 = .ok (.invokespecial 7, 3) := by decide +kernel
theorem dX1_leanBehind_9 : decode cX1_leanBehind 9 = .ok (.ireturn, 1) := by decide +kernel
theorem dX2_init_0 : decode cX2_init 0 = .ok (.aload_n 0, 1) := by decide +kernel
theorem dX2_init_1 : decode cX2_init 1 = .ok (.invokespecial 1, 3) := by decide +kernel
theorem dX2_init_4 : decode cX2_init 4 = .ok (.return_, 1) := by decide +kernel
theorem dX2_leanBehind_0 : decode cX2_leanBehind 0 = .ok (.aload_n 0, 1) := by decide +kernel
theorem dX2_leanBehind_1 : decode cX2_leanBehind 1 = .ok (.iload_n 1, 1) := by decide +kernel
theorem dX2_leanBehind_2 : decode cX2_leanBehind 2 = .ok (.iload_n 2, 1) := by decide +kernel
theorem dX2_leanBehind_3 : decode cX2_leanBehind 3 = .ok (.iload_n 3, 1) := by decide +kernel
theorem dX2_leanBehind_4 : decode cX2_leanBehind 4 = .ok (.iload 4, 2) := by decide +kernel
theorem dX2_leanBehind_6 : decode cX2_leanBehind 6 = .ok (.invokespecial 7, 3) := by decide +kernel
theorem dX2_leanBehind_9 : decode cX2_leanBehind 9 = .ok (.istore 5, 2) := by decide +kernel
theorem dX2_leanBehind_11 : decode cX2_leanBehind 11 = .ok (.iload 4, 2) := by decide +kernel
theorem dX2_leanBehind_13 : decode cX2_leanBehind 13 = .ok (.iconst 2, 1) := by decide +kernel
theorem dX2_leanBehind_14 : decode cX2_leanBehind 14 = .ok (.if_icmp .ne 9, 3) := by decide +kernel
theorem dX2_leanBehind_17 : decode cX2_leanBehind 17 = .ok (.iload 5, 2) := by decide +kernel
theorem dX2_leanBehind_19 : decode cX2_leanBehind 19 = .ok (.ineg, 1) := by decide +kernel
theorem dX2_leanBehind_20 : decode cX2_leanBehind 20 = .ok (.goto 5, 3) := by decide +kernel
theorem dX2_leanBehind_23 : decode cX2_leanBehind 23 = .ok (.iload 5, 2) := by decide +kernel
theorem dX2_leanBehind_25 : decode cX2_leanBehind 25 = .ok (.ireturn, 1) := by decide +kernel
theorem dX3_init_0 : decode cX3_init 0 = .ok (.aload_n 0, 1) := by decide +kernel
theorem dX3_init_1 : decode cX3_init 1 = .ok (.invokespecial 1, 3) := by decide +kernel
theorem dX3_init_4 : decode cX3_init 4 = .ok (.return_, 1) := by decide +kernel
theorem dX3_leanBehind_0 : decode cX3_leanBehind 0 = .ok (.iload_n 1, 1) := by decide +kernel
theorem dX3_leanBehind_1 : decode cX3_leanBehind 1 = .ok (.iload_n 2, 1) := by decide +kernel
theorem dX3_leanBehind_2 : decode cX3_leanBehind 2 = .ok (.iadd, 1) := by decide +kernel
theorem dX3_leanBehind_3 : decode cX3_leanBehind 3 = .ok (.iload_n 3, 1) := by decide +kernel
theorem dX3_leanBehind_4 : decode cX3_leanBehind 4 = .ok (.iadd, 1) := by decide +kernel
theorem dX3_leanBehind_5 : decode cX3_leanBehind 5 = .ok (.ireturn, 1) := by decide +kernel
theorem dX4_init_0 : decode cX4_init 0 = .ok (.aload_n 0, 1) := by decide +kernel
theorem dX4_init_1 : decode cX4_init 1 = .ok (.invokespecial 3, 3) := by decide +kernel
theorem dX4_init_4 : decode cX4_init 4 = .ok (.aload_n 0, 1) := by decide +kernel
theorem dX4_init_5 : decode cX4_init 5 = .ok (.sipush 150, 3) := by decide +kernel
theorem dX4_init_8 : decode cX4_init 8 = .ok (.newarray .int, 2) := by decide +kernel
theorem dX4_init_10 : decode cX4_init 10 = .ok (.putfield 9, 3) := by decide +kernel
theorem dX4_init_13 : decode cX4_init 13 = .ok (.aload_n 0, 1) := by decide +kernel
theorem dX4_init_14 : decode cX4_init 14 = .ok (.iconst 0, 1) := by decide +kernel
theorem dX4_init_15 : decode cX4_init 15 = .ok (.putfield 15, 3) := by decide +kernel
theorem dX4_init_18 : decode cX4_init 18 = .ok (.aload_n 0, 1) := by decide +kernel
theorem dX4_init_19 : decode cX4_init 19 = .ok (.iconst 0, 1) := by decide +kernel
theorem dX4_init_20 : decode cX4_init 20 = .ok (.putfield 19, 3) := by decide +kernel
theorem dX4_init_23 : decode cX4_init 23 = .ok (.aload_n 0, 1) := by decide +kernel
theorem dX4_init_24 : decode cX4_init 24 = .ok (.iconst 0, 1) := by decide +kernel
theorem dX4_init_25 : decode cX4_init 25 = .ok (.putfield 22, 3) := by decide +kernel
theorem dX4_init_28 : decode cX4_init 28 = .ok (.aload_n 0, 1) := by decide +kernel
theorem dX4_init_29 : decode cX4_init 29 = .ok (.iconst 0, 1) := by decide +kernel
theorem dX4_init_30 : decode cX4_init 30 = .ok (.putfield 25, 3) := by decide +kernel
theorem dX4_init_33 : decode cX4_init 33 = .ok (.return_, 1) := by decide +kernel
theorem dX4_add_0 : decode cX4_add 0 = .ok (.aload_n 0, 1) := by decide +kernel
theorem dX4_add_1 : decode cX4_add 1 = .ok (.getfield 15, 3) := by decide +kernel
theorem dX4_add_4 : decode cX4_add 4 = .ok (.iconst 0, 1) := by decide +kernel
theorem dX4_add_5 : decode cX4_add 5 = .ok (.sipush 149, 3) := by decide +kernel
theorem dX4_add_8 : decode cX4_add 8 = .ok (.invokestatic 28, 3) := by decide +kernel
theorem dX4_add_11 : decode cX4_add 11 = .ok (.ifCond .eq 23, 3) := by decide +kernel
theorem dX4_add_14 : decode cX4_add 14 = .ok (.aload_n 0, 1) := by decide +kernel
theorem dX4_add_15 : decode cX4_add 15 = .ok (.getfield 9, 3) := by decide +kernel
theorem dX4_add_18 : decode cX4_add 18 = .ok (.aload_n 0, 1) := by decide +kernel
theorem dX4_add_19 : decode cX4_add 19 = .ok (.getfield 15, 3) := by decide +kernel
theorem dX4_add_22 : decode cX4_add 22 = .ok (.iload_n 1, 1) := by decide +kernel
theorem dX4_add_23 : decode cX4_add 23 = .ok (.iastore, 1) := by decide +kernel
theorem dX4_add_24 : decode cX4_add 24 = .ok (.aload_n 0, 1) := by decide +kernel
theorem dX4_add_25 : decode cX4_add 25 = .ok (.dup, 1) := by decide +kernel
theorem dX4_add_26 : decode cX4_add 26 = .ok (.getfield 15, 3) := by decide +kernel
theorem dX4_add_29 : decode cX4_add 29 = .ok (.iconst 1, 1) := by decide +kernel
theorem dX4_add_30 : decode cX4_add 30 = .ok (.iadd, 1) := by decide +kernel
theorem dX4_add_31 : decode cX4_add 31 = .ok (.putfield 15, 3) := by decide +kernel
theorem dX4_add_34 : decode cX4_add 34 = .ok (.return_, 1) := by decide +kernel
theorem dX4_tell_0 : decode cX4_tell 0 = .ok (.aload_n 0, 1) := by decide +kernel
theorem dX4_tell_1 : decode cX4_tell 1 = .ok (.iconst 0, 1) := by decide +kernel
theorem dX4_tell_2 : decode cX4_tell 2 = .ok (.putfield 25, 3) := by decide +kernel
theorem dX4_tell_5 : decode cX4_tell 5 = .ok (.iconst 0, 1) := by decide +kernel
theorem dX4_tell_6 : decode cX4_tell 6 = .ok (.istore_n 2, 1) := by decide +kernel
theorem dX4_tell_7 : decode cX4_tell 7 = .ok (.iload_n 2, 1) := by decide +kernel
theorem dX4_tell_8 : decode cX4_tell 8 = .ok (.sipush 150, 3) := by decide +kernel
theorem dX4_tell_11 : decode cX4_tell 11 = .ok (.if_icmp .ge 50, 3) := by decide +kernel
theorem dX4_tell_14 : decode cX4_tell 14 = .ok (.aload_n 0, 1) := by decide +kernel
theorem dX4_tell_15 : decode cX4_tell 15 = .ok (.invokevirtual 32, 3) := by decide +kernel
theorem dX4_tell_18 : decode cX4_tell 18 = .ok (.aload_n 0, 1) := by decide +kernel
theorem dX4_tell_19 : decode cX4_tell 19 = .ok (.getfield 19, 3) := by decide +kernel
theorem dX4_tell_22 : decode cX4_tell 22 = .ok (.ifCond .ne 9, 3) := by decide +kernel
theorem dX4_tell_25 : decode cX4_tell 25 = .ok (.iload_n 2, 1) := by decide +kernel
theorem dX4_tell_26 : decode cX4_tell 26 = .ok (.ifCond .le 5, 3) := by decide +kernel
theorem dX4_tell_29 : decode cX4_tell 29 = .ok (.iload_n 2, 1) := by decide +kernel
theorem dX4_tell_30 : decode cX4_tell 30 = .ok (.ireturn, 1) := by decide +kernel
theorem dX4_tell_31 : decode cX4_tell 31 = .ok (.iload_n 2, 1) := by decide +kernel
theorem dX4_tell_32 : decode cX4_tell 32 = .ok (.ifCond .ne 11, 3) := by decide +kernel
theorem dX4_tell_35 : decode cX4_tell 35 = .ok (.aload_n 0, 1) := by decide +kernel
theorem dX4_tell_36 : decode cX4_tell 36 = .ok (.aload_n 1, 1) := by decide +kernel
theorem dX4_tell_37 : decode cX4_tell 37 = .ok (.invokevirtual 35, 3) := by decide +kernel
theorem dX4_tell_40 : decode cX4_tell 40 = .ok (.goto 8, 3) := by decide +kernel
theorem dX4_tell_43 : decode cX4_tell 43 = .ok (.aload_n 0, 1) := by decide +kernel
theorem dX4_tell_44 : decode cX4_tell 44 = .ok (.aload_n 1, 1) := by decide +kernel
theorem dX4_tell_45 : decode cX4_tell 45 = .ok (.invokevirtual 39, 3) := by decide +kernel
theorem dX4_tell_48 : decode cX4_tell 48 = .ok (.istore_n 3, 1) := by decide +kernel
theorem dX4_tell_49 : decode cX4_tell 49 = .ok (.iload_n 3, 1) := by decide +kernel
theorem dX4_tell_50 : decode cX4_tell 50 = .ok (.ifCond .ne 5, 3) := by decide +kernel
theorem dX4_tell_53 : decode cX4_tell 53 = .ok (.iconst (-1), 1) := by decide +kernel
theorem dX4_tell_54 : decode cX4_tell 54 = .ok (.ireturn, 1) := by decide +kernel
theorem dX4_tell_55 : decode cX4_tell 55 = .ok (.iinc 2 1, 3) := by decide +kernel
theorem dX4_tell_58 : decode cX4_tell 58 = .ok (.goto (-51), 3) := by decide +kernel
theorem dX4_tell_61 : decode cX4_tell 61 = .ok (.iconst (-1), 1) := by decide +kernel
theorem dX4_tell_62 : decode cX4_tell 62 = .ok (.ireturn, 1) := by decide +kernel
theorem dX4_tellRoad_0 : decode cX4_tellRoad 0 = .ok (.aload_n 0, 1) := by decide +kernel
theorem dX4_tellRoad_1 : decode cX4_tellRoad 1 = .ok (.ldc 42, 2) := by decide +kernel
theorem dX4_tellRoad_3 : decode cX4_tellRoad 3 = .ok (.invokevirtual 44, 3) := by decide +kernel
theorem dX4_tellRoad_6 : decode cX4_tellRoad 6 = .ok (.ifCond .ne 5, 3) := by decide +kernel
theorem dX4_tellRoad_9 : decode cX4_tellRoad 9 = .ok (.iconst 0, 1) := by decide +kernel
theorem dX4_tellRoad_10 : decode cX4_tellRoad 10 = .ok (.ireturn, 1) := by decide +kernel
theorem dX4_tellRoad_11 : decode cX4_tellRoad 11 = .ok (.aload_n 0, 1) := by decide +kernel
theorem dX4_tellRoad_12 : decode cX4_tellRoad 12 = .ok (.iconst 1, 1) := by decide +kernel
theorem dX4_tellRoad_13 : decode cX4_tellRoad 13 = .ok (.bipush 15, 2) := by decide +kernel
theorem dX4_tellRoad_15 : decode cX4_tellRoad 15 = .ok (.invokevirtual 48, 3) := by decide +kernel
theorem dX4_tellRoad_18 : decode cX4_tellRoad 18 = .ok (.istore_n 2, 1) := by decide +kernel
theorem dX4_tellRoad_19 : decode cX4_tellRoad 19 = .ok (.iload_n 2, 1) := by decide +kernel
theorem dX4_tellRoad_20 : decode cX4_tellRoad 20 = .ok (.iconst (-1), 1) := by decide +kernel
theorem dX4_tellRoad_21 : decode cX4_tellRoad 21 = .ok (.if_icmp .ne 7, 3) := by decide +kernel
theorem dX4_tellRoad_24 : decode cX4_tellRoad 24 = .ok (.iconst (-1), 1) := by decide +kernel
theorem dX4_tellRoad_25 : decode cX4_tellRoad 25 = .ok (.goto 10, 3) := by decide +kernel
theorem dX4_tellRoad_28 : decode cX4_tellRoad 28 = .ok (.aload_n 0, 1) := by decide +kernel
theorem dX4_tellRoad_29 : decode cX4_tellRoad 29 = .ok (.iconst 1, 1) := by decide +kernel
theorem dX4_tellRoad_30 : decode cX4_tellRoad 30 = .ok (.bipush 12, 2) := by decide +kernel
theorem dX4_tellRoad_32 : decode cX4_tellRoad 32 = .ok (.invokevirtual 48, 3) := by decide +kernel
theorem dX4_tellRoad_35 : decode cX4_tellRoad 35 = .ok (.istore_n 3, 1) := by decide +kernel
theorem dX4_tellRoad_36 : decode cX4_tellRoad 36 = .ok (.iload_n 3, 1) := by decide +kernel
theorem dX4_tellRoad_37 : decode cX4_tellRoad 37 = .ok (.iconst (-1), 1) := by decide +kernel
theorem dX4_tellRoad_38 : decode cX4_tellRoad 38 = .ok (.if_icmp .eq 10, 3) := by decide +kernel
theorem dX4_tellRoad_41 : decode cX4_tellRoad 41 = .ok (.aload_n 0, 1) := by decide +kernel
theorem dX4_tellRoad_42 : decode cX4_tellRoad 42 = .ok (.invokevirtual 52, 3) := by decide +kernel
theorem dX4_tellRoad_45 : decode cX4_tellRoad 45 = .ok (.ifCond .ne 5, 3) := by decide +kernel
theorem dX4_tellRoad_48 : decode cX4_tellRoad 48 = .ok (.iconst 0, 1) := by decide +kernel
theorem dX4_tellRoad_49 : decode cX4_tellRoad 49 = .ok (.ireturn, 1) := by decide +kernel
theorem dX4_tellRoad_50 : decode cX4_tellRoad 50 = .ok (.aload_n 1, 1) := by decide +kernel
theorem dX4_tellRoad_51 : decode cX4_tellRoad 51 = .ok (.iload_n 2, 1) := by decide +kernel
theorem dX4_tellRoad_52 : decode cX4_tellRoad 52 = .ok (.iload_n 3, 1) := by decide +kernel
theorem dX4_tellRoad_53 : decode cX4_tellRoad 53 = .ok (.invokevirtual 56, 3) := by decide +kernel
theorem dX4_tellRoad_56 : decode cX4_tellRoad 56 = .ok (.iconst 1, 1) := by decide +kernel
theorem dX4_tellRoad_57 : decode cX4_tellRoad 57 = .ok (.ireturn, 1) := by decide +kernel
theorem dX4_tellItem_0 : decode cX4_tellItem 0 = .ok (.aload_n 0, 1) := by decide +kernel
theorem dX4_tellItem_1 : decode cX4_tellItem 1 = .ok (.ldc 62, 2) := by decide +kernel
theorem dX4_tellItem_3 : decode cX4_tellItem 3 = .ok (.invokevirtual 44, 3) := by decide +kernel
theorem dX4_tellItem_6 : decode cX4_tellItem 6 = .ok (.ifCond .eq 10, 3) := by decide +kernel
theorem dX4_tellItem_9 : decode cX4_tellItem 9 = .ok (.aload_n 0, 1) := by decide +kernel
theorem dX4_tellItem_10 : decode cX4_tellItem 10 = .ok (.aload_n 1, 1) := by decide +kernel
theorem dX4_tellItem_11 : decode cX4_tellItem 11 = .ok (.iconst 1, 1) := by decide +kernel
theorem dX4_tellItem_12 : decode cX4_tellItem 12 = .ok (.invokevirtual 64, 3) := by decide +kernel
theorem dX4_tellItem_15 : decode cX4_tellItem 15 = .ok (.ireturn, 1) := by decide +kernel
theorem dX4_tellItem_16 : decode cX4_tellItem 16 = .ok (.aload_n 0, 1) := by decide +kernel
theorem dX4_tellItem_17 : decode cX4_tellItem 17 = .ok (.ldc 68, 2) := by decide +kernel
theorem dX4_tellItem_19 : decode cX4_tellItem 19 = .ok (.invokevirtual 44, 3) := by decide +kernel
theorem dX4_tellItem_22 : decode cX4_tellItem 22 = .ok (.ifCond .eq 10, 3) := by decide +kernel
theorem dX4_tellItem_25 : decode cX4_tellItem 25 = .ok (.aload_n 0, 1) := by decide +kernel
theorem dX4_tellItem_26 : decode cX4_tellItem 26 = .ok (.aload_n 1, 1) := by decide +kernel
theorem dX4_tellItem_27 : decode cX4_tellItem 27 = .ok (.iconst (-1), 1) := by decide +kernel
theorem dX4_tellItem_28 : decode cX4_tellItem 28 = .ok (.invokevirtual 64, 3) := by decide +kernel
theorem dX4_tellItem_31 : decode cX4_tellItem 31 = .ok (.ireturn, 1) := by decide +kernel
theorem dX4_tellItem_32 : decode cX4_tellItem 32 = .ok (.aload_n 0, 1) := by decide +kernel
theorem dX4_tellItem_33 : decode cX4_tellItem 33 = .ok (.ldc 70, 2) := by decide +kernel
theorem dX4_tellItem_35 : decode cX4_tellItem 35 = .ok (.invokevirtual 44, 3) := by decide +kernel
theorem dX4_tellItem_38 : decode cX4_tellItem 38 = .ok (.ifCond .eq 10, 3) := by decide +kernel
theorem dX4_tellItem_41 : decode cX4_tellItem 41 = .ok (.aload_n 0, 1) := by decide +kernel
theorem dX4_tellItem_42 : decode cX4_tellItem 42 = .ok (.aload_n 1, 1) := by decide +kernel
theorem dX4_tellItem_43 : decode cX4_tellItem 43 = .ok (.iconst 1, 1) := by decide +kernel
theorem dX4_tellItem_44 : decode cX4_tellItem 44 = .ok (.invokevirtual 72, 3) := by decide +kernel
theorem dX4_tellItem_47 : decode cX4_tellItem 47 = .ok (.ireturn, 1) := by decide +kernel
theorem dX4_tellItem_48 : decode cX4_tellItem 48 = .ok (.aload_n 0, 1) := by decide +kernel
theorem dX4_tellItem_49 : decode cX4_tellItem 49 = .ok (.ldc 75, 2) := by decide +kernel
theorem dX4_tellItem_51 : decode cX4_tellItem 51 = .ok (.invokevirtual 44, 3) := by decide +kernel
theorem dX4_tellItem_54 : decode cX4_tellItem 54 = .ok (.ifCond .eq 10, 3) := by decide +kernel
theorem dX4_tellItem_57 : decode cX4_tellItem 57 = .ok (.aload_n 0, 1) := by decide +kernel
theorem dX4_tellItem_58 : decode cX4_tellItem 58 = .ok (.aload_n 1, 1) := by decide +kernel
theorem dX4_tellItem_59 : decode cX4_tellItem 59 = .ok (.iconst (-1), 1) := by decide +kernel
theorem dX4_tellItem_60 : decode cX4_tellItem 60 = .ok (.invokevirtual 72, 3) := by decide +kernel
theorem dX4_tellItem_63 : decode cX4_tellItem 63 = .ok (.ireturn, 1) := by decide +kernel
theorem dX4_tellItem_64 : decode cX4_tellItem 64 = .ok (.aload_n 0, 1) := by decide +kernel
theorem dX4_tellItem_65 : decode cX4_tellItem 65 = .ok (.ldc 77, 2) := by decide +kernel
theorem dX4_tellItem_67 : decode cX4_tellItem 67 = .ok (.invokevirtual 44, 3) := by decide +kernel
theorem dX4_tellItem_70 : decode cX4_tellItem 70 = .ok (.ifCond .eq 10, 3) := by decide +kernel
theorem dX4_tellItem_73 : decode cX4_tellItem 73 = .ok (.aload_n 0, 1) := by decide +kernel
theorem dX4_tellItem_74 : decode cX4_tellItem 74 = .ok (.aload_n 1, 1) := by decide +kernel
theorem dX4_tellItem_75 : decode cX4_tellItem 75 = .ok (.iconst 1, 1) := by decide +kernel
theorem dX4_tellItem_76 : decode cX4_tellItem 76 = .ok (.invokevirtual 79, 3) := by decide +kernel
theorem dX4_tellItem_79 : decode cX4_tellItem 79 = .ok (.ireturn, 1) := by decide +kernel
theorem dX4_tellItem_80 : decode cX4_tellItem 80 = .ok (.aload_n 0, 1) := by decide +kernel
theorem dX4_tellItem_81 : decode cX4_tellItem 81 = .ok (.ldc 82, 2) := by decide +kernel
theorem dX4_tellItem_83 : decode cX4_tellItem 83 = .ok (.invokevirtual 44, 3) := by decide +kernel
theorem dX4_tellItem_86 : decode cX4_tellItem 86 = .ok (.ifCond .eq 16, 3) := by decide +kernel
theorem dX4_tellItem_89 : decode cX4_tellItem 89 = .ok (.aload_n 0, 1) := by decide +kernel
theorem dX4_tellItem_90 : decode cX4_tellItem 90 = .ok (.aload_n 1, 1) := by decide +kernel
theorem dX4_tellItem_91 : decode cX4_tellItem 91 = .ok (.iconst (-1), 1) := by decide +kernel
theorem dX4_tellItem_92 : decode cX4_tellItem 92 = .ok (.invokevirtual 79, 3) := by decide +kernel
theorem dX4_tellItem_95 : decode cX4_tellItem 95 = .ok (.ifCond .eq 7, 3) := by decide +kernel
theorem dX4_tellItem_98 : decode cX4_tellItem 98 = .ok (.iconst 1, 1) := by decide +kernel
theorem dX4_tellItem_99 : decode cX4_tellItem 99 = .ok (.goto 4, 3) := by decide +kernel
theorem dX4_tellItem_102 : decode cX4_tellItem 102 = .ok (.iconst 0, 1) := by decide +kernel
theorem dX4_tellItem_103 : decode cX4_tellItem 103 = .ok (.ireturn, 1) := by decide +kernel
theorem dX4_tellCobble_0 : decode cX4_tellCobble 0 = .ok (.aload_n 0, 1) := by decide +kernel
theorem dX4_tellCobble_1 : decode cX4_tellCobble 1 = .ok (.iconst 0, 1) := by decide +kernel
theorem dX4_tellCobble_2 : decode cX4_tellCobble 2 = .ok (.aload_n 1, 1) := by decide +kernel
theorem dX4_tellCobble_3 : decode cX4_tellCobble 3 = .ok (.getfield 84, 3) := by decide +kernel
theorem dX4_tellCobble_6 : decode cX4_tellCobble 6 = .ok (.getfield 87, 3) := by decide +kernel
theorem dX4_tellCobble_9 : decode cX4_tellCobble 9 = .ok (.invokevirtual 48, 3) := by decide +kernel
theorem dX4_tellCobble_12 : decode cX4_tellCobble 12 = .ok (.istore_n 3, 1) := by decide +kernel
theorem dX4_tellCobble_13 : decode cX4_tellCobble 13 = .ok (.iload_n 3, 1) := by decide +kernel
theorem dX4_tellCobble_14 : decode cX4_tellCobble 14 = .ok (.iconst (-1), 1) := by decide +kernel
theorem dX4_tellCobble_15 : decode cX4_tellCobble 15 = .ok (.if_icmp .ne 7, 3) := by decide +kernel
theorem dX4_tellCobble_18 : decode cX4_tellCobble 18 = .ok (.iconst (-1), 1) := by decide +kernel
theorem dX4_tellCobble_19 : decode cX4_tellCobble 19 = .ok (.goto 9, 3) := by decide +kernel
theorem dX4_tellCobble_22 : decode cX4_tellCobble 22 = .ok (.aload_n 0, 1) := by decide +kernel
theorem dX4_tellCobble_23 : decode cX4_tellCobble 23 = .ok (.iconst 0, 1) := by decide +kernel
theorem dX4_tellCobble_24 : decode cX4_tellCobble 24 = .ok (.iconst 4, 1) := by decide +kernel
theorem dX4_tellCobble_25 : decode cX4_tellCobble 25 = .ok (.invokevirtual 48, 3) := by decide +kernel
theorem dX4_tellCobble_28 : decode cX4_tellCobble 28 = .ok (.istore 4, 2) := by decide +kernel
theorem dX4_tellCobble_30 : decode cX4_tellCobble 30 = .ok (.iload 4, 2) := by decide +kernel
theorem dX4_tellCobble_32 : decode cX4_tellCobble 32 = .ok (.iconst (-1), 1) := by decide +kernel
theorem dX4_tellCobble_33 : decode cX4_tellCobble 33 = .ok (.if_icmp .eq 10, 3) := by decide +kernel
theorem dX4_tellCobble_36 : decode cX4_tellCobble 36 = .ok (.aload_n 0, 1) := by decide +kernel
theorem dX4_tellCobble_37 : decode cX4_tellCobble 37 = .ok (.invokevirtual 52, 3) := by decide +kernel
theorem dX4_tellCobble_40 : decode cX4_tellCobble 40 = .ok (.ifCond .ne 5, 3) := by decide +kernel
theorem dX4_tellCobble_43 : decode cX4_tellCobble 43 = .ok (.iconst 0, 1) := by decide +kernel
theorem dX4_tellCobble_44 : decode cX4_tellCobble 44 = .ok (.ireturn, 1) := by decide +kernel
theorem dX4_tellCobble_45 : decode cX4_tellCobble 45 = .ok (.aload_n 1, 1) := by decide +kernel
theorem dX4_tellCobble_46 : decode cX4_tellCobble 46 = .ok (.getfield 84, 3) := by decide +kernel
theorem dX4_tellCobble_49 : decode cX4_tellCobble 49 = .ok (.iload_n 3, 1) := by decide +kernel
theorem dX4_tellCobble_50 : decode cX4_tellCobble 50 = .ok (.iload_n 2, 1) := by decide +kernel
theorem dX4_tellCobble_51 : decode cX4_tellCobble 51 = .ok (.iload 4, 2) := by decide +kernel
theorem dX4_tellCobble_53 : decode cX4_tellCobble 53 = .ok (.imul, 1) := by decide +kernel
theorem dX4_tellCobble_54 : decode cX4_tellCobble 54 = .ok (.invokevirtual 90, 3) := by decide +kernel
theorem dX4_tellCobble_57 : decode cX4_tellCobble 57 = .ok (.iconst 1, 1) := by decide +kernel
theorem dX4_tellCobble_58 : decode cX4_tellCobble 58 = .ok (.ireturn, 1) := by decide +kernel
theorem dX4_tellWind_0 : decode cX4_tellWind 0 = .ok (.aload_n 0, 1) := by decide +kernel
theorem dX4_tellWind_1 : decode cX4_tellWind 1 = .ok (.iconst 0, 1) := by decide +kernel
theorem dX4_tellWind_2 : decode cX4_tellWind 2 = .ok (.iconst 5, 1) := by decide +kernel
theorem dX4_tellWind_3 : decode cX4_tellWind 3 = .ok (.invokevirtual 48, 3) := by decide +kernel
theorem dX4_tellWind_6 : decode cX4_tellWind 6 = .ok (.istore_n 3, 1) := by decide +kernel
theorem dX4_tellWind_7 : decode cX4_tellWind 7 = .ok (.iload_n 3, 1) := by decide +kernel
theorem dX4_tellWind_8 : decode cX4_tellWind 8 = .ok (.iconst (-1), 1) := by decide +kernel
theorem dX4_tellWind_9 : decode cX4_tellWind 9 = .ok (.if_icmp .ne 7, 3) := by decide +kernel
theorem dX4_tellWind_12 : decode cX4_tellWind 12 = .ok (.iconst (-1), 1) := by decide +kernel
theorem dX4_tellWind_13 : decode cX4_tellWind 13 = .ok (.goto 9, 3) := by decide +kernel
theorem dX4_tellWind_16 : decode cX4_tellWind 16 = .ok (.aload_n 0, 1) := by decide +kernel
theorem dX4_tellWind_17 : decode cX4_tellWind 17 = .ok (.iconst 0, 1) := by decide +kernel
theorem dX4_tellWind_18 : decode cX4_tellWind 18 = .ok (.iconst 3, 1) := by decide +kernel
theorem dX4_tellWind_19 : decode cX4_tellWind 19 = .ok (.invokevirtual 48, 3) := by decide +kernel
theorem dX4_tellWind_22 : decode cX4_tellWind 22 = .ok (.istore 4, 2) := by decide +kernel
theorem dX4_tellWind_24 : decode cX4_tellWind 24 = .ok (.iload 4, 2) := by decide +kernel
theorem dX4_tellWind_26 : decode cX4_tellWind 26 = .ok (.iconst (-1), 1) := by decide +kernel
theorem dX4_tellWind_27 : decode cX4_tellWind 27 = .ok (.if_icmp .eq 10, 3) := by decide +kernel
theorem dX4_tellWind_30 : decode cX4_tellWind 30 = .ok (.aload_n 0, 1) := by decide +kernel
theorem dX4_tellWind_31 : decode cX4_tellWind 31 = .ok (.invokevirtual 52, 3) := by decide +kernel
theorem dX4_tellWind_34 : decode cX4_tellWind 34 = .ok (.ifCond .ne 5, 3) := by decide +kernel
theorem dX4_tellWind_37 : decode cX4_tellWind 37 = .ok (.iconst 0, 1) := by decide +kernel
theorem dX4_tellWind_38 : decode cX4_tellWind 38 = .ok (.ireturn, 1) := by decide +kernel
theorem dX4_tellWind_39 : decode cX4_tellWind 39 = .ok (.aload_n 1, 1) := by decide +kernel
theorem dX4_tellWind_40 : decode cX4_tellWind 40 = .ok (.getfield 84, 3) := by decide +kernel
theorem dX4_tellWind_43 : decode cX4_tellWind 43 = .ok (.iload_n 3, 1) := by decide +kernel
theorem dX4_tellWind_44 : decode cX4_tellWind 44 = .ok (.iload_n 2, 1) := by decide +kernel
theorem dX4_tellWind_45 : decode cX4_tellWind 45 = .ok (.iload 4, 2) := by decide +kernel
theorem dX4_tellWind_47 : decode cX4_tellWind 47 = .ok (.imul, 1) := by decide +kernel
theorem dX4_tellWind_48 : decode cX4_tellWind 48 = .ok (.invokevirtual 93, 3) := by decide +kernel
theorem dX4_tellWind_51 : decode cX4_tellWind 51 = .ok (.iconst 1, 1) := by decide +kernel
theorem dX4_tellWind_52 : decode cX4_tellWind 52 = .ok (.ireturn, 1) := by decide +kernel
theorem dX4_tellHead_0 : decode cX4_tellHead 0 = .ok (.aload_n 1, 1) := by decide +kernel
theorem dX4_tellHead_1 : decode cX4_tellHead 1 = .ok (.getfield 96, 3) := by decide +kernel
theorem dX4_tellHead_4 : decode cX4_tellHead 4 = .ok (.iconst 5, 1) := by decide +kernel
theorem dX4_tellHead_5 : decode cX4_tellHead 5 = .ok (.if_icmp .lt 5, 3) := by decide +kernel
theorem dX4_tellHead_8 : decode cX4_tellHead 8 = .ok (.iconst 0, 1) := by decide +kernel
theorem dX4_tellHead_9 : decode cX4_tellHead 9 = .ok (.ireturn, 1) := by decide +kernel
theorem dX4_tellHead_10 : decode cX4_tellHead 10 = .ok (.aload_n 0, 1) := by decide +kernel
theorem dX4_tellHead_11 : decode cX4_tellHead 11 = .ok (.iconst 0, 1) := by decide +kernel
theorem dX4_tellHead_12 : decode cX4_tellHead 12 = .ok (.iconst 5, 1) := by decide +kernel
theorem dX4_tellHead_13 : decode cX4_tellHead 13 = .ok (.invokevirtual 48, 3) := by decide +kernel
theorem dX4_tellHead_16 : decode cX4_tellHead 16 = .ok (.istore_n 3, 1) := by decide +kernel
theorem dX4_tellHead_17 : decode cX4_tellHead 17 = .ok (.iload_n 3, 1) := by decide +kernel
theorem dX4_tellHead_18 : decode cX4_tellHead 18 = .ok (.iconst (-1), 1) := by decide +kernel
theorem dX4_tellHead_19 : decode cX4_tellHead 19 = .ok (.if_icmp .ne 7, 3) := by decide +kernel
theorem dX4_tellHead_22 : decode cX4_tellHead 22 = .ok (.iconst (-1), 1) := by decide +kernel
theorem dX4_tellHead_23 : decode cX4_tellHead 23 = .ok (.goto 10, 3) := by decide +kernel
theorem dX4_tellHead_26 : decode cX4_tellHead 26 = .ok (.aload_n 0, 1) := by decide +kernel
theorem dX4_tellHead_27 : decode cX4_tellHead 27 = .ok (.iconst 0, 1) := by decide +kernel
theorem dX4_tellHead_28 : decode cX4_tellHead 28 = .ok (.bipush 12, 2) := by decide +kernel
theorem dX4_tellHead_30 : decode cX4_tellHead 30 = .ok (.invokevirtual 48, 3) := by decide +kernel
theorem dX4_tellHead_33 : decode cX4_tellHead 33 = .ok (.istore 4, 2) := by decide +kernel
theorem dX4_tellHead_35 : decode cX4_tellHead 35 = .ok (.iload 4, 2) := by decide +kernel
theorem dX4_tellHead_37 : decode cX4_tellHead 37 = .ok (.iconst (-1), 1) := by decide +kernel
theorem dX4_tellHead_38 : decode cX4_tellHead 38 = .ok (.if_icmp .eq 10, 3) := by decide +kernel
theorem dX4_tellHead_41 : decode cX4_tellHead 41 = .ok (.aload_n 0, 1) := by decide +kernel
theorem dX4_tellHead_42 : decode cX4_tellHead 42 = .ok (.invokevirtual 52, 3) := by decide +kernel
theorem dX4_tellHead_45 : decode cX4_tellHead 45 = .ok (.ifCond .ne 5, 3) := by decide +kernel
theorem dX4_tellHead_48 : decode cX4_tellHead 48 = .ok (.iconst 0, 1) := by decide +kernel
theorem dX4_tellHead_49 : decode cX4_tellHead 49 = .ok (.ireturn, 1) := by decide +kernel
theorem dX4_tellHead_50 : decode cX4_tellHead 50 = .ok (.aload_n 1, 1) := by decide +kernel
theorem dX4_tellHead_51 : decode cX4_tellHead 51 = .ok (.iload_n 3, 1) := by decide +kernel
theorem dX4_tellHead_52 : decode cX4_tellHead 52 = .ok (.iload_n 2, 1) := by decide +kernel
theorem dX4_tellHead_53 : decode cX4_tellHead 53 = .ok (.iload 4, 2) := by decide +kernel
theorem dX4_tellHead_55 : decode cX4_tellHead 55 = .ok (.imul, 1) := by decide +kernel
theorem dX4_tellHead_56 : decode cX4_tellHead 56 = .ok (.invokevirtual 99, 3) := by decide +kernel
theorem dX4_tellHead_59 : decode cX4_tellHead 59 = .ok (.iconst 1, 1) := by decide +kernel
theorem dX4_tellHead_60 : decode cX4_tellHead 60 = .ok (.ireturn, 1) := by decide +kernel
theorem dX4_nextNumber_0 : decode cX4_nextNumber 0 = .ok (.aload_n 0, 1) := by decide +kernel
theorem dX4_nextNumber_1 : decode cX4_nextNumber 1 = .ok (.invokevirtual 32, 3) := by decide +kernel
theorem dX4_nextNumber_4 : decode cX4_nextNumber 4 = .ok (.aload_n 0, 1) := by decide +kernel
theorem dX4_nextNumber_5 : decode cX4_nextNumber 5 = .ok (.getfield 19, 3) := by decide +kernel
theorem dX4_nextNumber_8 : decode cX4_nextNumber 8 = .ok (.iconst 2, 1) := by decide +kernel
theorem dX4_nextNumber_9 : decode cX4_nextNumber 9 = .ok (.if_icmp .ne 16, 3) := by decide +kernel
theorem dX4_nextNumber_12 : decode cX4_nextNumber 12 = .ok (.aload_n 0, 1) := by decide +kernel
theorem dX4_nextNumber_13 : decode cX4_nextNumber 13 = .ok (.getfield 25, 3) := by decide +kernel
theorem dX4_nextNumber_16 : decode cX4_nextNumber 16 = .ok (.aload_n 0, 1) := by decide +kernel
theorem dX4_nextNumber_17 : decode cX4_nextNumber 17 = .ok (.getfield 22, 3) := by decide +kernel
theorem dX4_nextNumber_20 : decode cX4_nextNumber 20 = .ok (.isub, 1) := by decide +kernel
theorem dX4_nextNumber_21 : decode cX4_nextNumber 21 = .ok (.iconst 2, 1) := by decide +kernel
theorem dX4_nextNumber_22 : decode cX4_nextNumber 22 = .ok (.if_icmp .le 5, 3) := by decide +kernel
theorem dX4_nextNumber_25 : decode cX4_nextNumber 25 = .ok (.iconst (-1), 1) := by decide +kernel
theorem dX4_nextNumber_26 : decode cX4_nextNumber 26 = .ok (.ireturn, 1) := by decide +kernel
theorem dX4_nextNumber_27 : decode cX4_nextNumber 27 = .ok (.iconst 0, 1) := by decide +kernel
theorem dX4_nextNumber_28 : decode cX4_nextNumber 28 = .ok (.istore_n 3, 1) := by decide +kernel
theorem dX4_nextNumber_29 : decode cX4_nextNumber 29 = .ok (.aload_n 0, 1) := by decide +kernel
theorem dX4_nextNumber_30 : decode cX4_nextNumber 30 = .ok (.getfield 22, 3) := by decide +kernel
theorem dX4_nextNumber_33 : decode cX4_nextNumber 33 = .ok (.istore 4, 2) := by decide +kernel
theorem dX4_nextNumber_35 : decode cX4_nextNumber 35 = .ok (.iload 4, 2) := by decide +kernel
theorem dX4_nextNumber_37 : decode cX4_nextNumber 37 = .ok (.aload_n 0, 1) := by decide +kernel
theorem dX4_nextNumber_38 : decode cX4_nextNumber 38 = .ok (.getfield 25, 3) := by decide +kernel
theorem dX4_nextNumber_41 : decode cX4_nextNumber 41 = .ok (.if_icmp .ge 24, 3) := by decide +kernel
theorem dX4_nextNumber_44 : decode cX4_nextNumber 44 = .ok (.iload_n 3, 1) := by decide +kernel
theorem dX4_nextNumber_45 : decode cX4_nextNumber 45 = .ok (.bipush 10, 2) := by decide +kernel
theorem dX4_nextNumber_47 : decode cX4_nextNumber 47 = .ok (.imul, 1) := by decide +kernel
theorem dX4_nextNumber_48 : decode cX4_nextNumber 48 = .ok (.aload_n 0, 1) := by decide +kernel
theorem dX4_nextNumber_49 : decode cX4_nextNumber 49 = .ok (.iload 4, 2) := by decide +kernel
theorem dX4_nextNumber_51 : decode cX4_nextNumber 51 = .ok (.invokevirtual 102, 3) := by decide +kernel
theorem dX4_nextNumber_54 : decode cX4_nextNumber 54 = .ok (.iadd, 1) := by decide +kernel
theorem dX4_nextNumber_55 : decode cX4_nextNumber 55 = .ok (.bipush 48, 2) := by decide +kernel
theorem dX4_nextNumber_57 : decode cX4_nextNumber 57 = .ok (.isub, 1) := by decide +kernel
theorem dX4_nextNumber_58 : decode cX4_nextNumber 58 = .ok (.istore_n 3, 1) := by decide +kernel
theorem dX4_nextNumber_59 : decode cX4_nextNumber 59 = .ok (.iinc 4 1, 3) := by decide +kernel
theorem dX4_nextNumber_62 : decode cX4_nextNumber 62 = .ok (.goto (-27), 3) := by decide +kernel
theorem dX4_nextNumber_65 : decode cX4_nextNumber 65 = .ok (.iload_n 3, 1) := by decide +kernel
theorem dX4_nextNumber_66 : decode cX4_nextNumber 66 = .ok (.iload_n 1, 1) := by decide +kernel
theorem dX4_nextNumber_67 : decode cX4_nextNumber 67 = .ok (.iload_n 2, 1) := by decide +kernel
theorem dX4_nextNumber_68 : decode cX4_nextNumber 68 = .ok (.invokestatic 28, 3) := by decide +kernel
theorem dX4_nextNumber_71 : decode cX4_nextNumber 71 = .ok (.ifCond .eq 7, 3) := by decide +kernel
theorem dX4_nextNumber_74 : decode cX4_nextNumber 74 = .ok (.iload_n 3, 1) := by decide +kernel
theorem dX4_nextNumber_75 : decode cX4_nextNumber 75 = .ok (.goto 4, 3) := by decide +kernel
theorem dX4_nextNumber_78 : decode cX4_nextNumber 78 = .ok (.iconst (-1), 1) := by decide +kernel
theorem dX4_nextNumber_79 : decode cX4_nextNumber 79 = .ok (.ireturn, 1) := by decide +kernel
theorem dX4_nextIsEnd_0 : decode cX4_nextIsEnd 0 = .ok (.aload_n 0, 1) := by decide +kernel
theorem dX4_nextIsEnd_1 : decode cX4_nextIsEnd 1 = .ok (.invokevirtual 32, 3) := by decide +kernel
theorem dX4_nextIsEnd_4 : decode cX4_nextIsEnd 4 = .ok (.aload_n 0, 1) := by decide +kernel
theorem dX4_nextIsEnd_5 : decode cX4_nextIsEnd 5 = .ok (.getfield 19, 3) := by decide +kernel
theorem dX4_nextIsEnd_8 : decode cX4_nextIsEnd 8 = .ok (.iconst 3, 1) := by decide +kernel
theorem dX4_nextIsEnd_9 : decode cX4_nextIsEnd 9 = .ok (.if_icmp .ne 7, 3) := by decide +kernel
theorem dX4_nextIsEnd_12 : decode cX4_nextIsEnd 12 = .ok (.iconst 1, 1) := by decide +kernel
theorem dX4_nextIsEnd_13 : decode cX4_nextIsEnd 13 = .ok (.goto 4, 3) := by decide +kernel
theorem dX4_nextIsEnd_16 : decode cX4_nextIsEnd 16 = .ok (.iconst 0, 1) := by decide +kernel
theorem dX4_nextIsEnd_17 : decode cX4_nextIsEnd 17 = .ok (.ireturn, 1) := by decide +kernel
theorem dX4_isWord_0 : decode cX4_isWord 0 = .ok (.aload_n 0, 1) := by decide +kernel
theorem dX4_isWord_1 : decode cX4_isWord 1 = .ok (.getfield 19, 3) := by decide +kernel
theorem dX4_isWord_4 : decode cX4_isWord 4 = .ok (.iconst 1, 1) := by decide +kernel
theorem dX4_isWord_5 : decode cX4_isWord 5 = .ok (.if_icmp .ne 19, 3) := by decide +kernel
theorem dX4_isWord_8 : decode cX4_isWord 8 = .ok (.aload_n 0, 1) := by decide +kernel
theorem dX4_isWord_9 : decode cX4_isWord 9 = .ok (.getfield 25, 3) := by decide +kernel
theorem dX4_isWord_12 : decode cX4_isWord 12 = .ok (.aload_n 0, 1) := by decide +kernel
theorem dX4_isWord_13 : decode cX4_isWord 13 = .ok (.getfield 22, 3) := by decide +kernel
theorem dX4_isWord_16 : decode cX4_isWord 16 = .ok (.isub, 1) := by decide +kernel
theorem dX4_isWord_17 : decode cX4_isWord 17 = .ok (.aload_n 1, 1) := by decide +kernel
theorem dX4_isWord_18 : decode cX4_isWord 18 = .ok (.invokevirtual 106, 3) := by decide +kernel
theorem dX4_isWord_21 : decode cX4_isWord 21 = .ok (.if_icmp .eq 5, 3) := by decide +kernel
theorem dX4_isWord_24 : decode cX4_isWord 24 = .ok (.iconst 0, 1) := by decide +kernel
theorem dX4_isWord_25 : decode cX4_isWord 25 = .ok (.ireturn, 1) := by decide +kernel
theorem dX4_isWord_26 : decode cX4_isWord 26 = .ok (.iconst 0, 1) := by decide +kernel
theorem dX4_isWord_27 : decode cX4_isWord 27 = .ok (.istore_n 2, 1) := by decide +kernel
theorem dX4_isWord_28 : decode cX4_isWord 28 = .ok (.iload_n 2, 1) := by decide +kernel
theorem dX4_isWord_29 : decode cX4_isWord 29 = .ok (.aload_n 1, 1) := by decide +kernel
theorem dX4_isWord_30 : decode cX4_isWord 30 = .ok (.invokevirtual 106, 3) := by decide +kernel
theorem dX4_isWord_33 : decode cX4_isWord 33 = .ok (.if_icmp .ge 29, 3) := by decide +kernel
theorem dX4_isWord_36 : decode cX4_isWord 36 = .ok (.aload_n 0, 1) := by decide +kernel
theorem dX4_isWord_37 : decode cX4_isWord 37 = .ok (.aload_n 0, 1) := by decide +kernel
theorem dX4_isWord_38 : decode cX4_isWord 38 = .ok (.getfield 22, 3) := by decide +kernel
theorem dX4_isWord_41 : decode cX4_isWord 41 = .ok (.iload_n 2, 1) := by decide +kernel
theorem dX4_isWord_42 : decode cX4_isWord 42 = .ok (.iadd, 1) := by decide +kernel
theorem dX4_isWord_43 : decode cX4_isWord 43 = .ok (.invokevirtual 102, 3) := by decide +kernel
theorem dX4_isWord_46 : decode cX4_isWord 46 = .ok (.aload_n 1, 1) := by decide +kernel
theorem dX4_isWord_47 : decode cX4_isWord 47 = .ok (.iload_n 2, 1) := by decide +kernel
theorem dX4_isWord_48 : decode cX4_isWord 48 = .ok (.invokevirtual 111, 3) := by decide +kernel
theorem dX4_isWord_51 : decode cX4_isWord 51 = .ok (.if_icmp .eq 5, 3) := by decide +kernel
theorem dX4_isWord_54 : decode cX4_isWord 54 = .ok (.iconst 0, 1) := by decide +kernel
theorem dX4_isWord_55 : decode cX4_isWord 55 = .ok (.ireturn, 1) := by decide +kernel
theorem dX4_isWord_56 : decode cX4_isWord 56 = .ok (.iinc 2 1, 3) := by decide +kernel
theorem dX4_isWord_59 : decode cX4_isWord 59 = .ok (.goto (-31), 3) := by decide +kernel
theorem dX4_isWord_62 : decode cX4_isWord 62 = .ok (.iconst 1, 1) := by decide +kernel
theorem dX4_isWord_63 : decode cX4_isWord 63 = .ok (.ireturn, 1) := by decide +kernel
theorem dX4_nextToken_0 : decode cX4_nextToken 0 = .ok (.aload_n 0, 1) := by decide +kernel
theorem dX4_nextToken_1 : decode cX4_nextToken 1 = .ok (.aload_n 0, 1) := by decide +kernel
theorem dX4_nextToken_2 : decode cX4_nextToken 2 = .ok (.getfield 25, 3) := by decide +kernel
theorem dX4_nextToken_5 : decode cX4_nextToken 5 = .ok (.putfield 22, 3) := by decide +kernel
theorem dX4_nextToken_8 : decode cX4_nextToken 8 = .ok (.aload_n 0, 1) := by decide +kernel
theorem dX4_nextToken_9 : decode cX4_nextToken 9 = .ok (.getfield 22, 3) := by decide +kernel
theorem dX4_nextToken_12 : decode cX4_nextToken 12 = .ok (.aload_n 0, 1) := by decide +kernel
theorem dX4_nextToken_13 : decode cX4_nextToken 13 = .ok (.getfield 15, 3) := by decide +kernel
theorem dX4_nextToken_16 : decode cX4_nextToken 16 = .ok (.if_icmp .ge 29, 3) := by decide +kernel
theorem dX4_nextToken_19 : decode cX4_nextToken 19 = .ok (.aload_n 0, 1) := by decide +kernel
theorem dX4_nextToken_20 : decode cX4_nextToken 20 = .ok (.aload_n 0, 1) := by decide +kernel
theorem dX4_nextToken_21 : decode cX4_nextToken 21 = .ok (.getfield 22, 3) := by decide +kernel
theorem dX4_nextToken_24 : decode cX4_nextToken 24 = .ok (.invokevirtual 102, 3) := by decide +kernel
theorem dX4_nextToken_27 : decode cX4_nextToken 27 = .ok (.bipush 32, 2) := by decide +kernel
theorem dX4_nextToken_29 : decode cX4_nextToken 29 = .ok (.if_icmp .ne 16, 3) := by decide +kernel
theorem dX4_nextToken_32 : decode cX4_nextToken 32 = .ok (.aload_n 0, 1) := by decide +kernel
theorem dX4_nextToken_33 : decode cX4_nextToken 33 = .ok (.dup, 1) := by decide +kernel
theorem dX4_nextToken_34 : decode cX4_nextToken 34 = .ok (.getfield 22, 3) := by decide +kernel
theorem dX4_nextToken_37 : decode cX4_nextToken 37 = .ok (.iconst 1, 1) := by decide +kernel
theorem dX4_nextToken_38 : decode cX4_nextToken 38 = .ok (.iadd, 1) := by decide +kernel
theorem dX4_nextToken_39 : decode cX4_nextToken 39 = .ok (.putfield 22, 3) := by decide +kernel
theorem dX4_nextToken_42 : decode cX4_nextToken 42 = .ok (.goto (-34), 3) := by decide +kernel
theorem dX4_nextToken_45 : decode cX4_nextToken 45 = .ok (.aload_n 0, 1) := by decide +kernel
theorem dX4_nextToken_46 : decode cX4_nextToken 46 = .ok (.aload_n 0, 1) := by decide +kernel
theorem dX4_nextToken_47 : decode cX4_nextToken 47 = .ok (.getfield 22, 3) := by decide +kernel
theorem dX4_nextToken_50 : decode cX4_nextToken 50 = .ok (.aload_n 0, 1) := by decide +kernel
theorem dX4_nextToken_51 : decode cX4_nextToken 51 = .ok (.getfield 15, 3) := by decide +kernel
theorem dX4_nextToken_54 : decode cX4_nextToken 54 = .ok (.if_icmp .ge 17, 3) := by decide +kernel
theorem dX4_nextToken_57 : decode cX4_nextToken 57 = .ok (.aload_n 0, 1) := by decide +kernel
theorem dX4_nextToken_58 : decode cX4_nextToken 58 = .ok (.aload_n 0, 1) := by decide +kernel
theorem dX4_nextToken_59 : decode cX4_nextToken 59 = .ok (.getfield 22, 3) := by decide +kernel
theorem dX4_nextToken_62 : decode cX4_nextToken 62 = .ok (.invokevirtual 102, 3) := by decide +kernel
theorem dX4_nextToken_65 : decode cX4_nextToken 65 = .ok (.invokestatic 115, 3) := by decide +kernel
theorem dX4_nextToken_68 : decode cX4_nextToken 68 = .ok (.goto 4, 3) := by decide +kernel
theorem dX4_nextToken_71 : decode cX4_nextToken 71 = .ok (.iconst 0, 1) := by decide +kernel
theorem dX4_nextToken_72 : decode cX4_nextToken 72 = .ok (.putfield 19, 3) := by decide +kernel
theorem dX4_nextToken_75 : decode cX4_nextToken 75 = .ok (.aload_n 0, 1) := by decide +kernel
theorem dX4_nextToken_76 : decode cX4_nextToken 76 = .ok (.aload_n 0, 1) := by decide +kernel
theorem dX4_nextToken_77 : decode cX4_nextToken 77 = .ok (.getfield 22, 3) := by decide +kernel
theorem dX4_nextToken_80 : decode cX4_nextToken 80 = .ok (.iconst 1, 1) := by decide +kernel
theorem dX4_nextToken_81 : decode cX4_nextToken 81 = .ok (.iadd, 1) := by decide +kernel
theorem dX4_nextToken_82 : decode cX4_nextToken 82 = .ok (.aload_n 0, 1) := by decide +kernel
theorem dX4_nextToken_83 : decode cX4_nextToken 83 = .ok (.getfield 15, 3) := by decide +kernel
theorem dX4_nextToken_86 : decode cX4_nextToken 86 = .ok (.invokestatic 118, 3) := by decide +kernel
theorem dX4_nextToken_89 : decode cX4_nextToken 89 = .ok (.putfield 25, 3) := by decide +kernel
theorem dX4_nextToken_92 : decode cX4_nextToken 92 = .ok (.aload_n 0, 1) := by decide +kernel
theorem dX4_nextToken_93 : decode cX4_nextToken 93 = .ok (.getfield 19, 3) := by decide +kernel
theorem dX4_nextToken_96 : decode cX4_nextToken 96 = .ok (.iconst 1, 1) := by decide +kernel
theorem dX4_nextToken_97 : decode cX4_nextToken 97 = .ok (.if_icmp .eq 11, 3) := by decide +kernel
theorem dX4_nextToken_100 : decode cX4_nextToken 100 = .ok (.aload_n 0, 1) := by decide +kernel
theorem dX4_nextToken_101 : decode cX4_nextToken 101 = .ok (.getfield 19, 3) := by decide +kernel
theorem dX4_nextToken_104 : decode cX4_nextToken 104 = .ok (.iconst 2, 1) := by decide +kernel
theorem dX4_nextToken_105 : decode cX4_nextToken 105 = .ok (.if_icmp .ne 45, 3) := by decide +kernel
theorem dX4_nextToken_108 : decode cX4_nextToken 108 = .ok (.aload_n 0, 1) := by decide +kernel
theorem dX4_nextToken_109 : decode cX4_nextToken 109 = .ok (.getfield 25, 3) := by decide +kernel
theorem dX4_nextToken_112 : decode cX4_nextToken 112 = .ok (.aload_n 0, 1) := by decide +kernel
theorem dX4_nextToken_113 : decode cX4_nextToken 113 = .ok (.getfield 15, 3) := by decide +kernel
theorem dX4_nextToken_116 : decode cX4_nextToken 116 = .ok (.if_icmp .ge 34, 3) := by decide +kernel
theorem dX4_nextToken_119 : decode cX4_nextToken 119 = .ok (.aload_n 0, 1) := by decide +kernel
theorem dX4_nextToken_120 : decode cX4_nextToken 120 = .ok (.aload_n 0, 1) := by decide +kernel
theorem dX4_nextToken_121 : decode cX4_nextToken 121 = .ok (.getfield 25, 3) := by decide +kernel
theorem dX4_nextToken_124 : decode cX4_nextToken 124 = .ok (.invokevirtual 102, 3) := by decide +kernel
theorem dX4_nextToken_127 : decode cX4_nextToken 127 = .ok (.invokestatic 115, 3) := by decide +kernel
theorem dX4_nextToken_130 : decode cX4_nextToken 130 = .ok (.aload_n 0, 1) := by decide +kernel
theorem dX4_nextToken_131 : decode cX4_nextToken 131 = .ok (.getfield 19, 3) := by decide +kernel
theorem dX4_nextToken_134 : decode cX4_nextToken 134 = .ok (.if_icmp .ne 16, 3) := by decide +kernel
theorem dX4_nextToken_137 : decode cX4_nextToken 137 = .ok (.aload_n 0, 1) := by decide +kernel
theorem dX4_nextToken_138 : decode cX4_nextToken 138 = .ok (.dup, 1) := by decide +kernel
theorem dX4_nextToken_139 : decode cX4_nextToken 139 = .ok (.getfield 25, 3) := by decide +kernel
theorem dX4_nextToken_142 : decode cX4_nextToken 142 = .ok (.iconst 1, 1) := by decide +kernel
theorem dX4_nextToken_143 : decode cX4_nextToken 143 = .ok (.iadd, 1) := by decide +kernel
theorem dX4_nextToken_144 : decode cX4_nextToken 144 = .ok (.putfield 25, 3) := by decide +kernel
theorem dX4_nextToken_147 : decode cX4_nextToken 147 = .ok (.goto (-39), 3) := by decide +kernel
theorem dX4_nextToken_150 : decode cX4_nextToken 150 = .ok (.return_, 1) := by decide +kernel
theorem dX4_sortOf_0 : decode cX4_sortOf 0 = .ok (.iload_n 0, 1) := by decide +kernel
theorem dX4_sortOf_1 : decode cX4_sortOf 1 = .ok (.bipush 97, 2) := by decide +kernel
theorem dX4_sortOf_3 : decode cX4_sortOf 3 = .ok (.if_icmp .lt 11, 3) := by decide +kernel
theorem dX4_sortOf_6 : decode cX4_sortOf 6 = .ok (.iload_n 0, 1) := by decide +kernel
theorem dX4_sortOf_7 : decode cX4_sortOf 7 = .ok (.bipush 122, 2) := by decide +kernel
theorem dX4_sortOf_9 : decode cX4_sortOf 9 = .ok (.if_icmp .gt 5, 3) := by decide +kernel
theorem dX4_sortOf_12 : decode cX4_sortOf 12 = .ok (.iconst 1, 1) := by decide +kernel
theorem dX4_sortOf_13 : decode cX4_sortOf 13 = .ok (.ireturn, 1) := by decide +kernel
theorem dX4_sortOf_14 : decode cX4_sortOf 14 = .ok (.iload_n 0, 1) := by decide +kernel
theorem dX4_sortOf_15 : decode cX4_sortOf 15 = .ok (.bipush 48, 2) := by decide +kernel
theorem dX4_sortOf_17 : decode cX4_sortOf 17 = .ok (.if_icmp .lt 11, 3) := by decide +kernel
theorem dX4_sortOf_20 : decode cX4_sortOf 20 = .ok (.iload_n 0, 1) := by decide +kernel
theorem dX4_sortOf_21 : decode cX4_sortOf 21 = .ok (.bipush 57, 2) := by decide +kernel
theorem dX4_sortOf_23 : decode cX4_sortOf 23 = .ok (.if_icmp .gt 5, 3) := by decide +kernel
theorem dX4_sortOf_26 : decode cX4_sortOf 26 = .ok (.iconst 2, 1) := by decide +kernel
theorem dX4_sortOf_27 : decode cX4_sortOf 27 = .ok (.ireturn, 1) := by decide +kernel
theorem dX4_sortOf_28 : decode cX4_sortOf 28 = .ok (.iload_n 0, 1) := by decide +kernel
theorem dX4_sortOf_29 : decode cX4_sortOf 29 = .ok (.bipush 59, 2) := by decide +kernel
theorem dX4_sortOf_31 : decode cX4_sortOf 31 = .ok (.if_icmp .ne 7, 3) := by decide +kernel
theorem dX4_sortOf_34 : decode cX4_sortOf 34 = .ok (.iconst 3, 1) := by decide +kernel
theorem dX4_sortOf_35 : decode cX4_sortOf 35 = .ok (.goto 4, 3) := by decide +kernel
theorem dX4_sortOf_38 : decode cX4_sortOf 38 = .ok (.iconst 4, 1) := by decide +kernel
theorem dX4_sortOf_39 : decode cX4_sortOf 39 = .ok (.ireturn, 1) := by decide +kernel
theorem dX4_byteAt_0 : decode cX4_byteAt 0 = .ok (.iload_n 1, 1) := by decide +kernel
theorem dX4_byteAt_1 : decode cX4_byteAt 1 = .ok (.ifCond .lt 19, 3) := by decide +kernel
theorem dX4_byteAt_4 : decode cX4_byteAt 4 = .ok (.iload_n 1, 1) := by decide +kernel
theorem dX4_byteAt_5 : decode cX4_byteAt 5 = .ok (.sipush 150, 3) := by decide +kernel
theorem dX4_byteAt_8 : decode cX4_byteAt 8 = .ok (.if_icmp .ge 12, 3) := by decide +kernel
theorem dX4_byteAt_11 : decode cX4_byteAt 11 = .ok (.aload_n 0, 1) := by decide +kernel
theorem dX4_byteAt_12 : decode cX4_byteAt 12 = .ok (.getfield 9, 3) := by decide +kernel
theorem dX4_byteAt_15 : decode cX4_byteAt 15 = .ok (.iload_n 1, 1) := by decide +kernel
theorem dX4_byteAt_16 : decode cX4_byteAt 16 = .ok (.iaload, 1) := by decide +kernel
theorem dX4_byteAt_17 : decode cX4_byteAt 17 = .ok (.goto 4, 3) := by decide +kernel
theorem dX4_byteAt_20 : decode cX4_byteAt 20 = .ok (.iconst 0, 1) := by decide +kernel
theorem dX4_byteAt_21 : decode cX4_byteAt 21 = .ok (.ireturn, 1) := by decide +kernel
theorem dX5_init_0 : decode cX5_init 0 = .ok (.aload_n 0, 1) := by decide +kernel
theorem dX5_init_1 : decode cX5_init 1 = .ok (.invokespecial 3, 3) := by decide +kernel
theorem dX5_init_4 : decode cX5_init 4 = .ok (.aload_n 0, 1) := by decide +kernel
theorem dX5_init_5 : decode cX5_init 5 = .ok (.bipush 8, 2) := by decide +kernel
theorem dX5_init_7 : decode cX5_init 7 = .ok (.putfield 9, 3) := by decide +kernel
theorem dX5_init_10 : decode cX5_init 10 = .ok (.aload_n 0, 1) := by decide +kernel
theorem dX5_init_11 : decode cX5_init 11 = .ok (.iconst 5, 1) := by decide +kernel
theorem dX5_init_12 : decode cX5_init 12 = .ok (.putfield 15, 3) := by decide +kernel
theorem dX5_init_15 : decode cX5_init 15 = .ok (.aload_n 0, 1) := by decide +kernel
theorem dX5_init_16 : decode cX5_init 16 = .ok (.bipush 16, 2) := by decide +kernel
theorem dX5_init_18 : decode cX5_init 18 = .ok (.newarray .int, 2) := by decide +kernel
theorem dX5_init_20 : decode cX5_init 20 = .ok (.putfield 18, 3) := by decide +kernel
theorem dX5_init_23 : decode cX5_init 23 = .ok (.aload_n 0, 1) := by decide +kernel
theorem dX5_init_24 : decode cX5_init 24 = .ok (.bipush 6, 2) := by decide +kernel
theorem dX5_init_26 : decode cX5_init 26 = .ok (.newarray .int, 2) := by decide +kernel
theorem dX5_init_28 : decode cX5_init 28 = .ok (.putfield 22, 3) := by decide +kernel
theorem dX5_init_31 : decode cX5_init 31 = .ok (.return_, 1) := by decide +kernel
theorem dX5_beginAnew_0 : decode cX5_beginAnew 0 = .ok (.aload_n 0, 1) := by decide +kernel
theorem dX5_beginAnew_1 : decode cX5_beginAnew 1 = .ok (.iload_n 1, 1) := by decide +kernel
theorem dX5_beginAnew_2 : decode cX5_beginAnew 2 = .ok (.putfield 9, 3) := by decide +kernel
theorem dX5_beginAnew_5 : decode cX5_beginAnew 5 = .ok (.aload_n 0, 1) := by decide +kernel
theorem dX5_beginAnew_6 : decode cX5_beginAnew 6 = .ok (.iload_n 2, 1) := by decide +kernel
theorem dX5_beginAnew_7 : decode cX5_beginAnew 7 = .ok (.putfield 15, 3) := by decide +kernel
theorem dX5_beginAnew_10 : decode cX5_beginAnew 10 = .ok (.iconst 0, 1) := by decide +kernel
theorem dX5_beginAnew_11 : decode cX5_beginAnew 11 = .ok (.istore_n 3, 1) := by decide +kernel
theorem dX5_beginAnew_12 : decode cX5_beginAnew 12 = .ok (.iload_n 3, 1) := by decide +kernel
theorem dX5_beginAnew_13 : decode cX5_beginAnew 13 = .ok (.aload_n 0, 1) := by decide +kernel
theorem dX5_beginAnew_14 : decode cX5_beginAnew 14 = .ok (.getfield 18, 3) := by decide +kernel
theorem dX5_beginAnew_17 : decode cX5_beginAnew 17 = .ok (.arraylength, 1) := by decide +kernel
theorem dX5_beginAnew_18 : decode cX5_beginAnew 18 = .ok (.if_icmp .ge 16, 3) := by decide +kernel
theorem dX5_beginAnew_21 : decode cX5_beginAnew 21 = .ok (.aload_n 0, 1) := by decide +kernel
theorem dX5_beginAnew_22 : decode cX5_beginAnew 22 = .ok (.getfield 18, 3) := by decide +kernel
theorem dX5_beginAnew_25 : decode cX5_beginAnew 25 = .ok (.iload_n 3, 1) := by decide +kernel
theorem dX5_beginAnew_26 : decode cX5_beginAnew 26 = .ok (.iconst 0, 1) := by decide +kernel
theorem dX5_beginAnew_27 : decode cX5_beginAnew 27 = .ok (.iastore, 1) := by decide +kernel
theorem dX5_beginAnew_28 : decode cX5_beginAnew 28 = .ok (.iinc 3 1, 3) := by decide +kernel
theorem dX5_beginAnew_31 : decode cX5_beginAnew 31 = .ok (.goto (-19), 3) := by decide +kernel
theorem dX5_beginAnew_34 : decode cX5_beginAnew 34 = .ok (.iconst 0, 1) := by decide +kernel
theorem dX5_beginAnew_35 : decode cX5_beginAnew 35 = .ok (.istore_n 3, 1) := by decide +kernel
theorem dX5_beginAnew_36 : decode cX5_beginAnew 36 = .ok (.iload_n 3, 1) := by decide +kernel
theorem dX5_beginAnew_37 : decode cX5_beginAnew 37 = .ok (.aload_n 0, 1) := by decide +kernel
theorem dX5_beginAnew_38 : decode cX5_beginAnew 38 = .ok (.getfield 22, 3) := by decide +kernel
theorem dX5_beginAnew_41 : decode cX5_beginAnew 41 = .ok (.arraylength, 1) := by decide +kernel
theorem dX5_beginAnew_42 : decode cX5_beginAnew 42 = .ok (.if_icmp .ge 16, 3) := by decide +kernel
theorem dX5_beginAnew_45 : decode cX5_beginAnew 45 = .ok (.aload_n 0, 1) := by decide +kernel
theorem dX5_beginAnew_46 : decode cX5_beginAnew 46 = .ok (.getfield 22, 3) := by decide +kernel
theorem dX5_beginAnew_49 : decode cX5_beginAnew 49 = .ok (.iload_n 3, 1) := by decide +kernel
theorem dX5_beginAnew_50 : decode cX5_beginAnew 50 = .ok (.iconst 0, 1) := by decide +kernel
theorem dX5_beginAnew_51 : decode cX5_beginAnew 51 = .ok (.iastore, 1) := by decide +kernel
theorem dX5_beginAnew_52 : decode cX5_beginAnew 52 = .ok (.iinc 3 1, 3) := by decide +kernel
theorem dX5_beginAnew_55 : decode cX5_beginAnew 55 = .ok (.goto (-19), 3) := by decide +kernel
theorem dX5_beginAnew_58 : decode cX5_beginAnew 58 = .ok (.return_, 1) := by decide +kernel
theorem dX5_copyFrom_0 : decode cX5_copyFrom 0 = .ok (.aload_n 0, 1) := by decide +kernel
theorem dX5_copyFrom_1 : decode cX5_copyFrom 1 = .ok (.aload_n 1, 1) := by decide +kernel
theorem dX5_copyFrom_2 : decode cX5_copyFrom 2 = .ok (.getfield 9, 3) := by decide +kernel
theorem dX5_copyFrom_5 : decode cX5_copyFrom 5 = .ok (.putfield 9, 3) := by decide +kernel
theorem dX5_copyFrom_8 : decode cX5_copyFrom 8 = .ok (.aload_n 0, 1) := by decide +kernel
theorem dX5_copyFrom_9 : decode cX5_copyFrom 9 = .ok (.aload_n 1, 1) := by decide +kernel
theorem dX5_copyFrom_10 : decode cX5_copyFrom 10 = .ok (.getfield 15, 3) := by decide +kernel
theorem dX5_copyFrom_13 : decode cX5_copyFrom 13 = .ok (.putfield 15, 3) := by decide +kernel
theorem dX5_copyFrom_16 : decode cX5_copyFrom 16 = .ok (.aload_n 1, 1) := by decide +kernel
theorem dX5_copyFrom_17 : decode cX5_copyFrom 17 = .ok (.getfield 18, 3) := by decide +kernel
theorem dX5_copyFrom_20 : decode cX5_copyFrom 20 = .ok (.iconst 0, 1) := by decide +kernel
theorem dX5_copyFrom_21 : decode cX5_copyFrom 21 = .ok (.aload_n 0, 1) := by decide +kernel
theorem dX5_copyFrom_22 : decode cX5_copyFrom 22 = .ok (.getfield 18, 3) := by decide +kernel
theorem dX5_copyFrom_25 : decode cX5_copyFrom 25 = .ok (.iconst 0, 1) := by decide +kernel
theorem dX5_copyFrom_26 : decode cX5_copyFrom 26 = .ok (.bipush 16, 2) := by decide +kernel
theorem dX5_copyFrom_28 : decode cX5_copyFrom 28 = .ok (.invokestatic 25, 3) := by decide +kernel
theorem dX5_copyFrom_31 : decode cX5_copyFrom 31 = .ok (.aload_n 1, 1) := by decide +kernel
theorem dX5_copyFrom_32 : decode cX5_copyFrom 32 = .ok (.getfield 22, 3) := by decide +kernel
theorem dX5_copyFrom_35 : decode cX5_copyFrom 35 = .ok (.iconst 0, 1) := by decide +kernel
theorem dX5_copyFrom_36 : decode cX5_copyFrom 36 = .ok (.aload_n 0, 1) := by decide +kernel
theorem dX5_copyFrom_37 : decode cX5_copyFrom 37 = .ok (.getfield 22, 3) := by decide +kernel
theorem dX5_copyFrom_40 : decode cX5_copyFrom 40 = .ok (.iconst 0, 1) := by decide +kernel
theorem dX5_copyFrom_41 : decode cX5_copyFrom 41 = .ok (.bipush 6, 2) := by decide +kernel
theorem dX5_copyFrom_43 : decode cX5_copyFrom 43 = .ok (.invokestatic 25, 3) := by decide +kernel
theorem dX5_copyFrom_46 : decode cX5_copyFrom 46 = .ok (.return_, 1) := by decide +kernel
theorem dX5_cobbleOf_0 : decode cX5_cobbleOf 0 = .ok (.iload_n 1, 1) := by decide +kernel
theorem dX5_cobbleOf_1 : decode cX5_cobbleOf 1 = .ok (.iconst 0, 1) := by decide +kernel
theorem dX5_cobbleOf_2 : decode cX5_cobbleOf 2 = .ok (.aload_n 0, 1) := by decide +kernel
theorem dX5_cobbleOf_3 : decode cX5_cobbleOf 3 = .ok (.getfield 18, 3) := by decide +kernel
theorem dX5_cobbleOf_6 : decode cX5_cobbleOf 6 = .ok (.arraylength, 1) := by decide +kernel
theorem dX5_cobbleOf_7 : decode cX5_cobbleOf 7 = .ok (.iconst 1, 1) := by decide +kernel
theorem dX5_cobbleOf_8 : decode cX5_cobbleOf 8 = .ok (.isub, 1) := by decide +kernel
theorem dX5_cobbleOf_9 : decode cX5_cobbleOf 9 = .ok (.invokestatic 31, 3) := by decide +kernel
theorem dX5_cobbleOf_12 : decode cX5_cobbleOf 12 = .ok (.ifCond .eq 12, 3) := by decide +kernel
theorem dX5_cobbleOf_15 : decode cX5_cobbleOf 15 = .ok (.aload_n 0, 1) := by decide +kernel
theorem dX5_cobbleOf_16 : decode cX5_cobbleOf 16 = .ok (.getfield 18, 3) := by decide +kernel
theorem dX5_cobbleOf_19 : decode cX5_cobbleOf 19 = .ok (.iload_n 1, 1) := by decide +kernel
theorem dX5_cobbleOf_20 : decode cX5_cobbleOf 20 = .ok (.iaload, 1) := by decide +kernel
theorem dX5_cobbleOf_21 : decode cX5_cobbleOf 21 = .ok (.goto 4, 3) := by decide +kernel
theorem dX5_cobbleOf_24 : decode cX5_cobbleOf 24 = .ok (.iconst 0, 1) := by decide +kernel
theorem dX5_cobbleOf_25 : decode cX5_cobbleOf 25 = .ok (.ireturn, 1) := by decide +kernel
theorem dX5_layCobble_0 : decode cX5_layCobble 0 = .ok (.iload_n 1, 1) := by decide +kernel
theorem dX5_layCobble_1 : decode cX5_layCobble 1 = .ok (.iconst 0, 1) := by decide +kernel
theorem dX5_layCobble_2 : decode cX5_layCobble 2 = .ok (.aload_n 0, 1) := by decide +kernel
theorem dX5_layCobble_3 : decode cX5_layCobble 3 = .ok (.getfield 18, 3) := by decide +kernel
theorem dX5_layCobble_6 : decode cX5_layCobble 6 = .ok (.arraylength, 1) := by decide +kernel
theorem dX5_layCobble_7 : decode cX5_layCobble 7 = .ok (.iconst 1, 1) := by decide +kernel
theorem dX5_layCobble_8 : decode cX5_layCobble 8 = .ok (.isub, 1) := by decide +kernel
theorem dX5_layCobble_9 : decode cX5_layCobble 9 = .ok (.invokestatic 31, 3) := by decide +kernel
theorem dX5_layCobble_12 : decode cX5_layCobble 12 = .ok (.ifCond .eq 10, 3) := by decide +kernel
theorem dX5_layCobble_15 : decode cX5_layCobble 15 = .ok (.aload_n 0, 1) := by decide +kernel
theorem dX5_layCobble_16 : decode cX5_layCobble 16 = .ok (.getfield 18, 3) := by decide +kernel
theorem dX5_layCobble_19 : decode cX5_layCobble 19 = .ok (.iload_n 1, 1) := by decide +kernel
theorem dX5_layCobble_20 : decode cX5_layCobble 20 = .ok (.iload_n 2, 1) := by decide +kernel
theorem dX5_layCobble_21 : decode cX5_layCobble 21 = .ok (.iastore, 1) := by decide +kernel
theorem dX5_layCobble_22 : decode cX5_layCobble 22 = .ok (.return_, 1) := by decide +kernel
theorem dX5_windIn_0 : decode cX5_windIn 0 = .ok (.aload_n 0, 1) := by decide +kernel
theorem dX5_windIn_1 : decode cX5_windIn 1 = .ok (.getfield 22, 3) := by decide +kernel
theorem dX5_windIn_4 : decode cX5_windIn 4 = .ok (.iload_n 1, 1) := by decide +kernel
theorem dX5_windIn_5 : decode cX5_windIn 5 = .ok (.bipush 6, 2) := by decide +kernel
theorem dX5_windIn_7 : decode cX5_windIn 7 = .ok (.invokestatic 35, 3) := by decide +kernel
theorem dX5_windIn_10 : decode cX5_windIn 10 = .ok (.iaload, 1) := by decide +kernel
theorem dX5_windIn_11 : decode cX5_windIn 11 = .ok (.ireturn, 1) := by decide +kernel
theorem dX5_setWind_0 : decode cX5_setWind 0 = .ok (.aload_n 0, 1) := by decide +kernel
theorem dX5_setWind_1 : decode cX5_setWind 1 = .ok (.getfield 22, 3) := by decide +kernel
theorem dX5_setWind_4 : decode cX5_setWind 4 = .ok (.iload_n 1, 1) := by decide +kernel
theorem dX5_setWind_5 : decode cX5_setWind 5 = .ok (.bipush 6, 2) := by decide +kernel
theorem dX5_setWind_7 : decode cX5_setWind 7 = .ok (.invokestatic 35, 3) := by decide +kernel
theorem dX5_setWind_10 : decode cX5_setWind 10 = .ok (.iload_n 2, 1) := by decide +kernel
theorem dX5_setWind_11 : decode cX5_setWind 11 = .ok (.iastore, 1) := by decide +kernel
theorem dX5_setWind_12 : decode cX5_setWind 12 = .ok (.return_, 1) := by decide +kernel
theorem dX5_cellBehind_0 : decode cX5_cellBehind 0 = .ok (.iload_n 1, 1) := by decide +kernel
theorem dX5_cellBehind_1 : decode cX5_cellBehind 1 = .ok (.iload_n 2, 1) := by decide +kernel
theorem dX5_cellBehind_2 : decode cX5_cellBehind 2 = .ok (.iadd, 1) := by decide +kernel
theorem dX5_cellBehind_3 : decode cX5_cellBehind 3 = .ok (.aload_n 0, 1) := by decide +kernel
theorem dX5_cellBehind_4 : decode cX5_cellBehind 4 = .ok (.getfield 9, 3) := by decide +kernel
theorem dX5_cellBehind_7 : decode cX5_cellBehind 7 = .ok (.invokestatic 41, 3) := by decide +kernel
theorem dX5_cellBehind_10 : decode cX5_cellBehind 10 = .ok (.ireturn, 1) := by decide +kernel
theorem dX5_fells_0 : decode cX5_fells 0 = .ok (.iload_n 1, 1) := by decide +kernel
theorem dX5_fells_1 : decode cX5_fells 1 = .ok (.aload_n 0, 1) := by decide +kernel
theorem dX5_fells_2 : decode cX5_fells 2 = .ok (.getfield 15, 3) := by decide +kernel
theorem dX5_fells_5 : decode cX5_fells 5 = .ok (.if_icmp .gt 12, 3) := by decide +kernel
theorem dX5_fells_8 : decode cX5_fells 8 = .ok (.iload_n 1, 1) := by decide +kernel
theorem dX5_fells_9 : decode cX5_fells 9 = .ok (.aload_n 0, 1) := by decide +kernel
theorem dX5_fells_10 : decode cX5_fells 10 = .ok (.getfield 15, 3) := by decide +kernel
theorem dX5_fells_13 : decode cX5_fells 13 = .ok (.ineg, 1) := by decide +kernel
theorem dX5_fells_14 : decode cX5_fells 14 = .ok (.if_icmp .ge 7, 3) := by decide +kernel
theorem dX5_fells_17 : decode cX5_fells 17 = .ok (.iconst 1, 1) := by decide +kernel
theorem dX5_fells_18 : decode cX5_fells 18 = .ok (.goto 4, 3) := by decide +kernel
theorem dX5_fells_21 : decode cX5_fells 21 = .ok (.iconst 0, 1) := by decide +kernel
theorem dX5_fells_22 : decode cX5_fells 22 = .ok (.ireturn, 1) := by decide +kernel
theorem dX5_addTo_0 : decode cX5_addTo 0 = .ok (.lload_n 1, 1) := by decide +kernel
theorem dX5_addTo_1 : decode cX5_addTo 1 = .ok (.lstore_n 3, 1) := by decide +kernel
theorem dX5_addTo_2 : decode cX5_addTo 2 = .ok (.iconst 0, 1) := by decide +kernel
theorem dX5_addTo_3 : decode cX5_addTo 3 = .ok (.istore 5, 2) := by decide +kernel
theorem dX5_addTo_5 : decode cX5_addTo 5 = .ok (.iload 5, 2) := by decide +kernel
theorem dX5_addTo_7 : decode cX5_addTo 7 = .ok (.aload_n 0, 1) := by decide +kernel
theorem dX5_addTo_8 : decode cX5_addTo 8 = .ok (.getfield 9, 3) := by decide +kernel
theorem dX5_addTo_11 : decode cX5_addTo 11 = .ok (.if_icmp .gt 31, 3) := by decide +kernel
theorem dX5_addTo_14 : decode cX5_addTo 14 = .ok (.iload 5, 2) := by decide +kernel
theorem dX5_addTo_16 : decode cX5_addTo 16 = .ok (.bipush 16, 2) := by decide +kernel
theorem dX5_addTo_18 : decode cX5_addTo 18 = .ok (.if_icmp .ge 24, 3) := by decide +kernel
theorem dX5_addTo_21 : decode cX5_addTo 21 = .ok (.ldc2_w 44, 3) := by decide +kernel
theorem dX5_addTo_24 : decode cX5_addTo 24 = .ok (.lload_n 3, 1) := by decide +kernel
theorem dX5_addTo_25 : decode cX5_addTo 25 = .ok (.lmul, 1) := by decide +kernel
theorem dX5_addTo_26 : decode cX5_addTo 26 = .ok (.aload_n 0, 1) := by decide +kernel
theorem dX5_addTo_27 : decode cX5_addTo 27 = .ok (.getfield 18, 3) := by decide +kernel
theorem dX5_addTo_30 : decode cX5_addTo 30 = .ok (.iload 5, 2) := by decide +kernel
theorem dX5_addTo_32 : decode cX5_addTo 32 = .ok (.iaload, 1) := by decide +kernel
theorem dX5_addTo_33 : decode cX5_addTo 33 = .ok (.i2l, 1) := by decide +kernel
theorem dX5_addTo_34 : decode cX5_addTo 34 = .ok (.ladd, 1) := by decide +kernel
theorem dX5_addTo_35 : decode cX5_addTo 35 = .ok (.lstore_n 3, 1) := by decide +kernel
theorem dX5_addTo_36 : decode cX5_addTo 36 = .ok (.iinc 5 1, 3) := by decide +kernel
theorem dX5_addTo_39 : decode cX5_addTo 39 = .ok (.goto (-34), 3) := by decide +kernel
theorem dX5_addTo_42 : decode cX5_addTo 42 = .ok (.iconst 0, 1) := by decide +kernel
theorem dX5_addTo_43 : decode cX5_addTo 43 = .ok (.istore 5, 2) := by decide +kernel
theorem dX5_addTo_45 : decode cX5_addTo 45 = .ok (.iload 5, 2) := by decide +kernel
theorem dX5_addTo_47 : decode cX5_addTo 47 = .ok (.bipush 6, 2) := by decide +kernel
theorem dX5_addTo_49 : decode cX5_addTo 49 = .ok (.if_icmp .ge 24, 3) := by decide +kernel
theorem dX5_addTo_52 : decode cX5_addTo 52 = .ok (.ldc2_w 44, 3) := by decide +kernel
theorem dX5_addTo_55 : decode cX5_addTo 55 = .ok (.lload_n 3, 1) := by decide +kernel
theorem dX5_addTo_56 : decode cX5_addTo 56 = .ok (.lmul, 1) := by decide +kernel
theorem dX5_addTo_57 : decode cX5_addTo 57 = .ok (.aload_n 0, 1) := by decide +kernel
theorem dX5_addTo_58 : decode cX5_addTo 58 = .ok (.getfield 22, 3) := by decide +kernel
theorem dX5_addTo_61 : decode cX5_addTo 61 = .ok (.iload 5, 2) := by decide +kernel
theorem dX5_addTo_63 : decode cX5_addTo 63 = .ok (.iaload, 1) := by decide +kernel
theorem dX5_addTo_64 : decode cX5_addTo 64 = .ok (.i2l, 1) := by decide +kernel
theorem dX5_addTo_65 : decode cX5_addTo 65 = .ok (.ladd, 1) := by decide +kernel
theorem dX5_addTo_66 : decode cX5_addTo 66 = .ok (.lstore_n 3, 1) := by decide +kernel
theorem dX5_addTo_67 : decode cX5_addTo 67 = .ok (.iinc 5 1, 3) := by decide +kernel
theorem dX5_addTo_70 : decode cX5_addTo 70 = .ok (.goto (-25), 3) := by decide +kernel
theorem dX5_addTo_73 : decode cX5_addTo 73 = .ok (.lload_n 3, 1) := by decide +kernel
theorem dX5_addTo_74 : decode cX5_addTo 74 = .ok (.lreturn, 1) := by decide +kernel
theorem dX6_init_0 : decode cX6_init 0 = .ok (.aload_n 0, 1) := by decide +kernel
theorem dX6_init_1 : decode cX6_init 1 = .ok (.invokespecial 1, 3) := by decide +kernel
theorem dX6_init_4 : decode cX6_init 4 = .ok (.return_, 1) := by decide +kernel
theorem dX6_leanBehind_0 : decode cX6_leanBehind 0 = .ok (.iload 4, 2) := by decide +kernel
theorem dX6_leanBehind_2 : decode cX6_leanBehind 2 = .ok (.iconst 3, 1) := by decide +kernel
theorem dX6_leanBehind_3 : decode cX6_leanBehind 3 = .ok (.if_icmp .ne 9, 3) := by decide +kernel
theorem dX6_leanBehind_6 : decode cX6_leanBehind 6 = .ok (.iconst 2, 1) := by decide +kernel
theorem dX6_leanBehind_7 : decode cX6_leanBehind 7 = .ok (.iload_n 2, 1) := by decide +kernel
theorem dX6_leanBehind_8 : decode cX6_leanBehind 8 = .ok (.imul, 1) := by decide +kernel
theorem dX6_leanBehind_9 : decode cX6_leanBehind 9 = .ok (.goto 4, 3) := by decide +kernel
theorem dX6_leanBehind_12 : decode cX6_leanBehind 12 = .ok (.iload_n 2, 1) := by decide +kernel
theorem dX6_leanBehind_13 : decode cX6_leanBehind 13 = .ok (.istore 5, 2) := by decide +kernel
theorem dX6_leanBehind_15 : decode cX6_leanBehind 15 = .ok (.aload_n 0, 1) := by decide +kernel
theorem dX6_leanBehind_16 : decode cX6_leanBehind 16 = .ok (.iload_n 1, 1) := by decide +kernel
theorem dX6_leanBehind_17 : decode cX6_leanBehind 17 = .ok (.iload 5, 2) := by decide +kernel
theorem dX6_leanBehind_19 : decode cX6_leanBehind 19 = .ok (.iload_n 3, 1) := by decide +kernel
theorem dX6_leanBehind_20 : decode cX6_leanBehind 20 = .ok (.iload 4, 2) := by decide +kernel
theorem dX6_leanBehind_22 : decode cX6_leanBehind 22 = .ok (.invokespecial 7, 3) := by decide +kernel
theorem dX6_leanBehind_25 : decode cX6_leanBehind 25 = .ok (.ireturn, 1) := by decide +kernel
theorem dX7_init_0 : decode cX7_init 0 = .ok (.aload_n 0, 1) := by decide +kernel
theorem dX7_init_1 : decode cX7_init 1 = .ok (.invokespecial 1, 3) := by decide +kernel
theorem dX7_init_4 : decode cX7_init 4 = .ok (.return_, 1) := by decide +kernel
theorem dX7_leanBehind_0 : decode cX7_leanBehind 0 = .ok (.aload_n 0, 1) := by decide +kernel
theorem dX7_leanBehind_1 : decode cX7_leanBehind 1 = .ok (.iload_n 1, 1) := by decide +kernel
theorem dX7_leanBehind_2 : decode cX7_leanBehind 2 = .ok (.iload_n 2, 1) := by decide +kernel
theorem dX7_leanBehind_3 : decode cX7_leanBehind 3 = .ok (.iload_n 3, 1) := by decide +kernel
theorem dX7_leanBehind_4 : decode cX7_leanBehind 4 = .ok (.iload 4, 2) := by decide +kernel
theorem dX7_leanBehind_6 : decode cX7_leanBehind 6 = .ok (.invokespecial 7, 3) := by decide +kernel
theorem dX7_leanBehind_9 : decode cX7_leanBehind 9 = .ok (.istore 5, 2) := by decide +kernel
theorem dX7_leanBehind_11 : decode cX7_leanBehind 11 = .ok (.iload 5, 2) := by decide +kernel
theorem dX7_leanBehind_13 : decode cX7_leanBehind 13 = .ok (.ifCond .le 8, 3) := by decide +kernel
theorem dX7_leanBehind_16 : decode cX7_leanBehind 16 = .ok (.iload 5, 2) := by decide +kernel
theorem dX7_leanBehind_18 : decode cX7_leanBehind 18 = .ok (.iconst 1, 1) := by decide +kernel
theorem dX7_leanBehind_19 : decode cX7_leanBehind 19 = .ok (.isub, 1) := by decide +kernel
theorem dX7_leanBehind_20 : decode cX7_leanBehind 20 = .ok (.ireturn, 1) := by decide +kernel
theorem dX7_leanBehind_21 : decode cX7_leanBehind 21 = .ok (.iload 5, 2) := by decide +kernel
theorem dX7_leanBehind_23 : decode cX7_leanBehind 23 = .ok (.ifCond .ge 10, 3) := by decide +kernel
theorem dX7_leanBehind_26 : decode cX7_leanBehind 26 = .ok (.iload 5, 2) := by decide +kernel
theorem dX7_leanBehind_28 : decode cX7_leanBehind 28 = .ok (.iconst 1, 1) := by decide +kernel
theorem dX7_leanBehind_29 : decode cX7_leanBehind 29 = .ok (.iadd, 1) := by decide +kernel
theorem dX7_leanBehind_30 : decode cX7_leanBehind 30 = .ok (.goto 4, 3) := by decide +kernel
theorem dX7_leanBehind_33 : decode cX7_leanBehind 33 = .ok (.iconst 0, 1) := by decide +kernel
theorem dX7_leanBehind_34 : decode cX7_leanBehind 34 = .ok (.ireturn, 1) := by decide +kernel
theorem dX8_init_0 : decode cX8_init 0 = .ok (.aload_n 0, 1) := by decide +kernel
theorem dX8_init_1 : decode cX8_init 1 = .ok (.invokespecial 3, 3) := by decide +kernel
theorem dX8_init_4 : decode cX8_init 4 = .ok (.aload_n 0, 1) := by decide +kernel
theorem dX8_init_5 : decode cX8_init 5 = .ok (.iconst (-1), 1) := by decide +kernel
theorem dX8_init_6 : decode cX8_init 6 = .ok (.putfield 9, 3) := by decide +kernel
theorem dX8_init_9 : decode cX8_init 9 = .ok (.aload_n 0, 1) := by decide +kernel
theorem dX8_init_10 : decode cX8_init 10 = .ok (.iconst 0, 1) := by decide +kernel
theorem dX8_init_11 : decode cX8_init 11 = .ok (.putfield 15, 3) := by decide +kernel
theorem dX8_init_14 : decode cX8_init 14 = .ok (.aload_n 0, 1) := by decide +kernel
theorem dX8_init_15 : decode cX8_init 15 = .ok (.iconst 0, 1) := by decide +kernel
theorem dX8_init_16 : decode cX8_init 16 = .ok (.putfield 18, 3) := by decide +kernel
theorem dX8_init_19 : decode cX8_init 19 = .ok (.aload_n 0, 1) := by decide +kernel
theorem dX8_init_20 : decode cX8_init 20 = .ok (.iconst 0, 1) := by decide +kernel
theorem dX8_init_21 : decode cX8_init 21 = .ok (.putfield 21, 3) := by decide +kernel
theorem dX8_init_24 : decode cX8_init 24 = .ok (.aload_n 0, 1) := by decide +kernel
theorem dX8_init_25 : decode cX8_init 25 = .ok (.iconst 0, 1) := by decide +kernel
theorem dX8_init_26 : decode cX8_init 26 = .ok (.putfield 24, 3) := by decide +kernel
theorem dX8_init_29 : decode cX8_init 29 = .ok (.aload_n 0, 1) := by decide +kernel
theorem dX8_init_30 : decode cX8_init 30 = .ok (.bipush 8, 2) := by decide +kernel
theorem dX8_init_32 : decode cX8_init 32 = .ok (.newarray .int, 2) := by decide +kernel
theorem dX8_init_34 : decode cX8_init 34 = .ok (.putfield 27, 3) := by decide +kernel
theorem dX8_init_37 : decode cX8_init 37 = .ok (.aload_n 0, 1) := by decide +kernel
theorem dX8_init_38 : decode cX8_init 38 = .ok (.bipush 8, 2) := by decide +kernel
theorem dX8_init_40 : decode cX8_init 40 = .ok (.newarray .int, 2) := by decide +kernel
theorem dX8_init_42 : decode cX8_init 42 = .ok (.putfield 31, 3) := by decide +kernel
theorem dX8_init_45 : decode cX8_init 45 = .ok (.aload_n 0, 1) := by decide +kernel
theorem dX8_init_46 : decode cX8_init 46 = .ok (.bipush 8, 2) := by decide +kernel
theorem dX8_init_48 : decode cX8_init 48 = .ok (.newarray .int, 2) := by decide +kernel
theorem dX8_init_50 : decode cX8_init 50 = .ok (.putfield 34, 3) := by decide +kernel
theorem dX8_init_53 : decode cX8_init 53 = .ok (.return_, 1) := by decide +kernel
theorem dX8_begin_0 : decode cX8_begin 0 = .ok (.aload_n 0, 1) := by decide +kernel
theorem dX8_begin_1 : decode cX8_begin 1 = .ok (.iload_n 1, 1) := by decide +kernel
theorem dX8_begin_2 : decode cX8_begin 2 = .ok (.putfield 9, 3) := by decide +kernel
theorem dX8_begin_5 : decode cX8_begin 5 = .ok (.aload_n 0, 1) := by decide +kernel
theorem dX8_begin_6 : decode cX8_begin 6 = .ok (.iconst 0, 1) := by decide +kernel
theorem dX8_begin_7 : decode cX8_begin 7 = .ok (.putfield 15, 3) := by decide +kernel
theorem dX8_begin_10 : decode cX8_begin 10 = .ok (.aload_n 0, 1) := by decide +kernel
theorem dX8_begin_11 : decode cX8_begin 11 = .ok (.iload_n 2, 1) := by decide +kernel
theorem dX8_begin_12 : decode cX8_begin 12 = .ok (.putfield 18, 3) := by decide +kernel
theorem dX8_begin_15 : decode cX8_begin 15 = .ok (.aload_n 0, 1) := by decide +kernel
theorem dX8_begin_16 : decode cX8_begin 16 = .ok (.iload_n 3, 1) := by decide +kernel
theorem dX8_begin_17 : decode cX8_begin 17 = .ok (.putfield 21, 3) := by decide +kernel
theorem dX8_begin_20 : decode cX8_begin 20 = .ok (.aload_n 0, 1) := by decide +kernel
theorem dX8_begin_21 : decode cX8_begin 21 = .ok (.iconst 0, 1) := by decide +kernel
theorem dX8_begin_22 : decode cX8_begin 22 = .ok (.putfield 24, 3) := by decide +kernel
theorem dX8_begin_25 : decode cX8_begin 25 = .ok (.return_, 1) := by decide +kernel
theorem dX8_copyFrom_0 : decode cX8_copyFrom 0 = .ok (.aload_n 0, 1) := by decide +kernel
theorem dX8_copyFrom_1 : decode cX8_copyFrom 1 = .ok (.aload_n 1, 1) := by decide +kernel
theorem dX8_copyFrom_2 : decode cX8_copyFrom 2 = .ok (.getfield 9, 3) := by decide +kernel
theorem dX8_copyFrom_5 : decode cX8_copyFrom 5 = .ok (.putfield 9, 3) := by decide +kernel
theorem dX8_copyFrom_8 : decode cX8_copyFrom 8 = .ok (.aload_n 0, 1) := by decide +kernel
theorem dX8_copyFrom_9 : decode cX8_copyFrom 9 = .ok (.aload_n 1, 1) := by decide +kernel
theorem dX8_copyFrom_10 : decode cX8_copyFrom 10 = .ok (.getfield 15, 3) := by decide +kernel
theorem dX8_copyFrom_13 : decode cX8_copyFrom 13 = .ok (.putfield 15, 3) := by decide +kernel
theorem dX8_copyFrom_16 : decode cX8_copyFrom 16 = .ok (.aload_n 0, 1) := by decide +kernel
theorem dX8_copyFrom_17 : decode cX8_copyFrom 17 = .ok (.aload_n 1, 1) := by decide +kernel
theorem dX8_copyFrom_18 : decode cX8_copyFrom 18 = .ok (.getfield 18, 3) := by decide +kernel
theorem dX8_copyFrom_21 : decode cX8_copyFrom 21 = .ok (.putfield 18, 3) := by decide +kernel
theorem dX8_copyFrom_24 : decode cX8_copyFrom 24 = .ok (.aload_n 0, 1) := by decide +kernel
theorem dX8_copyFrom_25 : decode cX8_copyFrom 25 = .ok (.aload_n 1, 1) := by decide +kernel
theorem dX8_copyFrom_26 : decode cX8_copyFrom 26 = .ok (.getfield 21, 3) := by decide +kernel
theorem dX8_copyFrom_29 : decode cX8_copyFrom 29 = .ok (.putfield 21, 3) := by decide +kernel
theorem dX8_copyFrom_32 : decode cX8_copyFrom 32 = .ok (.aload_n 0, 1) := by decide +kernel
theorem dX8_copyFrom_33 : decode cX8_copyFrom 33 = .ok (.aload_n 1, 1) := by decide +kernel
theorem dX8_copyFrom_34 : decode cX8_copyFrom 34 = .ok (.getfield 24, 3) := by decide +kernel
theorem dX8_copyFrom_37 : decode cX8_copyFrom 37 = .ok (.putfield 24, 3) := by decide +kernel
theorem dX8_copyFrom_40 : decode cX8_copyFrom 40 = .ok (.aload_n 1, 1) := by decide +kernel
theorem dX8_copyFrom_41 : decode cX8_copyFrom 41 = .ok (.getfield 27, 3) := by decide +kernel
theorem dX8_copyFrom_44 : decode cX8_copyFrom 44 = .ok (.iconst 0, 1) := by decide +kernel
theorem dX8_copyFrom_45 : decode cX8_copyFrom 45 = .ok (.aload_n 0, 1) := by decide +kernel
theorem dX8_copyFrom_46 : decode cX8_copyFrom 46 = .ok (.getfield 27, 3) := by decide +kernel
theorem dX8_copyFrom_49 : decode cX8_copyFrom 49 = .ok (.iconst 0, 1) := by decide +kernel
theorem dX8_copyFrom_50 : decode cX8_copyFrom 50 = .ok (.bipush 8, 2) := by decide +kernel
theorem dX8_copyFrom_52 : decode cX8_copyFrom 52 = .ok (.invokestatic 37, 3) := by decide +kernel
theorem dX8_copyFrom_55 : decode cX8_copyFrom 55 = .ok (.aload_n 1, 1) := by decide +kernel
theorem dX8_copyFrom_56 : decode cX8_copyFrom 56 = .ok (.getfield 31, 3) := by decide +kernel
theorem dX8_copyFrom_59 : decode cX8_copyFrom 59 = .ok (.iconst 0, 1) := by decide +kernel
theorem dX8_copyFrom_60 : decode cX8_copyFrom 60 = .ok (.aload_n 0, 1) := by decide +kernel
theorem dX8_copyFrom_61 : decode cX8_copyFrom 61 = .ok (.getfield 31, 3) := by decide +kernel
theorem dX8_copyFrom_64 : decode cX8_copyFrom 64 = .ok (.iconst 0, 1) := by decide +kernel
theorem dX8_copyFrom_65 : decode cX8_copyFrom 65 = .ok (.bipush 8, 2) := by decide +kernel
theorem dX8_copyFrom_67 : decode cX8_copyFrom 67 = .ok (.invokestatic 37, 3) := by decide +kernel
theorem dX8_copyFrom_70 : decode cX8_copyFrom 70 = .ok (.aload_n 1, 1) := by decide +kernel
theorem dX8_copyFrom_71 : decode cX8_copyFrom 71 = .ok (.getfield 34, 3) := by decide +kernel
theorem dX8_copyFrom_74 : decode cX8_copyFrom 74 = .ok (.iconst 0, 1) := by decide +kernel
theorem dX8_copyFrom_75 : decode cX8_copyFrom 75 = .ok (.aload_n 0, 1) := by decide +kernel
theorem dX8_copyFrom_76 : decode cX8_copyFrom 76 = .ok (.getfield 34, 3) := by decide +kernel
theorem dX8_copyFrom_79 : decode cX8_copyFrom 79 = .ok (.iconst 0, 1) := by decide +kernel
theorem dX8_copyFrom_80 : decode cX8_copyFrom 80 = .ok (.bipush 8, 2) := by decide +kernel
theorem dX8_copyFrom_82 : decode cX8_copyFrom 82 = .ok (.invokestatic 37, 3) := by decide +kernel
theorem dX8_copyFrom_85 : decode cX8_copyFrom 85 = .ok (.return_, 1) := by decide +kernel
theorem dX8_isFallen_0 : decode cX8_isFallen 0 = .ok (.aload_n 1, 1) := by decide +kernel
theorem dX8_isFallen_1 : decode cX8_isFallen 1 = .ok (.aload_n 0, 1) := by decide +kernel
theorem dX8_isFallen_2 : decode cX8_isFallen 2 = .ok (.getfield 21, 3) := by decide +kernel
theorem dX8_isFallen_5 : decode cX8_isFallen 5 = .ok (.invokevirtual 43, 3) := by decide +kernel
theorem dX8_isFallen_8 : decode cX8_isFallen 8 = .ok (.ireturn, 1) := by decide +kernel
theorem dX8_isThrough_0 : decode cX8_isThrough 0 = .ok (.aload_n 0, 1) := by decide +kernel
theorem dX8_isThrough_1 : decode cX8_isThrough 1 = .ok (.getfield 15, 3) := by decide +kernel
theorem dX8_isThrough_4 : decode cX8_isThrough 4 = .ok (.aload_n 1, 1) := by decide +kernel
theorem dX8_isThrough_5 : decode cX8_isThrough 5 = .ok (.getfield 49, 3) := by decide +kernel
theorem dX8_isThrough_8 : decode cX8_isThrough 8 = .ok (.if_icmp .lt 15, 3) := by decide +kernel
theorem dX8_isThrough_11 : decode cX8_isThrough 11 = .ok (.aload_n 0, 1) := by decide +kernel
theorem dX8_isThrough_12 : decode cX8_isThrough 12 = .ok (.aload_n 1, 1) := by decide +kernel
theorem dX8_isThrough_13 : decode cX8_isThrough 13 = .ok (.invokevirtual 52, 3) := by decide +kernel
theorem dX8_isThrough_16 : decode cX8_isThrough 16 = .ok (.ifCond .ne 7, 3) := by decide +kernel
theorem dX8_isThrough_19 : decode cX8_isThrough 19 = .ok (.iconst 1, 1) := by decide +kernel
theorem dX8_isThrough_20 : decode cX8_isThrough 20 = .ok (.goto 4, 3) := by decide +kernel
theorem dX8_isThrough_23 : decode cX8_isThrough 23 = .ok (.iconst 0, 1) := by decide +kernel
theorem dX8_isThrough_24 : decode cX8_isThrough 24 = .ok (.ireturn, 1) := by decide +kernel
theorem dX8_isOver_0 : decode cX8_isOver 0 = .ok (.aload_n 0, 1) := by decide +kernel
theorem dX8_isOver_1 : decode cX8_isOver 1 = .ok (.getfield 15, 3) := by decide +kernel
theorem dX8_isOver_4 : decode cX8_isOver 4 = .ok (.aload_n 1, 1) := by decide +kernel
theorem dX8_isOver_5 : decode cX8_isOver 5 = .ok (.getfield 49, 3) := by decide +kernel
theorem dX8_isOver_8 : decode cX8_isOver 8 = .ok (.if_icmp .ge 11, 3) := by decide +kernel
theorem dX8_isOver_11 : decode cX8_isOver 11 = .ok (.aload_n 0, 1) := by decide +kernel
theorem dX8_isOver_12 : decode cX8_isOver 12 = .ok (.aload_n 1, 1) := by decide +kernel
theorem dX8_isOver_13 : decode cX8_isOver 13 = .ok (.invokevirtual 52, 3) := by decide +kernel
theorem dX8_isOver_16 : decode cX8_isOver 16 = .ok (.ifCond .eq 7, 3) := by decide +kernel
theorem dX8_isOver_19 : decode cX8_isOver 19 = .ok (.iconst 1, 1) := by decide +kernel
theorem dX8_isOver_20 : decode cX8_isOver 20 = .ok (.goto 4, 3) := by decide +kernel
theorem dX8_isOver_23 : decode cX8_isOver 23 = .ok (.iconst 0, 1) := by decide +kernel
theorem dX8_isOver_24 : decode cX8_isOver 24 = .ok (.ireturn, 1) := by decide +kernel
theorem dX8_fellIn_0 : decode cX8_fellIn 0 = .ok (.aload_n 0, 1) := by decide +kernel
theorem dX8_fellIn_1 : decode cX8_fellIn 1 = .ok (.aload_n 1, 1) := by decide +kernel
theorem dX8_fellIn_2 : decode cX8_fellIn 2 = .ok (.invokevirtual 52, 3) := by decide +kernel
theorem dX8_fellIn_5 : decode cX8_fellIn 5 = .ok (.ifCond .eq 10, 3) := by decide +kernel
theorem dX8_fellIn_8 : decode cX8_fellIn 8 = .ok (.aload_n 0, 1) := by decide +kernel
theorem dX8_fellIn_9 : decode cX8_fellIn 9 = .ok (.getfield 15, 3) := by decide +kernel
theorem dX8_fellIn_12 : decode cX8_fellIn 12 = .ok (.goto 4, 3) := by decide +kernel
theorem dX8_fellIn_15 : decode cX8_fellIn 15 = .ok (.iconst (-1), 1) := by decide +kernel
theorem dX8_fellIn_16 : decode cX8_fellIn 16 = .ok (.ireturn, 1) := by decide +kernel
theorem dX8_go_0 : decode cX8_go 0 = .ok (.aload_n 0, 1) := by decide +kernel
theorem dX8_go_1 : decode cX8_go 1 = .ok (.aload_n 1, 1) := by decide +kernel
theorem dX8_go_2 : decode cX8_go 2 = .ok (.aload_n 0, 1) := by decide +kernel
theorem dX8_go_3 : decode cX8_go 3 = .ok (.getfield 15, 3) := by decide +kernel
theorem dX8_go_6 : decode cX8_go 6 = .ok (.iload_n 3, 1) := by decide +kernel
theorem dX8_go_7 : decode cX8_go 7 = .ok (.invokevirtual 56, 3) := by decide +kernel
theorem dX8_go_10 : decode cX8_go 10 = .ok (.putfield 15, 3) := by decide +kernel
theorem dX8_go_13 : decode cX8_go 13 = .ok (.aload_n 0, 1) := by decide +kernel
theorem dX8_go_14 : decode cX8_go 14 = .ok (.aload_n 2, 1) := by decide +kernel
theorem dX8_go_15 : decode cX8_go 15 = .ok (.aload_n 0, 1) := by decide +kernel
theorem dX8_go_16 : decode cX8_go 16 = .ok (.getfield 21, 3) := by decide +kernel
theorem dX8_go_19 : decode cX8_go 19 = .ok (.aload_n 1, 1) := by decide +kernel
theorem dX8_go_20 : decode cX8_go 20 = .ok (.aload_n 0, 1) := by decide +kernel
theorem dX8_go_21 : decode cX8_go 21 = .ok (.getfield 15, 3) := by decide +kernel
theorem dX8_go_24 : decode cX8_go 24 = .ok (.invokevirtual 60, 3) := by decide +kernel
theorem dX8_go_27 : decode cX8_go 27 = .ok (.aload_n 1, 1) := by decide +kernel
theorem dX8_go_28 : decode cX8_go 28 = .ok (.aload_n 0, 1) := by decide +kernel
theorem dX8_go_29 : decode cX8_go 29 = .ok (.getfield 18, 3) := by decide +kernel
theorem dX8_go_32 : decode cX8_go 32 = .ok (.invokevirtual 64, 3) := by decide +kernel
theorem dX8_go_35 : decode cX8_go 35 = .ok (.iload_n 3, 1) := by decide +kernel
theorem dX8_go_36 : decode cX8_go 36 = .ok (.invokevirtual 67, 3) := by decide +kernel
theorem dX8_go_39 : decode cX8_go 39 = .ok (.iload 4, 2) := by decide +kernel
theorem dX8_go_41 : decode cX8_go 41 = .ok (.iadd, 1) := by decide +kernel
theorem dX8_go_42 : decode cX8_go 42 = .ok (.putfield 21, 3) := by decide +kernel
theorem dX8_go_45 : decode cX8_go 45 = .ok (.aload_n 0, 1) := by decide +kernel
theorem dX8_go_46 : decode cX8_go 46 = .ok (.dup, 1) := by decide +kernel
theorem dX8_go_47 : decode cX8_go 47 = .ok (.getfield 18, 3) := by decide +kernel
theorem dX8_go_50 : decode cX8_go 50 = .ok (.iconst 1, 1) := by decide +kernel
theorem dX8_go_51 : decode cX8_go 51 = .ok (.iadd, 1) := by decide +kernel
theorem dX8_go_52 : decode cX8_go 52 = .ok (.putfield 18, 3) := by decide +kernel
theorem dX8_go_55 : decode cX8_go 55 = .ok (.return_, 1) := by decide +kernel
theorem dX8_keep_0 : decode cX8_keep 0 = .ok (.aload_n 0, 1) := by decide +kernel
theorem dX8_keep_1 : decode cX8_keep 1 = .ok (.getfield 24, 3) := by decide +kernel
theorem dX8_keep_4 : decode cX8_keep 4 = .ok (.bipush 8, 2) := by decide +kernel
theorem dX8_keep_6 : decode cX8_keep 6 = .ok (.if_icmp .lt 7, 3) := by decide +kernel
theorem dX8_keep_9 : decode cX8_keep 9 = .ok (.aload_n 0, 1) := by decide +kernel
theorem dX8_keep_10 : decode cX8_keep 10 = .ok (.invokevirtual 73, 3) := by decide +kernel
theorem dX8_keep_13 : decode cX8_keep 13 = .ok (.aload_n 0, 1) := by decide +kernel
theorem dX8_keep_14 : decode cX8_keep 14 = .ok (.getfield 24, 3) := by decide +kernel
theorem dX8_keep_17 : decode cX8_keep 17 = .ok (.iconst 0, 1) := by decide +kernel
theorem dX8_keep_18 : decode cX8_keep 18 = .ok (.bipush 7, 2) := by decide +kernel
theorem dX8_keep_20 : decode cX8_keep 20 = .ok (.invokestatic 76, 3) := by decide +kernel
theorem dX8_keep_23 : decode cX8_keep 23 = .ok (.ifCond .eq 52, 3) := by decide +kernel
theorem dX8_keep_26 : decode cX8_keep 26 = .ok (.aload_n 0, 1) := by decide +kernel
theorem dX8_keep_27 : decode cX8_keep 27 = .ok (.getfield 27, 3) := by decide +kernel
theorem dX8_keep_30 : decode cX8_keep 30 = .ok (.aload_n 0, 1) := by decide +kernel
theorem dX8_keep_31 : decode cX8_keep 31 = .ok (.getfield 24, 3) := by decide +kernel
theorem dX8_keep_34 : decode cX8_keep 34 = .ok (.aload_n 0, 1) := by decide +kernel
theorem dX8_keep_35 : decode cX8_keep 35 = .ok (.getfield 15, 3) := by decide +kernel
theorem dX8_keep_38 : decode cX8_keep 38 = .ok (.iastore, 1) := by decide +kernel
theorem dX8_keep_39 : decode cX8_keep 39 = .ok (.aload_n 0, 1) := by decide +kernel
theorem dX8_keep_40 : decode cX8_keep 40 = .ok (.getfield 31, 3) := by decide +kernel
theorem dX8_keep_43 : decode cX8_keep 43 = .ok (.aload_n 0, 1) := by decide +kernel
theorem dX8_keep_44 : decode cX8_keep 44 = .ok (.getfield 24, 3) := by decide +kernel
theorem dX8_keep_47 : decode cX8_keep 47 = .ok (.aload_n 0, 1) := by decide +kernel
theorem dX8_keep_48 : decode cX8_keep 48 = .ok (.getfield 18, 3) := by decide +kernel
theorem dX8_keep_51 : decode cX8_keep 51 = .ok (.iastore, 1) := by decide +kernel
theorem dX8_keep_52 : decode cX8_keep 52 = .ok (.aload_n 0, 1) := by decide +kernel
theorem dX8_keep_53 : decode cX8_keep 53 = .ok (.getfield 34, 3) := by decide +kernel
theorem dX8_keep_56 : decode cX8_keep 56 = .ok (.aload_n 0, 1) := by decide +kernel
theorem dX8_keep_57 : decode cX8_keep 57 = .ok (.getfield 24, 3) := by decide +kernel
theorem dX8_keep_60 : decode cX8_keep 60 = .ok (.aload_n 0, 1) := by decide +kernel
theorem dX8_keep_61 : decode cX8_keep 61 = .ok (.getfield 21, 3) := by decide +kernel
theorem dX8_keep_64 : decode cX8_keep 64 = .ok (.iastore, 1) := by decide +kernel
theorem dX8_keep_65 : decode cX8_keep 65 = .ok (.aload_n 0, 1) := by decide +kernel
theorem dX8_keep_66 : decode cX8_keep 66 = .ok (.dup, 1) := by decide +kernel
theorem dX8_keep_67 : decode cX8_keep 67 = .ok (.getfield 24, 3) := by decide +kernel
theorem dX8_keep_70 : decode cX8_keep 70 = .ok (.iconst 1, 1) := by decide +kernel
theorem dX8_keep_71 : decode cX8_keep 71 = .ok (.iadd, 1) := by decide +kernel
theorem dX8_keep_72 : decode cX8_keep 72 = .ok (.putfield 24, 3) := by decide +kernel
theorem dX8_keep_75 : decode cX8_keep 75 = .ok (.return_, 1) := by decide +kernel
theorem dX8_dropOldest_0 : decode cX8_dropOldest 0 = .ok (.iconst 1, 1) := by decide +kernel
theorem dX8_dropOldest_1 : decode cX8_dropOldest 1 = .ok (.istore_n 1, 1) := by decide +kernel
theorem dX8_dropOldest_2 : decode cX8_dropOldest 2 = .ok (.iload_n 1, 1) := by decide +kernel
theorem dX8_dropOldest_3 : decode cX8_dropOldest 3 = .ok (.bipush 8, 2) := by decide +kernel
theorem dX8_dropOldest_5 : decode cX8_dropOldest 5 = .ok (.if_icmp .ge 51, 3) := by decide +kernel
theorem dX8_dropOldest_8 : decode cX8_dropOldest 8 = .ok (.aload_n 0, 1) := by decide +kernel
theorem dX8_dropOldest_9 : decode cX8_dropOldest 9 = .ok (.getfield 27, 3) := by decide +kernel
theorem dX8_dropOldest_12 : decode cX8_dropOldest 12 = .ok (.iload_n 1, 1) := by decide +kernel
theorem dX8_dropOldest_13 : decode cX8_dropOldest 13 = .ok (.iconst 1, 1) := by decide +kernel
theorem dX8_dropOldest_14 : decode cX8_dropOldest 14 = .ok (.isub, 1) := by decide +kernel
theorem dX8_dropOldest_15 : decode cX8_dropOldest 15 = .ok (.aload_n 0, 1) := by decide +kernel
theorem dX8_dropOldest_16 : decode cX8_dropOldest 16 = .ok (.getfield 27, 3) := by decide +kernel
theorem dX8_dropOldest_19 : decode cX8_dropOldest 19 = .ok (.iload_n 1, 1) := by decide +kernel
theorem dX8_dropOldest_20 : decode cX8_dropOldest 20 = .ok (.iaload, 1) := by decide +kernel
theorem dX8_dropOldest_21 : decode cX8_dropOldest 21 = .ok (.iastore, 1) := by decide +kernel
theorem dX8_dropOldest_22 : decode cX8_dropOldest 22 = .ok (.aload_n 0, 1) := by decide +kernel
theorem dX8_dropOldest_23 : decode cX8_dropOldest 23 = .ok (.getfield 31, 3) := by decide +kernel
theorem dX8_dropOldest_26 : decode cX8_dropOldest 26 = .ok (.iload_n 1, 1) := by decide +kernel
theorem dX8_dropOldest_27 : decode cX8_dropOldest 27 = .ok (.iconst 1, 1) := by decide +kernel
theorem dX8_dropOldest_28 : decode cX8_dropOldest 28 = .ok (.isub, 1) := by decide +kernel
theorem dX8_dropOldest_29 : decode cX8_dropOldest 29 = .ok (.aload_n 0, 1) := by decide +kernel
theorem dX8_dropOldest_30 : decode cX8_dropOldest 30 = .ok (.getfield 31, 3) := by decide +kernel
theorem dX8_dropOldest_33 : decode cX8_dropOldest 33 = .ok (.iload_n 1, 1) := by decide +kernel
theorem dX8_dropOldest_34 : decode cX8_dropOldest 34 = .ok (.iaload, 1) := by decide +kernel
theorem dX8_dropOldest_35 : decode cX8_dropOldest 35 = .ok (.iastore, 1) := by decide +kernel
theorem dX8_dropOldest_36 : decode cX8_dropOldest 36 = .ok (.aload_n 0, 1) := by decide +kernel
theorem dX8_dropOldest_37 : decode cX8_dropOldest 37 = .ok (.getfield 34, 3) := by decide +kernel
theorem dX8_dropOldest_40 : decode cX8_dropOldest 40 = .ok (.iload_n 1, 1) := by decide +kernel
theorem dX8_dropOldest_41 : decode cX8_dropOldest 41 = .ok (.iconst 1, 1) := by decide +kernel
theorem dX8_dropOldest_42 : decode cX8_dropOldest 42 = .ok (.isub, 1) := by decide +kernel
theorem dX8_dropOldest_43 : decode cX8_dropOldest 43 = .ok (.aload_n 0, 1) := by decide +kernel
theorem dX8_dropOldest_44 : decode cX8_dropOldest 44 = .ok (.getfield 34, 3) := by decide +kernel
theorem dX8_dropOldest_47 : decode cX8_dropOldest 47 = .ok (.iload_n 1, 1) := by decide +kernel
theorem dX8_dropOldest_48 : decode cX8_dropOldest 48 = .ok (.iaload, 1) := by decide +kernel
theorem dX8_dropOldest_49 : decode cX8_dropOldest 49 = .ok (.iastore, 1) := by decide +kernel
theorem dX8_dropOldest_50 : decode cX8_dropOldest 50 = .ok (.iinc 1 1, 3) := by decide +kernel
theorem dX8_dropOldest_53 : decode cX8_dropOldest 53 = .ok (.goto (-51), 3) := by decide +kernel
theorem dX8_dropOldest_56 : decode cX8_dropOldest 56 = .ok (.aload_n 0, 1) := by decide +kernel
theorem dX8_dropOldest_57 : decode cX8_dropOldest 57 = .ok (.bipush 7, 2) := by decide +kernel
theorem dX8_dropOldest_59 : decode cX8_dropOldest 59 = .ok (.putfield 24, 3) := by decide +kernel
theorem dX8_dropOldest_62 : decode cX8_dropOldest 62 = .ok (.return_, 1) := by decide +kernel
theorem dX8_takeBack_0 : decode cX8_takeBack 0 = .ok (.aload_n 0, 1) := by decide +kernel
theorem dX8_takeBack_1 : decode cX8_takeBack 1 = .ok (.getfield 24, 3) := by decide +kernel
theorem dX8_takeBack_4 : decode cX8_takeBack 4 = .ok (.iconst 1, 1) := by decide +kernel
theorem dX8_takeBack_5 : decode cX8_takeBack 5 = .ok (.bipush 8, 2) := by decide +kernel
theorem dX8_takeBack_7 : decode cX8_takeBack 7 = .ok (.invokestatic 76, 3) := by decide +kernel
theorem dX8_takeBack_10 : decode cX8_takeBack 10 = .ok (.ifCond .eq 52, 3) := by decide +kernel
theorem dX8_takeBack_13 : decode cX8_takeBack 13 = .ok (.aload_n 0, 1) := by decide +kernel
theorem dX8_takeBack_14 : decode cX8_takeBack 14 = .ok (.dup, 1) := by decide +kernel
theorem dX8_takeBack_15 : decode cX8_takeBack 15 = .ok (.getfield 24, 3) := by decide +kernel
theorem dX8_takeBack_18 : decode cX8_takeBack 18 = .ok (.iconst 1, 1) := by decide +kernel
theorem dX8_takeBack_19 : decode cX8_takeBack 19 = .ok (.isub, 1) := by decide +kernel
theorem dX8_takeBack_20 : decode cX8_takeBack 20 = .ok (.putfield 24, 3) := by decide +kernel
theorem dX8_takeBack_23 : decode cX8_takeBack 23 = .ok (.aload_n 0, 1) := by decide +kernel
theorem dX8_takeBack_24 : decode cX8_takeBack 24 = .ok (.aload_n 0, 1) := by decide +kernel
theorem dX8_takeBack_25 : decode cX8_takeBack 25 = .ok (.getfield 27, 3) := by decide +kernel
theorem dX8_takeBack_28 : decode cX8_takeBack 28 = .ok (.aload_n 0, 1) := by decide +kernel
theorem dX8_takeBack_29 : decode cX8_takeBack 29 = .ok (.getfield 24, 3) := by decide +kernel
theorem dX8_takeBack_32 : decode cX8_takeBack 32 = .ok (.iaload, 1) := by decide +kernel
theorem dX8_takeBack_33 : decode cX8_takeBack 33 = .ok (.putfield 15, 3) := by decide +kernel
theorem dX8_takeBack_36 : decode cX8_takeBack 36 = .ok (.aload_n 0, 1) := by decide +kernel
theorem dX8_takeBack_37 : decode cX8_takeBack 37 = .ok (.aload_n 0, 1) := by decide +kernel
theorem dX8_takeBack_38 : decode cX8_takeBack 38 = .ok (.getfield 31, 3) := by decide +kernel
theorem dX8_takeBack_41 : decode cX8_takeBack 41 = .ok (.aload_n 0, 1) := by decide +kernel
theorem dX8_takeBack_42 : decode cX8_takeBack 42 = .ok (.getfield 24, 3) := by decide +kernel
theorem dX8_takeBack_45 : decode cX8_takeBack 45 = .ok (.iaload, 1) := by decide +kernel
theorem dX8_takeBack_46 : decode cX8_takeBack 46 = .ok (.putfield 18, 3) := by decide +kernel
theorem dX8_takeBack_49 : decode cX8_takeBack 49 = .ok (.aload_n 0, 1) := by decide +kernel
theorem dX8_takeBack_50 : decode cX8_takeBack 50 = .ok (.aload_n 0, 1) := by decide +kernel
theorem dX8_takeBack_51 : decode cX8_takeBack 51 = .ok (.getfield 34, 3) := by decide +kernel
theorem dX8_takeBack_54 : decode cX8_takeBack 54 = .ok (.aload_n 0, 1) := by decide +kernel
theorem dX8_takeBack_55 : decode cX8_takeBack 55 = .ok (.getfield 24, 3) := by decide +kernel
theorem dX8_takeBack_58 : decode cX8_takeBack 58 = .ok (.iaload, 1) := by decide +kernel
theorem dX8_takeBack_59 : decode cX8_takeBack 59 = .ok (.putfield 21, 3) := by decide +kernel
theorem dX8_takeBack_62 : decode cX8_takeBack 62 = .ok (.return_, 1) := by decide +kernel
theorem dX9_init_0 : decode cX9_init 0 = .ok (.aload_n 0, 1) := by decide +kernel
theorem dX9_init_1 : decode cX9_init 1 = .ok (.invokespecial 3, 3) := by decide +kernel
theorem dX9_init_4 : decode cX9_init 4 = .ok (.aload_n 0, 1) := by decide +kernel
theorem dX9_init_5 : decode cX9_init 5 = .ok (.sipush 2250, 3) := by decide +kernel
theorem dX9_init_8 : decode cX9_init 8 = .ok (.newarray .int, 2) := by decide +kernel
theorem dX9_init_10 : decode cX9_init 10 = .ok (.putfield 11, 3) := by decide +kernel
theorem dX9_init_13 : decode cX9_init 13 = .ok (.aload_n 0, 1) := by decide +kernel
theorem dX9_init_14 : decode cX9_init 14 = .ok (.bipush 25, 2) := by decide +kernel
theorem dX9_init_16 : decode cX9_init 16 = .ok (.newarray .long, 2) := by decide +kernel
theorem dX9_init_18 : decode cX9_init 18 = .ok (.putfield 15, 3) := by decide +kernel
theorem dX9_init_21 : decode cX9_init 21 = .ok (.aload_n 0, 1) := by decide +kernel
theorem dX9_init_22 : decode cX9_init 22 = .ok (.bipush 25, 2) := by decide +kernel
theorem dX9_init_24 : decode cX9_init 24 = .ok (.newarray .long, 2) := by decide +kernel
theorem dX9_init_26 : decode cX9_init 26 = .ok (.putfield 19, 3) := by decide +kernel
theorem dX9_init_29 : decode cX9_init 29 = .ok (.return_, 1) := by decide +kernel
theorem dX9_costFrom_0 : decode cX9_costFrom 0 = .ok (.aload_n 1, 1) := by decide +kernel
theorem dX9_costFrom_1 : decode cX9_costFrom 1 = .ok (.iload 4, 2) := by decide +kernel
theorem dX9_costFrom_3 : decode cX9_costFrom 3 = .ok (.invokevirtual 22, 3) := by decide +kernel
theorem dX9_costFrom_6 : decode cX9_costFrom 6 = .ok (.ifCond .eq 6, 3) := by decide +kernel
theorem dX9_costFrom_9 : decode cX9_costFrom 9 = .ok (.ldc 28, 2) := by decide +kernel
theorem dX9_costFrom_11 : decode cX9_costFrom 11 = .ok (.ireturn, 1) := by decide +kernel
theorem dX9_costFrom_12 : decode cX9_costFrom 12 = .ok (.iload_n 2, 1) := by decide +kernel
theorem dX9_costFrom_13 : decode cX9_costFrom 13 = .ok (.aload_n 1, 1) := by decide +kernel
theorem dX9_costFrom_14 : decode cX9_costFrom 14 = .ok (.getfield 29, 3) := by decide +kernel
theorem dX9_costFrom_17 : decode cX9_costFrom 17 = .ok (.if_icmp .lt 5, 3) := by decide +kernel
theorem dX9_costFrom_20 : decode cX9_costFrom 20 = .ok (.iconst 0, 1) := by decide +kernel
theorem dX9_costFrom_21 : decode cX9_costFrom 21 = .ok (.ireturn, 1) := by decide +kernel
theorem dX9_costFrom_22 : decode cX9_costFrom 22 = .ok (.iload_n 2, 1) := by decide +kernel
theorem dX9_costFrom_23 : decode cX9_costFrom 23 = .ok (.iload_n 3, 1) := by decide +kernel
theorem dX9_costFrom_24 : decode cX9_costFrom 24 = .ok (.iload 4, 2) := by decide +kernel
theorem dX9_costFrom_26 : decode cX9_costFrom 26 = .ok (.invokestatic 33, 3) := by decide +kernel
theorem dX9_costFrom_29 : decode cX9_costFrom 29 = .ok (.istore 5, 2) := by decide +kernel
theorem dX9_costFrom_31 : decode cX9_costFrom 31 = .ok (.iload 5, 2) := by decide +kernel
theorem dX9_costFrom_33 : decode cX9_costFrom 33 = .ok (.iconst 0, 1) := by decide +kernel
theorem dX9_costFrom_34 : decode cX9_costFrom 34 = .ok (.aload_n 0, 1) := by decide +kernel
theorem dX9_costFrom_35 : decode cX9_costFrom 35 = .ok (.getfield 11, 3) := by decide +kernel
theorem dX9_costFrom_38 : decode cX9_costFrom 38 = .ok (.arraylength, 1) := by decide +kernel
theorem dX9_costFrom_39 : decode cX9_costFrom 39 = .ok (.iconst 1, 1) := by decide +kernel
theorem dX9_costFrom_40 : decode cX9_costFrom 40 = .ok (.isub, 1) := by decide +kernel
theorem dX9_costFrom_41 : decode cX9_costFrom 41 = .ok (.invokestatic 37, 3) := by decide +kernel
theorem dX9_costFrom_44 : decode cX9_costFrom 44 = .ok (.ifCond .eq 13, 3) := by decide +kernel
theorem dX9_costFrom_47 : decode cX9_costFrom 47 = .ok (.aload_n 0, 1) := by decide +kernel
theorem dX9_costFrom_48 : decode cX9_costFrom 48 = .ok (.getfield 11, 3) := by decide +kernel
theorem dX9_costFrom_51 : decode cX9_costFrom 51 = .ok (.iload 5, 2) := by decide +kernel
theorem dX9_costFrom_53 : decode cX9_costFrom 53 = .ok (.iaload, 1) := by decide +kernel
theorem dX9_costFrom_54 : decode cX9_costFrom 54 = .ok (.goto 5, 3) := by decide +kernel
theorem dX9_costFrom_57 : decode cX9_costFrom 57 = .ok (.ldc 28, 2) := by decide +kernel
theorem dX9_costFrom_59 : decode cX9_costFrom 59 = .ok (.ireturn, 1) := by decide +kernel
theorem dX9_put_0 : decode cX9_put 0 = .ok (.iload_n 1, 1) := by decide +kernel
theorem dX9_put_1 : decode cX9_put 1 = .ok (.iload_n 2, 1) := by decide +kernel
theorem dX9_put_2 : decode cX9_put 2 = .ok (.iload_n 3, 1) := by decide +kernel
theorem dX9_put_3 : decode cX9_put 3 = .ok (.invokestatic 33, 3) := by decide +kernel
theorem dX9_put_6 : decode cX9_put 6 = .ok (.istore 5, 2) := by decide +kernel
theorem dX9_put_8 : decode cX9_put 8 = .ok (.iload 5, 2) := by decide +kernel
theorem dX9_put_10 : decode cX9_put 10 = .ok (.iconst 0, 1) := by decide +kernel
theorem dX9_put_11 : decode cX9_put 11 = .ok (.aload_n 0, 1) := by decide +kernel
theorem dX9_put_12 : decode cX9_put 12 = .ok (.getfield 11, 3) := by decide +kernel
theorem dX9_put_15 : decode cX9_put 15 = .ok (.arraylength, 1) := by decide +kernel
theorem dX9_put_16 : decode cX9_put 16 = .ok (.iconst 1, 1) := by decide +kernel
theorem dX9_put_17 : decode cX9_put 17 = .ok (.isub, 1) := by decide +kernel
theorem dX9_put_18 : decode cX9_put 18 = .ok (.invokestatic 37, 3) := by decide +kernel
theorem dX9_put_21 : decode cX9_put 21 = .ok (.ifCond .eq 12, 3) := by decide +kernel
theorem dX9_put_24 : decode cX9_put 24 = .ok (.aload_n 0, 1) := by decide +kernel
theorem dX9_put_25 : decode cX9_put 25 = .ok (.getfield 11, 3) := by decide +kernel
theorem dX9_put_28 : decode cX9_put 28 = .ok (.iload 5, 2) := by decide +kernel
theorem dX9_put_30 : decode cX9_put 30 = .ok (.iload 4, 2) := by decide +kernel
theorem dX9_put_32 : decode cX9_put 32 = .ok (.iastore, 1) := by decide +kernel
theorem dX9_put_33 : decode cX9_put 33 = .ok (.return_, 1) := by decide +kernel
theorem dX9_placeOf_0 : decode cX9_placeOf 0 = .ok (.iload_n 0, 1) := by decide +kernel
theorem dX9_placeOf_1 : decode cX9_placeOf 1 = .ok (.bipush 6, 2) := by decide +kernel
theorem dX9_placeOf_3 : decode cX9_placeOf 3 = .ok (.imul, 1) := by decide +kernel
theorem dX9_placeOf_4 : decode cX9_placeOf 4 = .ok (.iload_n 1, 1) := by decide +kernel
theorem dX9_placeOf_5 : decode cX9_placeOf 5 = .ok (.bipush 6, 2) := by decide +kernel
theorem dX9_placeOf_7 : decode cX9_placeOf 7 = .ok (.invokestatic 41, 3) := by decide +kernel
theorem dX9_placeOf_10 : decode cX9_placeOf 10 = .ok (.iadd, 1) := by decide +kernel
theorem dX9_placeOf_11 : decode cX9_placeOf 11 = .ok (.bipush 25, 2) := by decide +kernel
theorem dX9_placeOf_13 : decode cX9_placeOf 13 = .ok (.imul, 1) := by decide +kernel
theorem dX9_placeOf_14 : decode cX9_placeOf 14 = .ok (.iload_n 2, 1) := by decide +kernel
theorem dX9_placeOf_15 : decode cX9_placeOf 15 = .ok (.iadd, 1) := by decide +kernel
theorem dX9_placeOf_16 : decode cX9_placeOf 16 = .ok (.bipush 12, 2) := by decide +kernel
theorem dX9_placeOf_18 : decode cX9_placeOf 18 = .ok (.iadd, 1) := by decide +kernel
theorem dX9_placeOf_19 : decode cX9_placeOf 19 = .ok (.ireturn, 1) := by decide +kernel
theorem dX9_fillSure_0 : decode cX9_fillSure 0 = .ok (.aload_n 1, 1) := by decide +kernel
theorem dX9_fillSure_1 : decode cX9_fillSure 1 = .ok (.getfield 29, 3) := by decide +kernel
theorem dX9_fillSure_4 : decode cX9_fillSure 4 = .ok (.iconst 1, 1) := by decide +kernel
theorem dX9_fillSure_5 : decode cX9_fillSure 5 = .ok (.isub, 1) := by decide +kernel
theorem dX9_fillSure_6 : decode cX9_fillSure 6 = .ok (.istore 4, 2) := by decide +kernel
theorem dX9_fillSure_8 : decode cX9_fillSure 8 = .ok (.iload 4, 2) := by decide +kernel
theorem dX9_fillSure_10 : decode cX9_fillSure 10 = .ok (.ifCond .lt 100, 3) := by decide +kernel
theorem dX9_fillSure_13 : decode cX9_fillSure 13 = .ok (.iconst 0, 1) := by decide +kernel
theorem dX9_fillSure_14 : decode cX9_fillSure 14 = .ok (.istore 5, 2) := by decide +kernel
theorem dX9_fillSure_16 : decode cX9_fillSure 16 = .ok (.iload 5, 2) := by decide +kernel
theorem dX9_fillSure_18 : decode cX9_fillSure 18 = .ok (.bipush 6, 2) := by decide +kernel
theorem dX9_fillSure_20 : decode cX9_fillSure 20 = .ok (.if_icmp .ge 84, 3) := by decide +kernel
theorem dX9_fillSure_23 : decode cX9_fillSure 23 = .ok (.aload_n 1, 1) := by decide +kernel
theorem dX9_fillSure_24 : decode cX9_fillSure 24 = .ok (.getfield 47, 3) := by decide +kernel
theorem dX9_fillSure_27 : decode cX9_fillSure 27 = .ok (.ineg, 1) := by decide +kernel
theorem dX9_fillSure_28 : decode cX9_fillSure 28 = .ok (.istore 6, 2) := by decide +kernel
theorem dX9_fillSure_30 : decode cX9_fillSure 30 = .ok (.iload 6, 2) := by decide +kernel
theorem dX9_fillSure_32 : decode cX9_fillSure 32 = .ok (.aload_n 1, 1) := by decide +kernel
theorem dX9_fillSure_33 : decode cX9_fillSure 33 = .ok (.getfield 47, 3) := by decide +kernel
theorem dX9_fillSure_36 : decode cX9_fillSure 36 = .ok (.if_icmp .gt 62, 3) := by decide +kernel
theorem dX9_fillSure_39 : decode cX9_fillSure 39 = .ok (.ldc 28, 2) := by decide +kernel
theorem dX9_fillSure_41 : decode cX9_fillSure 41 = .ok (.istore 7, 2) := by decide +kernel
theorem dX9_fillSure_43 : decode cX9_fillSure 43 = .ok (.iconst 1, 1) := by decide +kernel
theorem dX9_fillSure_44 : decode cX9_fillSure 44 = .ok (.istore 8, 2) := by decide +kernel
theorem dX9_fillSure_46 : decode cX9_fillSure 46 = .ok (.iload 8, 2) := by decide +kernel
theorem dX9_fillSure_48 : decode cX9_fillSure 48 = .ok (.iconst 3, 1) := by decide +kernel
theorem dX9_fillSure_49 : decode cX9_fillSure 49 = .ok (.if_icmp .gt 31, 3) := by decide +kernel
theorem dX9_fillSure_52 : decode cX9_fillSure 52 = .ok (.iload 7, 2) := by decide +kernel
theorem dX9_fillSure_54 : decode cX9_fillSure 54 = .ok (.aload_n 0, 1) := by decide +kernel
theorem dX9_fillSure_55 : decode cX9_fillSure 55 = .ok (.aload_n 1, 1) := by decide +kernel
theorem dX9_fillSure_56 : decode cX9_fillSure 56 = .ok (.aload_n 2, 1) := by decide +kernel
theorem dX9_fillSure_57 : decode cX9_fillSure 57 = .ok (.iload 4, 2) := by decide +kernel
theorem dX9_fillSure_59 : decode cX9_fillSure 59 = .ok (.iload 5, 2) := by decide +kernel
theorem dX9_fillSure_61 : decode cX9_fillSure 61 = .ok (.iload 6, 2) := by decide +kernel
theorem dX9_fillSure_63 : decode cX9_fillSure 63 = .ok (.iload 8, 2) := by decide +kernel
theorem dX9_fillSure_65 : decode cX9_fillSure 65 = .ok (.iload_n 3, 1) := by decide +kernel
theorem dX9_fillSure_66 : decode cX9_fillSure 66 = .ok (.invokevirtual 50, 3) := by decide +kernel
theorem dX9_fillSure_69 : decode cX9_fillSure 69 = .ok (.invokestatic 54, 3) := by decide +kernel
theorem dX9_fillSure_72 : decode cX9_fillSure 72 = .ok (.istore 7, 2) := by decide +kernel
theorem dX9_fillSure_74 : decode cX9_fillSure 74 = .ok (.iinc 8 1, 3) := by decide +kernel
theorem dX9_fillSure_77 : decode cX9_fillSure 77 = .ok (.goto (-31), 3) := by decide +kernel
theorem dX9_fillSure_80 : decode cX9_fillSure 80 = .ok (.aload_n 0, 1) := by decide +kernel
theorem dX9_fillSure_81 : decode cX9_fillSure 81 = .ok (.iload 4, 2) := by decide +kernel
theorem dX9_fillSure_83 : decode cX9_fillSure 83 = .ok (.iload 5, 2) := by decide +kernel
theorem dX9_fillSure_85 : decode cX9_fillSure 85 = .ok (.iload 6, 2) := by decide +kernel
theorem dX9_fillSure_87 : decode cX9_fillSure 87 = .ok (.iload 7, 2) := by decide +kernel
theorem dX9_fillSure_89 : decode cX9_fillSure 89 = .ok (.invokevirtual 57, 3) := by decide +kernel
theorem dX9_fillSure_92 : decode cX9_fillSure 92 = .ok (.iinc 6 1, 3) := by decide +kernel
theorem dX9_fillSure_95 : decode cX9_fillSure 95 = .ok (.goto (-65), 3) := by decide +kernel
theorem dX9_fillSure_98 : decode cX9_fillSure 98 = .ok (.iinc 5 1, 3) := by decide +kernel
theorem dX9_fillSure_101 : decode cX9_fillSure 101 = .ok (.goto (-85), 3) := by decide +kernel
theorem dX9_fillSure_104 : decode cX9_fillSure 104 = .ok (.iinc 4 (-1), 3) := by decide +kernel
theorem dX9_fillSure_107 : decode cX9_fillSure 107 = .ok (.goto (-99), 3) := by decide +kernel
theorem dX9_fillSure_110 : decode cX9_fillSure 110 = .ok (.return_, 1) := by decide +kernel
theorem dX9_worst_0 : decode cX9_worst 0 = .ok (.aload_n 1, 1) := by decide +kernel
theorem dX9_worst_1 : decode cX9_worst 1 = .ok (.iload_n 3, 1) := by decide +kernel
theorem dX9_worst_2 : decode cX9_worst 2 = .ok (.iload 6, 2) := by decide +kernel
theorem dX9_worst_4 : decode cX9_worst 4 = .ok (.invokevirtual 61, 3) := by decide +kernel
theorem dX9_worst_7 : decode cX9_worst 7 = .ok (.istore 8, 2) := by decide +kernel
theorem dX9_worst_9 : decode cX9_worst 9 = .ok (.aload_n 2, 1) := by decide +kernel
theorem dX9_worst_10 : decode cX9_worst 10 = .ok (.iload 5, 2) := by decide +kernel
theorem dX9_worst_12 : decode cX9_worst 12 = .ok (.aload_n 1, 1) := by decide +kernel
theorem dX9_worst_13 : decode cX9_worst 13 = .ok (.iload 8, 2) := by decide +kernel
theorem dX9_worst_15 : decode cX9_worst 15 = .ok (.invokevirtual 64, 3) := by decide +kernel
theorem dX9_worst_18 : decode cX9_worst 18 = .ok (.aload_n 1, 1) := by decide +kernel
theorem dX9_worst_19 : decode cX9_worst 19 = .ok (.iload 4, 2) := by decide +kernel
theorem dX9_worst_21 : decode cX9_worst 21 = .ok (.invokevirtual 68, 3) := by decide +kernel
theorem dX9_worst_24 : decode cX9_worst 24 = .ok (.iload 6, 2) := by decide +kernel
theorem dX9_worst_26 : decode cX9_worst 26 = .ok (.invokevirtual 71, 3) := by decide +kernel
theorem dX9_worst_29 : decode cX9_worst 29 = .ok (.istore 9, 2) := by decide +kernel
theorem dX9_worst_31 : decode cX9_worst 31 = .ok (.aload_n 0, 1) := by decide +kernel
theorem dX9_worst_32 : decode cX9_worst 32 = .ok (.aload_n 1, 1) := by decide +kernel
theorem dX9_worst_33 : decode cX9_worst 33 = .ok (.iload 8, 2) := by decide +kernel
theorem dX9_worst_35 : decode cX9_worst 35 = .ok (.iload 4, 2) := by decide +kernel
theorem dX9_worst_37 : decode cX9_worst 37 = .ok (.iconst 1, 1) := by decide +kernel
theorem dX9_worst_38 : decode cX9_worst 38 = .ok (.iadd, 1) := by decide +kernel
theorem dX9_worst_39 : decode cX9_worst 39 = .ok (.iload 9, 2) := by decide +kernel
theorem dX9_worst_41 : decode cX9_worst 41 = .ok (.invokevirtual 77, 3) := by decide +kernel
theorem dX9_worst_44 : decode cX9_worst 44 = .ok (.istore 10, 2) := by decide +kernel
theorem dX9_worst_46 : decode cX9_worst 46 = .ok (.iload 7, 2) := by decide +kernel
theorem dX9_worst_48 : decode cX9_worst 48 = .ok (.ifCond .eq 49, 3) := by decide +kernel
theorem dX9_worst_51 : decode cX9_worst 51 = .ok (.iload 10, 2) := by decide +kernel
theorem dX9_worst_53 : decode cX9_worst 53 = .ok (.aload_n 0, 1) := by decide +kernel
theorem dX9_worst_54 : decode cX9_worst 54 = .ok (.aload_n 1, 1) := by decide +kernel
theorem dX9_worst_55 : decode cX9_worst 55 = .ok (.iload 8, 2) := by decide +kernel
theorem dX9_worst_57 : decode cX9_worst 57 = .ok (.iload 4, 2) := by decide +kernel
theorem dX9_worst_59 : decode cX9_worst 59 = .ok (.iconst 1, 1) := by decide +kernel
theorem dX9_worst_60 : decode cX9_worst 60 = .ok (.iadd, 1) := by decide +kernel
theorem dX9_worst_61 : decode cX9_worst 61 = .ok (.iload 9, 2) := by decide +kernel
theorem dX9_worst_63 : decode cX9_worst 63 = .ok (.iload 7, 2) := by decide +kernel
theorem dX9_worst_65 : decode cX9_worst 65 = .ok (.isub, 1) := by decide +kernel
theorem dX9_worst_66 : decode cX9_worst 66 = .ok (.invokevirtual 77, 3) := by decide +kernel
theorem dX9_worst_69 : decode cX9_worst 69 = .ok (.invokestatic 81, 3) := by decide +kernel
theorem dX9_worst_72 : decode cX9_worst 72 = .ok (.istore 10, 2) := by decide +kernel
theorem dX9_worst_74 : decode cX9_worst 74 = .ok (.iload 10, 2) := by decide +kernel
theorem dX9_worst_76 : decode cX9_worst 76 = .ok (.aload_n 0, 1) := by decide +kernel
theorem dX9_worst_77 : decode cX9_worst 77 = .ok (.aload_n 1, 1) := by decide +kernel
theorem dX9_worst_78 : decode cX9_worst 78 = .ok (.iload 8, 2) := by decide +kernel
theorem dX9_worst_80 : decode cX9_worst 80 = .ok (.iload 4, 2) := by decide +kernel
theorem dX9_worst_82 : decode cX9_worst 82 = .ok (.iconst 1, 1) := by decide +kernel
theorem dX9_worst_83 : decode cX9_worst 83 = .ok (.iadd, 1) := by decide +kernel
theorem dX9_worst_84 : decode cX9_worst 84 = .ok (.iload 9, 2) := by decide +kernel
theorem dX9_worst_86 : decode cX9_worst 86 = .ok (.iload 7, 2) := by decide +kernel
theorem dX9_worst_88 : decode cX9_worst 88 = .ok (.iadd, 1) := by decide +kernel
theorem dX9_worst_89 : decode cX9_worst 89 = .ok (.invokevirtual 77, 3) := by decide +kernel
theorem dX9_worst_92 : decode cX9_worst 92 = .ok (.invokestatic 81, 3) := by decide +kernel
theorem dX9_worst_95 : decode cX9_worst 95 = .ok (.istore 10, 2) := by decide +kernel
theorem dX9_worst_97 : decode cX9_worst 97 = .ok (.iload 10, 2) := by decide +kernel
theorem dX9_worst_99 : decode cX9_worst 99 = .ok (.iconst 1, 1) := by decide +kernel
theorem dX9_worst_100 : decode cX9_worst 100 = .ok (.iadd, 1) := by decide +kernel
theorem dX9_worst_101 : decode cX9_worst 101 = .ok (.ireturn, 1) := by decide +kernel
theorem dX9_leastBestPace_0 : decode cX9_leastBestPace 0 = .ok (.aload_n 0, 1) := by decide +kernel
theorem dX9_leastBestPace_1 : decode cX9_leastBestPace 1 = .ok (.aload_n 1, 1) := by decide +kernel
theorem dX9_leastBestPace_2 : decode cX9_leastBestPace 2 = .ok (.iload_n 3, 1) := by decide +kernel
theorem dX9_leastBestPace_3 : decode cX9_leastBestPace 3 = .ok (.iload 4, 2) := by decide +kernel
theorem dX9_leastBestPace_5 : decode cX9_leastBestPace 5 = .ok (.iload 5, 2) := by decide +kernel
theorem dX9_leastBestPace_7 : decode cX9_leastBestPace 7 = .ok (.invokevirtual 77, 3) := by decide +kernel
theorem dX9_leastBestPace_10 : decode cX9_leastBestPace 10 = .ok (.istore 6, 2) := by decide +kernel
theorem dX9_leastBestPace_12 : decode cX9_leastBestPace 12 = .ok (.iconst 1, 1) := by decide +kernel
theorem dX9_leastBestPace_13 : decode cX9_leastBestPace 13 = .ok (.istore 7, 2) := by decide +kernel
theorem dX9_leastBestPace_15 : decode cX9_leastBestPace 15 = .ok (.iload 7, 2) := by decide +kernel
theorem dX9_leastBestPace_17 : decode cX9_leastBestPace 17 = .ok (.iconst 3, 1) := by decide +kernel
theorem dX9_leastBestPace_18 : decode cX9_leastBestPace 18 = .ok (.if_icmp .ge 31, 3) := by decide +kernel
theorem dX9_leastBestPace_21 : decode cX9_leastBestPace 21 = .ok (.aload_n 0, 1) := by decide +kernel
theorem dX9_leastBestPace_22 : decode cX9_leastBestPace 22 = .ok (.aload_n 1, 1) := by decide +kernel
theorem dX9_leastBestPace_23 : decode cX9_leastBestPace 23 = .ok (.aload_n 2, 1) := by decide +kernel
theorem dX9_leastBestPace_24 : decode cX9_leastBestPace 24 = .ok (.iload_n 3, 1) := by decide +kernel
theorem dX9_leastBestPace_25 : decode cX9_leastBestPace 25 = .ok (.iload 4, 2) := by decide +kernel
theorem dX9_leastBestPace_27 : decode cX9_leastBestPace 27 = .ok (.iload 5, 2) := by decide +kernel
theorem dX9_leastBestPace_29 : decode cX9_leastBestPace 29 = .ok (.iload 7, 2) := by decide +kernel
theorem dX9_leastBestPace_31 : decode cX9_leastBestPace 31 = .ok (.iconst 0, 1) := by decide +kernel
theorem dX9_leastBestPace_32 : decode cX9_leastBestPace 32 = .ok (.invokevirtual 50, 3) := by decide +kernel
theorem dX9_leastBestPace_35 : decode cX9_leastBestPace 35 = .ok (.iload 6, 2) := by decide +kernel
theorem dX9_leastBestPace_37 : decode cX9_leastBestPace 37 = .ok (.if_icmp .ne 6, 3) := by decide +kernel
theorem dX9_leastBestPace_40 : decode cX9_leastBestPace 40 = .ok (.iload 7, 2) := by decide +kernel
theorem dX9_leastBestPace_42 : decode cX9_leastBestPace 42 = .ok (.ireturn, 1) := by decide +kernel
theorem dX9_leastBestPace_43 : decode cX9_leastBestPace 43 = .ok (.iinc 7 1, 3) := by decide +kernel
theorem dX9_leastBestPace_46 : decode cX9_leastBestPace 46 = .ok (.goto (-31), 3) := by decide +kernel
theorem dX9_leastBestPace_49 : decode cX9_leastBestPace 49 = .ok (.iconst 3, 1) := by decide +kernel
theorem dX9_leastBestPace_50 : decode cX9_leastBestPace 50 = .ok (.ireturn, 1) := by decide +kernel
theorem dX9_fillFlat_0 : decode cX9_fillFlat 0 = .ok (.aload_n 1, 1) := by decide +kernel
theorem dX9_fillFlat_1 : decode cX9_fillFlat 1 = .ok (.getfield 29, 3) := by decide +kernel
theorem dX9_fillFlat_4 : decode cX9_fillFlat 4 = .ok (.iconst 1, 1) := by decide +kernel
theorem dX9_fillFlat_5 : decode cX9_fillFlat 5 = .ok (.isub, 1) := by decide +kernel
theorem dX9_fillFlat_6 : decode cX9_fillFlat 6 = .ok (.istore_n 3, 1) := by decide +kernel
theorem dX9_fillFlat_7 : decode cX9_fillFlat 7 = .ok (.iload_n 3, 1) := by decide +kernel
theorem dX9_fillFlat_8 : decode cX9_fillFlat 8 = .ok (.ifCond .lt 97, 3) := by decide +kernel
theorem dX9_fillFlat_11 : decode cX9_fillFlat 11 = .ok (.iconst 0, 1) := by decide +kernel
theorem dX9_fillFlat_12 : decode cX9_fillFlat 12 = .ok (.istore 4, 2) := by decide +kernel
theorem dX9_fillFlat_14 : decode cX9_fillFlat 14 = .ok (.iload 4, 2) := by decide +kernel
theorem dX9_fillFlat_16 : decode cX9_fillFlat 16 = .ok (.bipush 6, 2) := by decide +kernel
theorem dX9_fillFlat_18 : decode cX9_fillFlat 18 = .ok (.if_icmp .ge 81, 3) := by decide +kernel
theorem dX9_fillFlat_21 : decode cX9_fillFlat 21 = .ok (.aload_n 1, 1) := by decide +kernel
theorem dX9_fillFlat_22 : decode cX9_fillFlat 22 = .ok (.getfield 47, 3) := by decide +kernel
theorem dX9_fillFlat_25 : decode cX9_fillFlat 25 = .ok (.ineg, 1) := by decide +kernel
theorem dX9_fillFlat_26 : decode cX9_fillFlat 26 = .ok (.istore 5, 2) := by decide +kernel
theorem dX9_fillFlat_28 : decode cX9_fillFlat 28 = .ok (.iload 5, 2) := by decide +kernel
theorem dX9_fillFlat_30 : decode cX9_fillFlat 30 = .ok (.aload_n 1, 1) := by decide +kernel
theorem dX9_fillFlat_31 : decode cX9_fillFlat 31 = .ok (.getfield 47, 3) := by decide +kernel
theorem dX9_fillFlat_34 : decode cX9_fillFlat 34 = .ok (.if_icmp .gt 59, 3) := by decide +kernel
theorem dX9_fillFlat_37 : decode cX9_fillFlat 37 = .ok (.ldc 28, 2) := by decide +kernel
theorem dX9_fillFlat_39 : decode cX9_fillFlat 39 = .ok (.istore 6, 2) := by decide +kernel
theorem dX9_fillFlat_41 : decode cX9_fillFlat 41 = .ok (.iconst 1, 1) := by decide +kernel
theorem dX9_fillFlat_42 : decode cX9_fillFlat 42 = .ok (.istore 7, 2) := by decide +kernel
theorem dX9_fillFlat_44 : decode cX9_fillFlat 44 = .ok (.iload 7, 2) := by decide +kernel
theorem dX9_fillFlat_46 : decode cX9_fillFlat 46 = .ok (.iconst 3, 1) := by decide +kernel
theorem dX9_fillFlat_47 : decode cX9_fillFlat 47 = .ok (.if_icmp .gt 29, 3) := by decide +kernel
theorem dX9_fillFlat_50 : decode cX9_fillFlat 50 = .ok (.iload 6, 2) := by decide +kernel
theorem dX9_fillFlat_52 : decode cX9_fillFlat 52 = .ok (.aload_n 0, 1) := by decide +kernel
theorem dX9_fillFlat_53 : decode cX9_fillFlat 53 = .ok (.aload_n 1, 1) := by decide +kernel
theorem dX9_fillFlat_54 : decode cX9_fillFlat 54 = .ok (.aload_n 2, 1) := by decide +kernel
theorem dX9_fillFlat_55 : decode cX9_fillFlat 55 = .ok (.iload_n 3, 1) := by decide +kernel
theorem dX9_fillFlat_56 : decode cX9_fillFlat 56 = .ok (.iload 4, 2) := by decide +kernel
theorem dX9_fillFlat_58 : decode cX9_fillFlat 58 = .ok (.iload 5, 2) := by decide +kernel
theorem dX9_fillFlat_60 : decode cX9_fillFlat 60 = .ok (.iload 7, 2) := by decide +kernel
theorem dX9_fillFlat_62 : decode cX9_fillFlat 62 = .ok (.invokevirtual 84, 3) := by decide +kernel
theorem dX9_fillFlat_65 : decode cX9_fillFlat 65 = .ok (.invokestatic 54, 3) := by decide +kernel
theorem dX9_fillFlat_68 : decode cX9_fillFlat 68 = .ok (.istore 6, 2) := by decide +kernel
theorem dX9_fillFlat_70 : decode cX9_fillFlat 70 = .ok (.iinc 7 1, 3) := by decide +kernel
theorem dX9_fillFlat_73 : decode cX9_fillFlat 73 = .ok (.goto (-29), 3) := by decide +kernel
theorem dX9_fillFlat_76 : decode cX9_fillFlat 76 = .ok (.aload_n 0, 1) := by decide +kernel
theorem dX9_fillFlat_77 : decode cX9_fillFlat 77 = .ok (.iload_n 3, 1) := by decide +kernel
theorem dX9_fillFlat_78 : decode cX9_fillFlat 78 = .ok (.iload 4, 2) := by decide +kernel
theorem dX9_fillFlat_80 : decode cX9_fillFlat 80 = .ok (.iload 5, 2) := by decide +kernel
theorem dX9_fillFlat_82 : decode cX9_fillFlat 82 = .ok (.iload 6, 2) := by decide +kernel
theorem dX9_fillFlat_84 : decode cX9_fillFlat 84 = .ok (.invokevirtual 57, 3) := by decide +kernel
theorem dX9_fillFlat_87 : decode cX9_fillFlat 87 = .ok (.iinc 5 1, 3) := by decide +kernel
theorem dX9_fillFlat_90 : decode cX9_fillFlat 90 = .ok (.goto (-62), 3) := by decide +kernel
theorem dX9_fillFlat_93 : decode cX9_fillFlat 93 = .ok (.iinc 4 1, 3) := by decide +kernel
theorem dX9_fillFlat_96 : decode cX9_fillFlat 96 = .ok (.goto (-82), 3) := by decide +kernel
theorem dX9_fillFlat_99 : decode cX9_fillFlat 99 = .ok (.iinc 3 (-1), 3) := by decide +kernel
theorem dX9_fillFlat_102 : decode cX9_fillFlat 102 = .ok (.goto (-95), 3) := by decide +kernel
theorem dX9_fillFlat_105 : decode cX9_fillFlat 105 = .ok (.return_, 1) := by decide +kernel
theorem dX9_fewestFlat_0 : decode cX9_fewestFlat 0 = .ok (.aload_n 1, 1) := by decide +kernel
theorem dX9_fewestFlat_1 : decode cX9_fewestFlat 1 = .ok (.iload_n 3, 1) := by decide +kernel
theorem dX9_fewestFlat_2 : decode cX9_fewestFlat 2 = .ok (.iload 6, 2) := by decide +kernel
theorem dX9_fewestFlat_4 : decode cX9_fewestFlat 4 = .ok (.invokevirtual 61, 3) := by decide +kernel
theorem dX9_fewestFlat_7 : decode cX9_fewestFlat 7 = .ok (.istore 7, 2) := by decide +kernel
theorem dX9_fewestFlat_9 : decode cX9_fewestFlat 9 = .ok (.aload_n 1, 1) := by decide +kernel
theorem dX9_fewestFlat_10 : decode cX9_fewestFlat 10 = .ok (.iload 4, 2) := by decide +kernel
theorem dX9_fewestFlat_12 : decode cX9_fewestFlat 12 = .ok (.invokevirtual 68, 3) := by decide +kernel
theorem dX9_fewestFlat_15 : decode cX9_fewestFlat 15 = .ok (.istore 8, 2) := by decide +kernel
theorem dX9_fewestFlat_17 : decode cX9_fewestFlat 17 = .ok (.aload_n 2, 1) := by decide +kernel
theorem dX9_fewestFlat_18 : decode cX9_fewestFlat 18 = .ok (.iload 5, 2) := by decide +kernel
theorem dX9_fewestFlat_20 : decode cX9_fewestFlat 20 = .ok (.aload_n 1, 1) := by decide +kernel
theorem dX9_fewestFlat_21 : decode cX9_fewestFlat 21 = .ok (.iload 7, 2) := by decide +kernel
theorem dX9_fewestFlat_23 : decode cX9_fewestFlat 23 = .ok (.invokevirtual 64, 3) := by decide +kernel
theorem dX9_fewestFlat_26 : decode cX9_fewestFlat 26 = .ok (.iload 8, 2) := by decide +kernel
theorem dX9_fewestFlat_28 : decode cX9_fewestFlat 28 = .ok (.iload 6, 2) := by decide +kernel
theorem dX9_fewestFlat_30 : decode cX9_fewestFlat 30 = .ok (.invokevirtual 71, 3) := by decide +kernel
theorem dX9_fewestFlat_33 : decode cX9_fewestFlat 33 = .ok (.istore 9, 2) := by decide +kernel
theorem dX9_fewestFlat_35 : decode cX9_fewestFlat 35 = .ok (.aload_n 2, 1) := by decide +kernel
theorem dX9_fewestFlat_36 : decode cX9_fewestFlat 36 = .ok (.iload 5, 2) := by decide +kernel
theorem dX9_fewestFlat_38 : decode cX9_fewestFlat 38 = .ok (.iconst 0, 1) := by decide +kernel
theorem dX9_fewestFlat_39 : decode cX9_fewestFlat 39 = .ok (.iload 8, 2) := by decide +kernel
theorem dX9_fewestFlat_41 : decode cX9_fewestFlat 41 = .ok (.iload 6, 2) := by decide +kernel
theorem dX9_fewestFlat_43 : decode cX9_fewestFlat 43 = .ok (.invokevirtual 71, 3) := by decide +kernel
theorem dX9_fewestFlat_46 : decode cX9_fewestFlat 46 = .ok (.istore 10, 2) := by decide +kernel
theorem dX9_fewestFlat_48 : decode cX9_fewestFlat 48 = .ok (.ldc 88, 2) := by decide +kernel
theorem dX9_fewestFlat_50 : decode cX9_fewestFlat 50 = .ok (.iconst 1, 1) := by decide +kernel
theorem dX9_fewestFlat_51 : decode cX9_fewestFlat 51 = .ok (.iload 7, 2) := by decide +kernel
theorem dX9_fewestFlat_53 : decode cX9_fewestFlat 53 = .ok (.ishl, 1) := by decide +kernel
theorem dX9_fewestFlat_54 : decode cX9_fewestFlat 54 = .ok (.iadd, 1) := by decide +kernel
theorem dX9_fewestFlat_55 : decode cX9_fewestFlat 55 = .ok (.istore 11, 2) := by decide +kernel
theorem dX9_fewestFlat_57 : decode cX9_fewestFlat 57 = .ok (.aload_n 0, 1) := by decide +kernel
theorem dX9_fewestFlat_58 : decode cX9_fewestFlat 58 = .ok (.aload_n 1, 1) := by decide +kernel
theorem dX9_fewestFlat_59 : decode cX9_fewestFlat 59 = .ok (.iload 7, 2) := by decide +kernel
theorem dX9_fewestFlat_61 : decode cX9_fewestFlat 61 = .ok (.iload 4, 2) := by decide +kernel
theorem dX9_fewestFlat_63 : decode cX9_fewestFlat 63 = .ok (.iconst 1, 1) := by decide +kernel
theorem dX9_fewestFlat_64 : decode cX9_fewestFlat 64 = .ok (.iadd, 1) := by decide +kernel
theorem dX9_fewestFlat_65 : decode cX9_fewestFlat 65 = .ok (.iload 9, 2) := by decide +kernel
theorem dX9_fewestFlat_67 : decode cX9_fewestFlat 67 = .ok (.invokevirtual 77, 3) := by decide +kernel
theorem dX9_fewestFlat_70 : decode cX9_fewestFlat 70 = .ok (.iload 11, 2) := by decide +kernel
theorem dX9_fewestFlat_72 : decode cX9_fewestFlat 72 = .ok (.aload_n 0, 1) := by decide +kernel
theorem dX9_fewestFlat_73 : decode cX9_fewestFlat 73 = .ok (.aload_n 1, 1) := by decide +kernel
theorem dX9_fewestFlat_74 : decode cX9_fewestFlat 74 = .ok (.iload 7, 2) := by decide +kernel
theorem dX9_fewestFlat_76 : decode cX9_fewestFlat 76 = .ok (.iload 4, 2) := by decide +kernel
theorem dX9_fewestFlat_78 : decode cX9_fewestFlat 78 = .ok (.iconst 1, 1) := by decide +kernel
theorem dX9_fewestFlat_79 : decode cX9_fewestFlat 79 = .ok (.iadd, 1) := by decide +kernel
theorem dX9_fewestFlat_80 : decode cX9_fewestFlat 80 = .ok (.iload 10, 2) := by decide +kernel
theorem dX9_fewestFlat_82 : decode cX9_fewestFlat 82 = .ok (.invokevirtual 77, 3) := by decide +kernel
theorem dX9_fewestFlat_85 : decode cX9_fewestFlat 85 = .ok (.iadd, 1) := by decide +kernel
theorem dX9_fewestFlat_86 : decode cX9_fewestFlat 86 = .ok (.invokestatic 54, 3) := by decide +kernel
theorem dX9_fewestFlat_89 : decode cX9_fewestFlat 89 = .ok (.ireturn, 1) := by decide +kernel
theorem dX9_through_0 : decode cX9_through 0 = .ok (.iconst 0, 1) := by decide +kernel
theorem dX9_through_1 : decode cX9_through 1 = .ok (.istore 6, 2) := by decide +kernel
theorem dX9_through_3 : decode cX9_through 3 = .ok (.iload 6, 2) := by decide +kernel
theorem dX9_through_5 : decode cX9_through 5 = .ok (.bipush 25, 2) := by decide +kernel
theorem dX9_through_7 : decode cX9_through 7 = .ok (.if_icmp .ge 17, 3) := by decide +kernel
theorem dX9_through_10 : decode cX9_through 10 = .ok (.aload_n 0, 1) := by decide +kernel
theorem dX9_through_11 : decode cX9_through 11 = .ok (.getfield 19, 3) := by decide +kernel
theorem dX9_through_14 : decode cX9_through 14 = .ok (.iload 6, 2) := by decide +kernel
theorem dX9_through_16 : decode cX9_through 16 = .ok (.lconst 0, 1) := by decide +kernel
theorem dX9_through_17 : decode cX9_through 17 = .ok (.lastore, 1) := by decide +kernel
theorem dX9_through_18 : decode cX9_through 18 = .ok (.iinc 6 1, 3) := by decide +kernel
theorem dX9_through_21 : decode cX9_through 21 = .ok (.goto (-18), 3) := by decide +kernel
theorem dX9_through_24 : decode cX9_through 24 = .ok (.aload_n 0, 1) := by decide +kernel
theorem dX9_through_25 : decode cX9_through 25 = .ok (.aload_n 1, 1) := by decide +kernel
theorem dX9_through_26 : decode cX9_through 26 = .ok (.iload_n 3, 1) := by decide +kernel
theorem dX9_through_27 : decode cX9_through 27 = .ok (.lconst 1, 1) := by decide +kernel
theorem dX9_through_28 : decode cX9_through 28 = .ok (.invokevirtual 89, 3) := by decide +kernel
theorem dX9_through_31 : decode cX9_through 31 = .ok (.iconst 0, 1) := by decide +kernel
theorem dX9_through_32 : decode cX9_through 32 = .ok (.istore 6, 2) := by decide +kernel
theorem dX9_through_34 : decode cX9_through 34 = .ok (.iconst 0, 1) := by decide +kernel
theorem dX9_through_35 : decode cX9_through 35 = .ok (.istore 7, 2) := by decide +kernel
theorem dX9_through_37 : decode cX9_through 37 = .ok (.iload 7, 2) := by decide +kernel
theorem dX9_through_39 : decode cX9_through 39 = .ok (.bipush 15, 2) := by decide +kernel
theorem dX9_through_41 : decode cX9_through 41 = .ok (.if_icmp .ge 115, 3) := by decide +kernel
theorem dX9_through_44 : decode cX9_through 44 = .ok (.iload 6, 2) := by decide +kernel
theorem dX9_through_46 : decode cX9_through 46 = .ok (.aload_n 1, 1) := by decide +kernel
theorem dX9_through_47 : decode cX9_through 47 = .ok (.getfield 29, 3) := by decide +kernel
theorem dX9_through_50 : decode cX9_through 50 = .ok (.if_icmp .ge 106, 3) := by decide +kernel
theorem dX9_through_53 : decode cX9_through 53 = .ok (.aload_n 1, 1) := by decide +kernel
theorem dX9_through_54 : decode cX9_through 54 = .ok (.iload 6, 2) := by decide +kernel
theorem dX9_through_56 : decode cX9_through 56 = .ok (.iload 4, 2) := by decide +kernel
theorem dX9_through_58 : decode cX9_through 58 = .ok (.invokevirtual 61, 3) := by decide +kernel
theorem dX9_through_61 : decode cX9_through 61 = .ok (.istore 6, 2) := by decide +kernel
theorem dX9_through_63 : decode cX9_through 63 = .ok (.aload_n 0, 1) := by decide +kernel
theorem dX9_through_64 : decode cX9_through 64 = .ok (.invokevirtual 93, 3) := by decide +kernel
theorem dX9_through_67 : decode cX9_through 67 = .ok (.aload_n 1, 1) := by decide +kernel
theorem dX9_through_68 : decode cX9_through 68 = .ok (.getfield 47, 3) := by decide +kernel
theorem dX9_through_71 : decode cX9_through 71 = .ok (.ineg, 1) := by decide +kernel
theorem dX9_through_72 : decode cX9_through 72 = .ok (.istore 8, 2) := by decide +kernel
theorem dX9_through_74 : decode cX9_through 74 = .ok (.iload 8, 2) := by decide +kernel
theorem dX9_through_76 : decode cX9_through 76 = .ok (.aload_n 1, 1) := by decide +kernel
theorem dX9_through_77 : decode cX9_through 77 = .ok (.getfield 47, 3) := by decide +kernel
theorem dX9_through_80 : decode cX9_through 80 = .ok (.if_icmp .gt 70, 3) := by decide +kernel
theorem dX9_through_83 : decode cX9_through 83 = .ok (.aload_n 0, 1) := by decide +kernel
theorem dX9_through_84 : decode cX9_through 84 = .ok (.iload 8, 2) := by decide +kernel
theorem dX9_through_86 : decode cX9_through 86 = .ok (.invokevirtual 96, 3) := by decide +kernel
theorem dX9_through_89 : decode cX9_through 89 = .ok (.lstore 9, 2) := by decide +kernel
theorem dX9_through_91 : decode cX9_through 91 = .ok (.aload_n 2, 1) := by decide +kernel
theorem dX9_through_92 : decode cX9_through 92 = .ok (.iload 8, 2) := by decide +kernel
theorem dX9_through_94 : decode cX9_through 94 = .ok (.aload_n 1, 1) := by decide +kernel
theorem dX9_through_95 : decode cX9_through 95 = .ok (.iload 6, 2) := by decide +kernel
theorem dX9_through_97 : decode cX9_through 97 = .ok (.invokevirtual 64, 3) := by decide +kernel
theorem dX9_through_100 : decode cX9_through 100 = .ok (.aload_n 1, 1) := by decide +kernel
theorem dX9_through_101 : decode cX9_through 101 = .ok (.iload 7, 2) := by decide +kernel
theorem dX9_through_103 : decode cX9_through 103 = .ok (.invokevirtual 68, 3) := by decide +kernel
theorem dX9_through_106 : decode cX9_through 106 = .ok (.iload 4, 2) := by decide +kernel
theorem dX9_through_108 : decode cX9_through 108 = .ok (.invokevirtual 71, 3) := by decide +kernel
theorem dX9_through_111 : decode cX9_through 111 = .ok (.istore 11, 2) := by decide +kernel
theorem dX9_through_113 : decode cX9_through 113 = .ok (.aload_n 0, 1) := by decide +kernel
theorem dX9_through_114 : decode cX9_through 114 = .ok (.aload_n 1, 1) := by decide +kernel
theorem dX9_through_115 : decode cX9_through 115 = .ok (.iload 11, 2) := by decide +kernel
theorem dX9_through_117 : decode cX9_through 117 = .ok (.lload 9, 2) := by decide +kernel
theorem dX9_through_119 : decode cX9_through 119 = .ok (.bipush 10, 2) := by decide +kernel
theorem dX9_through_121 : decode cX9_through 121 = .ok (.iload 5, 2) := by decide +kernel
theorem dX9_through_123 : decode cX9_through 123 = .ok (.isub, 1) := by decide +kernel
theorem dX9_through_124 : decode cX9_through 124 = .ok (.i2l, 1) := by decide +kernel
theorem dX9_through_125 : decode cX9_through 125 = .ok (.lmul, 1) := by decide +kernel
theorem dX9_through_126 : decode cX9_through 126 = .ok (.invokevirtual 89, 3) := by decide +kernel
theorem dX9_through_129 : decode cX9_through 129 = .ok (.aload_n 0, 1) := by decide +kernel
theorem dX9_through_130 : decode cX9_through 130 = .ok (.aload_n 1, 1) := by decide +kernel
theorem dX9_through_131 : decode cX9_through 131 = .ok (.iload 11, 2) := by decide +kernel
theorem dX9_through_133 : decode cX9_through 133 = .ok (.iconst 1, 1) := by decide +kernel
theorem dX9_through_134 : decode cX9_through 134 = .ok (.iadd, 1) := by decide +kernel
theorem dX9_through_135 : decode cX9_through 135 = .ok (.lload 9, 2) := by decide +kernel
theorem dX9_through_137 : decode cX9_through 137 = .ok (.iload 5, 2) := by decide +kernel
theorem dX9_through_139 : decode cX9_through 139 = .ok (.i2l, 1) := by decide +kernel
theorem dX9_through_140 : decode cX9_through 140 = .ok (.lmul, 1) := by decide +kernel
theorem dX9_through_141 : decode cX9_through 141 = .ok (.invokevirtual 89, 3) := by decide +kernel
theorem dX9_through_144 : decode cX9_through 144 = .ok (.iinc 8 1, 3) := by decide +kernel
theorem dX9_through_147 : decode cX9_through 147 = .ok (.goto (-73), 3) := by decide +kernel
theorem dX9_through_150 : decode cX9_through 150 = .ok (.iinc 7 1, 3) := by decide +kernel
theorem dX9_through_153 : decode cX9_through 153 = .ok (.goto (-116), 3) := by decide +kernel
theorem dX9_through_156 : decode cX9_through 156 = .ok (.lconst 0, 1) := by decide +kernel
theorem dX9_through_157 : decode cX9_through 157 = .ok (.lstore 7, 2) := by decide +kernel
theorem dX9_through_159 : decode cX9_through 159 = .ok (.iconst 0, 1) := by decide +kernel
theorem dX9_through_160 : decode cX9_through 160 = .ok (.istore 9, 2) := by decide +kernel
theorem dX9_through_162 : decode cX9_through 162 = .ok (.iload 9, 2) := by decide +kernel
theorem dX9_through_164 : decode cX9_through 164 = .ok (.bipush 25, 2) := by decide +kernel
theorem dX9_through_166 : decode cX9_through 166 = .ok (.if_icmp .ge 21, 3) := by decide +kernel
theorem dX9_through_169 : decode cX9_through 169 = .ok (.lload 7, 2) := by decide +kernel
theorem dX9_through_171 : decode cX9_through 171 = .ok (.aload_n 0, 1) := by decide +kernel
theorem dX9_through_172 : decode cX9_through 172 = .ok (.getfield 19, 3) := by decide +kernel
theorem dX9_through_175 : decode cX9_through 175 = .ok (.iload 9, 2) := by decide +kernel
theorem dX9_through_177 : decode cX9_through 177 = .ok (.laload, 1) := by decide +kernel
theorem dX9_through_178 : decode cX9_through 178 = .ok (.ladd, 1) := by decide +kernel
theorem dX9_through_179 : decode cX9_through 179 = .ok (.lstore 7, 2) := by decide +kernel
theorem dX9_through_181 : decode cX9_through 181 = .ok (.iinc 9 1, 3) := by decide +kernel
theorem dX9_through_184 : decode cX9_through 184 = .ok (.goto (-22), 3) := by decide +kernel
theorem dX9_through_187 : decode cX9_through 187 = .ok (.lload 7, 2) := by decide +kernel
theorem dX9_through_189 : decode cX9_through 189 = .ok (.lreturn, 1) := by decide +kernel
theorem dX9_turnChances_0 : decode cX9_turnChances 0 = .ok (.iconst 0, 1) := by decide +kernel
theorem dX9_turnChances_1 : decode cX9_turnChances 1 = .ok (.istore_n 1, 1) := by decide +kernel
theorem dX9_turnChances_2 : decode cX9_turnChances 2 = .ok (.iload_n 1, 1) := by decide +kernel
theorem dX9_turnChances_3 : decode cX9_turnChances 3 = .ok (.bipush 25, 2) := by decide +kernel
theorem dX9_turnChances_5 : decode cX9_turnChances 5 = .ok (.if_icmp .ge 28, 3) := by decide +kernel
theorem dX9_turnChances_8 : decode cX9_turnChances 8 = .ok (.aload_n 0, 1) := by decide +kernel
theorem dX9_turnChances_9 : decode cX9_turnChances 9 = .ok (.getfield 15, 3) := by decide +kernel
theorem dX9_turnChances_12 : decode cX9_turnChances 12 = .ok (.iload_n 1, 1) := by decide +kernel
theorem dX9_turnChances_13 : decode cX9_turnChances 13 = .ok (.aload_n 0, 1) := by decide +kernel
theorem dX9_turnChances_14 : decode cX9_turnChances 14 = .ok (.getfield 19, 3) := by decide +kernel
theorem dX9_turnChances_17 : decode cX9_turnChances 17 = .ok (.iload_n 1, 1) := by decide +kernel
theorem dX9_turnChances_18 : decode cX9_turnChances 18 = .ok (.laload, 1) := by decide +kernel
theorem dX9_turnChances_19 : decode cX9_turnChances 19 = .ok (.lastore, 1) := by decide +kernel
theorem dX9_turnChances_20 : decode cX9_turnChances 20 = .ok (.aload_n 0, 1) := by decide +kernel
theorem dX9_turnChances_21 : decode cX9_turnChances 21 = .ok (.getfield 19, 3) := by decide +kernel
theorem dX9_turnChances_24 : decode cX9_turnChances 24 = .ok (.iload_n 1, 1) := by decide +kernel
theorem dX9_turnChances_25 : decode cX9_turnChances 25 = .ok (.lconst 0, 1) := by decide +kernel
theorem dX9_turnChances_26 : decode cX9_turnChances 26 = .ok (.lastore, 1) := by decide +kernel
theorem dX9_turnChances_27 : decode cX9_turnChances 27 = .ok (.iinc 1 1, 3) := by decide +kernel
theorem dX9_turnChances_30 : decode cX9_turnChances 30 = .ok (.goto (-28), 3) := by decide +kernel
theorem dX9_turnChances_33 : decode cX9_turnChances 33 = .ok (.return_, 1) := by decide +kernel
theorem dX9_chanceOf_0 : decode cX9_chanceOf 0 = .ok (.iload_n 1, 1) := by decide +kernel
theorem dX9_chanceOf_1 : decode cX9_chanceOf 1 = .ok (.bipush 12, 2) := by decide +kernel
theorem dX9_chanceOf_3 : decode cX9_chanceOf 3 = .ok (.iadd, 1) := by decide +kernel
theorem dX9_chanceOf_4 : decode cX9_chanceOf 4 = .ok (.istore_n 2, 1) := by decide +kernel
theorem dX9_chanceOf_5 : decode cX9_chanceOf 5 = .ok (.iload_n 2, 1) := by decide +kernel
theorem dX9_chanceOf_6 : decode cX9_chanceOf 6 = .ok (.iconst 0, 1) := by decide +kernel
theorem dX9_chanceOf_7 : decode cX9_chanceOf 7 = .ok (.bipush 24, 2) := by decide +kernel
theorem dX9_chanceOf_9 : decode cX9_chanceOf 9 = .ok (.invokestatic 37, 3) := by decide +kernel
theorem dX9_chanceOf_12 : decode cX9_chanceOf 12 = .ok (.ifCond .eq 12, 3) := by decide +kernel
theorem dX9_chanceOf_15 : decode cX9_chanceOf 15 = .ok (.aload_n 0, 1) := by decide +kernel
theorem dX9_chanceOf_16 : decode cX9_chanceOf 16 = .ok (.getfield 15, 3) := by decide +kernel
theorem dX9_chanceOf_19 : decode cX9_chanceOf 19 = .ok (.iload_n 2, 1) := by decide +kernel
theorem dX9_chanceOf_20 : decode cX9_chanceOf 20 = .ok (.laload, 1) := by decide +kernel
theorem dX9_chanceOf_21 : decode cX9_chanceOf 21 = .ok (.goto 4, 3) := by decide +kernel
theorem dX9_chanceOf_24 : decode cX9_chanceOf 24 = .ok (.lconst 0, 1) := by decide +kernel
theorem dX9_chanceOf_25 : decode cX9_chanceOf 25 = .ok (.lreturn, 1) := by decide +kernel
theorem dX9_addChance_0 : decode cX9_addChance 0 = .ok (.iload_n 2, 1) := by decide +kernel
theorem dX9_addChance_1 : decode cX9_addChance 1 = .ok (.bipush 12, 2) := by decide +kernel
theorem dX9_addChance_3 : decode cX9_addChance 3 = .ok (.iadd, 1) := by decide +kernel
theorem dX9_addChance_4 : decode cX9_addChance 4 = .ok (.istore 5, 2) := by decide +kernel
theorem dX9_addChance_6 : decode cX9_addChance 6 = .ok (.aload_n 1, 1) := by decide +kernel
theorem dX9_addChance_7 : decode cX9_addChance 7 = .ok (.iload_n 2, 1) := by decide +kernel
theorem dX9_addChance_8 : decode cX9_addChance 8 = .ok (.invokevirtual 22, 3) := by decide +kernel
theorem dX9_addChance_11 : decode cX9_addChance 11 = .ok (.ifCond .ne 25, 3) := by decide +kernel
theorem dX9_addChance_14 : decode cX9_addChance 14 = .ok (.iload 5, 2) := by decide +kernel
theorem dX9_addChance_16 : decode cX9_addChance 16 = .ok (.iconst 0, 1) := by decide +kernel
theorem dX9_addChance_17 : decode cX9_addChance 17 = .ok (.bipush 24, 2) := by decide +kernel
theorem dX9_addChance_19 : decode cX9_addChance 19 = .ok (.invokestatic 37, 3) := by decide +kernel
theorem dX9_addChance_22 : decode cX9_addChance 22 = .ok (.ifCond .eq 14, 3) := by decide +kernel
theorem dX9_addChance_25 : decode cX9_addChance 25 = .ok (.aload_n 0, 1) := by decide +kernel
theorem dX9_addChance_26 : decode cX9_addChance 26 = .ok (.getfield 19, 3) := by decide +kernel
theorem dX9_addChance_29 : decode cX9_addChance 29 = .ok (.iload 5, 2) := by decide +kernel
theorem dX9_addChance_31 : decode cX9_addChance 31 = .ok (.dup2, 1) := by decide +kernel
theorem dX9_addChance_32 : decode cX9_addChance 32 = .ok (.laload, 1) := by decide +kernel
theorem dX9_addChance_33 : decode cX9_addChance 33 = .ok (.lload_n 3, 1) := by decide +kernel
theorem dX9_addChance_34 : decode cX9_addChance 34 = .ok (.ladd, 1) := by decide +kernel
theorem dX9_addChance_35 : decode cX9_addChance 35 = .ok (.lastore, 1) := by decide +kernel
theorem dX9_addChance_36 : decode cX9_addChance 36 = .ok (.return_, 1) := by decide +kernel
theorem dX10_init_0 : decode cX10_init 0 = .ok (.aload_n 0, 1) := by decide +kernel
theorem dX10_init_1 : decode cX10_init 1 = .ok (.invokespecial 3, 3) := by decide +kernel
theorem dX10_init_4 : decode cX10_init 4 = .ok (.aload_n 0, 1) := by decide +kernel
theorem dX10_init_5 : decode cX10_init 5 = .ok (.new 9, 3) := by decide +kernel
theorem dX10_init_8 : decode cX10_init 8 = .ok (.dup, 1) := by decide +kernel
theorem dX10_init_9 : decode cX10_init 9 = .ok (.invokespecial 11, 3) := by decide +kernel
theorem dX10_init_12 : decode cX10_init 12 = .ok (.putfield 12, 3) := by decide +kernel
theorem dX10_init_15 : decode cX10_init 15 = .ok (.aload_n 0, 1) := by decide +kernel
theorem dX10_init_16 : decode cX10_init 16 = .ok (.new 18, 3) := by decide +kernel
theorem dX10_init_19 : decode cX10_init 19 = .ok (.dup, 1) := by decide +kernel
theorem dX10_init_20 : decode cX10_init 20 = .ok (.invokespecial 20, 3) := by decide +kernel
theorem dX10_init_23 : decode cX10_init 23 = .ok (.putfield 21, 3) := by decide +kernel
theorem dX10_init_26 : decode cX10_init 26 = .ok (.aload_n 0, 1) := by decide +kernel
theorem dX10_init_27 : decode cX10_init 27 = .ok (.iconst 0, 1) := by decide +kernel
theorem dX10_init_28 : decode cX10_init 28 = .ok (.putfield 25, 3) := by decide +kernel
theorem dX10_init_31 : decode cX10_init 31 = .ok (.aload_n 0, 1) := by decide +kernel
theorem dX10_init_32 : decode cX10_init 32 = .ok (.iconst 5, 1) := by decide +kernel
theorem dX10_init_33 : decode cX10_init 33 = .ok (.newarray .int, 2) := by decide +kernel
theorem dX10_init_35 : decode cX10_init 35 = .ok (.putfield 29, 3) := by decide +kernel
theorem dX10_init_38 : decode cX10_init 38 = .ok (.aload_n 0, 1) := by decide +kernel
theorem dX10_init_39 : decode cX10_init 39 = .ok (.iconst 5, 1) := by decide +kernel
theorem dX10_init_40 : decode cX10_init 40 = .ok (.newarray .int, 2) := by decide +kernel
theorem dX10_init_42 : decode cX10_init 42 = .ok (.putfield 33, 3) := by decide +kernel
theorem dX10_init_45 : decode cX10_init 45 = .ok (.aload_n 0, 1) := by decide +kernel
theorem dX10_init_46 : decode cX10_init 46 = .ok (.iconst 0, 1) := by decide +kernel
theorem dX10_init_47 : decode cX10_init 47 = .ok (.putfield 36, 3) := by decide +kernel
theorem dX10_init_50 : decode cX10_init 50 = .ok (.aload_n 0, 1) := by decide +kernel
theorem dX10_init_51 : decode cX10_init 51 = .ok (.bipush 6, 2) := by decide +kernel
theorem dX10_init_53 : decode cX10_init 53 = .ok (.newarray .int, 2) := by decide +kernel
theorem dX10_init_55 : decode cX10_init 55 = .ok (.putfield 39, 3) := by decide +kernel
theorem dX10_init_58 : decode cX10_init 58 = .ok (.aload_n 0, 1) := by decide +kernel
theorem dX10_init_59 : decode cX10_init 59 = .ok (.bipush 6, 2) := by decide +kernel
theorem dX10_init_61 : decode cX10_init 61 = .ok (.newarray .int, 2) := by decide +kernel
theorem dX10_init_63 : decode cX10_init 63 = .ok (.putfield 42, 3) := by decide +kernel
theorem dX10_init_66 : decode cX10_init 66 = .ok (.aload_n 0, 1) := by decide +kernel
theorem dX10_init_67 : decode cX10_init 67 = .ok (.bipush 6, 2) := by decide +kernel
theorem dX10_init_69 : decode cX10_init 69 = .ok (.newarray .int, 2) := by decide +kernel
theorem dX10_init_71 : decode cX10_init 71 = .ok (.putfield 45, 3) := by decide +kernel
theorem dX10_init_74 : decode cX10_init 74 = .ok (.aload_n 0, 1) := by decide +kernel
theorem dX10_init_75 : decode cX10_init 75 = .ok (.bipush 6, 2) := by decide +kernel
theorem dX10_init_77 : decode cX10_init 77 = .ok (.newarray .int, 2) := by decide +kernel
theorem dX10_init_79 : decode cX10_init 79 = .ok (.putfield 48, 3) := by decide +kernel
theorem dX10_init_82 : decode cX10_init 82 = .ok (.return_, 1) := by decide +kernel
theorem dX10_beginAnew_0 : decode cX10_beginAnew 0 = .ok (.aload_n 0, 1) := by decide +kernel
theorem dX10_beginAnew_1 : decode cX10_beginAnew 1 = .ok (.getfield 12, 3) := by decide +kernel
theorem dX10_beginAnew_4 : decode cX10_beginAnew 4 = .ok (.iload_n 1, 1) := by decide +kernel
theorem dX10_beginAnew_5 : decode cX10_beginAnew 5 = .ok (.iload_n 2, 1) := by decide +kernel
theorem dX10_beginAnew_6 : decode cX10_beginAnew 6 = .ok (.invokevirtual 51, 3) := by decide +kernel
theorem dX10_beginAnew_9 : decode cX10_beginAnew 9 = .ok (.aload_n 0, 1) := by decide +kernel
theorem dX10_beginAnew_10 : decode cX10_beginAnew 10 = .ok (.getfield 21, 3) := by decide +kernel
theorem dX10_beginAnew_13 : decode cX10_beginAnew 13 = .ok (.iconst (-1), 1) := by decide +kernel
theorem dX10_beginAnew_14 : decode cX10_beginAnew 14 = .ok (.iconst 0, 1) := by decide +kernel
theorem dX10_beginAnew_15 : decode cX10_beginAnew 15 = .ok (.iconst 0, 1) := by decide +kernel
theorem dX10_beginAnew_16 : decode cX10_beginAnew 16 = .ok (.invokevirtual 55, 3) := by decide +kernel
theorem dX10_beginAnew_19 : decode cX10_beginAnew 19 = .ok (.aload_n 0, 1) := by decide +kernel
theorem dX10_beginAnew_20 : decode cX10_beginAnew 20 = .ok (.iconst 0, 1) := by decide +kernel
theorem dX10_beginAnew_21 : decode cX10_beginAnew 21 = .ok (.putfield 25, 3) := by decide +kernel
theorem dX10_beginAnew_24 : decode cX10_beginAnew 24 = .ok (.aload_n 0, 1) := by decide +kernel
theorem dX10_beginAnew_25 : decode cX10_beginAnew 25 = .ok (.iconst 0, 1) := by decide +kernel
theorem dX10_beginAnew_26 : decode cX10_beginAnew 26 = .ok (.putfield 36, 3) := by decide +kernel
theorem dX10_beginAnew_29 : decode cX10_beginAnew 29 = .ok (.return_, 1) := by decide +kernel
theorem dX10_copyFrom_0 : decode cX10_copyFrom 0 = .ok (.aload_n 0, 1) := by decide +kernel
theorem dX10_copyFrom_1 : decode cX10_copyFrom 1 = .ok (.getfield 12, 3) := by decide +kernel
theorem dX10_copyFrom_4 : decode cX10_copyFrom 4 = .ok (.aload_n 1, 1) := by decide +kernel
theorem dX10_copyFrom_5 : decode cX10_copyFrom 5 = .ok (.getfield 12, 3) := by decide +kernel
theorem dX10_copyFrom_8 : decode cX10_copyFrom 8 = .ok (.invokevirtual 59, 3) := by decide +kernel
theorem dX10_copyFrom_11 : decode cX10_copyFrom 11 = .ok (.aload_n 0, 1) := by decide +kernel
theorem dX10_copyFrom_12 : decode cX10_copyFrom 12 = .ok (.getfield 21, 3) := by decide +kernel
theorem dX10_copyFrom_15 : decode cX10_copyFrom 15 = .ok (.aload_n 1, 1) := by decide +kernel
theorem dX10_copyFrom_16 : decode cX10_copyFrom 16 = .ok (.getfield 21, 3) := by decide +kernel
theorem dX10_copyFrom_19 : decode cX10_copyFrom 19 = .ok (.invokevirtual 63, 3) := by decide +kernel
theorem dX10_copyFrom_22 : decode cX10_copyFrom 22 = .ok (.aload_n 0, 1) := by decide +kernel
theorem dX10_copyFrom_23 : decode cX10_copyFrom 23 = .ok (.aload_n 1, 1) := by decide +kernel
theorem dX10_copyFrom_24 : decode cX10_copyFrom 24 = .ok (.getfield 25, 3) := by decide +kernel
theorem dX10_copyFrom_27 : decode cX10_copyFrom 27 = .ok (.putfield 25, 3) := by decide +kernel
theorem dX10_copyFrom_30 : decode cX10_copyFrom 30 = .ok (.aload_n 1, 1) := by decide +kernel
theorem dX10_copyFrom_31 : decode cX10_copyFrom 31 = .ok (.getfield 29, 3) := by decide +kernel
theorem dX10_copyFrom_34 : decode cX10_copyFrom 34 = .ok (.iconst 0, 1) := by decide +kernel
theorem dX10_copyFrom_35 : decode cX10_copyFrom 35 = .ok (.aload_n 0, 1) := by decide +kernel
theorem dX10_copyFrom_36 : decode cX10_copyFrom 36 = .ok (.getfield 29, 3) := by decide +kernel
theorem dX10_copyFrom_39 : decode cX10_copyFrom 39 = .ok (.iconst 0, 1) := by decide +kernel
theorem dX10_copyFrom_40 : decode cX10_copyFrom 40 = .ok (.iconst 5, 1) := by decide +kernel
theorem dX10_copyFrom_41 : decode cX10_copyFrom 41 = .ok (.invokestatic 66, 3) := by decide +kernel
theorem dX10_copyFrom_44 : decode cX10_copyFrom 44 = .ok (.aload_n 1, 1) := by decide +kernel
theorem dX10_copyFrom_45 : decode cX10_copyFrom 45 = .ok (.getfield 33, 3) := by decide +kernel
theorem dX10_copyFrom_48 : decode cX10_copyFrom 48 = .ok (.iconst 0, 1) := by decide +kernel
theorem dX10_copyFrom_49 : decode cX10_copyFrom 49 = .ok (.aload_n 0, 1) := by decide +kernel
theorem dX10_copyFrom_50 : decode cX10_copyFrom 50 = .ok (.getfield 33, 3) := by decide +kernel
theorem dX10_copyFrom_53 : decode cX10_copyFrom 53 = .ok (.iconst 0, 1) := by decide +kernel
theorem dX10_copyFrom_54 : decode cX10_copyFrom 54 = .ok (.iconst 5, 1) := by decide +kernel
theorem dX10_copyFrom_55 : decode cX10_copyFrom 55 = .ok (.invokestatic 66, 3) := by decide +kernel
theorem dX10_copyFrom_58 : decode cX10_copyFrom 58 = .ok (.aload_n 0, 1) := by decide +kernel
theorem dX10_copyFrom_59 : decode cX10_copyFrom 59 = .ok (.aload_n 1, 1) := by decide +kernel
theorem dX10_copyFrom_60 : decode cX10_copyFrom 60 = .ok (.getfield 36, 3) := by decide +kernel
theorem dX10_copyFrom_63 : decode cX10_copyFrom 63 = .ok (.putfield 36, 3) := by decide +kernel
theorem dX10_copyFrom_66 : decode cX10_copyFrom 66 = .ok (.aload_n 1, 1) := by decide +kernel
theorem dX10_copyFrom_67 : decode cX10_copyFrom 67 = .ok (.getfield 39, 3) := by decide +kernel
theorem dX10_copyFrom_70 : decode cX10_copyFrom 70 = .ok (.iconst 0, 1) := by decide +kernel
theorem dX10_copyFrom_71 : decode cX10_copyFrom 71 = .ok (.aload_n 0, 1) := by decide +kernel
theorem dX10_copyFrom_72 : decode cX10_copyFrom 72 = .ok (.getfield 39, 3) := by decide +kernel
theorem dX10_copyFrom_75 : decode cX10_copyFrom 75 = .ok (.iconst 0, 1) := by decide +kernel
theorem dX10_copyFrom_76 : decode cX10_copyFrom 76 = .ok (.bipush 6, 2) := by decide +kernel
theorem dX10_copyFrom_78 : decode cX10_copyFrom 78 = .ok (.invokestatic 66, 3) := by decide +kernel
theorem dX10_copyFrom_81 : decode cX10_copyFrom 81 = .ok (.aload_n 1, 1) := by decide +kernel
theorem dX10_copyFrom_82 : decode cX10_copyFrom 82 = .ok (.getfield 42, 3) := by decide +kernel
theorem dX10_copyFrom_85 : decode cX10_copyFrom 85 = .ok (.iconst 0, 1) := by decide +kernel
theorem dX10_copyFrom_86 : decode cX10_copyFrom 86 = .ok (.aload_n 0, 1) := by decide +kernel
theorem dX10_copyFrom_87 : decode cX10_copyFrom 87 = .ok (.getfield 42, 3) := by decide +kernel
theorem dX10_copyFrom_90 : decode cX10_copyFrom 90 = .ok (.iconst 0, 1) := by decide +kernel
theorem dX10_copyFrom_91 : decode cX10_copyFrom 91 = .ok (.bipush 6, 2) := by decide +kernel
theorem dX10_copyFrom_93 : decode cX10_copyFrom 93 = .ok (.invokestatic 66, 3) := by decide +kernel
theorem dX10_copyFrom_96 : decode cX10_copyFrom 96 = .ok (.aload_n 1, 1) := by decide +kernel
theorem dX10_copyFrom_97 : decode cX10_copyFrom 97 = .ok (.getfield 45, 3) := by decide +kernel
theorem dX10_copyFrom_100 : decode cX10_copyFrom 100 = .ok (.iconst 0, 1) := by decide +kernel
theorem dX10_copyFrom_101 : decode cX10_copyFrom 101 = .ok (.aload_n 0, 1) := by decide +kernel
theorem dX10_copyFrom_102 : decode cX10_copyFrom 102 = .ok (.getfield 45, 3) := by decide +kernel
theorem dX10_copyFrom_105 : decode cX10_copyFrom 105 = .ok (.iconst 0, 1) := by decide +kernel
theorem dX10_copyFrom_106 : decode cX10_copyFrom 106 = .ok (.bipush 6, 2) := by decide +kernel
theorem dX10_copyFrom_108 : decode cX10_copyFrom 108 = .ok (.invokestatic 66, 3) := by decide +kernel
theorem dX10_copyFrom_111 : decode cX10_copyFrom 111 = .ok (.aload_n 1, 1) := by decide +kernel
theorem dX10_copyFrom_112 : decode cX10_copyFrom 112 = .ok (.getfield 48, 3) := by decide +kernel
theorem dX10_copyFrom_115 : decode cX10_copyFrom 115 = .ok (.iconst 0, 1) := by decide +kernel
theorem dX10_copyFrom_116 : decode cX10_copyFrom 116 = .ok (.aload_n 0, 1) := by decide +kernel
theorem dX10_copyFrom_117 : decode cX10_copyFrom 117 = .ok (.getfield 48, 3) := by decide +kernel
theorem dX10_copyFrom_120 : decode cX10_copyFrom 120 = .ok (.iconst 0, 1) := by decide +kernel
theorem dX10_copyFrom_121 : decode cX10_copyFrom 121 = .ok (.bipush 6, 2) := by decide +kernel
theorem dX10_copyFrom_123 : decode cX10_copyFrom 123 = .ok (.invokestatic 66, 3) := by decide +kernel
theorem dX10_copyFrom_126 : decode cX10_copyFrom 126 = .ok (.return_, 1) := by decide +kernel
theorem dX10_addHead_0 : decode cX10_addHead 0 = .ok (.aload_n 0, 1) := by decide +kernel
theorem dX10_addHead_1 : decode cX10_addHead 1 = .ok (.getfield 25, 3) := by decide +kernel
theorem dX10_addHead_4 : decode cX10_addHead 4 = .ok (.iconst 0, 1) := by decide +kernel
theorem dX10_addHead_5 : decode cX10_addHead 5 = .ok (.iconst 4, 1) := by decide +kernel
theorem dX10_addHead_6 : decode cX10_addHead 6 = .ok (.invokestatic 72, 3) := by decide +kernel
theorem dX10_addHead_9 : decode cX10_addHead 9 = .ok (.ifCond .eq 33, 3) := by decide +kernel
theorem dX10_addHead_12 : decode cX10_addHead 12 = .ok (.aload_n 0, 1) := by decide +kernel
theorem dX10_addHead_13 : decode cX10_addHead 13 = .ok (.getfield 29, 3) := by decide +kernel
theorem dX10_addHead_16 : decode cX10_addHead 16 = .ok (.aload_n 0, 1) := by decide +kernel
theorem dX10_addHead_17 : decode cX10_addHead 17 = .ok (.getfield 25, 3) := by decide +kernel
theorem dX10_addHead_20 : decode cX10_addHead 20 = .ok (.iload_n 1, 1) := by decide +kernel
theorem dX10_addHead_21 : decode cX10_addHead 21 = .ok (.iastore, 1) := by decide +kernel
theorem dX10_addHead_22 : decode cX10_addHead 22 = .ok (.aload_n 0, 1) := by decide +kernel
theorem dX10_addHead_23 : decode cX10_addHead 23 = .ok (.getfield 33, 3) := by decide +kernel
theorem dX10_addHead_26 : decode cX10_addHead 26 = .ok (.aload_n 0, 1) := by decide +kernel
theorem dX10_addHead_27 : decode cX10_addHead 27 = .ok (.getfield 25, 3) := by decide +kernel
theorem dX10_addHead_30 : decode cX10_addHead 30 = .ok (.iload_n 2, 1) := by decide +kernel
theorem dX10_addHead_31 : decode cX10_addHead 31 = .ok (.iastore, 1) := by decide +kernel
theorem dX10_addHead_32 : decode cX10_addHead 32 = .ok (.aload_n 0, 1) := by decide +kernel
theorem dX10_addHead_33 : decode cX10_addHead 33 = .ok (.dup, 1) := by decide +kernel
theorem dX10_addHead_34 : decode cX10_addHead 34 = .ok (.getfield 25, 3) := by decide +kernel
theorem dX10_addHead_37 : decode cX10_addHead 37 = .ok (.iconst 1, 1) := by decide +kernel
theorem dX10_addHead_38 : decode cX10_addHead 38 = .ok (.iadd, 1) := by decide +kernel
theorem dX10_addHead_39 : decode cX10_addHead 39 = .ok (.putfield 25, 3) := by decide +kernel
theorem dX10_addHead_42 : decode cX10_addHead 42 = .ok (.return_, 1) := by decide +kernel
theorem dX10_kindOf_0 : decode cX10_kindOf 0 = .ok (.iload_n 1, 1) := by decide +kernel
theorem dX10_kindOf_1 : decode cX10_kindOf 1 = .ok (.iconst 0, 1) := by decide +kernel
theorem dX10_kindOf_2 : decode cX10_kindOf 2 = .ok (.iconst 4, 1) := by decide +kernel
theorem dX10_kindOf_3 : decode cX10_kindOf 3 = .ok (.invokestatic 72, 3) := by decide +kernel
theorem dX10_kindOf_6 : decode cX10_kindOf 6 = .ok (.ifCond .eq 12, 3) := by decide +kernel
theorem dX10_kindOf_9 : decode cX10_kindOf 9 = .ok (.aload_n 0, 1) := by decide +kernel
theorem dX10_kindOf_10 : decode cX10_kindOf 10 = .ok (.getfield 29, 3) := by decide +kernel
theorem dX10_kindOf_13 : decode cX10_kindOf 13 = .ok (.iload_n 1, 1) := by decide +kernel
theorem dX10_kindOf_14 : decode cX10_kindOf 14 = .ok (.iaload, 1) := by decide +kernel
theorem dX10_kindOf_15 : decode cX10_kindOf 15 = .ok (.goto 4, 3) := by decide +kernel
theorem dX10_kindOf_18 : decode cX10_kindOf 18 = .ok (.iconst 0, 1) := by decide +kernel
theorem dX10_kindOf_19 : decode cX10_kindOf 19 = .ok (.ireturn, 1) := by decide +kernel
theorem dX10_setOf_0 : decode cX10_setOf 0 = .ok (.iload_n 1, 1) := by decide +kernel
theorem dX10_setOf_1 : decode cX10_setOf 1 = .ok (.iconst 0, 1) := by decide +kernel
theorem dX10_setOf_2 : decode cX10_setOf 2 = .ok (.iconst 4, 1) := by decide +kernel
theorem dX10_setOf_3 : decode cX10_setOf 3 = .ok (.invokestatic 72, 3) := by decide +kernel
theorem dX10_setOf_6 : decode cX10_setOf 6 = .ok (.ifCond .eq 12, 3) := by decide +kernel
theorem dX10_setOf_9 : decode cX10_setOf 9 = .ok (.aload_n 0, 1) := by decide +kernel
theorem dX10_setOf_10 : decode cX10_setOf 10 = .ok (.getfield 33, 3) := by decide +kernel
theorem dX10_setOf_13 : decode cX10_setOf 13 = .ok (.iload_n 1, 1) := by decide +kernel
theorem dX10_setOf_14 : decode cX10_setOf 14 = .ok (.iaload, 1) := by decide +kernel
theorem dX10_setOf_15 : decode cX10_setOf 15 = .ok (.goto 4, 3) := by decide +kernel
theorem dX10_setOf_18 : decode cX10_setOf 18 = .ok (.iconst 0, 1) := by decide +kernel
theorem dX10_setOf_19 : decode cX10_setOf 19 = .ok (.ireturn, 1) := by decide +kernel
theorem dX10_addNote_0 : decode cX10_addNote 0 = .ok (.aload_n 0, 1) := by decide +kernel
theorem dX10_addNote_1 : decode cX10_addNote 1 = .ok (.getfield 36, 3) := by decide +kernel
theorem dX10_addNote_4 : decode cX10_addNote 4 = .ok (.iconst 0, 1) := by decide +kernel
theorem dX10_addNote_5 : decode cX10_addNote 5 = .ok (.iconst 5, 1) := by decide +kernel
theorem dX10_addNote_6 : decode cX10_addNote 6 = .ok (.invokestatic 72, 3) := by decide +kernel
theorem dX10_addNote_9 : decode cX10_addNote 9 = .ok (.ifCond .eq 54, 3) := by decide +kernel
theorem dX10_addNote_12 : decode cX10_addNote 12 = .ok (.aload_n 0, 1) := by decide +kernel
theorem dX10_addNote_13 : decode cX10_addNote 13 = .ok (.getfield 39, 3) := by decide +kernel
theorem dX10_addNote_16 : decode cX10_addNote 16 = .ok (.aload_n 0, 1) := by decide +kernel
theorem dX10_addNote_17 : decode cX10_addNote 17 = .ok (.getfield 36, 3) := by decide +kernel
theorem dX10_addNote_20 : decode cX10_addNote 20 = .ok (.iload_n 1, 1) := by decide +kernel
theorem dX10_addNote_21 : decode cX10_addNote 21 = .ok (.iastore, 1) := by decide +kernel
theorem dX10_addNote_22 : decode cX10_addNote 22 = .ok (.aload_n 0, 1) := by decide +kernel
theorem dX10_addNote_23 : decode cX10_addNote 23 = .ok (.getfield 42, 3) := by decide +kernel
theorem dX10_addNote_26 : decode cX10_addNote 26 = .ok (.aload_n 0, 1) := by decide +kernel
theorem dX10_addNote_27 : decode cX10_addNote 27 = .ok (.getfield 36, 3) := by decide +kernel
theorem dX10_addNote_30 : decode cX10_addNote 30 = .ok (.iload_n 2, 1) := by decide +kernel
theorem dX10_addNote_31 : decode cX10_addNote 31 = .ok (.iastore, 1) := by decide +kernel
theorem dX10_addNote_32 : decode cX10_addNote 32 = .ok (.aload_n 0, 1) := by decide +kernel
theorem dX10_addNote_33 : decode cX10_addNote 33 = .ok (.getfield 45, 3) := by decide +kernel
theorem dX10_addNote_36 : decode cX10_addNote 36 = .ok (.aload_n 0, 1) := by decide +kernel
theorem dX10_addNote_37 : decode cX10_addNote 37 = .ok (.getfield 36, 3) := by decide +kernel
theorem dX10_addNote_40 : decode cX10_addNote 40 = .ok (.iload_n 3, 1) := by decide +kernel
theorem dX10_addNote_41 : decode cX10_addNote 41 = .ok (.iastore, 1) := by decide +kernel
theorem dX10_addNote_42 : decode cX10_addNote 42 = .ok (.aload_n 0, 1) := by decide +kernel
theorem dX10_addNote_43 : decode cX10_addNote 43 = .ok (.getfield 48, 3) := by decide +kernel
theorem dX10_addNote_46 : decode cX10_addNote 46 = .ok (.aload_n 0, 1) := by decide +kernel
theorem dX10_addNote_47 : decode cX10_addNote 47 = .ok (.getfield 36, 3) := by decide +kernel
theorem dX10_addNote_50 : decode cX10_addNote 50 = .ok (.iload 4, 2) := by decide +kernel
theorem dX10_addNote_52 : decode cX10_addNote 52 = .ok (.iastore, 1) := by decide +kernel
theorem dX10_addNote_53 : decode cX10_addNote 53 = .ok (.aload_n 0, 1) := by decide +kernel
theorem dX10_addNote_54 : decode cX10_addNote 54 = .ok (.dup, 1) := by decide +kernel
theorem dX10_addNote_55 : decode cX10_addNote 55 = .ok (.getfield 36, 3) := by decide +kernel
theorem dX10_addNote_58 : decode cX10_addNote 58 = .ok (.iconst 1, 1) := by decide +kernel
theorem dX10_addNote_59 : decode cX10_addNote 59 = .ok (.iadd, 1) := by decide +kernel
theorem dX10_addNote_60 : decode cX10_addNote 60 = .ok (.putfield 36, 3) := by decide +kernel
theorem dX10_addNote_63 : decode cX10_addNote 63 = .ok (.return_, 1) := by decide +kernel
theorem dX10_addHeadsTo_0 : decode cX10_addHeadsTo 0 = .ok (.lload_n 1, 1) := by decide +kernel
theorem dX10_addHeadsTo_1 : decode cX10_addHeadsTo 1 = .ok (.lstore_n 3, 1) := by decide +kernel
theorem dX10_addHeadsTo_2 : decode cX10_addHeadsTo 2 = .ok (.iconst 0, 1) := by decide +kernel
theorem dX10_addHeadsTo_3 : decode cX10_addHeadsTo 3 = .ok (.istore 5, 2) := by decide +kernel
theorem dX10_addHeadsTo_5 : decode cX10_addHeadsTo 5 = .ok (.iload 5, 2) := by decide +kernel
theorem dX10_addHeadsTo_7 : decode cX10_addHeadsTo 7 = .ok (.aload_n 0, 1) := by decide +kernel
theorem dX10_addHeadsTo_8 : decode cX10_addHeadsTo 8 = .ok (.getfield 25, 3) := by decide +kernel
theorem dX10_addHeadsTo_11 : decode cX10_addHeadsTo 11 = .ok (.if_icmp .ge 45, 3) := by decide +kernel
theorem dX10_addHeadsTo_14 : decode cX10_addHeadsTo 14 = .ok (.iload 5, 2) := by decide +kernel
theorem dX10_addHeadsTo_16 : decode cX10_addHeadsTo 16 = .ok (.iconst 5, 1) := by decide +kernel
theorem dX10_addHeadsTo_17 : decode cX10_addHeadsTo 17 = .ok (.if_icmp .ge 39, 3) := by decide +kernel
theorem dX10_addHeadsTo_20 : decode cX10_addHeadsTo 20 = .ok (.ldc2_w 76, 3) := by decide +kernel
theorem dX10_addHeadsTo_23 : decode cX10_addHeadsTo 23 = .ok (.lload_n 3, 1) := by decide +kernel
theorem dX10_addHeadsTo_24 : decode cX10_addHeadsTo 24 = .ok (.lmul, 1) := by decide +kernel
theorem dX10_addHeadsTo_25 : decode cX10_addHeadsTo 25 = .ok (.aload_n 0, 1) := by decide +kernel
theorem dX10_addHeadsTo_26 : decode cX10_addHeadsTo 26 = .ok (.getfield 29, 3) := by decide +kernel
theorem dX10_addHeadsTo_29 : decode cX10_addHeadsTo 29 = .ok (.iload 5, 2) := by decide +kernel
theorem dX10_addHeadsTo_31 : decode cX10_addHeadsTo 31 = .ok (.iaload, 1) := by decide +kernel
theorem dX10_addHeadsTo_32 : decode cX10_addHeadsTo 32 = .ok (.i2l, 1) := by decide +kernel
theorem dX10_addHeadsTo_33 : decode cX10_addHeadsTo 33 = .ok (.ladd, 1) := by decide +kernel
theorem dX10_addHeadsTo_34 : decode cX10_addHeadsTo 34 = .ok (.lstore_n 3, 1) := by decide +kernel
theorem dX10_addHeadsTo_35 : decode cX10_addHeadsTo 35 = .ok (.ldc2_w 76, 3) := by decide +kernel
theorem dX10_addHeadsTo_38 : decode cX10_addHeadsTo 38 = .ok (.lload_n 3, 1) := by decide +kernel
theorem dX10_addHeadsTo_39 : decode cX10_addHeadsTo 39 = .ok (.lmul, 1) := by decide +kernel
theorem dX10_addHeadsTo_40 : decode cX10_addHeadsTo 40 = .ok (.aload_n 0, 1) := by decide +kernel
theorem dX10_addHeadsTo_41 : decode cX10_addHeadsTo 41 = .ok (.getfield 33, 3) := by decide +kernel
theorem dX10_addHeadsTo_44 : decode cX10_addHeadsTo 44 = .ok (.iload 5, 2) := by decide +kernel
theorem dX10_addHeadsTo_46 : decode cX10_addHeadsTo 46 = .ok (.iaload, 1) := by decide +kernel
theorem dX10_addHeadsTo_47 : decode cX10_addHeadsTo 47 = .ok (.i2l, 1) := by decide +kernel
theorem dX10_addHeadsTo_48 : decode cX10_addHeadsTo 48 = .ok (.ladd, 1) := by decide +kernel
theorem dX10_addHeadsTo_49 : decode cX10_addHeadsTo 49 = .ok (.lstore_n 3, 1) := by decide +kernel
theorem dX10_addHeadsTo_50 : decode cX10_addHeadsTo 50 = .ok (.iinc 5 1, 3) := by decide +kernel
theorem dX10_addHeadsTo_53 : decode cX10_addHeadsTo 53 = .ok (.goto (-48), 3) := by decide +kernel
theorem dX10_addHeadsTo_56 : decode cX10_addHeadsTo 56 = .ok (.lload_n 3, 1) := by decide +kernel
theorem dX10_addHeadsTo_57 : decode cX10_addHeadsTo 57 = .ok (.lreturn, 1) := by decide +kernel
theorem dX10_addNotesTo_0 : decode cX10_addNotesTo 0 = .ok (.lload_n 1, 1) := by decide +kernel
theorem dX10_addNotesTo_1 : decode cX10_addNotesTo 1 = .ok (.lstore_n 3, 1) := by decide +kernel
theorem dX10_addNotesTo_2 : decode cX10_addNotesTo 2 = .ok (.iconst 0, 1) := by decide +kernel
theorem dX10_addNotesTo_3 : decode cX10_addNotesTo 3 = .ok (.istore 5, 2) := by decide +kernel
theorem dX10_addNotesTo_5 : decode cX10_addNotesTo 5 = .ok (.iload 5, 2) := by decide +kernel
theorem dX10_addNotesTo_7 : decode cX10_addNotesTo 7 = .ok (.aload_n 0, 1) := by decide +kernel
theorem dX10_addNotesTo_8 : decode cX10_addNotesTo 8 = .ok (.getfield 36, 3) := by decide +kernel
theorem dX10_addNotesTo_11 : decode cX10_addNotesTo 11 = .ok (.if_icmp .ge 76, 3) := by decide +kernel
theorem dX10_addNotesTo_14 : decode cX10_addNotesTo 14 = .ok (.iload 5, 2) := by decide +kernel
theorem dX10_addNotesTo_16 : decode cX10_addNotesTo 16 = .ok (.bipush 6, 2) := by decide +kernel
theorem dX10_addNotesTo_18 : decode cX10_addNotesTo 18 = .ok (.if_icmp .ge 69, 3) := by decide +kernel
theorem dX10_addNotesTo_21 : decode cX10_addNotesTo 21 = .ok (.ldc2_w 76, 3) := by decide +kernel
theorem dX10_addNotesTo_24 : decode cX10_addNotesTo 24 = .ok (.lload_n 3, 1) := by decide +kernel
theorem dX10_addNotesTo_25 : decode cX10_addNotesTo 25 = .ok (.lmul, 1) := by decide +kernel
theorem dX10_addNotesTo_26 : decode cX10_addNotesTo 26 = .ok (.aload_n 0, 1) := by decide +kernel
theorem dX10_addNotesTo_27 : decode cX10_addNotesTo 27 = .ok (.getfield 39, 3) := by decide +kernel
theorem dX10_addNotesTo_30 : decode cX10_addNotesTo 30 = .ok (.iload 5, 2) := by decide +kernel
theorem dX10_addNotesTo_32 : decode cX10_addNotesTo 32 = .ok (.iaload, 1) := by decide +kernel
theorem dX10_addNotesTo_33 : decode cX10_addNotesTo 33 = .ok (.i2l, 1) := by decide +kernel
theorem dX10_addNotesTo_34 : decode cX10_addNotesTo 34 = .ok (.ladd, 1) := by decide +kernel
theorem dX10_addNotesTo_35 : decode cX10_addNotesTo 35 = .ok (.lstore_n 3, 1) := by decide +kernel
theorem dX10_addNotesTo_36 : decode cX10_addNotesTo 36 = .ok (.ldc2_w 76, 3) := by decide +kernel
theorem dX10_addNotesTo_39 : decode cX10_addNotesTo 39 = .ok (.lload_n 3, 1) := by decide +kernel
theorem dX10_addNotesTo_40 : decode cX10_addNotesTo 40 = .ok (.lmul, 1) := by decide +kernel
theorem dX10_addNotesTo_41 : decode cX10_addNotesTo 41 = .ok (.aload_n 0, 1) := by decide +kernel
theorem dX10_addNotesTo_42 : decode cX10_addNotesTo 42 = .ok (.getfield 42, 3) := by decide +kernel
theorem dX10_addNotesTo_45 : decode cX10_addNotesTo 45 = .ok (.iload 5, 2) := by decide +kernel
theorem dX10_addNotesTo_47 : decode cX10_addNotesTo 47 = .ok (.iaload, 1) := by decide +kernel
theorem dX10_addNotesTo_48 : decode cX10_addNotesTo 48 = .ok (.i2l, 1) := by decide +kernel
theorem dX10_addNotesTo_49 : decode cX10_addNotesTo 49 = .ok (.ladd, 1) := by decide +kernel
theorem dX10_addNotesTo_50 : decode cX10_addNotesTo 50 = .ok (.lstore_n 3, 1) := by decide +kernel
theorem dX10_addNotesTo_51 : decode cX10_addNotesTo 51 = .ok (.ldc2_w 76, 3) := by decide +kernel
theorem dX10_addNotesTo_54 : decode cX10_addNotesTo 54 = .ok (.lload_n 3, 1) := by decide +kernel
theorem dX10_addNotesTo_55 : decode cX10_addNotesTo 55 = .ok (.lmul, 1) := by decide +kernel
theorem dX10_addNotesTo_56 : decode cX10_addNotesTo 56 = .ok (.aload_n 0, 1) := by decide +kernel
theorem dX10_addNotesTo_57 : decode cX10_addNotesTo 57 = .ok (.getfield 45, 3) := by decide +kernel
theorem dX10_addNotesTo_60 : decode cX10_addNotesTo 60 = .ok (.iload 5, 2) := by decide +kernel
theorem dX10_addNotesTo_62 : decode cX10_addNotesTo 62 = .ok (.iaload, 1) := by decide +kernel
theorem dX10_addNotesTo_63 : decode cX10_addNotesTo 63 = .ok (.i2l, 1) := by decide +kernel
theorem dX10_addNotesTo_64 : decode cX10_addNotesTo 64 = .ok (.ladd, 1) := by decide +kernel
theorem dX10_addNotesTo_65 : decode cX10_addNotesTo 65 = .ok (.lstore_n 3, 1) := by decide +kernel
theorem dX10_addNotesTo_66 : decode cX10_addNotesTo 66 = .ok (.ldc2_w 76, 3) := by decide +kernel
theorem dX10_addNotesTo_69 : decode cX10_addNotesTo 69 = .ok (.lload_n 3, 1) := by decide +kernel
theorem dX10_addNotesTo_70 : decode cX10_addNotesTo 70 = .ok (.lmul, 1) := by decide +kernel
theorem dX10_addNotesTo_71 : decode cX10_addNotesTo 71 = .ok (.aload_n 0, 1) := by decide +kernel
theorem dX10_addNotesTo_72 : decode cX10_addNotesTo 72 = .ok (.getfield 48, 3) := by decide +kernel
theorem dX10_addNotesTo_75 : decode cX10_addNotesTo 75 = .ok (.iload 5, 2) := by decide +kernel
theorem dX10_addNotesTo_77 : decode cX10_addNotesTo 77 = .ok (.iaload, 1) := by decide +kernel
theorem dX10_addNotesTo_78 : decode cX10_addNotesTo 78 = .ok (.i2l, 1) := by decide +kernel
theorem dX10_addNotesTo_79 : decode cX10_addNotesTo 79 = .ok (.ladd, 1) := by decide +kernel
theorem dX10_addNotesTo_80 : decode cX10_addNotesTo 80 = .ok (.lstore_n 3, 1) := by decide +kernel
theorem dX10_addNotesTo_81 : decode cX10_addNotesTo 81 = .ok (.iinc 5 1, 3) := by decide +kernel
theorem dX10_addNotesTo_84 : decode cX10_addNotesTo 84 = .ok (.goto (-79), 3) := by decide +kernel
theorem dX10_addNotesTo_87 : decode cX10_addNotesTo 87 = .ok (.lload_n 3, 1) := by decide +kernel
theorem dX10_addNotesTo_88 : decode cX10_addNotesTo 88 = .ok (.lreturn, 1) := by decide +kernel
theorem dX11_init_0 : decode cX11_init 0 = .ok (.aload_n 0, 1) := by decide +kernel
theorem dX11_init_1 : decode cX11_init 1 = .ok (.invokespecial 3, 3) := by decide +kernel
theorem dX11_init_4 : decode cX11_init 4 = .ok (.aload_n 0, 1) := by decide +kernel
theorem dX11_init_5 : decode cX11_init 5 = .ok (.bipush 6, 2) := by decide +kernel
theorem dX11_init_7 : decode cX11_init 7 = .ok (.anewarray 9, 3) := by decide +kernel
theorem dX11_init_10 : decode cX11_init 10 = .ok (.putfield 11, 3) := by decide +kernel
theorem dX11_init_13 : decode cX11_init 13 = .ok (.aload_n 0, 1) := by decide +kernel
theorem dX11_init_14 : decode cX11_init 14 = .ok (.new 15, 3) := by decide +kernel
theorem dX11_init_17 : decode cX11_init 17 = .ok (.dup, 1) := by decide +kernel
theorem dX11_init_18 : decode cX11_init 18 = .ok (.invokespecial 17, 3) := by decide +kernel
theorem dX11_init_21 : decode cX11_init 21 = .ok (.putfield 18, 3) := by decide +kernel
theorem dX11_init_24 : decode cX11_init 24 = .ok (.aload_n 0, 1) := by decide +kernel
theorem dX11_init_25 : decode cX11_init 25 = .ok (.new 15, 3) := by decide +kernel
theorem dX11_init_28 : decode cX11_init 28 = .ok (.dup, 1) := by decide +kernel
theorem dX11_init_29 : decode cX11_init 29 = .ok (.invokespecial 17, 3) := by decide +kernel
theorem dX11_init_32 : decode cX11_init 32 = .ok (.putfield 22, 3) := by decide +kernel
theorem dX11_init_35 : decode cX11_init 35 = .ok (.aload_n 0, 1) := by decide +kernel
theorem dX11_init_36 : decode cX11_init 36 = .ok (.iconst 2, 1) := by decide +kernel
theorem dX11_init_37 : decode cX11_init 37 = .ok (.anewarray 15, 3) := by decide +kernel
theorem dX11_init_40 : decode cX11_init 40 = .ok (.putfield 25, 3) := by decide +kernel
theorem dX11_init_43 : decode cX11_init 43 = .ok (.aload_n 0, 1) := by decide +kernel
theorem dX11_init_44 : decode cX11_init 44 = .ok (.new 29, 3) := by decide +kernel
theorem dX11_init_47 : decode cX11_init 47 = .ok (.dup, 1) := by decide +kernel
theorem dX11_init_48 : decode cX11_init 48 = .ok (.invokespecial 31, 3) := by decide +kernel
theorem dX11_init_51 : decode cX11_init 51 = .ok (.putfield 32, 3) := by decide +kernel
theorem dX11_init_54 : decode cX11_init 54 = .ok (.aload_n 0, 1) := by decide +kernel
theorem dX11_init_55 : decode cX11_init 55 = .ok (.new 36, 3) := by decide +kernel
theorem dX11_init_58 : decode cX11_init 58 = .ok (.dup, 1) := by decide +kernel
theorem dX11_init_59 : decode cX11_init 59 = .ok (.invokespecial 38, 3) := by decide +kernel
theorem dX11_init_62 : decode cX11_init 62 = .ok (.putfield 39, 3) := by decide +kernel
theorem dX11_init_65 : decode cX11_init 65 = .ok (.aload_n 0, 1) := by decide +kernel
theorem dX11_init_66 : decode cX11_init 66 = .ok (.new 43, 3) := by decide +kernel
theorem dX11_init_69 : decode cX11_init 69 = .ok (.dup, 1) := by decide +kernel
theorem dX11_init_70 : decode cX11_init 70 = .ok (.invokespecial 45, 3) := by decide +kernel
theorem dX11_init_73 : decode cX11_init 73 = .ok (.putfield 46, 3) := by decide +kernel
theorem dX11_init_76 : decode cX11_init 76 = .ok (.aload_n 0, 1) := by decide +kernel
theorem dX11_init_77 : decode cX11_init 77 = .ok (.bipush 16, 2) := by decide +kernel
theorem dX11_init_79 : decode cX11_init 79 = .ok (.newarray .int, 2) := by decide +kernel
theorem dX11_init_81 : decode cX11_init 81 = .ok (.putfield 50, 3) := by decide +kernel
theorem dX11_init_84 : decode cX11_init 84 = .ok (.aload_n 0, 1) := by decide +kernel
theorem dX11_init_85 : decode cX11_init 85 = .ok (.lconst 0, 1) := by decide +kernel
theorem dX11_init_86 : decode cX11_init 86 = .ok (.putfield 54, 3) := by decide +kernel
theorem dX11_init_89 : decode cX11_init 89 = .ok (.aload_n 0, 1) := by decide +kernel
theorem dX11_init_90 : decode cX11_init 90 = .ok (.lconst 1, 1) := by decide +kernel
theorem dX11_init_91 : decode cX11_init 91 = .ok (.putfield 58, 3) := by decide +kernel
theorem dX11_init_94 : decode cX11_init 94 = .ok (.aload_n 0, 1) := by decide +kernel
theorem dX11_init_95 : decode cX11_init 95 = .ok (.iconst 0, 1) := by decide +kernel
theorem dX11_init_96 : decode cX11_init 96 = .ok (.putfield 61, 3) := by decide +kernel
theorem dX11_init_99 : decode cX11_init 99 = .ok (.aload_n 0, 1) := by decide +kernel
theorem dX11_init_100 : decode cX11_init 100 = .ok (.iconst 0, 1) := by decide +kernel
theorem dX11_init_101 : decode cX11_init 101 = .ok (.putfield 65, 3) := by decide +kernel
theorem dX11_init_104 : decode cX11_init 104 = .ok (.aload_n 0, 1) := by decide +kernel
theorem dX11_init_105 : decode cX11_init 105 = .ok (.iconst 0, 1) := by decide +kernel
theorem dX11_init_106 : decode cX11_init 106 = .ok (.putfield 68, 3) := by decide +kernel
theorem dX11_init_109 : decode cX11_init 109 = .ok (.aload_n 0, 1) := by decide +kernel
theorem dX11_init_110 : decode cX11_init 110 = .ok (.getfield 11, 3) := by decide +kernel
theorem dX11_init_113 : decode cX11_init 113 = .ok (.iconst 0, 1) := by decide +kernel
theorem dX11_init_114 : decode cX11_init 114 = .ok (.new 9, 3) := by decide +kernel
theorem dX11_init_117 : decode cX11_init 117 = .ok (.dup, 1) := by decide +kernel
theorem dX11_init_118 : decode cX11_init 118 = .ok (.invokespecial 71, 3) := by decide +kernel
theorem dX11_init_121 : decode cX11_init 121 = .ok (.aastore, 1) := by decide +kernel
theorem dX11_init_122 : decode cX11_init 122 = .ok (.aload_n 0, 1) := by decide +kernel
theorem dX11_init_123 : decode cX11_init 123 = .ok (.getfield 11, 3) := by decide +kernel
theorem dX11_init_126 : decode cX11_init 126 = .ok (.iconst 1, 1) := by decide +kernel
theorem dX11_init_127 : decode cX11_init 127 = .ok (.new 72, 3) := by decide +kernel
theorem dX11_init_130 : decode cX11_init 130 = .ok (.dup, 1) := by decide +kernel
theorem dX11_init_131 : decode cX11_init 131 = .ok (.invokespecial 74, 3) := by decide +kernel
theorem dX11_init_134 : decode cX11_init 134 = .ok (.aastore, 1) := by decide +kernel
theorem dX11_init_135 : decode cX11_init 135 = .ok (.aload_n 0, 1) := by decide +kernel
theorem dX11_init_136 : decode cX11_init 136 = .ok (.getfield 11, 3) := by decide +kernel
theorem dX11_init_139 : decode cX11_init 139 = .ok (.iconst 2, 1) := by decide +kernel
theorem dX11_init_140 : decode cX11_init 140 = .ok (.new 75, 3) := by decide +kernel
theorem dX11_init_143 : decode cX11_init 143 = .ok (.dup, 1) := by decide +kernel
theorem dX11_init_144 : decode cX11_init 144 = .ok (.invokespecial 77, 3) := by decide +kernel
theorem dX11_init_147 : decode cX11_init 147 = .ok (.aastore, 1) := by decide +kernel
theorem dX11_init_148 : decode cX11_init 148 = .ok (.aload_n 0, 1) := by decide +kernel
theorem dX11_init_149 : decode cX11_init 149 = .ok (.getfield 11, 3) := by decide +kernel
theorem dX11_init_152 : decode cX11_init 152 = .ok (.iconst 3, 1) := by decide +kernel
theorem dX11_init_153 : decode cX11_init 153 = .ok (.new 78, 3) := by decide +kernel
theorem dX11_init_156 : decode cX11_init 156 = .ok (.dup, 1) := by decide +kernel
theorem dX11_init_157 : decode cX11_init 157 = .ok (.invokespecial 80, 3) := by decide +kernel
theorem dX11_init_160 : decode cX11_init 160 = .ok (.aastore, 1) := by decide +kernel
theorem dX11_init_161 : decode cX11_init 161 = .ok (.aload_n 0, 1) := by decide +kernel
theorem dX11_init_162 : decode cX11_init 162 = .ok (.getfield 11, 3) := by decide +kernel
theorem dX11_init_165 : decode cX11_init 165 = .ok (.iconst 4, 1) := by decide +kernel
theorem dX11_init_166 : decode cX11_init 166 = .ok (.new 81, 3) := by decide +kernel
theorem dX11_init_169 : decode cX11_init 169 = .ok (.dup, 1) := by decide +kernel
theorem dX11_init_170 : decode cX11_init 170 = .ok (.invokespecial 83, 3) := by decide +kernel
