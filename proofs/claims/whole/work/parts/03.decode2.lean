theorem dX11_init_173 : decode cX11_init 173 = .ok (.aastore, 1) := by decide +kernel
theorem dX11_init_174 : decode cX11_init 174 = .ok (.aload_n 0, 1) := by decide +kernel
theorem dX11_init_175 : decode cX11_init 175 = .ok (.getfield 11, 3) := by decide +kernel
theorem dX11_init_178 : decode cX11_init 178 = .ok (.iconst 5, 1) := by decide +kernel
theorem dX11_init_179 : decode cX11_init 179 = .ok (.new 84, 3) := by decide +kernel
theorem dX11_init_182 : decode cX11_init 182 = .ok (.dup, 1) := by decide +kernel
theorem dX11_init_183 : decode cX11_init 183 = .ok (.invokespecial 86, 3) := by decide +kernel
theorem dX11_init_186 : decode cX11_init 186 = .ok (.aastore, 1) := by decide +kernel
theorem dX11_init_187 : decode cX11_init 187 = .ok (.return_, 1) := by decide +kernel
theorem dX11_road_0 : decode cX11_road 0 = .ok (.iload_n 1, 1) := by decide +kernel
theorem dX11_road_1 : decode cX11_road 1 = .ok (.iconst 1, 1) := by decide +kernel
theorem dX11_road_2 : decode cX11_road 2 = .ok (.bipush 15, 2) := by decide +kernel
theorem dX11_road_4 : decode cX11_road 4 = .ok (.invokestatic 87, 3) := by decide +kernel
theorem dX11_road_7 : decode cX11_road 7 = .ok (.ifCond .eq 13, 3) := by decide +kernel
theorem dX11_road_10 : decode cX11_road 10 = .ok (.iload_n 2, 1) := by decide +kernel
theorem dX11_road_11 : decode cX11_road 11 = .ok (.iconst 1, 1) := by decide +kernel
theorem dX11_road_12 : decode cX11_road 12 = .ok (.bipush 12, 2) := by decide +kernel
theorem dX11_road_14 : decode cX11_road 14 = .ok (.invokestatic 87, 3) := by decide +kernel
theorem dX11_road_17 : decode cX11_road 17 = .ok (.ifCond .ne 10, 3) := by decide +kernel
theorem dX11_road_20 : decode cX11_road 20 = .ok (.aload_n 0, 1) := by decide +kernel
theorem dX11_road_21 : decode cX11_road 21 = .ok (.bipush (-2), 2) := by decide +kernel
theorem dX11_road_23 : decode cX11_road 23 = .ok (.invokevirtual 91, 3) := by decide +kernel
theorem dX11_road_26 : decode cX11_road 26 = .ok (.ireturn, 1) := by decide +kernel
theorem dX11_road_27 : decode cX11_road 27 = .ok (.aload_n 0, 1) := by decide +kernel
theorem dX11_road_28 : decode cX11_road 28 = .ok (.getfield 18, 3) := by decide +kernel
theorem dX11_road_31 : decode cX11_road 31 = .ok (.getfield 95, 3) := by decide +kernel
theorem dX11_road_34 : decode cX11_road 34 = .ok (.istore_n 3, 1) := by decide +kernel
theorem dX11_road_35 : decode cX11_road 35 = .ok (.aload_n 0, 1) := by decide +kernel
theorem dX11_road_36 : decode cX11_road 36 = .ok (.getfield 18, 3) := by decide +kernel
theorem dX11_road_39 : decode cX11_road 39 = .ok (.iload_n 1, 1) := by decide +kernel
theorem dX11_road_40 : decode cX11_road 40 = .ok (.iload_n 2, 1) := by decide +kernel
theorem dX11_road_41 : decode cX11_road 41 = .ok (.invokevirtual 98, 3) := by decide +kernel
theorem dX11_road_44 : decode cX11_road 44 = .ok (.iload_n 3, 1) := by decide +kernel
theorem dX11_road_45 : decode cX11_road 45 = .ok (.ireturn, 1) := by decide +kernel
theorem dX11_cobble_0 : decode cX11_cobble 0 = .ok (.aload_n 0, 1) := by decide +kernel
theorem dX11_cobble_1 : decode cX11_cobble 1 = .ok (.iload_n 1, 1) := by decide +kernel
theorem dX11_cobble_2 : decode cX11_cobble 2 = .ok (.invokevirtual 102, 3) := by decide +kernel
theorem dX11_cobble_5 : decode cX11_cobble 5 = .ok (.ifCond .eq 13, 3) := by decide +kernel
theorem dX11_cobble_8 : decode cX11_cobble 8 = .ok (.iload_n 2, 1) := by decide +kernel
theorem dX11_cobble_9 : decode cX11_cobble 9 = .ok (.bipush (-4), 2) := by decide +kernel
theorem dX11_cobble_11 : decode cX11_cobble 11 = .ok (.iconst 4, 1) := by decide +kernel
theorem dX11_cobble_12 : decode cX11_cobble 12 = .ok (.invokestatic 87, 3) := by decide +kernel
theorem dX11_cobble_15 : decode cX11_cobble 15 = .ok (.ifCond .ne 10, 3) := by decide +kernel
theorem dX11_cobble_18 : decode cX11_cobble 18 = .ok (.aload_n 0, 1) := by decide +kernel
theorem dX11_cobble_19 : decode cX11_cobble 19 = .ok (.bipush (-10), 2) := by decide +kernel
theorem dX11_cobble_21 : decode cX11_cobble 21 = .ok (.invokevirtual 91, 3) := by decide +kernel
theorem dX11_cobble_24 : decode cX11_cobble 24 = .ok (.ireturn, 1) := by decide +kernel
theorem dX11_cobble_25 : decode cX11_cobble 25 = .ok (.aload_n 0, 1) := by decide +kernel
theorem dX11_cobble_26 : decode cX11_cobble 26 = .ok (.getfield 18, 3) := by decide +kernel
theorem dX11_cobble_29 : decode cX11_cobble 29 = .ok (.getfield 106, 3) := by decide +kernel
theorem dX11_cobble_32 : decode cX11_cobble 32 = .ok (.iload_n 1, 1) := by decide +kernel
theorem dX11_cobble_33 : decode cX11_cobble 33 = .ok (.invokevirtual 110, 3) := by decide +kernel
theorem dX11_cobble_36 : decode cX11_cobble 36 = .ok (.istore_n 3, 1) := by decide +kernel
theorem dX11_cobble_37 : decode cX11_cobble 37 = .ok (.aload_n 0, 1) := by decide +kernel
theorem dX11_cobble_38 : decode cX11_cobble 38 = .ok (.getfield 18, 3) := by decide +kernel
theorem dX11_cobble_41 : decode cX11_cobble 41 = .ok (.getfield 106, 3) := by decide +kernel
theorem dX11_cobble_44 : decode cX11_cobble 44 = .ok (.iload_n 1, 1) := by decide +kernel
theorem dX11_cobble_45 : decode cX11_cobble 45 = .ok (.iload_n 2, 1) := by decide +kernel
theorem dX11_cobble_46 : decode cX11_cobble 46 = .ok (.invokevirtual 115, 3) := by decide +kernel
theorem dX11_cobble_49 : decode cX11_cobble 49 = .ok (.iload_n 3, 1) := by decide +kernel
theorem dX11_cobble_50 : decode cX11_cobble 50 = .ok (.ireturn, 1) := by decide +kernel
theorem dX11_wind_0 : decode cX11_wind 0 = .ok (.iload_n 1, 1) := by decide +kernel
theorem dX11_wind_1 : decode cX11_wind 1 = .ok (.iconst 0, 1) := by decide +kernel
theorem dX11_wind_2 : decode cX11_wind 2 = .ok (.iconst 5, 1) := by decide +kernel
theorem dX11_wind_3 : decode cX11_wind 3 = .ok (.invokestatic 87, 3) := by decide +kernel
theorem dX11_wind_6 : decode cX11_wind 6 = .ok (.ifCond .eq 13, 3) := by decide +kernel
theorem dX11_wind_9 : decode cX11_wind 9 = .ok (.iload_n 2, 1) := by decide +kernel
theorem dX11_wind_10 : decode cX11_wind 10 = .ok (.bipush (-3), 2) := by decide +kernel
theorem dX11_wind_12 : decode cX11_wind 12 = .ok (.iconst 3, 1) := by decide +kernel
theorem dX11_wind_13 : decode cX11_wind 13 = .ok (.invokestatic 87, 3) := by decide +kernel
theorem dX11_wind_16 : decode cX11_wind 16 = .ok (.ifCond .ne 10, 3) := by decide +kernel
theorem dX11_wind_19 : decode cX11_wind 19 = .ok (.aload_n 0, 1) := by decide +kernel
theorem dX11_wind_20 : decode cX11_wind 20 = .ok (.bipush (-10), 2) := by decide +kernel
theorem dX11_wind_22 : decode cX11_wind 22 = .ok (.invokevirtual 91, 3) := by decide +kernel
theorem dX11_wind_25 : decode cX11_wind 25 = .ok (.ireturn, 1) := by decide +kernel
theorem dX11_wind_26 : decode cX11_wind 26 = .ok (.aload_n 0, 1) := by decide +kernel
theorem dX11_wind_27 : decode cX11_wind 27 = .ok (.getfield 18, 3) := by decide +kernel
theorem dX11_wind_30 : decode cX11_wind 30 = .ok (.getfield 106, 3) := by decide +kernel
theorem dX11_wind_33 : decode cX11_wind 33 = .ok (.iload_n 1, 1) := by decide +kernel
theorem dX11_wind_34 : decode cX11_wind 34 = .ok (.invokevirtual 118, 3) := by decide +kernel
theorem dX11_wind_37 : decode cX11_wind 37 = .ok (.istore_n 3, 1) := by decide +kernel
theorem dX11_wind_38 : decode cX11_wind 38 = .ok (.aload_n 0, 1) := by decide +kernel
theorem dX11_wind_39 : decode cX11_wind 39 = .ok (.getfield 18, 3) := by decide +kernel
theorem dX11_wind_42 : decode cX11_wind 42 = .ok (.getfield 106, 3) := by decide +kernel
theorem dX11_wind_45 : decode cX11_wind 45 = .ok (.iload_n 1, 1) := by decide +kernel
theorem dX11_wind_46 : decode cX11_wind 46 = .ok (.iload_n 2, 1) := by decide +kernel
theorem dX11_wind_47 : decode cX11_wind 47 = .ok (.invokevirtual 121, 3) := by decide +kernel
theorem dX11_wind_50 : decode cX11_wind 50 = .ok (.iload_n 3, 1) := by decide +kernel
theorem dX11_wind_51 : decode cX11_wind 51 = .ok (.ireturn, 1) := by decide +kernel
theorem dX11_head_0 : decode cX11_head 0 = .ok (.iload_n 1, 1) := by decide +kernel
theorem dX11_head_1 : decode cX11_head 1 = .ok (.iconst 0, 1) := by decide +kernel
theorem dX11_head_2 : decode cX11_head 2 = .ok (.iconst 5, 1) := by decide +kernel
theorem dX11_head_3 : decode cX11_head 3 = .ok (.invokestatic 87, 3) := by decide +kernel
theorem dX11_head_6 : decode cX11_head 6 = .ok (.ifCond .eq 14, 3) := by decide +kernel
theorem dX11_head_9 : decode cX11_head 9 = .ok (.iload_n 2, 1) := by decide +kernel
theorem dX11_head_10 : decode cX11_head 10 = .ok (.bipush (-12), 2) := by decide +kernel
theorem dX11_head_12 : decode cX11_head 12 = .ok (.bipush 12, 2) := by decide +kernel
theorem dX11_head_14 : decode cX11_head 14 = .ok (.invokestatic 87, 3) := by decide +kernel
theorem dX11_head_17 : decode cX11_head 17 = .ok (.ifCond .ne 10, 3) := by decide +kernel
theorem dX11_head_20 : decode cX11_head 20 = .ok (.aload_n 0, 1) := by decide +kernel
theorem dX11_head_21 : decode cX11_head 21 = .ok (.bipush (-2), 2) := by decide +kernel
theorem dX11_head_23 : decode cX11_head 23 = .ok (.invokevirtual 91, 3) := by decide +kernel
theorem dX11_head_26 : decode cX11_head 26 = .ok (.ireturn, 1) := by decide +kernel
theorem dX11_head_27 : decode cX11_head 27 = .ok (.aload_n 0, 1) := by decide +kernel
theorem dX11_head_28 : decode cX11_head 28 = .ok (.getfield 18, 3) := by decide +kernel
theorem dX11_head_31 : decode cX11_head 31 = .ok (.getfield 95, 3) := by decide +kernel
theorem dX11_head_34 : decode cX11_head 34 = .ok (.iconst 5, 1) := by decide +kernel
theorem dX11_head_35 : decode cX11_head 35 = .ok (.if_icmp .lt 8, 3) := by decide +kernel
theorem dX11_head_38 : decode cX11_head 38 = .ok (.aload_n 0, 1) := by decide +kernel
theorem dX11_head_39 : decode cX11_head 39 = .ok (.invokevirtual 124, 3) := by decide +kernel
theorem dX11_head_42 : decode cX11_head 42 = .ok (.ireturn, 1) := by decide +kernel
theorem dX11_head_43 : decode cX11_head 43 = .ok (.aload_n 0, 1) := by decide +kernel
theorem dX11_head_44 : decode cX11_head 44 = .ok (.getfield 18, 3) := by decide +kernel
theorem dX11_head_47 : decode cX11_head 47 = .ok (.iload_n 1, 1) := by decide +kernel
theorem dX11_head_48 : decode cX11_head 48 = .ok (.iload_n 2, 1) := by decide +kernel
theorem dX11_head_49 : decode cX11_head 49 = .ok (.invokevirtual 128, 3) := by decide +kernel
theorem dX11_head_52 : decode cX11_head 52 = .ok (.aload_n 0, 1) := by decide +kernel
theorem dX11_head_53 : decode cX11_head 53 = .ok (.getfield 18, 3) := by decide +kernel
theorem dX11_head_56 : decode cX11_head 56 = .ok (.getfield 95, 3) := by decide +kernel
theorem dX11_head_59 : decode cX11_head 59 = .ok (.iconst 1, 1) := by decide +kernel
theorem dX11_head_60 : decode cX11_head 60 = .ok (.isub, 1) := by decide +kernel
theorem dX11_head_61 : decode cX11_head 61 = .ok (.ireturn, 1) := by decide +kernel
theorem dX11_type_0 : decode cX11_type 0 = .ok (.iload_n 1, 1) := by decide +kernel
theorem dX11_type_1 : decode cX11_type 1 = .ok (.iconst 0, 1) := by decide +kernel
theorem dX11_type_2 : decode cX11_type 2 = .ok (.bipush 127, 2) := by decide +kernel
theorem dX11_type_4 : decode cX11_type 4 = .ok (.invokestatic 87, 3) := by decide +kernel
theorem dX11_type_7 : decode cX11_type 7 = .ok (.ifCond .ne 10, 3) := by decide +kernel
theorem dX11_type_10 : decode cX11_type 10 = .ok (.aload_n 0, 1) := by decide +kernel
theorem dX11_type_11 : decode cX11_type 11 = .ok (.bipush (-2), 2) := by decide +kernel
theorem dX11_type_13 : decode cX11_type 13 = .ok (.invokevirtual 91, 3) := by decide +kernel
theorem dX11_type_16 : decode cX11_type 16 = .ok (.ireturn, 1) := by decide +kernel
theorem dX11_type_17 : decode cX11_type 17 = .ok (.aload_n 0, 1) := by decide +kernel
theorem dX11_type_18 : decode cX11_type 18 = .ok (.getfield 32, 3) := by decide +kernel
theorem dX11_type_21 : decode cX11_type 21 = .ok (.getfield 131, 3) := by decide +kernel
theorem dX11_type_24 : decode cX11_type 24 = .ok (.sipush 150, 3) := by decide +kernel
theorem dX11_type_27 : decode cX11_type 27 = .ok (.if_icmp .lt 8, 3) := by decide +kernel
theorem dX11_type_30 : decode cX11_type 30 = .ok (.aload_n 0, 1) := by decide +kernel
theorem dX11_type_31 : decode cX11_type 31 = .ok (.invokevirtual 124, 3) := by decide +kernel
theorem dX11_type_34 : decode cX11_type 34 = .ok (.ireturn, 1) := by decide +kernel
theorem dX11_type_35 : decode cX11_type 35 = .ok (.aload_n 0, 1) := by decide +kernel
theorem dX11_type_36 : decode cX11_type 36 = .ok (.getfield 32, 3) := by decide +kernel
theorem dX11_type_39 : decode cX11_type 39 = .ok (.iload_n 1, 1) := by decide +kernel
theorem dX11_type_40 : decode cX11_type 40 = .ok (.invokevirtual 134, 3) := by decide +kernel
theorem dX11_type_43 : decode cX11_type 43 = .ok (.aload_n 0, 1) := by decide +kernel
theorem dX11_type_44 : decode cX11_type 44 = .ok (.getfield 32, 3) := by decide +kernel
theorem dX11_type_47 : decode cX11_type 47 = .ok (.getfield 131, 3) := by decide +kernel
theorem dX11_type_50 : decode cX11_type 50 = .ok (.ireturn, 1) := by decide +kernel
theorem dX11_clear_0 : decode cX11_clear 0 = .ok (.aload_n 0, 1) := by decide +kernel
theorem dX11_clear_1 : decode cX11_clear 1 = .ok (.getfield 32, 3) := by decide +kernel
theorem dX11_clear_4 : decode cX11_clear 4 = .ok (.getfield 131, 3) := by decide +kernel
theorem dX11_clear_7 : decode cX11_clear 7 = .ok (.istore_n 1, 1) := by decide +kernel
theorem dX11_clear_8 : decode cX11_clear 8 = .ok (.aload_n 0, 1) := by decide +kernel
theorem dX11_clear_9 : decode cX11_clear 9 = .ok (.getfield 32, 3) := by decide +kernel
theorem dX11_clear_12 : decode cX11_clear 12 = .ok (.iconst 0, 1) := by decide +kernel
theorem dX11_clear_13 : decode cX11_clear 13 = .ok (.putfield 131, 3) := by decide +kernel
theorem dX11_clear_16 : decode cX11_clear 16 = .ok (.iload_n 1, 1) := by decide +kernel
theorem dX11_clear_17 : decode cX11_clear 17 = .ok (.ireturn, 1) := by decide +kernel
theorem dX11_read_0 : decode cX11_read 0 = .ok (.aload_n 0, 1) := by decide +kernel
theorem dX11_read_1 : decode cX11_read 1 = .ok (.getfield 32, 3) := by decide +kernel
theorem dX11_read_4 : decode cX11_read 4 = .ok (.aload_n 0, 1) := by decide +kernel
theorem dX11_read_5 : decode cX11_read 5 = .ok (.getfield 22, 3) := by decide +kernel
theorem dX11_read_8 : decode cX11_read 8 = .ok (.invokevirtual 138, 3) := by decide +kernel
theorem dX11_read_11 : decode cX11_read 11 = .ok (.istore_n 1, 1) := by decide +kernel
theorem dX11_read_12 : decode cX11_read 12 = .ok (.iload_n 1, 1) := by decide +kernel
theorem dX11_read_13 : decode cX11_read 13 = .ok (.iconst (-1), 1) := by decide +kernel
theorem dX11_read_14 : decode cX11_read 14 = .ok (.if_icmp .ne 14, 3) := by decide +kernel
theorem dX11_read_17 : decode cX11_read 17 = .ok (.bipush (-10), 2) := by decide +kernel
theorem dX11_read_19 : decode cX11_read 19 = .ok (.aload_n 0, 1) := by decide +kernel
theorem dX11_read_20 : decode cX11_read 20 = .ok (.getfield 32, 3) := by decide +kernel
theorem dX11_read_23 : decode cX11_read 23 = .ok (.getfield 142, 3) := by decide +kernel
theorem dX11_read_26 : decode cX11_read 26 = .ok (.isub, 1) := by decide +kernel
theorem dX11_read_27 : decode cX11_read 27 = .ok (.ireturn, 1) := by decide +kernel
theorem dX11_read_28 : decode cX11_read 28 = .ok (.aload_n 0, 1) := by decide +kernel
theorem dX11_read_29 : decode cX11_read 29 = .ok (.getfield 18, 3) := by decide +kernel
theorem dX11_read_32 : decode cX11_read 32 = .ok (.aload_n 0, 1) := by decide +kernel
theorem dX11_read_33 : decode cX11_read 33 = .ok (.getfield 22, 3) := by decide +kernel
theorem dX11_read_36 : decode cX11_read 36 = .ok (.invokevirtual 145, 3) := by decide +kernel
theorem dX11_read_39 : decode cX11_read 39 = .ok (.iload_n 1, 1) := by decide +kernel
theorem dX11_read_40 : decode cX11_read 40 = .ok (.ireturn, 1) := by decide +kernel
theorem dX11_walk_0 : decode cX11_walk 0 = .ok (.aload_n 0, 1) := by decide +kernel
theorem dX11_walk_1 : decode cX11_walk 1 = .ok (.iload_n 1, 1) := by decide +kernel
theorem dX11_walk_2 : decode cX11_walk 2 = .ok (.invokevirtual 149, 3) := by decide +kernel
theorem dX11_walk_5 : decode cX11_walk 5 = .ok (.ifCond .ne 10, 3) := by decide +kernel
theorem dX11_walk_8 : decode cX11_walk 8 = .ok (.aload_n 0, 1) := by decide +kernel
theorem dX11_walk_9 : decode cX11_walk 9 = .ok (.bipush (-2), 2) := by decide +kernel
theorem dX11_walk_11 : decode cX11_walk 11 = .ok (.invokevirtual 91, 3) := by decide +kernel
theorem dX11_walk_14 : decode cX11_walk 14 = .ok (.ireturn, 1) := by decide +kernel
theorem dX11_walk_15 : decode cX11_walk 15 = .ok (.aload_n 0, 1) := by decide +kernel
theorem dX11_walk_16 : decode cX11_walk 16 = .ok (.getfield 18, 3) := by decide +kernel
theorem dX11_walk_19 : decode cX11_walk 19 = .ok (.getfield 152, 3) := by decide +kernel
theorem dX11_walk_22 : decode cX11_walk 22 = .ok (.iload_n 1, 1) := by decide +kernel
theorem dX11_walk_23 : decode cX11_walk 23 = .ok (.iconst 0, 1) := by decide +kernel
theorem dX11_walk_24 : decode cX11_walk 24 = .ok (.aload_n 0, 1) := by decide +kernel
theorem dX11_walk_25 : decode cX11_walk 25 = .ok (.getfield 18, 3) := by decide +kernel
theorem dX11_walk_28 : decode cX11_walk 28 = .ok (.iload_n 1, 1) := by decide +kernel
theorem dX11_walk_29 : decode cX11_walk 29 = .ok (.invokevirtual 155, 3) := by decide +kernel
theorem dX11_walk_32 : decode cX11_walk 32 = .ok (.invokevirtual 158, 3) := by decide +kernel
theorem dX11_walk_35 : decode cX11_walk 35 = .ok (.aload_n 0, 1) := by decide +kernel
theorem dX11_walk_36 : decode cX11_walk 36 = .ok (.getfield 18, 3) := by decide +kernel
theorem dX11_walk_39 : decode cX11_walk 39 = .ok (.getfield 152, 3) := by decide +kernel
theorem dX11_walk_42 : decode cX11_walk 42 = .ok (.aload_n 0, 1) := by decide +kernel
theorem dX11_walk_43 : decode cX11_walk 43 = .ok (.getfield 18, 3) := by decide +kernel
theorem dX11_walk_46 : decode cX11_walk 46 = .ok (.getfield 106, 3) := by decide +kernel
theorem dX11_walk_49 : decode cX11_walk 49 = .ok (.invokevirtual 162, 3) := by decide +kernel
theorem dX11_walk_52 : decode cX11_walk 52 = .ok (.invokestatic 166, 3) := by decide +kernel
theorem dX11_walk_55 : decode cX11_walk 55 = .ok (.ireturn, 1) := by decide +kernel
theorem dX11_step_0 : decode cX11_step 0 = .ok (.iload_n 1, 1) := by decide +kernel
theorem dX11_step_1 : decode cX11_step 1 = .ok (.iconst 1, 1) := by decide +kernel
theorem dX11_step_2 : decode cX11_step 2 = .ok (.iconst 3, 1) := by decide +kernel
theorem dX11_step_3 : decode cX11_step 3 = .ok (.invokestatic 87, 3) := by decide +kernel
theorem dX11_step_6 : decode cX11_step 6 = .ok (.ifCond .ne 10, 3) := by decide +kernel
theorem dX11_step_9 : decode cX11_step 9 = .ok (.aload_n 0, 1) := by decide +kernel
theorem dX11_step_10 : decode cX11_step 10 = .ok (.bipush (-10), 2) := by decide +kernel
theorem dX11_step_12 : decode cX11_step 12 = .ok (.invokevirtual 91, 3) := by decide +kernel
theorem dX11_step_15 : decode cX11_step 15 = .ok (.ireturn, 1) := by decide +kernel
theorem dX11_step_16 : decode cX11_step 16 = .ok (.aload_n 0, 1) := by decide +kernel
theorem dX11_step_17 : decode cX11_step 17 = .ok (.getfield 18, 3) := by decide +kernel
theorem dX11_step_20 : decode cX11_step 20 = .ok (.getfield 152, 3) := by decide +kernel
theorem dX11_step_23 : decode cX11_step 23 = .ok (.astore_n 2, 1) := by decide +kernel
theorem dX11_step_24 : decode cX11_step 24 = .ok (.aload_n 2, 1) := by decide +kernel
theorem dX11_step_25 : decode cX11_step 25 = .ok (.getfield 170, 3) := by decide +kernel
theorem dX11_step_28 : decode cX11_step 28 = .ok (.iconst (-1), 1) := by decide +kernel
theorem dX11_step_29 : decode cX11_step 29 = .ok (.if_icmp .eq 17, 3) := by decide +kernel
theorem dX11_step_32 : decode cX11_step 32 = .ok (.aload_n 2, 1) := by decide +kernel
theorem dX11_step_33 : decode cX11_step 33 = .ok (.aload_n 0, 1) := by decide +kernel
theorem dX11_step_34 : decode cX11_step 34 = .ok (.getfield 18, 3) := by decide +kernel
theorem dX11_step_37 : decode cX11_step 37 = .ok (.getfield 106, 3) := by decide +kernel
theorem dX11_step_40 : decode cX11_step 40 = .ok (.invokevirtual 173, 3) := by decide +kernel
theorem dX11_step_43 : decode cX11_step 43 = .ok (.ifCond .eq 10, 3) := by decide +kernel
theorem dX11_step_46 : decode cX11_step 46 = .ok (.aload_n 0, 1) := by decide +kernel
theorem dX11_step_47 : decode cX11_step 47 = .ok (.bipush (-3), 2) := by decide +kernel
theorem dX11_step_49 : decode cX11_step 49 = .ok (.invokevirtual 176, 3) := by decide +kernel
theorem dX11_step_52 : decode cX11_step 52 = .ok (.ireturn, 1) := by decide +kernel
theorem dX11_step_53 : decode cX11_step 53 = .ok (.aload_n 2, 1) := by decide +kernel
theorem dX11_step_54 : decode cX11_step 54 = .ok (.invokevirtual 179, 3) := by decide +kernel
theorem dX11_step_57 : decode cX11_step 57 = .ok (.aload_n 2, 1) := by decide +kernel
theorem dX11_step_58 : decode cX11_step 58 = .ok (.aload_n 0, 1) := by decide +kernel
theorem dX11_step_59 : decode cX11_step 59 = .ok (.getfield 18, 3) := by decide +kernel
theorem dX11_step_62 : decode cX11_step 62 = .ok (.getfield 106, 3) := by decide +kernel
theorem dX11_step_65 : decode cX11_step 65 = .ok (.aload_n 0, 1) := by decide +kernel
theorem dX11_step_66 : decode cX11_step 66 = .ok (.aload_n 0, 1) := by decide +kernel
theorem dX11_step_67 : decode cX11_step 67 = .ok (.getfield 18, 3) := by decide +kernel
theorem dX11_step_70 : decode cX11_step 70 = .ok (.aload_n 2, 1) := by decide +kernel
theorem dX11_step_71 : decode cX11_step 71 = .ok (.getfield 170, 3) := by decide +kernel
theorem dX11_step_74 : decode cX11_step 74 = .ok (.invokevirtual 182, 3) := by decide +kernel
theorem dX11_step_77 : decode cX11_step 77 = .ok (.invokevirtual 185, 3) := by decide +kernel
theorem dX11_step_80 : decode cX11_step 80 = .ok (.iload_n 1, 1) := by decide +kernel
theorem dX11_step_81 : decode cX11_step 81 = .ok (.iconst 0, 1) := by decide +kernel
theorem dX11_step_82 : decode cX11_step 82 = .ok (.invokevirtual 189, 3) := by decide +kernel
theorem dX11_step_85 : decode cX11_step 85 = .ok (.aload_n 2, 1) := by decide +kernel
theorem dX11_step_86 : decode cX11_step 86 = .ok (.getfield 193, 3) := by decide +kernel
theorem dX11_step_89 : decode cX11_step 89 = .ok (.ireturn, 1) := by decide +kernel
theorem dX11_hand_0 : decode cX11_hand 0 = .ok (.aload_n 0, 1) := by decide +kernel
theorem dX11_hand_1 : decode cX11_hand 1 = .ok (.getfield 18, 3) := by decide +kernel
theorem dX11_hand_4 : decode cX11_hand 4 = .ok (.getfield 152, 3) := by decide +kernel
theorem dX11_hand_7 : decode cX11_hand 7 = .ok (.astore_n 1, 1) := by decide +kernel
theorem dX11_hand_8 : decode cX11_hand 8 = .ok (.aload_n 1, 1) := by decide +kernel
theorem dX11_hand_9 : decode cX11_hand 9 = .ok (.getfield 170, 3) := by decide +kernel
theorem dX11_hand_12 : decode cX11_hand 12 = .ok (.iconst (-1), 1) := by decide +kernel
theorem dX11_hand_13 : decode cX11_hand 13 = .ok (.if_icmp .eq 17, 3) := by decide +kernel
theorem dX11_hand_16 : decode cX11_hand 16 = .ok (.aload_n 1, 1) := by decide +kernel
theorem dX11_hand_17 : decode cX11_hand 17 = .ok (.aload_n 0, 1) := by decide +kernel
theorem dX11_hand_18 : decode cX11_hand 18 = .ok (.getfield 18, 3) := by decide +kernel
theorem dX11_hand_21 : decode cX11_hand 21 = .ok (.getfield 106, 3) := by decide +kernel
theorem dX11_hand_24 : decode cX11_hand 24 = .ok (.invokevirtual 196, 3) := by decide +kernel
theorem dX11_hand_27 : decode cX11_hand 27 = .ok (.ifCond .eq 10, 3) := by decide +kernel
theorem dX11_hand_30 : decode cX11_hand 30 = .ok (.aload_n 0, 1) := by decide +kernel
theorem dX11_hand_31 : decode cX11_hand 31 = .ok (.bipush (-99), 2) := by decide +kernel
theorem dX11_hand_33 : decode cX11_hand 33 = .ok (.invokevirtual 176, 3) := by decide +kernel
theorem dX11_hand_36 : decode cX11_hand 36 = .ok (.ireturn, 1) := by decide +kernel
theorem dX11_hand_37 : decode cX11_hand 37 = .ok (.aload_n 1, 1) := by decide +kernel
theorem dX11_hand_38 : decode cX11_hand 38 = .ok (.invokevirtual 179, 3) := by decide +kernel
theorem dX11_hand_41 : decode cX11_hand 41 = .ok (.aload_n 1, 1) := by decide +kernel
theorem dX11_hand_42 : decode cX11_hand 42 = .ok (.getfield 199, 3) := by decide +kernel
theorem dX11_hand_45 : decode cX11_hand 45 = .ok (.istore_n 2, 1) := by decide +kernel
theorem dX11_hand_46 : decode cX11_hand 46 = .ok (.aload_n 1, 1) := by decide +kernel
theorem dX11_hand_47 : decode cX11_hand 47 = .ok (.iconst 0, 1) := by decide +kernel
theorem dX11_hand_48 : decode cX11_hand 48 = .ok (.putfield 199, 3) := by decide +kernel
theorem dX11_hand_51 : decode cX11_hand 51 = .ok (.iload_n 2, 1) := by decide +kernel
theorem dX11_hand_52 : decode cX11_hand 52 = .ok (.ireturn, 1) := by decide +kernel
theorem dX11_undo_0 : decode cX11_undo 0 = .ok (.aload_n 0, 1) := by decide +kernel
theorem dX11_undo_1 : decode cX11_undo 1 = .ok (.getfield 18, 3) := by decide +kernel
theorem dX11_undo_4 : decode cX11_undo 4 = .ok (.getfield 152, 3) := by decide +kernel
theorem dX11_undo_7 : decode cX11_undo 7 = .ok (.getfield 202, 3) := by decide +kernel
theorem dX11_undo_10 : decode cX11_undo 10 = .ok (.ifCond .gt 10, 3) := by decide +kernel
theorem dX11_undo_13 : decode cX11_undo 13 = .ok (.aload_n 0, 1) := by decide +kernel
theorem dX11_undo_14 : decode cX11_undo 14 = .ok (.bipush (-3), 2) := by decide +kernel
theorem dX11_undo_16 : decode cX11_undo 16 = .ok (.invokevirtual 176, 3) := by decide +kernel
theorem dX11_undo_19 : decode cX11_undo 19 = .ok (.ireturn, 1) := by decide +kernel
theorem dX11_undo_20 : decode cX11_undo 20 = .ok (.aload_n 0, 1) := by decide +kernel
theorem dX11_undo_21 : decode cX11_undo 21 = .ok (.getfield 18, 3) := by decide +kernel
theorem dX11_undo_24 : decode cX11_undo 24 = .ok (.getfield 152, 3) := by decide +kernel
theorem dX11_undo_27 : decode cX11_undo 27 = .ok (.invokevirtual 205, 3) := by decide +kernel
theorem dX11_undo_30 : decode cX11_undo 30 = .ok (.aload_n 0, 1) := by decide +kernel
theorem dX11_undo_31 : decode cX11_undo 31 = .ok (.getfield 18, 3) := by decide +kernel
theorem dX11_undo_34 : decode cX11_undo 34 = .ok (.getfield 152, 3) := by decide +kernel
theorem dX11_undo_37 : decode cX11_undo 37 = .ok (.getfield 193, 3) := by decide +kernel
theorem dX11_undo_40 : decode cX11_undo 40 = .ok (.ireturn, 1) := by decide +kernel
theorem dX11_of_0 : decode cX11_of 0 = .ok (.aload_n 0, 1) := by decide +kernel
theorem dX11_of_1 : decode cX11_of 1 = .ok (.iload_n 1, 1) := by decide +kernel
theorem dX11_of_2 : decode cX11_of 2 = .ok (.invokevirtual 149, 3) := by decide +kernel
theorem dX11_of_5 : decode cX11_of 5 = .ok (.ifCond .eq 12, 3) := by decide +kernel
theorem dX11_of_8 : decode cX11_of 8 = .ok (.iload_n 2, 1) := by decide +kernel
theorem dX11_of_9 : decode cX11_of 9 = .ok (.iconst 0, 1) := by decide +kernel
theorem dX11_of_10 : decode cX11_of 10 = .ok (.iconst 1, 1) := by decide +kernel
theorem dX11_of_11 : decode cX11_of 11 = .ok (.invokestatic 87, 3) := by decide +kernel
theorem dX11_of_14 : decode cX11_of 14 = .ok (.ifCond .ne 10, 3) := by decide +kernel
theorem dX11_of_17 : decode cX11_of 17 = .ok (.aload_n 0, 1) := by decide +kernel
theorem dX11_of_18 : decode cX11_of 18 = .ok (.bipush (-100), 2) := by decide +kernel
theorem dX11_of_20 : decode cX11_of 20 = .ok (.invokevirtual 91, 3) := by decide +kernel
theorem dX11_of_23 : decode cX11_of 23 = .ok (.ireturn, 1) := by decide +kernel
theorem dX11_of_24 : decode cX11_of 24 = .ok (.iload_n 2, 1) := by decide +kernel
theorem dX11_of_25 : decode cX11_of 25 = .ok (.ifCond .ne 14, 3) := by decide +kernel
theorem dX11_of_28 : decode cX11_of 28 = .ok (.aload_n 0, 1) := by decide +kernel
theorem dX11_of_29 : decode cX11_of 29 = .ok (.getfield 18, 3) := by decide +kernel
theorem dX11_of_32 : decode cX11_of 32 = .ok (.iload_n 1, 1) := by decide +kernel
theorem dX11_of_33 : decode cX11_of 33 = .ok (.invokevirtual 182, 3) := by decide +kernel
theorem dX11_of_36 : decode cX11_of 36 = .ok (.goto 11, 3) := by decide +kernel
theorem dX11_of_39 : decode cX11_of 39 = .ok (.aload_n 0, 1) := by decide +kernel
theorem dX11_of_40 : decode cX11_of 40 = .ok (.getfield 18, 3) := by decide +kernel
theorem dX11_of_43 : decode cX11_of 43 = .ok (.iload_n 1, 1) := by decide +kernel
theorem dX11_of_44 : decode cX11_of 44 = .ok (.invokevirtual 155, 3) := by decide +kernel
theorem dX11_of_47 : decode cX11_of 47 = .ok (.ireturn, 1) := by decide +kernel
theorem dX11_now_0 : decode cX11_now 0 = .ok (.iload_n 1, 1) := by decide +kernel
theorem dX11_now_1 : decode cX11_now 1 = .ok (.iconst 0, 1) := by decide +kernel
theorem dX11_now_2 : decode cX11_now 2 = .ok (.iconst 4, 1) := by decide +kernel
theorem dX11_now_3 : decode cX11_now 3 = .ok (.invokestatic 87, 3) := by decide +kernel
theorem dX11_now_6 : decode cX11_now 6 = .ok (.ifCond .ne 10, 3) := by decide +kernel
theorem dX11_now_9 : decode cX11_now 9 = .ok (.aload_n 0, 1) := by decide +kernel
theorem dX11_now_10 : decode cX11_now 10 = .ok (.bipush (-100), 2) := by decide +kernel
theorem dX11_now_12 : decode cX11_now 12 = .ok (.invokevirtual 91, 3) := by decide +kernel
theorem dX11_now_15 : decode cX11_now 15 = .ok (.ireturn, 1) := by decide +kernel
theorem dX11_now_16 : decode cX11_now 16 = .ok (.aload_n 0, 1) := by decide +kernel
theorem dX11_now_17 : decode cX11_now 17 = .ok (.getfield 18, 3) := by decide +kernel
theorem dX11_now_20 : decode cX11_now 20 = .ok (.getfield 152, 3) := by decide +kernel
theorem dX11_now_23 : decode cX11_now 23 = .ok (.astore_n 2, 1) := by decide +kernel
theorem dX11_now_24 : decode cX11_now 24 = .ok (.iload_n 1, 1) := by decide +kernel
theorem dX11_now_25 : decode cX11_now 25 = .ok (.tableswitch 51 0 3 #[31, 36, 41, 46], 31) := by decide +kernel
theorem dX11_now_56 : decode cX11_now 56 = .ok (.aload_n 2, 1) := by decide +kernel
theorem dX11_now_57 : decode cX11_now 57 = .ok (.getfield 170, 3) := by decide +kernel
theorem dX11_now_60 : decode cX11_now 60 = .ok (.ireturn, 1) := by decide +kernel
theorem dX11_now_61 : decode cX11_now 61 = .ok (.aload_n 2, 1) := by decide +kernel
theorem dX11_now_62 : decode cX11_now 62 = .ok (.getfield 193, 3) := by decide +kernel
theorem dX11_now_65 : decode cX11_now 65 = .ok (.ireturn, 1) := by decide +kernel
theorem dX11_now_66 : decode cX11_now 66 = .ok (.aload_n 2, 1) := by decide +kernel
theorem dX11_now_67 : decode cX11_now 67 = .ok (.getfield 208, 3) := by decide +kernel
theorem dX11_now_70 : decode cX11_now 70 = .ok (.ireturn, 1) := by decide +kernel
theorem dX11_now_71 : decode cX11_now 71 = .ok (.aload_n 2, 1) := by decide +kernel
theorem dX11_now_72 : decode cX11_now 72 = .ok (.getfield 199, 3) := by decide +kernel
theorem dX11_now_75 : decode cX11_now 75 = .ok (.ireturn, 1) := by decide +kernel
theorem dX11_now_76 : decode cX11_now 76 = .ok (.aload_n 2, 1) := by decide +kernel
theorem dX11_now_77 : decode cX11_now 77 = .ok (.aload_n 0, 1) := by decide +kernel
theorem dX11_now_78 : decode cX11_now 78 = .ok (.getfield 18, 3) := by decide +kernel
theorem dX11_now_81 : decode cX11_now 81 = .ok (.getfield 106, 3) := by decide +kernel
theorem dX11_now_84 : decode cX11_now 84 = .ok (.invokevirtual 162, 3) := by decide +kernel
theorem dX11_now_87 : decode cX11_now 87 = .ok (.invokestatic 166, 3) := by decide +kernel
theorem dX11_now_90 : decode cX11_now 90 = .ok (.ireturn, 1) := by decide +kernel
theorem dX11_paces_0 : decode cX11_paces 0 = .ok (.aload_n 0, 1) := by decide +kernel
theorem dX11_paces_1 : decode cX11_paces 1 = .ok (.iload_n 1, 1) := by decide +kernel
theorem dX11_paces_2 : decode cX11_paces 2 = .ok (.invokevirtual 149, 3) := by decide +kernel
theorem dX11_paces_5 : decode cX11_paces 5 = .ok (.ifCond .eq 27, 3) := by decide +kernel
theorem dX11_paces_8 : decode cX11_paces 8 = .ok (.iload_n 2, 1) := by decide +kernel
theorem dX11_paces_9 : decode cX11_paces 9 = .ok (.invokestatic 211, 3) := by decide +kernel
theorem dX11_paces_12 : decode cX11_paces 12 = .ok (.ifCond .eq 20, 3) := by decide +kernel
theorem dX11_paces_15 : decode cX11_paces 15 = .ok (.iload_n 3, 1) := by decide +kernel
theorem dX11_paces_16 : decode cX11_paces 16 = .ok (.invokestatic 214, 3) := by decide +kernel
theorem dX11_paces_19 : decode cX11_paces 19 = .ok (.ifCond .eq 13, 3) := by decide +kernel
theorem dX11_paces_22 : decode cX11_paces 22 = .ok (.iload 4, 2) := by decide +kernel
theorem dX11_paces_24 : decode cX11_paces 24 = .ok (.iconst 0, 1) := by decide +kernel
theorem dX11_paces_25 : decode cX11_paces 25 = .ok (.iconst 3, 1) := by decide +kernel
theorem dX11_paces_26 : decode cX11_paces 26 = .ok (.invokestatic 87, 3) := by decide +kernel
theorem dX11_paces_29 : decode cX11_paces 29 = .ok (.ifCond .ne 10, 3) := by decide +kernel
theorem dX11_paces_32 : decode cX11_paces 32 = .ok (.aload_n 0, 1) := by decide +kernel
theorem dX11_paces_33 : decode cX11_paces 33 = .ok (.bipush (-100), 2) := by decide +kernel
theorem dX11_paces_35 : decode cX11_paces 35 = .ok (.invokevirtual 91, 3) := by decide +kernel
theorem dX11_paces_38 : decode cX11_paces 38 = .ok (.ireturn, 1) := by decide +kernel
theorem dX11_paces_39 : decode cX11_paces 39 = .ok (.aload_n 0, 1) := by decide +kernel
theorem dX11_paces_40 : decode cX11_paces 40 = .ok (.aload_n 0, 1) := by decide +kernel
theorem dX11_paces_41 : decode cX11_paces 41 = .ok (.getfield 18, 3) := by decide +kernel
theorem dX11_paces_44 : decode cX11_paces 44 = .ok (.iload_n 1, 1) := by decide +kernel
theorem dX11_paces_45 : decode cX11_paces 45 = .ok (.invokevirtual 182, 3) := by decide +kernel
theorem dX11_paces_48 : decode cX11_paces 48 = .ok (.iload_n 1, 1) := by decide +kernel
theorem dX11_paces_49 : decode cX11_paces 49 = .ok (.iload_n 2, 1) := by decide +kernel
theorem dX11_paces_50 : decode cX11_paces 50 = .ok (.iload_n 3, 1) := by decide +kernel
theorem dX11_paces_51 : decode cX11_paces 51 = .ok (.iconst (-1), 1) := by decide +kernel
theorem dX11_paces_52 : decode cX11_paces 52 = .ok (.iconst 0, 1) := by decide +kernel
theorem dX11_paces_53 : decode cX11_paces 53 = .ok (.invokevirtual 217, 3) := by decide +kernel
theorem dX11_paces_56 : decode cX11_paces 56 = .ok (.iload 4, 2) := by decide +kernel
theorem dX11_paces_58 : decode cX11_paces 58 = .ok (.tableswitch 52 0 2 #[26, 34, 42], 26) := by decide +kernel
theorem dX11_paces_84 : decode cX11_paces 84 = .ok (.aload_n 0, 1) := by decide +kernel
theorem dX11_paces_85 : decode cX11_paces 85 = .ok (.getfield 39, 3) := by decide +kernel
theorem dX11_paces_88 : decode cX11_paces 88 = .ok (.getfield 193, 3) := by decide +kernel
theorem dX11_paces_91 : decode cX11_paces 91 = .ok (.ireturn, 1) := by decide +kernel
theorem dX11_paces_92 : decode cX11_paces 92 = .ok (.aload_n 0, 1) := by decide +kernel
theorem dX11_paces_93 : decode cX11_paces 93 = .ok (.getfield 39, 3) := by decide +kernel
theorem dX11_paces_96 : decode cX11_paces 96 = .ok (.getfield 199, 3) := by decide +kernel
theorem dX11_paces_99 : decode cX11_paces 99 = .ok (.ireturn, 1) := by decide +kernel
theorem dX11_paces_100 : decode cX11_paces 100 = .ok (.aload_n 0, 1) := by decide +kernel
theorem dX11_paces_101 : decode cX11_paces 101 = .ok (.getfield 39, 3) := by decide +kernel
theorem dX11_paces_104 : decode cX11_paces 104 = .ok (.getfield 208, 3) := by decide +kernel
theorem dX11_paces_107 : decode cX11_paces 107 = .ok (.iload_n 2, 1) := by decide +kernel
theorem dX11_paces_108 : decode cX11_paces 108 = .ok (.isub, 1) := by decide +kernel
theorem dX11_paces_109 : decode cX11_paces 109 = .ok (.ireturn, 1) := by decide +kernel
theorem dX11_paces_110 : decode cX11_paces 110 = .ok (.aload_n 0, 1) := by decide +kernel
theorem dX11_paces_111 : decode cX11_paces 111 = .ok (.getfield 39, 3) := by decide +kernel
theorem dX11_paces_114 : decode cX11_paces 114 = .ok (.aload_n 0, 1) := by decide +kernel
theorem dX11_paces_115 : decode cX11_paces 115 = .ok (.getfield 18, 3) := by decide +kernel
theorem dX11_paces_118 : decode cX11_paces 118 = .ok (.getfield 106, 3) := by decide +kernel
theorem dX11_paces_121 : decode cX11_paces 121 = .ok (.invokevirtual 162, 3) := by decide +kernel
theorem dX11_paces_124 : decode cX11_paces 124 = .ok (.invokestatic 166, 3) := by decide +kernel
theorem dX11_paces_127 : decode cX11_paces 127 = .ok (.ireturn, 1) := by decide +kernel
theorem dX11_soonest_0 : decode cX11_soonest 0 = .ok (.aload_n 0, 1) := by decide +kernel
theorem dX11_soonest_1 : decode cX11_soonest 1 = .ok (.iload_n 1, 1) := by decide +kernel
theorem dX11_soonest_2 : decode cX11_soonest 2 = .ok (.invokevirtual 149, 3) := by decide +kernel
theorem dX11_soonest_5 : decode cX11_soonest 5 = .ok (.ifCond .eq 15, 3) := by decide +kernel
theorem dX11_soonest_8 : decode cX11_soonest 8 = .ok (.iload_n 2, 1) := by decide +kernel
theorem dX11_soonest_9 : decode cX11_soonest 9 = .ok (.invokestatic 211, 3) := by decide +kernel
theorem dX11_soonest_12 : decode cX11_soonest 12 = .ok (.ifCond .eq 8, 3) := by decide +kernel
theorem dX11_soonest_15 : decode cX11_soonest 15 = .ok (.iload_n 3, 1) := by decide +kernel
theorem dX11_soonest_16 : decode cX11_soonest 16 = .ok (.iconst (-1), 1) := by decide +kernel
theorem dX11_soonest_17 : decode cX11_soonest 17 = .ok (.if_icmp .ge 10, 3) := by decide +kernel
theorem dX11_soonest_20 : decode cX11_soonest 20 = .ok (.aload_n 0, 1) := by decide +kernel
theorem dX11_soonest_21 : decode cX11_soonest 21 = .ok (.bipush (-10), 2) := by decide +kernel
theorem dX11_soonest_23 : decode cX11_soonest 23 = .ok (.invokevirtual 91, 3) := by decide +kernel
theorem dX11_soonest_26 : decode cX11_soonest 26 = .ok (.ireturn, 1) := by decide +kernel
theorem dX11_soonest_27 : decode cX11_soonest 27 = .ok (.aload_n 0, 1) := by decide +kernel
theorem dX11_soonest_28 : decode cX11_soonest 28 = .ok (.aload_n 0, 1) := by decide +kernel
theorem dX11_soonest_29 : decode cX11_soonest 29 = .ok (.getfield 18, 3) := by decide +kernel
theorem dX11_soonest_32 : decode cX11_soonest 32 = .ok (.iload_n 1, 1) := by decide +kernel
theorem dX11_soonest_33 : decode cX11_soonest 33 = .ok (.invokevirtual 182, 3) := by decide +kernel
theorem dX11_soonest_36 : decode cX11_soonest 36 = .ok (.invokevirtual 185, 3) := by decide +kernel
theorem dX11_soonest_39 : decode cX11_soonest 39 = .ok (.astore 4, 2) := by decide +kernel
theorem dX11_soonest_41 : decode cX11_soonest 41 = .ok (.aload_n 0, 1) := by decide +kernel
theorem dX11_soonest_42 : decode cX11_soonest 42 = .ok (.getfield 46, 3) := by decide +kernel
theorem dX11_soonest_45 : decode cX11_soonest 45 = .ok (.aload_n 0, 1) := by decide +kernel
theorem dX11_soonest_46 : decode cX11_soonest 46 = .ok (.getfield 18, 3) := by decide +kernel
theorem dX11_soonest_49 : decode cX11_soonest 49 = .ok (.getfield 106, 3) := by decide +kernel
theorem dX11_soonest_52 : decode cX11_soonest 52 = .ok (.aload 4, 2) := by decide +kernel
theorem dX11_soonest_54 : decode cX11_soonest 54 = .ok (.iconst 0, 1) := by decide +kernel
theorem dX11_soonest_55 : decode cX11_soonest 55 = .ok (.invokevirtual 221, 3) := by decide +kernel
theorem dX11_soonest_58 : decode cX11_soonest 58 = .ok (.aload_n 0, 1) := by decide +kernel
theorem dX11_soonest_59 : decode cX11_soonest 59 = .ok (.getfield 46, 3) := by decide +kernel
theorem dX11_soonest_62 : decode cX11_soonest 62 = .ok (.aload_n 0, 1) := by decide +kernel
theorem dX11_soonest_63 : decode cX11_soonest 63 = .ok (.getfield 18, 3) := by decide +kernel
theorem dX11_soonest_66 : decode cX11_soonest 66 = .ok (.getfield 106, 3) := by decide +kernel
theorem dX11_soonest_69 : decode cX11_soonest 69 = .ok (.iconst 0, 1) := by decide +kernel
theorem dX11_soonest_70 : decode cX11_soonest 70 = .ok (.iload_n 2, 1) := by decide +kernel
theorem dX11_soonest_71 : decode cX11_soonest 71 = .ok (.aload_n 0, 1) := by decide +kernel
theorem dX11_soonest_72 : decode cX11_soonest 72 = .ok (.getfield 18, 3) := by decide +kernel
theorem dX11_soonest_75 : decode cX11_soonest 75 = .ok (.iload_n 1, 1) := by decide +kernel
theorem dX11_soonest_76 : decode cX11_soonest 76 = .ok (.invokevirtual 155, 3) := by decide +kernel
theorem dX11_soonest_79 : decode cX11_soonest 79 = .ok (.invokevirtual 225, 3) := by decide +kernel
theorem dX11_soonest_82 : decode cX11_soonest 82 = .ok (.istore 5, 2) := by decide +kernel
theorem dX11_soonest_84 : decode cX11_soonest 84 = .ok (.iload 5, 2) := by decide +kernel
theorem dX11_soonest_86 : decode cX11_soonest 86 = .ok (.ldc 229, 2) := by decide +kernel
theorem dX11_soonest_88 : decode cX11_soonest 88 = .ok (.if_icmp .lt 5, 3) := by decide +kernel
theorem dX11_soonest_91 : decode cX11_soonest 91 = .ok (.iconst (-1), 1) := by decide +kernel
theorem dX11_soonest_92 : decode cX11_soonest 92 = .ok (.ireturn, 1) := by decide +kernel
theorem dX11_soonest_93 : decode cX11_soonest 93 = .ok (.iload_n 3, 1) := by decide +kernel
theorem dX11_soonest_94 : decode cX11_soonest 94 = .ok (.iconst (-1), 1) := by decide +kernel
theorem dX11_soonest_95 : decode cX11_soonest 95 = .ok (.if_icmp .ne 6, 3) := by decide +kernel
theorem dX11_soonest_98 : decode cX11_soonest 98 = .ok (.iload 5, 2) := by decide +kernel
theorem dX11_soonest_100 : decode cX11_soonest 100 = .ok (.ireturn, 1) := by decide +kernel
theorem dX11_soonest_101 : decode cX11_soonest 101 = .ok (.iload_n 3, 1) := by decide +kernel
theorem dX11_soonest_102 : decode cX11_soonest 102 = .ok (.iload 5, 2) := by decide +kernel
theorem dX11_soonest_104 : decode cX11_soonest 104 = .ok (.if_icmp .ge 22, 3) := by decide +kernel
theorem dX11_soonest_107 : decode cX11_soonest 107 = .ok (.aload_n 0, 1) := by decide +kernel
theorem dX11_soonest_108 : decode cX11_soonest 108 = .ok (.aload 4, 2) := by decide +kernel
theorem dX11_soonest_110 : decode cX11_soonest 110 = .ok (.aload_n 0, 1) := by decide +kernel
theorem dX11_soonest_111 : decode cX11_soonest 111 = .ok (.getfield 18, 3) := by decide +kernel
theorem dX11_soonest_114 : decode cX11_soonest 114 = .ok (.iload_n 1, 1) := by decide +kernel
theorem dX11_soonest_115 : decode cX11_soonest 115 = .ok (.invokevirtual 155, 3) := by decide +kernel
theorem dX11_soonest_118 : decode cX11_soonest 118 = .ok (.iload_n 2, 1) := by decide +kernel
theorem dX11_soonest_119 : decode cX11_soonest 119 = .ok (.iload_n 3, 1) := by decide +kernel
theorem dX11_soonest_120 : decode cX11_soonest 120 = .ok (.invokevirtual 230, 3) := by decide +kernel
theorem dX11_soonest_123 : decode cX11_soonest 123 = .ok (.goto 5, 3) := by decide +kernel
theorem dX11_soonest_126 : decode cX11_soonest 126 = .ok (.bipush (-5), 2) := by decide +kernel
theorem dX11_soonest_128 : decode cX11_soonest 128 = .ok (.ireturn, 1) := by decide +kernel
theorem dX11_hour_0 : decode cX11_hour 0 = .ok (.aload_n 0, 1) := by decide +kernel
theorem dX11_hour_1 : decode cX11_hour 1 = .ok (.iload_n 1, 1) := by decide +kernel
theorem dX11_hour_2 : decode cX11_hour 2 = .ok (.invokevirtual 149, 3) := by decide +kernel
theorem dX11_hour_5 : decode cX11_hour 5 = .ok (.ifCond .ne 10, 3) := by decide +kernel
theorem dX11_hour_8 : decode cX11_hour 8 = .ok (.aload_n 0, 1) := by decide +kernel
theorem dX11_hour_9 : decode cX11_hour 9 = .ok (.bipush (-2), 2) := by decide +kernel
theorem dX11_hour_11 : decode cX11_hour 11 = .ok (.invokevirtual 91, 3) := by decide +kernel
theorem dX11_hour_14 : decode cX11_hour 14 = .ok (.ireturn, 1) := by decide +kernel
theorem dX11_hour_15 : decode cX11_hour 15 = .ok (.aload_n 0, 1) := by decide +kernel
theorem dX11_hour_16 : decode cX11_hour 16 = .ok (.getfield 46, 3) := by decide +kernel
theorem dX11_hour_19 : decode cX11_hour 19 = .ok (.aload_n 0, 1) := by decide +kernel
theorem dX11_hour_20 : decode cX11_hour 20 = .ok (.getfield 18, 3) := by decide +kernel
theorem dX11_hour_23 : decode cX11_hour 23 = .ok (.getfield 106, 3) := by decide +kernel
theorem dX11_hour_26 : decode cX11_hour 26 = .ok (.aload_n 0, 1) := by decide +kernel
theorem dX11_hour_27 : decode cX11_hour 27 = .ok (.aload_n 0, 1) := by decide +kernel
theorem dX11_hour_28 : decode cX11_hour 28 = .ok (.getfield 18, 3) := by decide +kernel
theorem dX11_hour_31 : decode cX11_hour 31 = .ok (.iload_n 1, 1) := by decide +kernel
theorem dX11_hour_32 : decode cX11_hour 32 = .ok (.invokevirtual 182, 3) := by decide +kernel
theorem dX11_hour_35 : decode cX11_hour 35 = .ok (.invokevirtual 185, 3) := by decide +kernel
theorem dX11_hour_38 : decode cX11_hour 38 = .ok (.iconst 0, 1) := by decide +kernel
theorem dX11_hour_39 : decode cX11_hour 39 = .ok (.invokevirtual 221, 3) := by decide +kernel
theorem dX11_hour_42 : decode cX11_hour 42 = .ok (.ldc 229, 2) := by decide +kernel
theorem dX11_hour_44 : decode cX11_hour 44 = .ok (.istore_n 2, 1) := by decide +kernel
theorem dX11_hour_45 : decode cX11_hour 45 = .ok (.iconst (-1), 1) := by decide +kernel
theorem dX11_hour_46 : decode cX11_hour 46 = .ok (.istore_n 3, 1) := by decide +kernel
theorem dX11_hour_47 : decode cX11_hour 47 = .ok (.iconst 0, 1) := by decide +kernel
theorem dX11_hour_48 : decode cX11_hour 48 = .ok (.istore 4, 2) := by decide +kernel
theorem dX11_hour_50 : decode cX11_hour 50 = .ok (.iload 4, 2) := by decide +kernel
theorem dX11_hour_52 : decode cX11_hour 52 = .ok (.bipush 6, 2) := by decide +kernel
theorem dX11_hour_54 : decode cX11_hour 54 = .ok (.if_icmp .ge 48, 3) := by decide +kernel
theorem dX11_hour_57 : decode cX11_hour 57 = .ok (.aload_n 0, 1) := by decide +kernel
theorem dX11_hour_58 : decode cX11_hour 58 = .ok (.getfield 46, 3) := by decide +kernel
theorem dX11_hour_61 : decode cX11_hour 61 = .ok (.aload_n 0, 1) := by decide +kernel
theorem dX11_hour_62 : decode cX11_hour 62 = .ok (.getfield 18, 3) := by decide +kernel
theorem dX11_hour_65 : decode cX11_hour 65 = .ok (.getfield 106, 3) := by decide +kernel
theorem dX11_hour_68 : decode cX11_hour 68 = .ok (.iconst 0, 1) := by decide +kernel
theorem dX11_hour_69 : decode cX11_hour 69 = .ok (.iload 4, 2) := by decide +kernel
theorem dX11_hour_71 : decode cX11_hour 71 = .ok (.aload_n 0, 1) := by decide +kernel
theorem dX11_hour_72 : decode cX11_hour 72 = .ok (.getfield 18, 3) := by decide +kernel
theorem dX11_hour_75 : decode cX11_hour 75 = .ok (.iload_n 1, 1) := by decide +kernel
theorem dX11_hour_76 : decode cX11_hour 76 = .ok (.invokevirtual 155, 3) := by decide +kernel
theorem dX11_hour_79 : decode cX11_hour 79 = .ok (.invokevirtual 225, 3) := by decide +kernel
theorem dX11_hour_82 : decode cX11_hour 82 = .ok (.istore 5, 2) := by decide +kernel
theorem dX11_hour_84 : decode cX11_hour 84 = .ok (.iload 5, 2) := by decide +kernel
theorem dX11_hour_86 : decode cX11_hour 86 = .ok (.iload_n 2, 1) := by decide +kernel
theorem dX11_hour_87 : decode cX11_hour 87 = .ok (.if_icmp .ge 9, 3) := by decide +kernel
theorem dX11_hour_90 : decode cX11_hour 90 = .ok (.iload 5, 2) := by decide +kernel
theorem dX11_hour_92 : decode cX11_hour 92 = .ok (.istore_n 2, 1) := by decide +kernel
theorem dX11_hour_93 : decode cX11_hour 93 = .ok (.iload 4, 2) := by decide +kernel
theorem dX11_hour_95 : decode cX11_hour 95 = .ok (.istore_n 3, 1) := by decide +kernel
theorem dX11_hour_96 : decode cX11_hour 96 = .ok (.iinc 4 1, 3) := by decide +kernel
theorem dX11_hour_99 : decode cX11_hour 99 = .ok (.goto (-49), 3) := by decide +kernel
theorem dX11_hour_102 : decode cX11_hour 102 = .ok (.iload_n 3, 1) := by decide +kernel
theorem dX11_hour_103 : decode cX11_hour 103 = .ok (.ireturn, 1) := by decide +kernel
theorem dX11_sure_0 : decode cX11_sure 0 = .ok (.aload_n 0, 1) := by decide +kernel
theorem dX11_sure_1 : decode cX11_sure 1 = .ok (.iload_n 1, 1) := by decide +kernel
theorem dX11_sure_2 : decode cX11_sure 2 = .ok (.invokevirtual 149, 3) := by decide +kernel
theorem dX11_sure_5 : decode cX11_sure 5 = .ok (.ifCond .eq 19, 3) := by decide +kernel
theorem dX11_sure_8 : decode cX11_sure 8 = .ok (.iload_n 2, 1) := by decide +kernel
theorem dX11_sure_9 : decode cX11_sure 9 = .ok (.invokestatic 211, 3) := by decide +kernel
theorem dX11_sure_12 : decode cX11_sure 12 = .ok (.ifCond .eq 12, 3) := by decide +kernel
theorem dX11_sure_15 : decode cX11_sure 15 = .ok (.iload_n 3, 1) := by decide +kernel
theorem dX11_sure_16 : decode cX11_sure 16 = .ok (.iconst 0, 1) := by decide +kernel
theorem dX11_sure_17 : decode cX11_sure 17 = .ok (.iconst 3, 1) := by decide +kernel
theorem dX11_sure_18 : decode cX11_sure 18 = .ok (.invokestatic 87, 3) := by decide +kernel
theorem dX11_sure_21 : decode cX11_sure 21 = .ok (.ifCond .ne 10, 3) := by decide +kernel
theorem dX11_sure_24 : decode cX11_sure 24 = .ok (.aload_n 0, 1) := by decide +kernel
theorem dX11_sure_25 : decode cX11_sure 25 = .ok (.bipush (-2), 2) := by decide +kernel
theorem dX11_sure_27 : decode cX11_sure 27 = .ok (.invokevirtual 91, 3) := by decide +kernel
theorem dX11_sure_30 : decode cX11_sure 30 = .ok (.ireturn, 1) := by decide +kernel
theorem dX11_sure_31 : decode cX11_sure 31 = .ok (.aload_n 0, 1) := by decide +kernel
theorem dX11_sure_32 : decode cX11_sure 32 = .ok (.getfield 46, 3) := by decide +kernel
theorem dX11_sure_35 : decode cX11_sure 35 = .ok (.aload_n 0, 1) := by decide +kernel
theorem dX11_sure_36 : decode cX11_sure 36 = .ok (.getfield 18, 3) := by decide +kernel
theorem dX11_sure_39 : decode cX11_sure 39 = .ok (.getfield 106, 3) := by decide +kernel
theorem dX11_sure_42 : decode cX11_sure 42 = .ok (.aload_n 0, 1) := by decide +kernel
theorem dX11_sure_43 : decode cX11_sure 43 = .ok (.aload_n 0, 1) := by decide +kernel
theorem dX11_sure_44 : decode cX11_sure 44 = .ok (.getfield 18, 3) := by decide +kernel
theorem dX11_sure_47 : decode cX11_sure 47 = .ok (.iload_n 1, 1) := by decide +kernel
theorem dX11_sure_48 : decode cX11_sure 48 = .ok (.invokevirtual 182, 3) := by decide +kernel
theorem dX11_sure_51 : decode cX11_sure 51 = .ok (.invokevirtual 185, 3) := by decide +kernel
theorem dX11_sure_54 : decode cX11_sure 54 = .ok (.iload_n 3, 1) := by decide +kernel
theorem dX11_sure_55 : decode cX11_sure 55 = .ok (.invokevirtual 221, 3) := by decide +kernel
theorem dX11_sure_58 : decode cX11_sure 58 = .ok (.aload_n 0, 1) := by decide +kernel
theorem dX11_sure_59 : decode cX11_sure 59 = .ok (.getfield 46, 3) := by decide +kernel
theorem dX11_sure_62 : decode cX11_sure 62 = .ok (.aload_n 0, 1) := by decide +kernel
theorem dX11_sure_63 : decode cX11_sure 63 = .ok (.getfield 18, 3) := by decide +kernel
theorem dX11_sure_66 : decode cX11_sure 66 = .ok (.getfield 106, 3) := by decide +kernel
theorem dX11_sure_69 : decode cX11_sure 69 = .ok (.iconst 0, 1) := by decide +kernel
theorem dX11_sure_70 : decode cX11_sure 70 = .ok (.iload_n 2, 1) := by decide +kernel
theorem dX11_sure_71 : decode cX11_sure 71 = .ok (.aload_n 0, 1) := by decide +kernel
theorem dX11_sure_72 : decode cX11_sure 72 = .ok (.getfield 18, 3) := by decide +kernel
theorem dX11_sure_75 : decode cX11_sure 75 = .ok (.iload_n 1, 1) := by decide +kernel
theorem dX11_sure_76 : decode cX11_sure 76 = .ok (.invokevirtual 155, 3) := by decide +kernel
theorem dX11_sure_79 : decode cX11_sure 79 = .ok (.invokevirtual 225, 3) := by decide +kernel
theorem dX11_sure_82 : decode cX11_sure 82 = .ok (.istore 4, 2) := by decide +kernel
theorem dX11_sure_84 : decode cX11_sure 84 = .ok (.iload 4, 2) := by decide +kernel
theorem dX11_sure_86 : decode cX11_sure 86 = .ok (.ldc 229, 2) := by decide +kernel
theorem dX11_sure_88 : decode cX11_sure 88 = .ok (.if_icmp .ge 8, 3) := by decide +kernel
theorem dX11_sure_91 : decode cX11_sure 91 = .ok (.iload 4, 2) := by decide +kernel
theorem dX11_sure_93 : decode cX11_sure 93 = .ok (.goto 4, 3) := by decide +kernel
theorem dX11_sure_96 : decode cX11_sure 96 = .ok (.iconst (-1), 1) := by decide +kernel
theorem dX11_sure_97 : decode cX11_sure 97 = .ok (.ireturn, 1) := by decide +kernel
theorem dX11_flat_0 : decode cX11_flat 0 = .ok (.aload_n 0, 1) := by decide +kernel
theorem dX11_flat_1 : decode cX11_flat 1 = .ok (.iload_n 1, 1) := by decide +kernel
theorem dX11_flat_2 : decode cX11_flat 2 = .ok (.invokevirtual 149, 3) := by decide +kernel
theorem dX11_flat_5 : decode cX11_flat 5 = .ok (.ifCond .eq 10, 3) := by decide +kernel
theorem dX11_flat_8 : decode cX11_flat 8 = .ok (.iload_n 2, 1) := by decide +kernel
theorem dX11_flat_9 : decode cX11_flat 9 = .ok (.invokestatic 211, 3) := by decide +kernel
theorem dX11_flat_12 : decode cX11_flat 12 = .ok (.ifCond .ne 10, 3) := by decide +kernel
theorem dX11_flat_15 : decode cX11_flat 15 = .ok (.aload_n 0, 1) := by decide +kernel
theorem dX11_flat_16 : decode cX11_flat 16 = .ok (.bipush (-2), 2) := by decide +kernel
theorem dX11_flat_18 : decode cX11_flat 18 = .ok (.invokevirtual 91, 3) := by decide +kernel
theorem dX11_flat_21 : decode cX11_flat 21 = .ok (.ireturn, 1) := by decide +kernel
theorem dX11_flat_22 : decode cX11_flat 22 = .ok (.aload_n 0, 1) := by decide +kernel
theorem dX11_flat_23 : decode cX11_flat 23 = .ok (.getfield 46, 3) := by decide +kernel
theorem dX11_flat_26 : decode cX11_flat 26 = .ok (.aload_n 0, 1) := by decide +kernel
theorem dX11_flat_27 : decode cX11_flat 27 = .ok (.getfield 18, 3) := by decide +kernel
theorem dX11_flat_30 : decode cX11_flat 30 = .ok (.getfield 106, 3) := by decide +kernel
theorem dX11_flat_33 : decode cX11_flat 33 = .ok (.aload_n 0, 1) := by decide +kernel
theorem dX11_flat_34 : decode cX11_flat 34 = .ok (.aload_n 0, 1) := by decide +kernel
theorem dX11_flat_35 : decode cX11_flat 35 = .ok (.getfield 18, 3) := by decide +kernel
theorem dX11_flat_38 : decode cX11_flat 38 = .ok (.iload_n 1, 1) := by decide +kernel
theorem dX11_flat_39 : decode cX11_flat 39 = .ok (.invokevirtual 182, 3) := by decide +kernel
theorem dX11_flat_42 : decode cX11_flat 42 = .ok (.invokevirtual 185, 3) := by decide +kernel
theorem dX11_flat_45 : decode cX11_flat 45 = .ok (.invokevirtual 234, 3) := by decide +kernel
theorem dX11_flat_48 : decode cX11_flat 48 = .ok (.aload_n 0, 1) := by decide +kernel
theorem dX11_flat_49 : decode cX11_flat 49 = .ok (.getfield 46, 3) := by decide +kernel
theorem dX11_flat_52 : decode cX11_flat 52 = .ok (.aload_n 0, 1) := by decide +kernel
theorem dX11_flat_53 : decode cX11_flat 53 = .ok (.getfield 18, 3) := by decide +kernel
theorem dX11_flat_56 : decode cX11_flat 56 = .ok (.getfield 106, 3) := by decide +kernel
theorem dX11_flat_59 : decode cX11_flat 59 = .ok (.iconst 0, 1) := by decide +kernel
theorem dX11_flat_60 : decode cX11_flat 60 = .ok (.iload_n 2, 1) := by decide +kernel
theorem dX11_flat_61 : decode cX11_flat 61 = .ok (.aload_n 0, 1) := by decide +kernel
theorem dX11_flat_62 : decode cX11_flat 62 = .ok (.getfield 18, 3) := by decide +kernel
theorem dX11_flat_65 : decode cX11_flat 65 = .ok (.iload_n 1, 1) := by decide +kernel
theorem dX11_flat_66 : decode cX11_flat 66 = .ok (.invokevirtual 155, 3) := by decide +kernel
theorem dX11_flat_69 : decode cX11_flat 69 = .ok (.invokevirtual 225, 3) := by decide +kernel
theorem dX11_flat_72 : decode cX11_flat 72 = .ok (.istore_n 3, 1) := by decide +kernel
theorem dX11_flat_73 : decode cX11_flat 73 = .ok (.iload_n 3, 1) := by decide +kernel
theorem dX11_flat_74 : decode cX11_flat 74 = .ok (.ldc 238, 2) := by decide +kernel
theorem dX11_flat_76 : decode cX11_flat 76 = .ok (.idiv, 1) := by decide +kernel
theorem dX11_flat_77 : decode cX11_flat 77 = .ok (.iconst 3, 1) := by decide +kernel
theorem dX11_flat_78 : decode cX11_flat 78 = .ok (.if_icmp .le 7, 3) := by decide +kernel
theorem dX11_flat_81 : decode cX11_flat 81 = .ok (.iconst (-1), 1) := by decide +kernel
theorem dX11_flat_82 : decode cX11_flat 82 = .ok (.goto 7, 3) := by decide +kernel
theorem dX11_flat_85 : decode cX11_flat 85 = .ok (.iload_n 3, 1) := by decide +kernel
theorem dX11_flat_86 : decode cX11_flat 86 = .ok (.ldc 238, 2) := by decide +kernel
theorem dX11_flat_88 : decode cX11_flat 88 = .ok (.irem, 1) := by decide +kernel
theorem dX11_flat_89 : decode cX11_flat 89 = .ok (.ireturn, 1) := by decide +kernel
theorem dX11_note_0 : decode cX11_note 0 = .ok (.aload_n 0, 1) := by decide +kernel
theorem dX11_note_1 : decode cX11_note 1 = .ok (.iload_n 1, 1) := by decide +kernel
theorem dX11_note_2 : decode cX11_note 2 = .ok (.invokevirtual 149, 3) := by decide +kernel
theorem dX11_note_5 : decode cX11_note 5 = .ok (.ifCond .eq 17, 3) := by decide +kernel
theorem dX11_note_8 : decode cX11_note 8 = .ok (.iload_n 2, 1) := by decide +kernel
theorem dX11_note_9 : decode cX11_note 9 = .ok (.invokestatic 211, 3) := by decide +kernel
theorem dX11_note_12 : decode cX11_note 12 = .ok (.ifCond .eq 10, 3) := by decide +kernel
theorem dX11_note_15 : decode cX11_note 15 = .ok (.iload_n 3, 1) := by decide +kernel
theorem dX11_note_16 : decode cX11_note 16 = .ok (.invokestatic 214, 3) := by decide +kernel
theorem dX11_note_19 : decode cX11_note 19 = .ok (.ifCond .ne 10, 3) := by decide +kernel
theorem dX11_note_22 : decode cX11_note 22 = .ok (.aload_n 0, 1) := by decide +kernel
theorem dX11_note_23 : decode cX11_note 23 = .ok (.bipush (-2), 2) := by decide +kernel
theorem dX11_note_25 : decode cX11_note 25 = .ok (.invokevirtual 91, 3) := by decide +kernel
theorem dX11_note_28 : decode cX11_note 28 = .ok (.ireturn, 1) := by decide +kernel
theorem dX11_note_29 : decode cX11_note 29 = .ok (.iload 4, 2) := by decide +kernel
theorem dX11_note_31 : decode cX11_note 31 = .ok (.iconst (-1), 1) := by decide +kernel
theorem dX11_note_32 : decode cX11_note 32 = .ok (.if_icmp .eq 19, 3) := by decide +kernel
theorem dX11_note_35 : decode cX11_note 35 = .ok (.aload_n 0, 1) := by decide +kernel
theorem dX11_note_36 : decode cX11_note 36 = .ok (.iload 4, 2) := by decide +kernel
theorem dX11_note_38 : decode cX11_note 38 = .ok (.invokevirtual 102, 3) := by decide +kernel
theorem dX11_note_41 : decode cX11_note 41 = .ok (.ifCond .ne 10, 3) := by decide +kernel
theorem dX11_note_44 : decode cX11_note 44 = .ok (.aload_n 0, 1) := by decide +kernel
theorem dX11_note_45 : decode cX11_note 45 = .ok (.bipush (-2), 2) := by decide +kernel
theorem dX11_note_47 : decode cX11_note 47 = .ok (.invokevirtual 91, 3) := by decide +kernel
theorem dX11_note_50 : decode cX11_note 50 = .ok (.ireturn, 1) := by decide +kernel
theorem dX11_note_51 : decode cX11_note 51 = .ok (.aload_n 0, 1) := by decide +kernel
theorem dX11_note_52 : decode cX11_note 52 = .ok (.getfield 18, 3) := by decide +kernel
theorem dX11_note_55 : decode cX11_note 55 = .ok (.getfield 239, 3) := by decide +kernel
theorem dX11_note_58 : decode cX11_note 58 = .ok (.bipush 6, 2) := by decide +kernel
theorem dX11_note_60 : decode cX11_note 60 = .ok (.if_icmp .lt 8, 3) := by decide +kernel
theorem dX11_note_63 : decode cX11_note 63 = .ok (.aload_n 0, 1) := by decide +kernel
theorem dX11_note_64 : decode cX11_note 64 = .ok (.invokevirtual 124, 3) := by decide +kernel
theorem dX11_note_67 : decode cX11_note 67 = .ok (.ireturn, 1) := by decide +kernel
theorem dX11_note_68 : decode cX11_note 68 = .ok (.aload_n 0, 1) := by decide +kernel
theorem dX11_note_69 : decode cX11_note 69 = .ok (.getfield 18, 3) := by decide +kernel
theorem dX11_note_72 : decode cX11_note 72 = .ok (.iload_n 1, 1) := by decide +kernel
theorem dX11_note_73 : decode cX11_note 73 = .ok (.iload_n 2, 1) := by decide +kernel
theorem dX11_note_74 : decode cX11_note 74 = .ok (.iload_n 3, 1) := by decide +kernel
theorem dX11_note_75 : decode cX11_note 75 = .ok (.iload 4, 2) := by decide +kernel
theorem dX11_note_77 : decode cX11_note 77 = .ok (.invokevirtual 242, 3) := by decide +kernel
theorem dX11_note_80 : decode cX11_note 80 = .ok (.aload_n 0, 1) := by decide +kernel
theorem dX11_note_81 : decode cX11_note 81 = .ok (.getfield 18, 3) := by decide +kernel
theorem dX11_note_84 : decode cX11_note 84 = .ok (.getfield 239, 3) := by decide +kernel
theorem dX11_note_87 : decode cX11_note 87 = .ok (.ireturn, 1) := by decide +kernel
theorem dX11_forget_0 : decode cX11_forget 0 = .ok (.aload_n 0, 1) := by decide +kernel
theorem dX11_forget_1 : decode cX11_forget 1 = .ok (.getfield 18, 3) := by decide +kernel
theorem dX11_forget_4 : decode cX11_forget 4 = .ok (.getfield 239, 3) := by decide +kernel
theorem dX11_forget_7 : decode cX11_forget 7 = .ok (.istore_n 1, 1) := by decide +kernel
theorem dX11_forget_8 : decode cX11_forget 8 = .ok (.aload_n 0, 1) := by decide +kernel
theorem dX11_forget_9 : decode cX11_forget 9 = .ok (.getfield 18, 3) := by decide +kernel
theorem dX11_forget_12 : decode cX11_forget 12 = .ok (.iconst 0, 1) := by decide +kernel
theorem dX11_forget_13 : decode cX11_forget 13 = .ok (.putfield 239, 3) := by decide +kernel
theorem dX11_forget_16 : decode cX11_forget 16 = .ok (.iload_n 1, 1) := by decide +kernel
theorem dX11_forget_17 : decode cX11_forget 17 = .ok (.ireturn, 1) := by decide +kernel
theorem dX11_is_0 : decode cX11_is 0 = .ok (.aload_n 0, 1) := by decide +kernel
theorem dX11_is_1 : decode cX11_is 1 = .ok (.iload_n 1, 1) := by decide +kernel
theorem dX11_is_2 : decode cX11_is 2 = .ok (.invokevirtual 149, 3) := by decide +kernel
theorem dX11_is_5 : decode cX11_is 5 = .ok (.ifCond .eq 11, 3) := by decide +kernel
theorem dX11_is_8 : decode cX11_is 8 = .ok (.aload_n 0, 1) := by decide +kernel
theorem dX11_is_9 : decode cX11_is 9 = .ok (.iload_n 1, 1) := by decide +kernel
theorem dX11_is_10 : decode cX11_is 10 = .ok (.invokevirtual 246, 3) := by decide +kernel
theorem dX11_is_13 : decode cX11_is 13 = .ok (.goto 9, 3) := by decide +kernel
theorem dX11_is_16 : decode cX11_is 16 = .ok (.aload_n 0, 1) := by decide +kernel
theorem dX11_is_17 : decode cX11_is 17 = .ok (.bipush (-2), 2) := by decide +kernel
theorem dX11_is_19 : decode cX11_is 19 = .ok (.invokevirtual 91, 3) := by decide +kernel
theorem dX11_is_22 : decode cX11_is 22 = .ok (.ireturn, 1) := by decide +kernel
theorem dX11_bowl_0 : decode cX11_bowl 0 = .ok (.aload_n 0, 1) := by decide +kernel
theorem dX11_bowl_1 : decode cX11_bowl 1 = .ok (.iload_n 1, 1) := by decide +kernel
theorem dX11_bowl_2 : decode cX11_bowl 2 = .ok (.invokevirtual 149, 3) := by decide +kernel
theorem dX11_bowl_5 : decode cX11_bowl 5 = .ok (.ifCond .ne 10, 3) := by decide +kernel
theorem dX11_bowl_8 : decode cX11_bowl 8 = .ok (.aload_n 0, 1) := by decide +kernel
theorem dX11_bowl_9 : decode cX11_bowl 9 = .ok (.bipush (-2), 2) := by decide +kernel
theorem dX11_bowl_11 : decode cX11_bowl 11 = .ok (.invokevirtual 91, 3) := by decide +kernel
theorem dX11_bowl_14 : decode cX11_bowl 14 = .ok (.ireturn, 1) := by decide +kernel
theorem dX11_bowl_15 : decode cX11_bowl 15 = .ok (.aload_n 0, 1) := by decide +kernel
theorem dX11_bowl_16 : decode cX11_bowl 16 = .ok (.iload_n 1, 1) := by decide +kernel
theorem dX11_bowl_17 : decode cX11_bowl 17 = .ok (.invokevirtual 246, 3) := by decide +kernel
theorem dX11_bowl_20 : decode cX11_bowl 20 = .ok (.istore_n 2, 1) := by decide +kernel
theorem dX11_bowl_21 : decode cX11_bowl 21 = .ok (.iload_n 2, 1) := by decide +kernel
theorem dX11_bowl_22 : decode cX11_bowl 22 = .ok (.ifCond .ne 5, 3) := by decide +kernel
theorem dX11_bowl_25 : decode cX11_bowl 25 = .ok (.iconst (-1), 1) := by decide +kernel
theorem dX11_bowl_26 : decode cX11_bowl 26 = .ok (.ireturn, 1) := by decide +kernel
theorem dX11_bowl_27 : decode cX11_bowl 27 = .ok (.iconst (-1), 1) := by decide +kernel
theorem dX11_bowl_28 : decode cX11_bowl 28 = .ok (.istore_n 3, 1) := by decide +kernel
theorem dX11_bowl_29 : decode cX11_bowl 29 = .ok (.bipush 7, 2) := by decide +kernel
theorem dX11_bowl_31 : decode cX11_bowl 31 = .ok (.istore 4, 2) := by decide +kernel
theorem dX11_bowl_33 : decode cX11_bowl 33 = .ok (.iconst 1, 1) := by decide +kernel
theorem dX11_bowl_34 : decode cX11_bowl 34 = .ok (.istore 5, 2) := by decide +kernel
theorem dX11_bowl_36 : decode cX11_bowl 36 = .ok (.iload 5, 2) := by decide +kernel
theorem dX11_bowl_38 : decode cX11_bowl 38 = .ok (.iconst 3, 1) := by decide +kernel
theorem dX11_bowl_39 : decode cX11_bowl 39 = .ok (.if_icmp .gt 33, 3) := by decide +kernel
theorem dX11_bowl_42 : decode cX11_bowl 42 = .ok (.aload_n 0, 1) := by decide +kernel
theorem dX11_bowl_43 : decode cX11_bowl 43 = .ok (.iload_n 1, 1) := by decide +kernel
theorem dX11_bowl_44 : decode cX11_bowl 44 = .ok (.iload_n 2, 1) := by decide +kernel
theorem dX11_bowl_45 : decode cX11_bowl 45 = .ok (.iload 5, 2) := by decide +kernel
theorem dX11_bowl_47 : decode cX11_bowl 47 = .ok (.invokevirtual 249, 3) := by decide +kernel
theorem dX11_bowl_50 : decode cX11_bowl 50 = .ok (.istore 6, 2) := by decide +kernel
theorem dX11_bowl_52 : decode cX11_bowl 52 = .ok (.iload 6, 2) := by decide +kernel
theorem dX11_bowl_54 : decode cX11_bowl 54 = .ok (.iload 4, 2) := by decide +kernel
theorem dX11_bowl_56 : decode cX11_bowl 56 = .ok (.if_icmp .ge 10, 3) := by decide +kernel
theorem dX11_bowl_59 : decode cX11_bowl 59 = .ok (.iload 6, 2) := by decide +kernel
theorem dX11_bowl_61 : decode cX11_bowl 61 = .ok (.istore 4, 2) := by decide +kernel
theorem dX11_bowl_63 : decode cX11_bowl 63 = .ok (.iload 5, 2) := by decide +kernel
theorem dX11_bowl_65 : decode cX11_bowl 65 = .ok (.istore_n 3, 1) := by decide +kernel
theorem dX11_bowl_66 : decode cX11_bowl 66 = .ok (.iinc 5 1, 3) := by decide +kernel
theorem dX11_bowl_69 : decode cX11_bowl 69 = .ok (.goto (-33), 3) := by decide +kernel
theorem dX11_bowl_72 : decode cX11_bowl 72 = .ok (.iload_n 3, 1) := by decide +kernel
theorem dX11_bowl_73 : decode cX11_bowl 73 = .ok (.ireturn, 1) := by decide +kernel
theorem dX11_bowed_0 : decode cX11_bowed 0 = .ok (.aload_n 0, 1) := by decide +kernel
theorem dX11_bowed_1 : decode cX11_bowed 1 = .ok (.iload_n 1, 1) := by decide +kernel
theorem dX11_bowed_2 : decode cX11_bowed 2 = .ok (.invokevirtual 149, 3) := by decide +kernel
theorem dX11_bowed_5 : decode cX11_bowed 5 = .ok (.ifCond .eq 17, 3) := by decide +kernel
theorem dX11_bowed_8 : decode cX11_bowed 8 = .ok (.iload_n 2, 1) := by decide +kernel
theorem dX11_bowed_9 : decode cX11_bowed 9 = .ok (.invokestatic 211, 3) := by decide +kernel
theorem dX11_bowed_12 : decode cX11_bowed 12 = .ok (.ifCond .eq 10, 3) := by decide +kernel
theorem dX11_bowed_15 : decode cX11_bowed 15 = .ok (.iload_n 3, 1) := by decide +kernel
theorem dX11_bowed_16 : decode cX11_bowed 16 = .ok (.invokestatic 214, 3) := by decide +kernel
theorem dX11_bowed_19 : decode cX11_bowed 19 = .ok (.ifCond .ne 10, 3) := by decide +kernel
theorem dX11_bowed_22 : decode cX11_bowed 22 = .ok (.aload_n 0, 1) := by decide +kernel
theorem dX11_bowed_23 : decode cX11_bowed 23 = .ok (.bipush (-2), 2) := by decide +kernel
theorem dX11_bowed_25 : decode cX11_bowed 25 = .ok (.invokevirtual 91, 3) := by decide +kernel
theorem dX11_bowed_28 : decode cX11_bowed 28 = .ok (.ireturn, 1) := by decide +kernel
theorem dX11_bowed_29 : decode cX11_bowed 29 = .ok (.iload 4, 2) := by decide +kernel
theorem dX11_bowed_31 : decode cX11_bowed 31 = .ok (.bipush (-3), 2) := by decide +kernel
theorem dX11_bowed_33 : decode cX11_bowed 33 = .ok (.iconst 3, 1) := by decide +kernel
theorem dX11_bowed_34 : decode cX11_bowed 34 = .ok (.invokestatic 87, 3) := by decide +kernel
theorem dX11_bowed_37 : decode cX11_bowed 37 = .ok (.ifCond .eq 12, 3) := by decide +kernel
theorem dX11_bowed_40 : decode cX11_bowed 40 = .ok (.aload_n 0, 1) := by decide +kernel
theorem dX11_bowed_41 : decode cX11_bowed 41 = .ok (.iload 5, 2) := by decide +kernel
theorem dX11_bowed_43 : decode cX11_bowed 43 = .ok (.invokevirtual 102, 3) := by decide +kernel
theorem dX11_bowed_46 : decode cX11_bowed 46 = .ok (.ifCond .ne 10, 3) := by decide +kernel
theorem dX11_bowed_49 : decode cX11_bowed 49 = .ok (.aload_n 0, 1) := by decide +kernel
theorem dX11_bowed_50 : decode cX11_bowed 50 = .ok (.bipush (-2), 2) := by decide +kernel
theorem dX11_bowed_52 : decode cX11_bowed 52 = .ok (.invokevirtual 91, 3) := by decide +kernel
theorem dX11_bowed_55 : decode cX11_bowed 55 = .ok (.ireturn, 1) := by decide +kernel
theorem dX11_bowed_56 : decode cX11_bowed 56 = .ok (.iload_n 3, 1) := by decide +kernel
theorem dX11_bowed_57 : decode cX11_bowed 57 = .ok (.invokestatic 253, 3) := by decide +kernel
theorem dX11_bowed_60 : decode cX11_bowed 60 = .ok (.istore 6, 2) := by decide +kernel
theorem dX11_bowed_62 : decode cX11_bowed 62 = .ok (.iconst 0, 1) := by decide +kernel
theorem dX11_bowed_63 : decode cX11_bowed 63 = .ok (.istore 7, 2) := by decide +kernel
theorem dX11_bowed_65 : decode cX11_bowed 65 = .ok (.iconst 0, 1) := by decide +kernel
theorem dX11_bowed_66 : decode cX11_bowed 66 = .ok (.istore 8, 2) := by decide +kernel
theorem dX11_bowed_68 : decode cX11_bowed 68 = .ok (.iconst 0, 1) := by decide +kernel
theorem dX11_bowed_69 : decode cX11_bowed 69 = .ok (.istore 9, 2) := by decide +kernel
theorem dX11_bowed_71 : decode cX11_bowed 71 = .ok (.iload 9, 2) := by decide +kernel
theorem dX11_bowed_73 : decode cX11_bowed 73 = .ok (.iload 6, 2) := by decide +kernel
theorem dX11_bowed_75 : decode cX11_bowed 75 = .ok (.if_icmp .ge 107, 3) := by decide +kernel
theorem dX11_bowed_78 : decode cX11_bowed 78 = .ok (.aload_n 0, 1) := by decide +kernel
theorem dX11_bowed_79 : decode cX11_bowed 79 = .ok (.getfield 18, 3) := by decide +kernel
theorem dX11_bowed_82 : decode cX11_bowed 82 = .ok (.getfield 106, 3) := by decide +kernel
theorem dX11_bowed_85 : decode cX11_bowed 85 = .ok (.iload 8, 2) := by decide +kernel
theorem dX11_bowed_87 : decode cX11_bowed 87 = .ok (.iload_n 3, 1) := by decide +kernel
theorem dX11_bowed_88 : decode cX11_bowed 88 = .ok (.iload 6, 2) := by decide +kernel
theorem dX11_bowed_90 : decode cX11_bowed 90 = .ok (.iconst 1, 1) := by decide +kernel
theorem dX11_bowed_91 : decode cX11_bowed 91 = .ok (.isub, 1) := by decide +kernel
theorem dX11_bowed_92 : decode cX11_bowed 92 = .ok (.iload 9, 2) := by decide +kernel
theorem dX11_bowed_94 : decode cX11_bowed 94 = .ok (.isub, 1) := by decide +kernel
theorem dX11_bowed_95 : decode cX11_bowed 95 = .ok (.invokestatic 256, 3) := by decide +kernel
theorem dX11_bowed_98 : decode cX11_bowed 98 = .ok (.invokevirtual 260, 3) := by decide +kernel
theorem dX11_bowed_101 : decode cX11_bowed 101 = .ok (.istore 8, 2) := by decide +kernel
theorem dX11_bowed_103 : decode cX11_bowed 103 = .ok (.aload_n 0, 1) := by decide +kernel
theorem dX11_bowed_104 : decode cX11_bowed 104 = .ok (.aload_n 0, 1) := by decide +kernel
theorem dX11_bowed_105 : decode cX11_bowed 105 = .ok (.getfield 18, 3) := by decide +kernel
theorem dX11_bowed_108 : decode cX11_bowed 108 = .ok (.iload_n 1, 1) := by decide +kernel
theorem dX11_bowed_109 : decode cX11_bowed 109 = .ok (.invokevirtual 182, 3) := by decide +kernel
theorem dX11_bowed_112 : decode cX11_bowed 112 = .ok (.iload_n 1, 1) := by decide +kernel
theorem dX11_bowed_113 : decode cX11_bowed 113 = .ok (.iload_n 2, 1) := by decide +kernel
theorem dX11_bowed_114 : decode cX11_bowed 114 = .ok (.iload_n 3, 1) := by decide +kernel
theorem dX11_bowed_115 : decode cX11_bowed 115 = .ok (.iload 9, 2) := by decide +kernel
theorem dX11_bowed_117 : decode cX11_bowed 117 = .ok (.iload 4, 2) := by decide +kernel
theorem dX11_bowed_119 : decode cX11_bowed 119 = .ok (.invokevirtual 217, 3) := by decide +kernel
theorem dX11_bowed_122 : decode cX11_bowed 122 = .ok (.aload_n 0, 1) := by decide +kernel
theorem dX11_bowed_123 : decode cX11_bowed 123 = .ok (.getfield 39, 3) := by decide +kernel
theorem dX11_bowed_126 : decode cX11_bowed 126 = .ok (.getfield 208, 3) := by decide +kernel
theorem dX11_bowed_129 : decode cX11_bowed 129 = .ok (.iload_n 2, 1) := by decide +kernel
theorem dX11_bowed_130 : decode cX11_bowed 130 = .ok (.isub, 1) := by decide +kernel
theorem dX11_bowed_131 : decode cX11_bowed 131 = .ok (.iload 9, 2) := by decide +kernel
theorem dX11_bowed_133 : decode cX11_bowed 133 = .ok (.if_icmp .le 7, 3) := by decide +kernel
theorem dX11_bowed_136 : decode cX11_bowed 136 = .ok (.iconst 1, 1) := by decide +kernel
theorem dX11_bowed_137 : decode cX11_bowed 137 = .ok (.goto 4, 3) := by decide +kernel
theorem dX11_bowed_140 : decode cX11_bowed 140 = .ok (.iconst 0, 1) := by decide +kernel
theorem dX11_bowed_141 : decode cX11_bowed 141 = .ok (.istore 10, 2) := by decide +kernel
theorem dX11_bowed_143 : decode cX11_bowed 143 = .ok (.iload 10, 2) := by decide +kernel
theorem dX11_bowed_145 : decode cX11_bowed 145 = .ok (.ifCond .eq 31, 3) := by decide +kernel
theorem dX11_bowed_148 : decode cX11_bowed 148 = .ok (.aload_n 0, 1) := by decide +kernel
theorem dX11_bowed_149 : decode cX11_bowed 149 = .ok (.getfield 39, 3) := by decide +kernel
theorem dX11_bowed_152 : decode cX11_bowed 152 = .ok (.aload_n 0, 1) := by decide +kernel
theorem dX11_bowed_153 : decode cX11_bowed 153 = .ok (.getfield 18, 3) := by decide +kernel
theorem dX11_bowed_156 : decode cX11_bowed 156 = .ok (.getfield 106, 3) := by decide +kernel
theorem dX11_bowed_159 : decode cX11_bowed 159 = .ok (.invokevirtual 263, 3) := by decide +kernel
theorem dX11_bowed_162 : decode cX11_bowed 162 = .ok (.iload 5, 2) := by decide +kernel
theorem dX11_bowed_164 : decode cX11_bowed 164 = .ok (.if_icmp .ne 12, 3) := by decide +kernel
theorem dX11_bowed_167 : decode cX11_bowed 167 = .ok (.iload 7, 2) := by decide +kernel
theorem dX11_bowed_169 : decode cX11_bowed 169 = .ok (.iconst 1, 1) := by decide +kernel
theorem dX11_bowed_170 : decode cX11_bowed 170 = .ok (.iload 8, 2) := by decide +kernel
theorem dX11_bowed_172 : decode cX11_bowed 172 = .ok (.ishl, 1) := by decide +kernel
theorem dX11_bowed_173 : decode cX11_bowed 173 = .ok (.ior, 1) := by decide +kernel
theorem dX11_bowed_174 : decode cX11_bowed 174 = .ok (.istore 7, 2) := by decide +kernel
theorem dX11_bowed_176 : decode cX11_bowed 176 = .ok (.iinc 9 1, 3) := by decide +kernel
theorem dX11_bowed_179 : decode cX11_bowed 179 = .ok (.goto (-108), 3) := by decide +kernel
theorem dX11_bowed_182 : decode cX11_bowed 182 = .ok (.iload 7, 2) := by decide +kernel
theorem dX11_bowed_184 : decode cX11_bowed 184 = .ok (.ireturn, 1) := by decide +kernel
theorem dX11_pigeons_0 : decode cX11_pigeons 0 = .ok (.aload_n 0, 1) := by decide +kernel
theorem dX11_pigeons_1 : decode cX11_pigeons 1 = .ok (.iload_n 1, 1) := by decide +kernel
theorem dX11_pigeons_2 : decode cX11_pigeons 2 = .ok (.invokevirtual 149, 3) := by decide +kernel
theorem dX11_pigeons_5 : decode cX11_pigeons 5 = .ok (.ifCond .eq 22, 3) := by decide +kernel
theorem dX11_pigeons_8 : decode cX11_pigeons 8 = .ok (.iload_n 2, 1) := by decide +kernel
theorem dX11_pigeons_9 : decode cX11_pigeons 9 = .ok (.iconst 1, 1) := by decide +kernel
theorem dX11_pigeons_10 : decode cX11_pigeons 10 = .ok (.iconst 3, 1) := by decide +kernel
theorem dX11_pigeons_11 : decode cX11_pigeons 11 = .ok (.invokestatic 87, 3) := by decide +kernel
theorem dX11_pigeons_14 : decode cX11_pigeons 14 = .ok (.ifCond .eq 13, 3) := by decide +kernel
theorem dX11_pigeons_17 : decode cX11_pigeons 17 = .ok (.iload_n 3, 1) := by decide +kernel
theorem dX11_pigeons_18 : decode cX11_pigeons 18 = .ok (.iconst 0, 1) := by decide +kernel
theorem dX11_pigeons_19 : decode cX11_pigeons 19 = .ok (.bipush 10, 2) := by decide +kernel
theorem dX11_pigeons_21 : decode cX11_pigeons 21 = .ok (.invokestatic 87, 3) := by decide +kernel
theorem dX11_pigeons_24 : decode cX11_pigeons 24 = .ok (.ifCond .ne 10, 3) := by decide +kernel
theorem dX11_pigeons_27 : decode cX11_pigeons 27 = .ok (.aload_n 0, 1) := by decide +kernel
theorem dX11_pigeons_28 : decode cX11_pigeons 28 = .ok (.bipush (-2), 2) := by decide +kernel
theorem dX11_pigeons_30 : decode cX11_pigeons 30 = .ok (.invokevirtual 91, 3) := by decide +kernel
theorem dX11_pigeons_33 : decode cX11_pigeons 33 = .ok (.ireturn, 1) := by decide +kernel
theorem dX11_pigeons_34 : decode cX11_pigeons 34 = .ok (.aload_n 0, 1) := by decide +kernel
theorem dX11_pigeons_35 : decode cX11_pigeons 35 = .ok (.aload_n 0, 1) := by decide +kernel
theorem dX11_pigeons_36 : decode cX11_pigeons 36 = .ok (.getfield 18, 3) := by decide +kernel
theorem dX11_pigeons_39 : decode cX11_pigeons 39 = .ok (.iload_n 1, 1) := by decide +kernel
theorem dX11_pigeons_40 : decode cX11_pigeons 40 = .ok (.invokevirtual 182, 3) := by decide +kernel
theorem dX11_pigeons_43 : decode cX11_pigeons 43 = .ok (.invokevirtual 185, 3) := by decide +kernel
theorem dX11_pigeons_46 : decode cX11_pigeons 46 = .ok (.astore 4, 2) := by decide +kernel
theorem dX11_pigeons_48 : decode cX11_pigeons 48 = .ok (.aload_n 0, 1) := by decide +kernel
theorem dX11_pigeons_49 : decode cX11_pigeons 49 = .ok (.aload_n 0, 1) := by decide +kernel
theorem dX11_pigeons_50 : decode cX11_pigeons 50 = .ok (.getfield 46, 3) := by decide +kernel
theorem dX11_pigeons_53 : decode cX11_pigeons 53 = .ok (.aload_n 0, 1) := by decide +kernel
theorem dX11_pigeons_54 : decode cX11_pigeons 54 = .ok (.getfield 18, 3) := by decide +kernel
theorem dX11_pigeons_57 : decode cX11_pigeons 57 = .ok (.getfield 106, 3) := by decide +kernel
theorem dX11_pigeons_60 : decode cX11_pigeons 60 = .ok (.aload 4, 2) := by decide +kernel
theorem dX11_pigeons_62 : decode cX11_pigeons 62 = .ok (.aload_n 0, 1) := by decide +kernel
theorem dX11_pigeons_63 : decode cX11_pigeons 63 = .ok (.getfield 18, 3) := by decide +kernel
theorem dX11_pigeons_66 : decode cX11_pigeons 66 = .ok (.iload_n 1, 1) := by decide +kernel
theorem dX11_pigeons_67 : decode cX11_pigeons 67 = .ok (.invokevirtual 155, 3) := by decide +kernel
theorem dX11_pigeons_70 : decode cX11_pigeons 70 = .ok (.iload_n 2, 1) := by decide +kernel
theorem dX11_pigeons_71 : decode cX11_pigeons 71 = .ok (.iload_n 3, 1) := by decide +kernel
theorem dX11_pigeons_72 : decode cX11_pigeons 72 = .ok (.invokevirtual 267, 3) := by decide +kernel
theorem dX11_pigeons_75 : decode cX11_pigeons 75 = .ok (.putfield 54, 3) := by decide +kernel
theorem dX11_pigeons_78 : decode cX11_pigeons 78 = .ok (.aload_n 0, 1) := by decide +kernel
theorem dX11_pigeons_79 : decode cX11_pigeons 79 = .ok (.lconst 1, 1) := by decide +kernel
theorem dX11_pigeons_80 : decode cX11_pigeons 80 = .ok (.putfield 58, 3) := by decide +kernel
theorem dX11_pigeons_83 : decode cX11_pigeons 83 = .ok (.iconst 0, 1) := by decide +kernel
theorem dX11_pigeons_84 : decode cX11_pigeons 84 = .ok (.istore 5, 2) := by decide +kernel
theorem dX11_pigeons_86 : decode cX11_pigeons 86 = .ok (.iload 5, 2) := by decide +kernel
theorem dX11_pigeons_88 : decode cX11_pigeons 88 = .ok (.bipush 15, 2) := by decide +kernel
theorem dX11_pigeons_90 : decode cX11_pigeons 90 = .ok (.if_icmp .ge 38, 3) := by decide +kernel
theorem dX11_pigeons_93 : decode cX11_pigeons 93 = .ok (.iload 5, 2) := by decide +kernel
theorem dX11_pigeons_95 : decode cX11_pigeons 95 = .ok (.iload_n 2, 1) := by decide +kernel
theorem dX11_pigeons_96 : decode cX11_pigeons 96 = .ok (.imul, 1) := by decide +kernel
theorem dX11_pigeons_97 : decode cX11_pigeons 97 = .ok (.aload_n 0, 1) := by decide +kernel
theorem dX11_pigeons_98 : decode cX11_pigeons 98 = .ok (.getfield 18, 3) := by decide +kernel
theorem dX11_pigeons_101 : decode cX11_pigeons 101 = .ok (.getfield 106, 3) := by decide +kernel
theorem dX11_pigeons_104 : decode cX11_pigeons 104 = .ok (.getfield 271, 3) := by decide +kernel
theorem dX11_pigeons_107 : decode cX11_pigeons 107 = .ok (.if_icmp .ge 21, 3) := by decide +kernel
theorem dX11_pigeons_110 : decode cX11_pigeons 110 = .ok (.aload_n 0, 1) := by decide +kernel
theorem dX11_pigeons_111 : decode cX11_pigeons 111 = .ok (.dup, 1) := by decide +kernel
theorem dX11_pigeons_112 : decode cX11_pigeons 112 = .ok (.getfield 58, 3) := by decide +kernel
theorem dX11_pigeons_115 : decode cX11_pigeons 115 = .ok (.ldc2_w 272, 3) := by decide +kernel
theorem dX11_pigeons_118 : decode cX11_pigeons 118 = .ok (.lmul, 1) := by decide +kernel
theorem dX11_pigeons_119 : decode cX11_pigeons 119 = .ok (.putfield 58, 3) := by decide +kernel
theorem dX11_pigeons_122 : decode cX11_pigeons 122 = .ok (.iinc 5 1, 3) := by decide +kernel
theorem dX11_pigeons_125 : decode cX11_pigeons 125 = .ok (.goto (-39), 3) := by decide +kernel
theorem dX11_pigeons_128 : decode cX11_pigeons 128 = .ok (.aload_n 0, 1) := by decide +kernel
theorem dX11_pigeons_129 : decode cX11_pigeons 129 = .ok (.getfield 54, 3) := by decide +kernel
theorem dX11_pigeons_132 : decode cX11_pigeons 132 = .ok (.aload_n 0, 1) := by decide +kernel
theorem dX11_pigeons_133 : decode cX11_pigeons 133 = .ok (.getfield 58, 3) := by decide +kernel
theorem dX11_pigeons_136 : decode cX11_pigeons 136 = .ok (.invokestatic 274, 3) := by decide +kernel
theorem dX11_pigeons_139 : decode cX11_pigeons 139 = .ok (.lstore 5, 2) := by decide +kernel
theorem dX11_pigeons_141 : decode cX11_pigeons 141 = .ok (.lload 5, 2) := by decide +kernel
theorem dX11_pigeons_143 : decode cX11_pigeons 143 = .ok (.lconst 1, 1) := by decide +kernel
theorem dX11_pigeons_144 : decode cX11_pigeons 144 = .ok (.lcmp, 1) := by decide +kernel
theorem dX11_pigeons_145 : decode cX11_pigeons 145 = .ok (.ifCond .le 25, 3) := by decide +kernel
theorem dX11_pigeons_148 : decode cX11_pigeons 148 = .ok (.aload_n 0, 1) := by decide +kernel
theorem dX11_pigeons_149 : decode cX11_pigeons 149 = .ok (.dup, 1) := by decide +kernel
theorem dX11_pigeons_150 : decode cX11_pigeons 150 = .ok (.getfield 54, 3) := by decide +kernel
theorem dX11_pigeons_153 : decode cX11_pigeons 153 = .ok (.lload 5, 2) := by decide +kernel
theorem dX11_pigeons_155 : decode cX11_pigeons 155 = .ok (.ldiv, 1) := by decide +kernel
theorem dX11_pigeons_156 : decode cX11_pigeons 156 = .ok (.putfield 54, 3) := by decide +kernel
theorem dX11_pigeons_159 : decode cX11_pigeons 159 = .ok (.aload_n 0, 1) := by decide +kernel
theorem dX11_pigeons_160 : decode cX11_pigeons 160 = .ok (.dup, 1) := by decide +kernel
theorem dX11_pigeons_161 : decode cX11_pigeons 161 = .ok (.getfield 58, 3) := by decide +kernel
theorem dX11_pigeons_164 : decode cX11_pigeons 164 = .ok (.lload 5, 2) := by decide +kernel
theorem dX11_pigeons_166 : decode cX11_pigeons 166 = .ok (.ldiv, 1) := by decide +kernel
theorem dX11_pigeons_167 : decode cX11_pigeons 167 = .ok (.putfield 58, 3) := by decide +kernel
theorem dX11_pigeons_170 : decode cX11_pigeons 170 = .ok (.iconst 1, 1) := by decide +kernel
theorem dX11_pigeons_171 : decode cX11_pigeons 171 = .ok (.ireturn, 1) := by decide +kernel
theorem dX11_crowned_0 : decode cX11_crowned 0 = .ok (.aload_n 0, 1) := by decide +kernel
theorem dX11_crowned_1 : decode cX11_crowned 1 = .ok (.iload_n 1, 1) := by decide +kernel
theorem dX11_crowned_2 : decode cX11_crowned 2 = .ok (.invokevirtual 149, 3) := by decide +kernel
theorem dX11_crowned_5 : decode cX11_crowned 5 = .ok (.ifCond .eq 24, 3) := by decide +kernel
theorem dX11_crowned_8 : decode cX11_crowned 8 = .ok (.iload_n 2, 1) := by decide +kernel
theorem dX11_crowned_9 : decode cX11_crowned 9 = .ok (.iconst 0, 1) := by decide +kernel
theorem dX11_crowned_10 : decode cX11_crowned 10 = .ok (.ldc_w 278, 3) := by decide +kernel
theorem dX11_crowned_13 : decode cX11_crowned 13 = .ok (.invokestatic 87, 3) := by decide +kernel
theorem dX11_crowned_16 : decode cX11_crowned 16 = .ok (.ifCond .eq 13, 3) := by decide +kernel
theorem dX11_crowned_19 : decode cX11_crowned 19 = .ok (.iload_n 3, 1) := by decide +kernel
theorem dX11_crowned_20 : decode cX11_crowned 20 = .ok (.iconst 0, 1) := by decide +kernel
theorem dX11_crowned_21 : decode cX11_crowned 21 = .ok (.bipush 60, 2) := by decide +kernel
theorem dX11_crowned_23 : decode cX11_crowned 23 = .ok (.invokestatic 87, 3) := by decide +kernel
theorem dX11_crowned_26 : decode cX11_crowned 26 = .ok (.ifCond .ne 10, 3) := by decide +kernel
theorem dX11_crowned_29 : decode cX11_crowned 29 = .ok (.aload_n 0, 1) := by decide +kernel
theorem dX11_crowned_30 : decode cX11_crowned 30 = .ok (.bipush (-2), 2) := by decide +kernel
theorem dX11_crowned_32 : decode cX11_crowned 32 = .ok (.invokevirtual 91, 3) := by decide +kernel
theorem dX11_crowned_35 : decode cX11_crowned 35 = .ok (.ireturn, 1) := by decide +kernel
theorem dX11_crowned_36 : decode cX11_crowned 36 = .ok (.aload_n 0, 1) := by decide +kernel
theorem dX11_crowned_37 : decode cX11_crowned 37 = .ok (.aload_n 0, 1) := by decide +kernel
theorem dX11_crowned_38 : decode cX11_crowned 38 = .ok (.getfield 18, 3) := by decide +kernel
theorem dX11_crowned_41 : decode cX11_crowned 41 = .ok (.iload_n 1, 1) := by decide +kernel
theorem dX11_crowned_42 : decode cX11_crowned 42 = .ok (.invokevirtual 182, 3) := by decide +kernel
theorem dX11_crowned_45 : decode cX11_crowned 45 = .ok (.invokevirtual 185, 3) := by decide +kernel
theorem dX11_crowned_48 : decode cX11_crowned 48 = .ok (.astore 4, 2) := by decide +kernel
theorem dX11_crowned_50 : decode cX11_crowned 50 = .ok (.iload_n 2, 1) := by decide +kernel
theorem dX11_crowned_51 : decode cX11_crowned 51 = .ok (.i2l, 1) := by decide +kernel
theorem dX11_crowned_52 : decode cX11_crowned 52 = .ok (.lstore 5, 2) := by decide +kernel
theorem dX11_crowned_54 : decode cX11_crowned 54 = .ok (.iconst 0, 1) := by decide +kernel
theorem dX11_crowned_55 : decode cX11_crowned 55 = .ok (.istore 7, 2) := by decide +kernel
theorem dX11_crowned_57 : decode cX11_crowned 57 = .ok (.iconst 0, 1) := by decide +kernel
theorem dX11_crowned_58 : decode cX11_crowned 58 = .ok (.istore 8, 2) := by decide +kernel
theorem dX11_crowned_60 : decode cX11_crowned 60 = .ok (.iload 8, 2) := by decide +kernel
theorem dX11_crowned_62 : decode cX11_crowned 62 = .ok (.iload_n 3, 1) := by decide +kernel
theorem dX11_crowned_63 : decode cX11_crowned 63 = .ok (.if_icmp .ge 127, 3) := by decide +kernel
theorem dX11_crowned_66 : decode cX11_crowned 66 = .ok (.aload_n 0, 1) := by decide +kernel
theorem dX11_crowned_67 : decode cX11_crowned 67 = .ok (.getfield 39, 3) := by decide +kernel
theorem dX11_crowned_70 : decode cX11_crowned 70 = .ok (.iload_n 1, 1) := by decide +kernel
theorem dX11_crowned_71 : decode cX11_crowned 71 = .ok (.iconst 0, 1) := by decide +kernel
theorem dX11_crowned_72 : decode cX11_crowned 72 = .ok (.aload_n 0, 1) := by decide +kernel
theorem dX11_crowned_73 : decode cX11_crowned 73 = .ok (.getfield 18, 3) := by decide +kernel
theorem dX11_crowned_76 : decode cX11_crowned 76 = .ok (.iload_n 1, 1) := by decide +kernel
theorem dX11_crowned_77 : decode cX11_crowned 77 = .ok (.invokevirtual 155, 3) := by decide +kernel
theorem dX11_crowned_80 : decode cX11_crowned 80 = .ok (.invokevirtual 158, 3) := by decide +kernel
theorem dX11_crowned_83 : decode cX11_crowned 83 = .ok (.iconst 0, 1) := by decide +kernel
theorem dX11_crowned_84 : decode cX11_crowned 84 = .ok (.istore 9, 2) := by decide +kernel
theorem dX11_crowned_86 : decode cX11_crowned 86 = .ok (.iload 9, 2) := by decide +kernel
theorem dX11_crowned_88 : decode cX11_crowned 88 = .ok (.bipush 15, 2) := by decide +kernel
theorem dX11_crowned_90 : decode cX11_crowned 90 = .ok (.if_icmp .ge 72, 3) := by decide +kernel
theorem dX11_crowned_93 : decode cX11_crowned 93 = .ok (.aload_n 0, 1) := by decide +kernel
theorem dX11_crowned_94 : decode cX11_crowned 94 = .ok (.getfield 39, 3) := by decide +kernel
theorem dX11_crowned_97 : decode cX11_crowned 97 = .ok (.aload_n 0, 1) := by decide +kernel
theorem dX11_crowned_98 : decode cX11_crowned 98 = .ok (.getfield 18, 3) := by decide +kernel
theorem dX11_crowned_101 : decode cX11_crowned 101 = .ok (.getfield 106, 3) := by decide +kernel
theorem dX11_crowned_104 : decode cX11_crowned 104 = .ok (.invokevirtual 173, 3) := by decide +kernel
theorem dX11_crowned_107 : decode cX11_crowned 107 = .ok (.ifCond .ne 55, 3) := by decide +kernel
theorem dX11_crowned_110 : decode cX11_crowned 110 = .ok (.lload 5, 2) := by decide +kernel
theorem dX11_crowned_112 : decode cX11_crowned 112 = .ok (.ldc2_w 279, 3) := by decide +kernel
theorem dX11_crowned_115 : decode cX11_crowned 115 = .ok (.lmul, 1) := by decide +kernel
theorem dX11_crowned_116 : decode cX11_crowned 116 = .ok (.ldc2_w 281, 3) := by decide +kernel
theorem dX11_crowned_119 : decode cX11_crowned 119 = .ok (.ladd, 1) := by decide +kernel
theorem dX11_crowned_120 : decode cX11_crowned 120 = .ok (.ldc2_w 283, 3) := by decide +kernel
theorem dX11_crowned_123 : decode cX11_crowned 123 = .ok (.lrem, 1) := by decide +kernel
theorem dX11_crowned_124 : decode cX11_crowned 124 = .ok (.lstore 5, 2) := by decide +kernel
theorem dX11_crowned_126 : decode cX11_crowned 126 = .ok (.aload_n 0, 1) := by decide +kernel
theorem dX11_crowned_127 : decode cX11_crowned 127 = .ok (.getfield 39, 3) := by decide +kernel
theorem dX11_crowned_130 : decode cX11_crowned 130 = .ok (.aload_n 0, 1) := by decide +kernel
theorem dX11_crowned_131 : decode cX11_crowned 131 = .ok (.getfield 18, 3) := by decide +kernel
theorem dX11_crowned_134 : decode cX11_crowned 134 = .ok (.getfield 106, 3) := by decide +kernel
theorem dX11_crowned_137 : decode cX11_crowned 137 = .ok (.aload 4, 2) := by decide +kernel
theorem dX11_crowned_139 : decode cX11_crowned 139 = .ok (.lload 5, 2) := by decide +kernel
theorem dX11_crowned_141 : decode cX11_crowned 141 = .ok (.ldc2_w 285, 3) := by decide +kernel
theorem dX11_crowned_144 : decode cX11_crowned 144 = .ok (.ldiv, 1) := by decide +kernel
theorem dX11_crowned_145 : decode cX11_crowned 145 = .ok (.ldc2_w 287, 3) := by decide +kernel
theorem dX11_crowned_148 : decode cX11_crowned 148 = .ok (.lrem, 1) := by decide +kernel
theorem dX11_crowned_149 : decode cX11_crowned 149 = .ok (.l2i, 1) := by decide +kernel
theorem dX11_crowned_150 : decode cX11_crowned 150 = .ok (.iconst 1, 1) := by decide +kernel
theorem dX11_crowned_151 : decode cX11_crowned 151 = .ok (.iadd, 1) := by decide +kernel
theorem dX11_crowned_152 : decode cX11_crowned 152 = .ok (.iconst 0, 1) := by decide +kernel
theorem dX11_crowned_153 : decode cX11_crowned 153 = .ok (.invokevirtual 189, 3) := by decide +kernel
theorem dX11_crowned_156 : decode cX11_crowned 156 = .ok (.iinc 9 1, 3) := by decide +kernel
theorem dX11_crowned_159 : decode cX11_crowned 159 = .ok (.goto (-73), 3) := by decide +kernel
theorem dX11_crowned_162 : decode cX11_crowned 162 = .ok (.iload 7, 2) := by decide +kernel
theorem dX11_crowned_164 : decode cX11_crowned 164 = .ok (.aload_n 0, 1) := by decide +kernel
theorem dX11_crowned_165 : decode cX11_crowned 165 = .ok (.getfield 39, 3) := by decide +kernel
theorem dX11_crowned_168 : decode cX11_crowned 168 = .ok (.aload_n 0, 1) := by decide +kernel
theorem dX11_crowned_169 : decode cX11_crowned 169 = .ok (.getfield 18, 3) := by decide +kernel
theorem dX11_crowned_172 : decode cX11_crowned 172 = .ok (.getfield 106, 3) := by decide +kernel
theorem dX11_crowned_175 : decode cX11_crowned 175 = .ok (.invokevirtual 196, 3) := by decide +kernel
theorem dX11_crowned_178 : decode cX11_crowned 178 = .ok (.invokestatic 166, 3) := by decide +kernel
theorem dX11_crowned_181 : decode cX11_crowned 181 = .ok (.iadd, 1) := by decide +kernel
theorem dX11_crowned_182 : decode cX11_crowned 182 = .ok (.istore 7, 2) := by decide +kernel
theorem dX11_crowned_184 : decode cX11_crowned 184 = .ok (.iinc 8 1, 3) := by decide +kernel
theorem dX11_crowned_187 : decode cX11_crowned 187 = .ok (.goto (-127), 3) := by decide +kernel
theorem dX11_crowned_190 : decode cX11_crowned 190 = .ok (.iload 7, 2) := by decide +kernel
theorem dX11_crowned_192 : decode cX11_crowned 192 = .ok (.ireturn, 1) := by decide +kernel
theorem dX11_part_0 : decode cX11_part 0 = .ok (.iload_n 1, 1) := by decide +kernel
theorem dX11_part_1 : decode cX11_part 1 = .ok (.iconst 0, 1) := by decide +kernel
theorem dX11_part_2 : decode cX11_part 2 = .ok (.iconst 1, 1) := by decide +kernel
theorem dX11_part_3 : decode cX11_part 3 = .ok (.invokestatic 87, 3) := by decide +kernel
theorem dX11_part_6 : decode cX11_part 6 = .ok (.ifCond .ne 11, 3) := by decide +kernel
theorem dX11_part_9 : decode cX11_part 9 = .ok (.aload_n 0, 1) := by decide +kernel
theorem dX11_part_10 : decode cX11_part 10 = .ok (.bipush (-2), 2) := by decide +kernel
theorem dX11_part_12 : decode cX11_part 12 = .ok (.invokevirtual 91, 3) := by decide +kernel
theorem dX11_part_15 : decode cX11_part 15 = .ok (.i2l, 1) := by decide +kernel
theorem dX11_part_16 : decode cX11_part 16 = .ok (.lreturn, 1) := by decide +kernel
theorem dX11_part_17 : decode cX11_part 17 = .ok (.iload_n 1, 1) := by decide +kernel
theorem dX11_part_18 : decode cX11_part 18 = .ok (.ifCond .ne 10, 3) := by decide +kernel
theorem dX11_part_21 : decode cX11_part 21 = .ok (.aload_n 0, 1) := by decide +kernel
theorem dX11_part_22 : decode cX11_part 22 = .ok (.getfield 54, 3) := by decide +kernel
theorem dX11_part_25 : decode cX11_part 25 = .ok (.goto 7, 3) := by decide +kernel
theorem dX11_part_28 : decode cX11_part 28 = .ok (.aload_n 0, 1) := by decide +kernel
theorem dX11_part_29 : decode cX11_part 29 = .ok (.getfield 58, 3) := by decide +kernel
theorem dX11_part_32 : decode cX11_part 32 = .ok (.lreturn, 1) := by decide +kernel
theorem dX11_image_0 : decode cX11_image 0 = .ok (.iload_n 1, 1) := by decide +kernel
theorem dX11_image_1 : decode cX11_image 1 = .ok (.iconst 0, 1) := by decide +kernel
theorem dX11_image_2 : decode cX11_image 2 = .ok (.iconst 1, 1) := by decide +kernel
theorem dX11_image_3 : decode cX11_image 3 = .ok (.invokestatic 87, 3) := by decide +kernel
theorem dX11_image_6 : decode cX11_image 6 = .ok (.ifCond .ne 10, 3) := by decide +kernel
theorem dX11_image_9 : decode cX11_image 9 = .ok (.aload_n 0, 1) := by decide +kernel
theorem dX11_image_10 : decode cX11_image 10 = .ok (.bipush (-2), 2) := by decide +kernel
theorem dX11_image_12 : decode cX11_image 12 = .ok (.invokevirtual 91, 3) := by decide +kernel
theorem dX11_image_15 : decode cX11_image 15 = .ok (.ireturn, 1) := by decide +kernel
theorem dX11_image_16 : decode cX11_image 16 = .ok (.aload_n 0, 1) := by decide +kernel
theorem dX11_image_17 : decode cX11_image 17 = .ok (.getfield 25, 3) := by decide +kernel
theorem dX11_image_20 : decode cX11_image 20 = .ok (.iload_n 1, 1) := by decide +kernel
theorem dX11_image_21 : decode cX11_image 21 = .ok (.aaload, 1) := by decide +kernel
theorem dX11_image_22 : decode cX11_image 22 = .ok (.astore_n 2, 1) := by decide +kernel
theorem dX11_image_23 : decode cX11_image 23 = .ok (.aload_n 2, 1) := by decide +kernel
theorem dX11_image_24 : decode cX11_image 24 = .ok (.ifnonnull 18, 3) := by decide +kernel
theorem dX11_image_27 : decode cX11_image 27 = .ok (.new 15, 3) := by decide +kernel
theorem dX11_image_30 : decode cX11_image 30 = .ok (.dup, 1) := by decide +kernel
theorem dX11_image_31 : decode cX11_image 31 = .ok (.invokespecial 17, 3) := by decide +kernel
theorem dX11_image_34 : decode cX11_image 34 = .ok (.astore_n 2, 1) := by decide +kernel
theorem dX11_image_35 : decode cX11_image 35 = .ok (.aload_n 0, 1) := by decide +kernel
theorem dX11_image_36 : decode cX11_image 36 = .ok (.getfield 25, 3) := by decide +kernel
theorem dX11_image_39 : decode cX11_image 39 = .ok (.iload_n 1, 1) := by decide +kernel
theorem dX11_image_40 : decode cX11_image 40 = .ok (.aload_n 2, 1) := by decide +kernel
theorem dX11_image_41 : decode cX11_image 41 = .ok (.aastore, 1) := by decide +kernel
theorem dX11_image_42 : decode cX11_image 42 = .ok (.aload_n 2, 1) := by decide +kernel
theorem dX11_image_43 : decode cX11_image 43 = .ok (.aload_n 0, 1) := by decide +kernel
theorem dX11_image_44 : decode cX11_image 44 = .ok (.getfield 18, 3) := by decide +kernel
theorem dX11_image_47 : decode cX11_image 47 = .ok (.invokevirtual 145, 3) := by decide +kernel
theorem dX11_image_50 : decode cX11_image 50 = .ok (.iconst 1, 1) := by decide +kernel
theorem dX11_image_51 : decode cX11_image 51 = .ok (.ireturn, 1) := by decide +kernel
theorem dX11_from_0 : decode cX11_from 0 = .ok (.iload_n 1, 1) := by decide +kernel
theorem dX11_from_1 : decode cX11_from 1 = .ok (.iconst 0, 1) := by decide +kernel
theorem dX11_from_2 : decode cX11_from 2 = .ok (.iconst 1, 1) := by decide +kernel
theorem dX11_from_3 : decode cX11_from 3 = .ok (.invokestatic 87, 3) := by decide +kernel
theorem dX11_from_6 : decode cX11_from 6 = .ok (.ifCond .ne 10, 3) := by decide +kernel
theorem dX11_from_9 : decode cX11_from 9 = .ok (.aload_n 0, 1) := by decide +kernel
theorem dX11_from_10 : decode cX11_from 10 = .ok (.bipush (-2), 2) := by decide +kernel
theorem dX11_from_12 : decode cX11_from 12 = .ok (.invokevirtual 91, 3) := by decide +kernel
theorem dX11_from_15 : decode cX11_from 15 = .ok (.ireturn, 1) := by decide +kernel
theorem dX11_from_16 : decode cX11_from 16 = .ok (.aload_n 0, 1) := by decide +kernel
theorem dX11_from_17 : decode cX11_from 17 = .ok (.getfield 25, 3) := by decide +kernel
theorem dX11_from_20 : decode cX11_from 20 = .ok (.iload_n 1, 1) := by decide +kernel
theorem dX11_from_21 : decode cX11_from 21 = .ok (.aaload, 1) := by decide +kernel
theorem dX11_from_22 : decode cX11_from 22 = .ok (.astore_n 2, 1) := by decide +kernel
theorem dX11_from_23 : decode cX11_from 23 = .ok (.aload_n 2, 1) := by decide +kernel
theorem dX11_from_24 : decode cX11_from 24 = .ok (.ifnonnull 10, 3) := by decide +kernel
theorem dX11_from_27 : decode cX11_from 27 = .ok (.aload_n 0, 1) := by decide +kernel
theorem dX11_from_28 : decode cX11_from 28 = .ok (.bipush (-3), 2) := by decide +kernel
theorem dX11_from_30 : decode cX11_from 30 = .ok (.invokevirtual 176, 3) := by decide +kernel
theorem dX11_from_33 : decode cX11_from 33 = .ok (.ireturn, 1) := by decide +kernel
theorem dX11_from_34 : decode cX11_from 34 = .ok (.aload_n 0, 1) := by decide +kernel
theorem dX11_from_35 : decode cX11_from 35 = .ok (.getfield 18, 3) := by decide +kernel
theorem dX11_from_38 : decode cX11_from 38 = .ok (.aload_n 2, 1) := by decide +kernel
theorem dX11_from_39 : decode cX11_from 39 = .ok (.invokevirtual 145, 3) := by decide +kernel
theorem dX11_from_42 : decode cX11_from 42 = .ok (.iconst 1, 1) := by decide +kernel
theorem dX11_from_43 : decode cX11_from 43 = .ok (.ireturn, 1) := by decide +kernel
theorem dX11_status_0 : decode cX11_status 0 = .ok (.iload_n 1, 1) := by decide +kernel
theorem dX11_status_1 : decode cX11_status 1 = .ok (.tableswitch 42 0 2 #[27, 32, 37], 27) := by decide +kernel
theorem dX11_status_28 : decode cX11_status 28 = .ok (.aload_n 0, 1) := by decide +kernel
theorem dX11_status_29 : decode cX11_status 29 = .ok (.getfield 61, 3) := by decide +kernel
theorem dX11_status_32 : decode cX11_status 32 = .ok (.ireturn, 1) := by decide +kernel
theorem dX11_status_33 : decode cX11_status 33 = .ok (.aload_n 0, 1) := by decide +kernel
theorem dX11_status_34 : decode cX11_status 34 = .ok (.getfield 65, 3) := by decide +kernel
theorem dX11_status_37 : decode cX11_status 37 = .ok (.ireturn, 1) := by decide +kernel
theorem dX11_status_38 : decode cX11_status 38 = .ok (.aload_n 0, 1) := by decide +kernel
theorem dX11_status_39 : decode cX11_status 39 = .ok (.getfield 68, 3) := by decide +kernel
theorem dX11_status_42 : decode cX11_status 42 = .ok (.ireturn, 1) := by decide +kernel
theorem dX11_status_43 : decode cX11_status 43 = .ok (.aload_n 0, 1) := by decide +kernel
theorem dX11_status_44 : decode cX11_status 44 = .ok (.iconst (-1), 1) := by decide +kernel
theorem dX11_status_45 : decode cX11_status 45 = .ok (.invokevirtual 91, 3) := by decide +kernel
theorem dX11_status_48 : decode cX11_status 48 = .ok (.ireturn, 1) := by decide +kernel
theorem dX11_count_0 : decode cX11_count 0 = .ok (.iload_n 1, 1) := by decide +kernel
theorem dX11_count_1 : decode cX11_count 1 = .ok (.tableswitch 96 0 5 #[39, 47, 58, 69, 77, 88], 39) := by decide +kernel
theorem dX11_count_40 : decode cX11_count 40 = .ok (.aload_n 0, 1) := by decide +kernel
theorem dX11_count_41 : decode cX11_count 41 = .ok (.getfield 18, 3) := by decide +kernel
theorem dX11_count_44 : decode cX11_count 44 = .ok (.getfield 95, 3) := by decide +kernel
theorem dX11_count_47 : decode cX11_count 47 = .ok (.ireturn, 1) := by decide +kernel
theorem dX11_count_48 : decode cX11_count 48 = .ok (.aload_n 0, 1) := by decide +kernel
theorem dX11_count_49 : decode cX11_count 49 = .ok (.getfield 18, 3) := by decide +kernel
theorem dX11_count_52 : decode cX11_count 52 = .ok (.getfield 106, 3) := by decide +kernel
theorem dX11_count_55 : decode cX11_count 55 = .ok (.getfield 271, 3) := by decide +kernel
theorem dX11_count_58 : decode cX11_count 58 = .ok (.ireturn, 1) := by decide +kernel
theorem dX11_count_59 : decode cX11_count 59 = .ok (.aload_n 0, 1) := by decide +kernel
theorem dX11_count_60 : decode cX11_count 60 = .ok (.getfield 18, 3) := by decide +kernel
theorem dX11_count_63 : decode cX11_count 63 = .ok (.getfield 106, 3) := by decide +kernel
theorem dX11_count_66 : decode cX11_count 66 = .ok (.getfield 289, 3) := by decide +kernel
theorem dX11_count_69 : decode cX11_count 69 = .ok (.ireturn, 1) := by decide +kernel
theorem dX11_count_70 : decode cX11_count 70 = .ok (.aload_n 0, 1) := by decide +kernel
theorem dX11_count_71 : decode cX11_count 71 = .ok (.getfield 18, 3) := by decide +kernel
theorem dX11_count_74 : decode cX11_count 74 = .ok (.getfield 239, 3) := by decide +kernel
theorem dX11_count_77 : decode cX11_count 77 = .ok (.ireturn, 1) := by decide +kernel
theorem dX11_count_78 : decode cX11_count 78 = .ok (.aload_n 0, 1) := by decide +kernel
theorem dX11_count_79 : decode cX11_count 79 = .ok (.getfield 18, 3) := by decide +kernel
theorem dX11_count_82 : decode cX11_count 82 = .ok (.getfield 152, 3) := by decide +kernel
theorem dX11_count_85 : decode cX11_count 85 = .ok (.getfield 202, 3) := by decide +kernel
theorem dX11_count_88 : decode cX11_count 88 = .ok (.ireturn, 1) := by decide +kernel
theorem dX11_count_89 : decode cX11_count 89 = .ok (.aload_n 0, 1) := by decide +kernel
theorem dX11_count_90 : decode cX11_count 90 = .ok (.getfield 32, 3) := by decide +kernel
theorem dX11_count_93 : decode cX11_count 93 = .ok (.getfield 131, 3) := by decide +kernel
theorem dX11_count_96 : decode cX11_count 96 = .ok (.ireturn, 1) := by decide +kernel
theorem dX11_count_97 : decode cX11_count 97 = .ok (.aload_n 0, 1) := by decide +kernel
theorem dX11_count_98 : decode cX11_count 98 = .ok (.bipush (-2), 2) := by decide +kernel
theorem dX11_count_100 : decode cX11_count 100 = .ok (.invokevirtual 91, 3) := by decide +kernel
theorem dX11_count_103 : decode cX11_count 103 = .ok (.ireturn, 1) := by decide +kernel
theorem dX11_digest_0 : decode cX11_digest 0 = .ok (.ldc2_w 292, 3) := by decide +kernel
theorem dX11_digest_3 : decode cX11_digest 3 = .ok (.lstore_n 1, 1) := by decide +kernel
theorem dX11_digest_4 : decode cX11_digest 4 = .ok (.iconst 0, 1) := by decide +kernel
theorem dX11_digest_5 : decode cX11_digest 5 = .ok (.istore_n 3, 1) := by decide +kernel
theorem dX11_digest_6 : decode cX11_digest 6 = .ok (.iload_n 3, 1) := by decide +kernel
theorem dX11_digest_7 : decode cX11_digest 7 = .ok (.bipush 6, 2) := by decide +kernel
theorem dX11_digest_9 : decode cX11_digest 9 = .ok (.if_icmp .ge 22, 3) := by decide +kernel
theorem dX11_digest_12 : decode cX11_digest 12 = .ok (.ldc2_w 294, 3) := by decide +kernel
theorem dX11_digest_15 : decode cX11_digest 15 = .ok (.lload_n 1, 1) := by decide +kernel
theorem dX11_digest_16 : decode cX11_digest 16 = .ok (.lmul, 1) := by decide +kernel
theorem dX11_digest_17 : decode cX11_digest 17 = .ok (.aload_n 0, 1) := by decide +kernel
theorem dX11_digest_18 : decode cX11_digest 18 = .ok (.iload_n 3, 1) := by decide +kernel
theorem dX11_digest_19 : decode cX11_digest 19 = .ok (.invokevirtual 296, 3) := by decide +kernel
theorem dX11_digest_22 : decode cX11_digest 22 = .ok (.i2l, 1) := by decide +kernel
theorem dX11_digest_23 : decode cX11_digest 23 = .ok (.ladd, 1) := by decide +kernel
theorem dX11_digest_24 : decode cX11_digest 24 = .ok (.lstore_n 1, 1) := by decide +kernel
theorem dX11_digest_25 : decode cX11_digest 25 = .ok (.iinc 3 1, 3) := by decide +kernel
theorem dX11_digest_28 : decode cX11_digest 28 = .ok (.goto (-22), 3) := by decide +kernel
theorem dX11_digest_31 : decode cX11_digest 31 = .ok (.aload_n 0, 1) := by decide +kernel
theorem dX11_digest_32 : decode cX11_digest 32 = .ok (.getfield 18, 3) := by decide +kernel
theorem dX11_digest_35 : decode cX11_digest 35 = .ok (.getfield 106, 3) := by decide +kernel
theorem dX11_digest_38 : decode cX11_digest 38 = .ok (.lload_n 1, 1) := by decide +kernel
theorem dX11_digest_39 : decode cX11_digest 39 = .ok (.invokevirtual 299, 3) := by decide +kernel
theorem dX11_digest_42 : decode cX11_digest 42 = .ok (.lstore_n 1, 1) := by decide +kernel
theorem dX11_digest_43 : decode cX11_digest 43 = .ok (.aload_n 0, 1) := by decide +kernel
theorem dX11_digest_44 : decode cX11_digest 44 = .ok (.getfield 18, 3) := by decide +kernel
theorem dX11_digest_47 : decode cX11_digest 47 = .ok (.lload_n 1, 1) := by decide +kernel
theorem dX11_digest_48 : decode cX11_digest 48 = .ok (.invokevirtual 303, 3) := by decide +kernel
theorem dX11_digest_51 : decode cX11_digest 51 = .ok (.lstore_n 1, 1) := by decide +kernel
theorem dX11_digest_52 : decode cX11_digest 52 = .ok (.iconst 0, 1) := by decide +kernel
theorem dX11_digest_53 : decode cX11_digest 53 = .ok (.istore_n 3, 1) := by decide +kernel
theorem dX11_digest_54 : decode cX11_digest 54 = .ok (.iload_n 3, 1) := by decide +kernel
theorem dX11_digest_55 : decode cX11_digest 55 = .ok (.iconst 5, 1) := by decide +kernel
theorem dX11_digest_56 : decode cX11_digest 56 = .ok (.if_icmp .ge 22, 3) := by decide +kernel
theorem dX11_digest_59 : decode cX11_digest 59 = .ok (.ldc2_w 294, 3) := by decide +kernel
theorem dX11_digest_62 : decode cX11_digest 62 = .ok (.lload_n 1, 1) := by decide +kernel
theorem dX11_digest_63 : decode cX11_digest 63 = .ok (.lmul, 1) := by decide +kernel
theorem dX11_digest_64 : decode cX11_digest 64 = .ok (.aload_n 0, 1) := by decide +kernel
theorem dX11_digest_65 : decode cX11_digest 65 = .ok (.iload_n 3, 1) := by decide +kernel
theorem dX11_digest_66 : decode cX11_digest 66 = .ok (.invokevirtual 306, 3) := by decide +kernel
theorem dX11_digest_69 : decode cX11_digest 69 = .ok (.i2l, 1) := by decide +kernel
theorem dX11_digest_70 : decode cX11_digest 70 = .ok (.ladd, 1) := by decide +kernel
theorem dX11_digest_71 : decode cX11_digest 71 = .ok (.lstore_n 1, 1) := by decide +kernel
theorem dX11_digest_72 : decode cX11_digest 72 = .ok (.iinc 3 1, 3) := by decide +kernel
theorem dX11_digest_75 : decode cX11_digest 75 = .ok (.goto (-21), 3) := by decide +kernel
theorem dX11_digest_78 : decode cX11_digest 78 = .ok (.aload_n 0, 1) := by decide +kernel
theorem dX11_digest_79 : decode cX11_digest 79 = .ok (.getfield 18, 3) := by decide +kernel
theorem dX11_digest_82 : decode cX11_digest 82 = .ok (.lload_n 1, 1) := by decide +kernel
theorem dX11_digest_83 : decode cX11_digest 83 = .ok (.invokevirtual 309, 3) := by decide +kernel
theorem dX11_digest_86 : decode cX11_digest 86 = .ok (.lstore_n 1, 1) := by decide +kernel
theorem dX11_digest_87 : decode cX11_digest 87 = .ok (.ldc2_w 294, 3) := by decide +kernel
theorem dX11_digest_90 : decode cX11_digest 90 = .ok (.lload_n 1, 1) := by decide +kernel
theorem dX11_digest_91 : decode cX11_digest 91 = .ok (.lmul, 1) := by decide +kernel
theorem dX11_digest_92 : decode cX11_digest 92 = .ok (.aload_n 0, 1) := by decide +kernel
theorem dX11_digest_93 : decode cX11_digest 93 = .ok (.getfield 54, 3) := by decide +kernel
theorem dX11_digest_96 : decode cX11_digest 96 = .ok (.ladd, 1) := by decide +kernel
theorem dX11_digest_97 : decode cX11_digest 97 = .ok (.lstore_n 1, 1) := by decide +kernel
theorem dX11_digest_98 : decode cX11_digest 98 = .ok (.ldc2_w 294, 3) := by decide +kernel
theorem dX11_digest_101 : decode cX11_digest 101 = .ok (.lload_n 1, 1) := by decide +kernel
theorem dX11_digest_102 : decode cX11_digest 102 = .ok (.lmul, 1) := by decide +kernel
theorem dX11_digest_103 : decode cX11_digest 103 = .ok (.aload_n 0, 1) := by decide +kernel
theorem dX11_digest_104 : decode cX11_digest 104 = .ok (.getfield 58, 3) := by decide +kernel
theorem dX11_digest_107 : decode cX11_digest 107 = .ok (.ladd, 1) := by decide +kernel
theorem dX11_digest_108 : decode cX11_digest 108 = .ok (.lreturn, 1) := by decide +kernel
theorem dX11_bad_0 : decode cX11_bad 0 = .ok (.aload_n 0, 1) := by decide +kernel
theorem dX11_bad_1 : decode cX11_bad 1 = .ok (.dup, 1) := by decide +kernel
theorem dX11_bad_2 : decode cX11_bad 2 = .ok (.getfield 61, 3) := by decide +kernel
theorem dX11_bad_5 : decode cX11_bad 5 = .ok (.iconst 1, 1) := by decide +kernel
theorem dX11_bad_6 : decode cX11_bad 6 = .ok (.iadd, 1) := by decide +kernel
theorem dX11_bad_7 : decode cX11_bad 7 = .ok (.putfield 61, 3) := by decide +kernel
theorem dX11_bad_10 : decode cX11_bad 10 = .ok (.iload_n 1, 1) := by decide +kernel
theorem dX11_bad_11 : decode cX11_bad 11 = .ok (.ireturn, 1) := by decide +kernel
theorem dX11_no_0 : decode cX11_no 0 = .ok (.aload_n 0, 1) := by decide +kernel
theorem dX11_no_1 : decode cX11_no 1 = .ok (.dup, 1) := by decide +kernel
theorem dX11_no_2 : decode cX11_no 2 = .ok (.getfield 65, 3) := by decide +kernel
theorem dX11_no_5 : decode cX11_no 5 = .ok (.iconst 1, 1) := by decide +kernel
theorem dX11_no_6 : decode cX11_no 6 = .ok (.iadd, 1) := by decide +kernel
theorem dX11_no_7 : decode cX11_no 7 = .ok (.putfield 65, 3) := by decide +kernel
theorem dX11_no_10 : decode cX11_no 10 = .ok (.iload_n 1, 1) := by decide +kernel
theorem dX11_no_11 : decode cX11_no 11 = .ok (.ireturn, 1) := by decide +kernel
theorem dX11_full_0 : decode cX11_full 0 = .ok (.aload_n 0, 1) := by decide +kernel
theorem dX11_full_1 : decode cX11_full 1 = .ok (.dup, 1) := by decide +kernel
theorem dX11_full_2 : decode cX11_full 2 = .ok (.getfield 68, 3) := by decide +kernel
theorem dX11_full_5 : decode cX11_full 5 = .ok (.iconst 1, 1) := by decide +kernel
theorem dX11_full_6 : decode cX11_full 6 = .ok (.iadd, 1) := by decide +kernel
theorem dX11_full_7 : decode cX11_full 7 = .ok (.putfield 68, 3) := by decide +kernel
theorem dX11_full_10 : decode cX11_full 10 = .ok (.bipush (-4), 2) := by decide +kernel
theorem dX11_full_12 : decode cX11_full 12 = .ok (.ireturn, 1) := by decide +kernel
theorem dX11_within_0 : decode cX11_within 0 = .ok (.iload_n 0, 1) := by decide +kernel
theorem dX11_within_1 : decode cX11_within 1 = .ok (.iload_n 1, 1) := by decide +kernel
theorem dX11_within_2 : decode cX11_within 2 = .ok (.if_icmp .lt 12, 3) := by decide +kernel
theorem dX11_within_5 : decode cX11_within 5 = .ok (.iload_n 0, 1) := by decide +kernel
theorem dX11_within_6 : decode cX11_within 6 = .ok (.iload_n 2, 1) := by decide +kernel
theorem dX11_within_7 : decode cX11_within 7 = .ok (.if_icmp .gt 7, 3) := by decide +kernel
theorem dX11_within_10 : decode cX11_within 10 = .ok (.iconst 1, 1) := by decide +kernel
theorem dX11_within_11 : decode cX11_within 11 = .ok (.goto 4, 3) := by decide +kernel
theorem dX11_within_14 : decode cX11_within 14 = .ok (.iconst 0, 1) := by decide +kernel
theorem dX11_within_15 : decode cX11_within 15 = .ok (.ireturn, 1) := by decide +kernel
theorem dX11_bit_0 : decode cX11_bit 0 = .ok (.iload_n 0, 1) := by decide +kernel
theorem dX11_bit_1 : decode cX11_bit 1 = .ok (.ifCond .eq 7, 3) := by decide +kernel
theorem dX11_bit_4 : decode cX11_bit 4 = .ok (.iconst 1, 1) := by decide +kernel
theorem dX11_bit_5 : decode cX11_bit 5 = .ok (.goto 4, 3) := by decide +kernel
theorem dX11_bit_8 : decode cX11_bit 8 = .ok (.iconst 0, 1) := by decide +kernel
theorem dX11_bit_9 : decode cX11_bit 9 = .ok (.ireturn, 1) := by decide +kernel
theorem dX11_isHead_0 : decode cX11_isHead 0 = .ok (.iload_n 1, 1) := by decide +kernel
theorem dX11_isHead_1 : decode cX11_isHead 1 = .ok (.iconst 0, 1) := by decide +kernel
theorem dX11_isHead_2 : decode cX11_isHead 2 = .ok (.aload_n 0, 1) := by decide +kernel
theorem dX11_isHead_3 : decode cX11_isHead 3 = .ok (.getfield 18, 3) := by decide +kernel
theorem dX11_isHead_6 : decode cX11_isHead 6 = .ok (.getfield 95, 3) := by decide +kernel
theorem dX11_isHead_9 : decode cX11_isHead 9 = .ok (.iconst 1, 1) := by decide +kernel
theorem dX11_isHead_10 : decode cX11_isHead 10 = .ok (.isub, 1) := by decide +kernel
theorem dX11_isHead_11 : decode cX11_isHead 11 = .ok (.invokestatic 87, 3) := by decide +kernel
theorem dX11_isHead_14 : decode cX11_isHead 14 = .ok (.ireturn, 1) := by decide +kernel
theorem dX11_isCell_0 : decode cX11_isCell 0 = .ok (.iload_n 1, 1) := by decide +kernel
theorem dX11_isCell_1 : decode cX11_isCell 1 = .ok (.iconst 0, 1) := by decide +kernel
theorem dX11_isCell_2 : decode cX11_isCell 2 = .ok (.aload_n 0, 1) := by decide +kernel
theorem dX11_isCell_3 : decode cX11_isCell 3 = .ok (.getfield 18, 3) := by decide +kernel
theorem dX11_isCell_6 : decode cX11_isCell 6 = .ok (.getfield 106, 3) := by decide +kernel
theorem dX11_isCell_9 : decode cX11_isCell 9 = .ok (.getfield 271, 3) := by decide +kernel
theorem dX11_isCell_12 : decode cX11_isCell 12 = .ok (.invokestatic 87, 3) := by decide +kernel
theorem dX11_isCell_15 : decode cX11_isCell 15 = .ok (.ireturn, 1) := by decide +kernel
theorem dX11_isStep_0 : decode cX11_isStep 0 = .ok (.iload_n 0, 1) := by decide +kernel
theorem dX11_isStep_1 : decode cX11_isStep 1 = .ok (.iconst 0, 1) := by decide +kernel
theorem dX11_isStep_2 : decode cX11_isStep 2 = .ok (.iconst 5, 1) := by decide +kernel
theorem dX11_isStep_3 : decode cX11_isStep 3 = .ok (.invokestatic 87, 3) := by decide +kernel
theorem dX11_isStep_6 : decode cX11_isStep 6 = .ok (.ireturn, 1) := by decide +kernel
theorem dX11_kind_0 : decode cX11_kind 0 = .ok (.aload_n 0, 1) := by decide +kernel
theorem dX11_kind_1 : decode cX11_kind 1 = .ok (.getfield 11, 3) := by decide +kernel
theorem dX11_kind_4 : decode cX11_kind 4 = .ok (.iload_n 1, 1) := by decide +kernel
theorem dX11_kind_5 : decode cX11_kind 5 = .ok (.iconst 0, 1) := by decide +kernel
theorem dX11_kind_6 : decode cX11_kind 6 = .ok (.iconst 5, 1) := by decide +kernel
theorem dX11_kind_7 : decode cX11_kind 7 = .ok (.invokestatic 87, 3) := by decide +kernel
theorem dX11_kind_10 : decode cX11_kind 10 = .ok (.ifCond .eq 7, 3) := by decide +kernel
theorem dX11_kind_13 : decode cX11_kind 13 = .ok (.iload_n 1, 1) := by decide +kernel
theorem dX11_kind_14 : decode cX11_kind 14 = .ok (.goto 4, 3) := by decide +kernel
theorem dX11_kind_17 : decode cX11_kind 17 = .ok (.iconst 0, 1) := by decide +kernel
theorem dX11_kind_18 : decode cX11_kind 18 = .ok (.aaload, 1) := by decide +kernel
theorem dX11_kind_19 : decode cX11_kind 19 = .ok (.areturn, 1) := by decide +kernel
theorem dX11_isRow_0 : decode cX11_isRow 0 = .ok (.iload_n 0, 1) := by decide +kernel
theorem dX11_isRow_1 : decode cX11_isRow 1 = .ok (.ifCond .ge 5, 3) := by decide +kernel
theorem dX11_isRow_4 : decode cX11_isRow 4 = .ok (.iconst 0, 1) := by decide +kernel
theorem dX11_isRow_5 : decode cX11_isRow 5 = .ok (.ireturn, 1) := by decide +kernel
theorem dX11_isRow_6 : decode cX11_isRow 6 = .ok (.iload_n 0, 1) := by decide +kernel
theorem dX11_isRow_7 : decode cX11_isRow 7 = .ok (.istore_n 1, 1) := by decide +kernel
theorem dX11_isRow_8 : decode cX11_isRow 8 = .ok (.iconst 0, 1) := by decide +kernel
theorem dX11_isRow_9 : decode cX11_isRow 9 = .ok (.istore_n 2, 1) := by decide +kernel
theorem dX11_isRow_10 : decode cX11_isRow 10 = .ok (.iload_n 2, 1) := by decide +kernel
theorem dX11_isRow_11 : decode cX11_isRow 11 = .ok (.getstatic 312, 3) := by decide +kernel
theorem dX11_isRow_14 : decode cX11_isRow 14 = .ok (.arraylength, 1) := by decide +kernel
theorem dX11_isRow_15 : decode cX11_isRow 15 = .ok (.if_icmp .ge 32, 3) := by decide +kernel
theorem dX11_isRow_18 : decode cX11_isRow 18 = .ok (.iload_n 1, 1) := by decide +kernel
theorem dX11_isRow_19 : decode cX11_isRow 19 = .ok (.ifCond .le 28, 3) := by decide +kernel
theorem dX11_isRow_22 : decode cX11_isRow 22 = .ok (.iload_n 1, 1) := by decide +kernel
theorem dX11_isRow_23 : decode cX11_isRow 23 = .ok (.bipush 10, 2) := by decide +kernel
theorem dX11_isRow_25 : decode cX11_isRow 25 = .ok (.irem, 1) := by decide +kernel
theorem dX11_isRow_26 : decode cX11_isRow 26 = .ok (.iconst 1, 1) := by decide +kernel
theorem dX11_isRow_27 : decode cX11_isRow 27 = .ok (.iconst 3, 1) := by decide +kernel
theorem dX11_isRow_28 : decode cX11_isRow 28 = .ok (.invokestatic 87, 3) := by decide +kernel
theorem dX11_isRow_31 : decode cX11_isRow 31 = .ok (.ifCond .ne 5, 3) := by decide +kernel
theorem dX11_isRow_34 : decode cX11_isRow 34 = .ok (.iconst 0, 1) := by decide +kernel
theorem dX11_isRow_35 : decode cX11_isRow 35 = .ok (.ireturn, 1) := by decide +kernel
theorem dX11_isRow_36 : decode cX11_isRow 36 = .ok (.iload_n 1, 1) := by decide +kernel
theorem dX11_isRow_37 : decode cX11_isRow 37 = .ok (.bipush 10, 2) := by decide +kernel
theorem dX11_isRow_39 : decode cX11_isRow 39 = .ok (.idiv, 1) := by decide +kernel
theorem dX11_isRow_40 : decode cX11_isRow 40 = .ok (.istore_n 1, 1) := by decide +kernel
theorem dX11_isRow_41 : decode cX11_isRow 41 = .ok (.iinc 2 1, 3) := by decide +kernel
theorem dX11_isRow_44 : decode cX11_isRow 44 = .ok (.goto (-34), 3) := by decide +kernel
theorem dX11_isRow_47 : decode cX11_isRow 47 = .ok (.iload_n 1, 1) := by decide +kernel
theorem dX11_isRow_48 : decode cX11_isRow 48 = .ok (.ifCond .ne 7, 3) := by decide +kernel
theorem dX11_isRow_51 : decode cX11_isRow 51 = .ok (.iconst 1, 1) := by decide +kernel
theorem dX11_isRow_52 : decode cX11_isRow 52 = .ok (.goto 4, 3) := by decide +kernel
theorem dX11_isRow_55 : decode cX11_isRow 55 = .ok (.iconst 0, 1) := by decide +kernel
theorem dX11_isRow_56 : decode cX11_isRow 56 = .ok (.ireturn, 1) := by decide +kernel
theorem dX11_figuresOf_0 : decode cX11_figuresOf 0 = .ok (.iconst 0, 1) := by decide +kernel
theorem dX11_figuresOf_1 : decode cX11_figuresOf 1 = .ok (.istore_n 1, 1) := by decide +kernel
theorem dX11_figuresOf_2 : decode cX11_figuresOf 2 = .ok (.iconst 0, 1) := by decide +kernel
theorem dX11_figuresOf_3 : decode cX11_figuresOf 3 = .ok (.istore_n 2, 1) := by decide +kernel
theorem dX11_figuresOf_4 : decode cX11_figuresOf 4 = .ok (.iload_n 2, 1) := by decide +kernel
theorem dX11_figuresOf_5 : decode cX11_figuresOf 5 = .ok (.getstatic 312, 3) := by decide +kernel
theorem dX11_figuresOf_8 : decode cX11_figuresOf 8 = .ok (.arraylength, 1) := by decide +kernel
theorem dX11_figuresOf_9 : decode cX11_figuresOf 9 = .ok (.if_icmp .ge 29, 3) := by decide +kernel
theorem dX11_figuresOf_12 : decode cX11_figuresOf 12 = .ok (.iload_n 1, 1) := by decide +kernel
theorem dX11_figuresOf_13 : decode cX11_figuresOf 13 = .ok (.iload_n 0, 1) := by decide +kernel
theorem dX11_figuresOf_14 : decode cX11_figuresOf 14 = .ok (.getstatic 312, 3) := by decide +kernel
theorem dX11_figuresOf_17 : decode cX11_figuresOf 17 = .ok (.iload_n 2, 1) := by decide +kernel
theorem dX11_figuresOf_18 : decode cX11_figuresOf 18 = .ok (.iaload, 1) := by decide +kernel
theorem dX11_figuresOf_19 : decode cX11_figuresOf 19 = .ok (.if_icmp .lt 7, 3) := by decide +kernel
theorem dX11_figuresOf_22 : decode cX11_figuresOf 22 = .ok (.iconst 1, 1) := by decide +kernel
theorem dX11_figuresOf_23 : decode cX11_figuresOf 23 = .ok (.goto 4, 3) := by decide +kernel
theorem dX11_figuresOf_26 : decode cX11_figuresOf 26 = .ok (.iconst 0, 1) := by decide +kernel
theorem dX11_figuresOf_27 : decode cX11_figuresOf 27 = .ok (.invokestatic 166, 3) := by decide +kernel
theorem dX11_figuresOf_30 : decode cX11_figuresOf 30 = .ok (.iadd, 1) := by decide +kernel
theorem dX11_figuresOf_31 : decode cX11_figuresOf 31 = .ok (.istore_n 1, 1) := by decide +kernel
theorem dX11_figuresOf_32 : decode cX11_figuresOf 32 = .ok (.iinc 2 1, 3) := by decide +kernel
theorem dX11_figuresOf_35 : decode cX11_figuresOf 35 = .ok (.goto (-31), 3) := by decide +kernel
theorem dX11_figuresOf_38 : decode cX11_figuresOf 38 = .ok (.iload_n 1, 1) := by decide +kernel
theorem dX11_figuresOf_39 : decode cX11_figuresOf 39 = .ok (.ireturn, 1) := by decide +kernel
theorem dX11_paceOf_0 : decode cX11_paceOf 0 = .ok (.iload_n 1, 1) := by decide +kernel
theorem dX11_paceOf_1 : decode cX11_paceOf 1 = .ok (.iconst 0, 1) := by decide +kernel
theorem dX11_paceOf_2 : decode cX11_paceOf 2 = .ok (.getstatic 312, 3) := by decide +kernel
theorem dX11_paceOf_5 : decode cX11_paceOf 5 = .ok (.arraylength, 1) := by decide +kernel
theorem dX11_paceOf_6 : decode cX11_paceOf 6 = .ok (.iconst 1, 1) := by decide +kernel
theorem dX11_paceOf_7 : decode cX11_paceOf 7 = .ok (.isub, 1) := by decide +kernel
theorem dX11_paceOf_8 : decode cX11_paceOf 8 = .ok (.invokestatic 87, 3) := by decide +kernel
theorem dX11_paceOf_11 : decode cX11_paceOf 11 = .ok (.ifCond .eq 16, 3) := by decide +kernel
theorem dX11_paceOf_14 : decode cX11_paceOf 14 = .ok (.iload_n 0, 1) := by decide +kernel
theorem dX11_paceOf_15 : decode cX11_paceOf 15 = .ok (.getstatic 312, 3) := by decide +kernel
theorem dX11_paceOf_18 : decode cX11_paceOf 18 = .ok (.iload_n 1, 1) := by decide +kernel
theorem dX11_paceOf_19 : decode cX11_paceOf 19 = .ok (.iaload, 1) := by decide +kernel
theorem dX11_paceOf_20 : decode cX11_paceOf 20 = .ok (.idiv, 1) := by decide +kernel
theorem dX11_paceOf_21 : decode cX11_paceOf 21 = .ok (.bipush 10, 2) := by decide +kernel
theorem dX11_paceOf_23 : decode cX11_paceOf 23 = .ok (.irem, 1) := by decide +kernel
theorem dX11_paceOf_24 : decode cX11_paceOf 24 = .ok (.goto 4, 3) := by decide +kernel
theorem dX11_paceOf_27 : decode cX11_paceOf 27 = .ok (.iconst 0, 1) := by decide +kernel
theorem dX11_paceOf_28 : decode cX11_paceOf 28 = .ok (.ireturn, 1) := by decide +kernel
theorem dX11_tryRow_0 : decode cX11_tryRow 0 = .ok (.iload 4, 2) := by decide +kernel
theorem dX11_tryRow_2 : decode cX11_tryRow 2 = .ok (.invokestatic 253, 3) := by decide +kernel
theorem dX11_tryRow_5 : decode cX11_tryRow 5 = .ok (.istore 7, 2) := by decide +kernel
theorem dX11_tryRow_7 : decode cX11_tryRow 7 = .ok (.aload_n 0, 1) := by decide +kernel
theorem dX11_tryRow_8 : decode cX11_tryRow 8 = .ok (.getfield 39, 3) := by decide +kernel
theorem dX11_tryRow_11 : decode cX11_tryRow 11 = .ok (.iload_n 2, 1) := by decide +kernel
theorem dX11_tryRow_12 : decode cX11_tryRow 12 = .ok (.iload_n 3, 1) := by decide +kernel
theorem dX11_tryRow_13 : decode cX11_tryRow 13 = .ok (.aload_n 0, 1) := by decide +kernel
theorem dX11_tryRow_14 : decode cX11_tryRow 14 = .ok (.getfield 18, 3) := by decide +kernel
theorem dX11_tryRow_17 : decode cX11_tryRow 17 = .ok (.iload_n 2, 1) := by decide +kernel
theorem dX11_tryRow_18 : decode cX11_tryRow 18 = .ok (.invokevirtual 155, 3) := by decide +kernel
theorem dX11_tryRow_21 : decode cX11_tryRow 21 = .ok (.invokevirtual 158, 3) := by decide +kernel
theorem dX11_tryRow_24 : decode cX11_tryRow 24 = .ok (.iconst 0, 1) := by decide +kernel
theorem dX11_tryRow_25 : decode cX11_tryRow 25 = .ok (.istore 8, 2) := by decide +kernel
theorem dX11_tryRow_27 : decode cX11_tryRow 27 = .ok (.iload 8, 2) := by decide +kernel
theorem dX11_tryRow_29 : decode cX11_tryRow 29 = .ok (.iload 7, 2) := by decide +kernel
theorem dX11_tryRow_31 : decode cX11_tryRow 31 = .ok (.if_icmp .ge 74, 3) := by decide +kernel
theorem dX11_tryRow_34 : decode cX11_tryRow 34 = .ok (.aload_n 0, 1) := by decide +kernel
theorem dX11_tryRow_35 : decode cX11_tryRow 35 = .ok (.getfield 39, 3) := by decide +kernel
theorem dX11_tryRow_38 : decode cX11_tryRow 38 = .ok (.aload_n 0, 1) := by decide +kernel
theorem dX11_tryRow_39 : decode cX11_tryRow 39 = .ok (.getfield 18, 3) := by decide +kernel
theorem dX11_tryRow_42 : decode cX11_tryRow 42 = .ok (.getfield 106, 3) := by decide +kernel
theorem dX11_tryRow_45 : decode cX11_tryRow 45 = .ok (.invokevirtual 173, 3) := by decide +kernel
theorem dX11_tryRow_48 : decode cX11_tryRow 48 = .ok (.ifCond .ne 57, 3) := by decide +kernel
theorem dX11_tryRow_51 : decode cX11_tryRow 51 = .ok (.iload 4, 2) := by decide +kernel
theorem dX11_tryRow_53 : decode cX11_tryRow 53 = .ok (.iload 7, 2) := by decide +kernel
theorem dX11_tryRow_55 : decode cX11_tryRow 55 = .ok (.iconst 1, 1) := by decide +kernel
theorem dX11_tryRow_56 : decode cX11_tryRow 56 = .ok (.isub, 1) := by decide +kernel
theorem dX11_tryRow_57 : decode cX11_tryRow 57 = .ok (.iload 8, 2) := by decide +kernel
theorem dX11_tryRow_59 : decode cX11_tryRow 59 = .ok (.isub, 1) := by decide +kernel
theorem dX11_tryRow_60 : decode cX11_tryRow 60 = .ok (.invokestatic 256, 3) := by decide +kernel
theorem dX11_tryRow_63 : decode cX11_tryRow 63 = .ok (.istore 9, 2) := by decide +kernel
theorem dX11_tryRow_65 : decode cX11_tryRow 65 = .ok (.aload_n 0, 1) := by decide +kernel
theorem dX11_tryRow_66 : decode cX11_tryRow 66 = .ok (.getfield 39, 3) := by decide +kernel
theorem dX11_tryRow_69 : decode cX11_tryRow 69 = .ok (.aload_n 0, 1) := by decide +kernel
theorem dX11_tryRow_70 : decode cX11_tryRow 70 = .ok (.getfield 18, 3) := by decide +kernel
theorem dX11_tryRow_73 : decode cX11_tryRow 73 = .ok (.getfield 106, 3) := by decide +kernel
theorem dX11_tryRow_76 : decode cX11_tryRow 76 = .ok (.aload_n 0, 1) := by decide +kernel
theorem dX11_tryRow_77 : decode cX11_tryRow 77 = .ok (.iload_n 1, 1) := by decide +kernel
theorem dX11_tryRow_78 : decode cX11_tryRow 78 = .ok (.invokevirtual 185, 3) := by decide +kernel
theorem dX11_tryRow_81 : decode cX11_tryRow 81 = .ok (.iload 9, 2) := by decide +kernel
theorem dX11_tryRow_83 : decode cX11_tryRow 83 = .ok (.iload 8, 2) := by decide +kernel
theorem dX11_tryRow_85 : decode cX11_tryRow 85 = .ok (.iload 5, 2) := by decide +kernel
theorem dX11_tryRow_87 : decode cX11_tryRow 87 = .ok (.if_icmp .ne 8, 3) := by decide +kernel
theorem dX11_tryRow_90 : decode cX11_tryRow 90 = .ok (.iload 6, 2) := by decide +kernel
theorem dX11_tryRow_92 : decode cX11_tryRow 92 = .ok (.goto 4, 3) := by decide +kernel
theorem dX11_tryRow_95 : decode cX11_tryRow 95 = .ok (.iconst 0, 1) := by decide +kernel
theorem dX11_tryRow_96 : decode cX11_tryRow 96 = .ok (.invokevirtual 189, 3) := by decide +kernel
theorem dX11_tryRow_99 : decode cX11_tryRow 99 = .ok (.iinc 8 1, 3) := by decide +kernel
theorem dX11_tryRow_102 : decode cX11_tryRow 102 = .ok (.goto (-75), 3) := by decide +kernel
theorem dX11_tryRow_105 : decode cX11_tryRow 105 = .ok (.return_, 1) := by decide +kernel
theorem dX11_firstPace_0 : decode cX11_firstPace 0 = .ok (.aload_n 0, 1) := by decide +kernel
theorem dX11_firstPace_1 : decode cX11_firstPace 1 = .ok (.getfield 39, 3) := by decide +kernel
theorem dX11_firstPace_4 : decode cX11_firstPace 4 = .ok (.iconst 0, 1) := by decide +kernel
theorem dX11_firstPace_5 : decode cX11_firstPace 5 = .ok (.iload_n 3, 1) := by decide +kernel
theorem dX11_firstPace_6 : decode cX11_firstPace 6 = .ok (.iload_n 2, 1) := by decide +kernel
theorem dX11_firstPace_7 : decode cX11_firstPace 7 = .ok (.invokevirtual 158, 3) := by decide +kernel
theorem dX11_firstPace_10 : decode cX11_firstPace 10 = .ok (.iconst (-1), 1) := by decide +kernel
theorem dX11_firstPace_11 : decode cX11_firstPace 11 = .ok (.istore 5, 2) := by decide +kernel
theorem dX11_firstPace_13 : decode cX11_firstPace 13 = .ok (.iconst 0, 1) := by decide +kernel
theorem dX11_firstPace_14 : decode cX11_firstPace 14 = .ok (.istore 6, 2) := by decide +kernel
theorem dX11_firstPace_16 : decode cX11_firstPace 16 = .ok (.iload 6, 2) := by decide +kernel
theorem dX11_firstPace_18 : decode cX11_firstPace 18 = .ok (.iload 4, 2) := by decide +kernel
theorem dX11_firstPace_20 : decode cX11_firstPace 20 = .ok (.if_icmp .gt 72, 3) := by decide +kernel
theorem dX11_firstPace_23 : decode cX11_firstPace 23 = .ok (.iload 6, 2) := by decide +kernel
theorem dX11_firstPace_25 : decode cX11_firstPace 25 = .ok (.bipush 15, 2) := by decide +kernel
theorem dX11_firstPace_27 : decode cX11_firstPace 27 = .ok (.if_icmp .ge 65, 3) := by decide +kernel
theorem dX11_firstPace_30 : decode cX11_firstPace 30 = .ok (.aload_n 0, 1) := by decide +kernel
theorem dX11_firstPace_31 : decode cX11_firstPace 31 = .ok (.getfield 46, 3) := by decide +kernel
theorem dX11_firstPace_34 : decode cX11_firstPace 34 = .ok (.aload_n 0, 1) := by decide +kernel
theorem dX11_firstPace_35 : decode cX11_firstPace 35 = .ok (.getfield 18, 3) := by decide +kernel
theorem dX11_firstPace_38 : decode cX11_firstPace 38 = .ok (.getfield 106, 3) := by decide +kernel
theorem dX11_firstPace_41 : decode cX11_firstPace 41 = .ok (.aload_n 1, 1) := by decide +kernel
theorem dX11_firstPace_42 : decode cX11_firstPace 42 = .ok (.aload_n 0, 1) := by decide +kernel
theorem dX11_firstPace_43 : decode cX11_firstPace 43 = .ok (.getfield 39, 3) := by decide +kernel
theorem dX11_firstPace_46 : decode cX11_firstPace 46 = .ok (.getfield 193, 3) := by decide +kernel
theorem dX11_firstPace_49 : decode cX11_firstPace 49 = .ok (.aload_n 0, 1) := by decide +kernel
theorem dX11_firstPace_50 : decode cX11_firstPace 50 = .ok (.getfield 39, 3) := by decide +kernel
theorem dX11_firstPace_53 : decode cX11_firstPace 53 = .ok (.getfield 208, 3) := by decide +kernel
theorem dX11_firstPace_56 : decode cX11_firstPace 56 = .ok (.aload_n 0, 1) := by decide +kernel
theorem dX11_firstPace_57 : decode cX11_firstPace 57 = .ok (.getfield 39, 3) := by decide +kernel
theorem dX11_firstPace_60 : decode cX11_firstPace 60 = .ok (.getfield 199, 3) := by decide +kernel
theorem dX11_firstPace_63 : decode cX11_firstPace 63 = .ok (.invokevirtual 315, 3) := by decide +kernel
theorem dX11_firstPace_66 : decode cX11_firstPace 66 = .ok (.istore 5, 2) := by decide +kernel
theorem dX11_firstPace_68 : decode cX11_firstPace 68 = .ok (.aload_n 0, 1) := by decide +kernel
theorem dX11_firstPace_69 : decode cX11_firstPace 69 = .ok (.getfield 39, 3) := by decide +kernel
theorem dX11_firstPace_72 : decode cX11_firstPace 72 = .ok (.aload_n 0, 1) := by decide +kernel
theorem dX11_firstPace_73 : decode cX11_firstPace 73 = .ok (.getfield 18, 3) := by decide +kernel
theorem dX11_firstPace_76 : decode cX11_firstPace 76 = .ok (.getfield 106, 3) := by decide +kernel
theorem dX11_firstPace_79 : decode cX11_firstPace 79 = .ok (.aload_n 1, 1) := by decide +kernel
theorem dX11_firstPace_80 : decode cX11_firstPace 80 = .ok (.iload 5, 2) := by decide +kernel
theorem dX11_firstPace_82 : decode cX11_firstPace 82 = .ok (.iconst 0, 1) := by decide +kernel
theorem dX11_firstPace_83 : decode cX11_firstPace 83 = .ok (.invokevirtual 189, 3) := by decide +kernel
theorem dX11_firstPace_86 : decode cX11_firstPace 86 = .ok (.iinc 6 1, 3) := by decide +kernel
theorem dX11_firstPace_89 : decode cX11_firstPace 89 = .ok (.goto (-73), 3) := by decide +kernel
theorem dX11_firstPace_92 : decode cX11_firstPace 92 = .ok (.iload 5, 2) := by decide +kernel
theorem dX11_firstPace_94 : decode cX11_firstPace 94 = .ok (.ireturn, 1) := by decide +kernel
theorem dX11_kindsThatFit_0 : decode cX11_kindsThatFit 0 = .ok (.bipush 63, 2) := by decide +kernel
theorem dX11_kindsThatFit_2 : decode cX11_kindsThatFit 2 = .ok (.istore_n 2, 1) := by decide +kernel
theorem dX11_kindsThatFit_3 : decode cX11_kindsThatFit 3 = .ok (.iconst 0, 1) := by decide +kernel
theorem dX11_kindsThatFit_4 : decode cX11_kindsThatFit 4 = .ok (.istore_n 3, 1) := by decide +kernel
theorem dX11_kindsThatFit_5 : decode cX11_kindsThatFit 5 = .ok (.iload_n 3, 1) := by decide +kernel
theorem dX11_kindsThatFit_6 : decode cX11_kindsThatFit 6 = .ok (.aload_n 0, 1) := by decide +kernel
theorem dX11_kindsThatFit_7 : decode cX11_kindsThatFit 7 = .ok (.getfield 18, 3) := by decide +kernel
theorem dX11_kindsThatFit_10 : decode cX11_kindsThatFit 10 = .ok (.getfield 239, 3) := by decide +kernel
theorem dX11_kindsThatFit_13 : decode cX11_kindsThatFit 13 = .ok (.if_icmp .ge 106, 3) := by decide +kernel
theorem dX11_kindsThatFit_16 : decode cX11_kindsThatFit 16 = .ok (.iload_n 3, 1) := by decide +kernel
theorem dX11_kindsThatFit_17 : decode cX11_kindsThatFit 17 = .ok (.bipush 6, 2) := by decide +kernel
theorem dX11_kindsThatFit_19 : decode cX11_kindsThatFit 19 = .ok (.if_icmp .ge 100, 3) := by decide +kernel
theorem dX11_kindsThatFit_22 : decode cX11_kindsThatFit 22 = .ok (.iconst 0, 1) := by decide +kernel
theorem dX11_kindsThatFit_23 : decode cX11_kindsThatFit 23 = .ok (.istore 4, 2) := by decide +kernel
theorem dX11_kindsThatFit_25 : decode cX11_kindsThatFit 25 = .ok (.iload 4, 2) := by decide +kernel
theorem dX11_kindsThatFit_27 : decode cX11_kindsThatFit 27 = .ok (.bipush 6, 2) := by decide +kernel
theorem dX11_kindsThatFit_29 : decode cX11_kindsThatFit 29 = .ok (.if_icmp .ge 84, 3) := by decide +kernel
theorem dX11_kindsThatFit_32 : decode cX11_kindsThatFit 32 = .ok (.aload_n 0, 1) := by decide +kernel
theorem dX11_kindsThatFit_33 : decode cX11_kindsThatFit 33 = .ok (.getfield 18, 3) := by decide +kernel
theorem dX11_kindsThatFit_36 : decode cX11_kindsThatFit 36 = .ok (.getfield 319, 3) := by decide +kernel
theorem dX11_kindsThatFit_39 : decode cX11_kindsThatFit 39 = .ok (.iload_n 3, 1) := by decide +kernel
theorem dX11_kindsThatFit_40 : decode cX11_kindsThatFit 40 = .ok (.iaload, 1) := by decide +kernel
theorem dX11_kindsThatFit_41 : decode cX11_kindsThatFit 41 = .ok (.iload_n 1, 1) := by decide +kernel
theorem dX11_kindsThatFit_42 : decode cX11_kindsThatFit 42 = .ok (.if_icmp .ne 71, 3) := by decide +kernel
theorem dX11_kindsThatFit_45 : decode cX11_kindsThatFit 45 = .ok (.aload_n 0, 1) := by decide +kernel
theorem dX11_kindsThatFit_46 : decode cX11_kindsThatFit 46 = .ok (.iload 4, 2) := by decide +kernel
theorem dX11_kindsThatFit_48 : decode cX11_kindsThatFit 48 = .ok (.iload_n 1, 1) := by decide +kernel
theorem dX11_kindsThatFit_49 : decode cX11_kindsThatFit 49 = .ok (.aload_n 0, 1) := by decide +kernel
theorem dX11_kindsThatFit_50 : decode cX11_kindsThatFit 50 = .ok (.getfield 18, 3) := by decide +kernel
theorem dX11_kindsThatFit_53 : decode cX11_kindsThatFit 53 = .ok (.getfield 322, 3) := by decide +kernel
theorem dX11_kindsThatFit_56 : decode cX11_kindsThatFit 56 = .ok (.iload_n 3, 1) := by decide +kernel
theorem dX11_kindsThatFit_57 : decode cX11_kindsThatFit 57 = .ok (.iaload, 1) := by decide +kernel
theorem dX11_kindsThatFit_58 : decode cX11_kindsThatFit 58 = .ok (.aload_n 0, 1) := by decide +kernel
theorem dX11_kindsThatFit_59 : decode cX11_kindsThatFit 59 = .ok (.getfield 18, 3) := by decide +kernel
theorem dX11_kindsThatFit_62 : decode cX11_kindsThatFit 62 = .ok (.getfield 325, 3) := by decide +kernel
theorem dX11_kindsThatFit_65 : decode cX11_kindsThatFit 65 = .ok (.iload_n 3, 1) := by decide +kernel
theorem dX11_kindsThatFit_66 : decode cX11_kindsThatFit 66 = .ok (.iaload, 1) := by decide +kernel
theorem dX11_kindsThatFit_67 : decode cX11_kindsThatFit 67 = .ok (.iconst (-1), 1) := by decide +kernel
theorem dX11_kindsThatFit_68 : decode cX11_kindsThatFit 68 = .ok (.iconst 0, 1) := by decide +kernel
theorem dX11_kindsThatFit_69 : decode cX11_kindsThatFit 69 = .ok (.invokevirtual 217, 3) := by decide +kernel
theorem dX11_kindsThatFit_72 : decode cX11_kindsThatFit 72 = .ok (.aload_n 0, 1) := by decide +kernel
theorem dX11_kindsThatFit_73 : decode cX11_kindsThatFit 73 = .ok (.getfield 39, 3) := by decide +kernel
theorem dX11_kindsThatFit_76 : decode cX11_kindsThatFit 76 = .ok (.aload_n 0, 1) := by decide +kernel
theorem dX11_kindsThatFit_77 : decode cX11_kindsThatFit 77 = .ok (.getfield 18, 3) := by decide +kernel
theorem dX11_kindsThatFit_80 : decode cX11_kindsThatFit 80 = .ok (.getfield 106, 3) := by decide +kernel
theorem dX11_kindsThatFit_83 : decode cX11_kindsThatFit 83 = .ok (.invokevirtual 263, 3) := by decide +kernel
theorem dX11_kindsThatFit_86 : decode cX11_kindsThatFit 86 = .ok (.aload_n 0, 1) := by decide +kernel
theorem dX11_kindsThatFit_87 : decode cX11_kindsThatFit 87 = .ok (.getfield 18, 3) := by decide +kernel
theorem dX11_kindsThatFit_90 : decode cX11_kindsThatFit 90 = .ok (.getfield 328, 3) := by decide +kernel
theorem dX11_kindsThatFit_93 : decode cX11_kindsThatFit 93 = .ok (.iload_n 3, 1) := by decide +kernel
theorem dX11_kindsThatFit_94 : decode cX11_kindsThatFit 94 = .ok (.iaload, 1) := by decide +kernel
theorem dX11_kindsThatFit_95 : decode cX11_kindsThatFit 95 = .ok (.if_icmp .eq 12, 3) := by decide +kernel
theorem dX11_kindsThatFit_98 : decode cX11_kindsThatFit 98 = .ok (.iload_n 2, 1) := by decide +kernel
theorem dX11_kindsThatFit_99 : decode cX11_kindsThatFit 99 = .ok (.iconst 1, 1) := by decide +kernel
theorem dX11_kindsThatFit_100 : decode cX11_kindsThatFit 100 = .ok (.iload 4, 2) := by decide +kernel
theorem dX11_kindsThatFit_102 : decode cX11_kindsThatFit 102 = .ok (.ishl, 1) := by decide +kernel
theorem dX11_kindsThatFit_103 : decode cX11_kindsThatFit 103 = .ok (.iconst (-1), 1) := by decide +kernel
theorem dX11_kindsThatFit_104 : decode cX11_kindsThatFit 104 = .ok (.ixor, 1) := by decide +kernel
theorem dX11_kindsThatFit_105 : decode cX11_kindsThatFit 105 = .ok (.iand, 1) := by decide +kernel
theorem dX11_kindsThatFit_106 : decode cX11_kindsThatFit 106 = .ok (.istore_n 2, 1) := by decide +kernel
theorem dX11_kindsThatFit_107 : decode cX11_kindsThatFit 107 = .ok (.iinc 4 1, 3) := by decide +kernel
theorem dX11_kindsThatFit_110 : decode cX11_kindsThatFit 110 = .ok (.goto (-85), 3) := by decide +kernel
theorem dX11_kindsThatFit_113 : decode cX11_kindsThatFit 113 = .ok (.iinc 3 1, 3) := by decide +kernel
theorem dX11_kindsThatFit_116 : decode cX11_kindsThatFit 116 = .ok (.goto (-111), 3) := by decide +kernel
theorem dX11_kindsThatFit_119 : decode cX11_kindsThatFit 119 = .ok (.iload_n 2, 1) := by decide +kernel
theorem dX11_kindsThatFit_120 : decode cX11_kindsThatFit 120 = .ok (.ireturn, 1) := by decide +kernel
theorem dX11_mostThatEndAlike_0 : decode cX11_mostThatEndAlike 0 = .ok (.iconst 0, 1) := by decide +kernel
theorem dX11_mostThatEndAlike_1 : decode cX11_mostThatEndAlike 1 = .ok (.istore 4, 2) := by decide +kernel
theorem dX11_mostThatEndAlike_3 : decode cX11_mostThatEndAlike 3 = .ok (.iload 4, 2) := by decide +kernel
theorem dX11_mostThatEndAlike_5 : decode cX11_mostThatEndAlike 5 = .ok (.aload_n 0, 1) := by decide +kernel
theorem dX11_mostThatEndAlike_6 : decode cX11_mostThatEndAlike 6 = .ok (.getfield 50, 3) := by decide +kernel
theorem dX11_mostThatEndAlike_9 : decode cX11_mostThatEndAlike 9 = .ok (.arraylength, 1) := by decide +kernel
theorem dX11_mostThatEndAlike_10 : decode cX11_mostThatEndAlike 10 = .ok (.if_icmp .ge 17, 3) := by decide +kernel
theorem dX11_mostThatEndAlike_13 : decode cX11_mostThatEndAlike 13 = .ok (.aload_n 0, 1) := by decide +kernel
theorem dX11_mostThatEndAlike_14 : decode cX11_mostThatEndAlike 14 = .ok (.getfield 50, 3) := by decide +kernel
theorem dX11_mostThatEndAlike_17 : decode cX11_mostThatEndAlike 17 = .ok (.iload 4, 2) := by decide +kernel
theorem dX11_mostThatEndAlike_19 : decode cX11_mostThatEndAlike 19 = .ok (.iconst 0, 1) := by decide +kernel
theorem dX11_mostThatEndAlike_20 : decode cX11_mostThatEndAlike 20 = .ok (.iastore, 1) := by decide +kernel
theorem dX11_mostThatEndAlike_21 : decode cX11_mostThatEndAlike 21 = .ok (.iinc 4 1, 3) := by decide +kernel
theorem dX11_mostThatEndAlike_24 : decode cX11_mostThatEndAlike 24 = .ok (.goto (-21), 3) := by decide +kernel
theorem dX11_mostThatEndAlike_27 : decode cX11_mostThatEndAlike 27 = .ok (.iconst 0, 1) := by decide +kernel
theorem dX11_mostThatEndAlike_28 : decode cX11_mostThatEndAlike 28 = .ok (.istore 4, 2) := by decide +kernel
theorem dX11_mostThatEndAlike_30 : decode cX11_mostThatEndAlike 30 = .ok (.iconst 0, 1) := by decide +kernel
theorem dX11_mostThatEndAlike_31 : decode cX11_mostThatEndAlike 31 = .ok (.istore 5, 2) := by decide +kernel
theorem dX11_mostThatEndAlike_33 : decode cX11_mostThatEndAlike 33 = .ok (.iload 5, 2) := by decide +kernel
theorem dX11_mostThatEndAlike_35 : decode cX11_mostThatEndAlike 35 = .ok (.bipush 6, 2) := by decide +kernel
theorem dX11_mostThatEndAlike_37 : decode cX11_mostThatEndAlike 37 = .ok (.if_icmp .ge 69, 3) := by decide +kernel
theorem dX11_mostThatEndAlike_40 : decode cX11_mostThatEndAlike 40 = .ok (.iload_n 2, 1) := by decide +kernel
theorem dX11_mostThatEndAlike_41 : decode cX11_mostThatEndAlike 41 = .ok (.iconst 1, 1) := by decide +kernel
theorem dX11_mostThatEndAlike_42 : decode cX11_mostThatEndAlike 42 = .ok (.iload 5, 2) := by decide +kernel
theorem dX11_mostThatEndAlike_44 : decode cX11_mostThatEndAlike 44 = .ok (.ishl, 1) := by decide +kernel
theorem dX11_mostThatEndAlike_45 : decode cX11_mostThatEndAlike 45 = .ok (.iand, 1) := by decide +kernel
theorem dX11_mostThatEndAlike_46 : decode cX11_mostThatEndAlike 46 = .ok (.ifCond .eq 54, 3) := by decide +kernel
theorem dX11_mostThatEndAlike_49 : decode cX11_mostThatEndAlike 49 = .ok (.aload_n 0, 1) := by decide +kernel
theorem dX11_mostThatEndAlike_50 : decode cX11_mostThatEndAlike 50 = .ok (.iload 5, 2) := by decide +kernel
theorem dX11_mostThatEndAlike_52 : decode cX11_mostThatEndAlike 52 = .ok (.iload_n 1, 1) := by decide +kernel
theorem dX11_mostThatEndAlike_53 : decode cX11_mostThatEndAlike 53 = .ok (.iload_n 3, 1) := by decide +kernel
theorem dX11_mostThatEndAlike_54 : decode cX11_mostThatEndAlike 54 = .ok (.invokevirtual 331, 3) := by decide +kernel
theorem dX11_mostThatEndAlike_57 : decode cX11_mostThatEndAlike 57 = .ok (.istore 6, 2) := by decide +kernel
theorem dX11_mostThatEndAlike_59 : decode cX11_mostThatEndAlike 59 = .ok (.iload 6, 2) := by decide +kernel
theorem dX11_mostThatEndAlike_61 : decode cX11_mostThatEndAlike 61 = .ok (.iconst 0, 1) := by decide +kernel
theorem dX11_mostThatEndAlike_62 : decode cX11_mostThatEndAlike 62 = .ok (.aload_n 0, 1) := by decide +kernel
theorem dX11_mostThatEndAlike_63 : decode cX11_mostThatEndAlike 63 = .ok (.getfield 50, 3) := by decide +kernel
theorem dX11_mostThatEndAlike_66 : decode cX11_mostThatEndAlike 66 = .ok (.arraylength, 1) := by decide +kernel
theorem dX11_mostThatEndAlike_67 : decode cX11_mostThatEndAlike 67 = .ok (.iconst 1, 1) := by decide +kernel
theorem dX11_mostThatEndAlike_68 : decode cX11_mostThatEndAlike 68 = .ok (.isub, 1) := by decide +kernel
theorem dX11_mostThatEndAlike_69 : decode cX11_mostThatEndAlike 69 = .ok (.invokestatic 87, 3) := by decide +kernel
theorem dX11_mostThatEndAlike_72 : decode cX11_mostThatEndAlike 72 = .ok (.ifCond .eq 28, 3) := by decide +kernel
theorem dX11_mostThatEndAlike_75 : decode cX11_mostThatEndAlike 75 = .ok (.aload_n 0, 1) := by decide +kernel
theorem dX11_mostThatEndAlike_76 : decode cX11_mostThatEndAlike 76 = .ok (.getfield 50, 3) := by decide +kernel
theorem dX11_mostThatEndAlike_79 : decode cX11_mostThatEndAlike 79 = .ok (.iload 6, 2) := by decide +kernel
theorem dX11_mostThatEndAlike_81 : decode cX11_mostThatEndAlike 81 = .ok (.dup2, 1) := by decide +kernel
theorem dX11_mostThatEndAlike_82 : decode cX11_mostThatEndAlike 82 = .ok (.iaload, 1) := by decide +kernel
theorem dX11_mostThatEndAlike_83 : decode cX11_mostThatEndAlike 83 = .ok (.iconst 1, 1) := by decide +kernel
theorem dX11_mostThatEndAlike_84 : decode cX11_mostThatEndAlike 84 = .ok (.iadd, 1) := by decide +kernel
theorem dX11_mostThatEndAlike_85 : decode cX11_mostThatEndAlike 85 = .ok (.iastore, 1) := by decide +kernel
theorem dX11_mostThatEndAlike_86 : decode cX11_mostThatEndAlike 86 = .ok (.iload 4, 2) := by decide +kernel
theorem dX11_mostThatEndAlike_88 : decode cX11_mostThatEndAlike 88 = .ok (.aload_n 0, 1) := by decide +kernel
theorem dX11_mostThatEndAlike_89 : decode cX11_mostThatEndAlike 89 = .ok (.getfield 50, 3) := by decide +kernel
theorem dX11_mostThatEndAlike_92 : decode cX11_mostThatEndAlike 92 = .ok (.iload 6, 2) := by decide +kernel
theorem dX11_mostThatEndAlike_94 : decode cX11_mostThatEndAlike 94 = .ok (.iaload, 1) := by decide +kernel
theorem dX11_mostThatEndAlike_95 : decode cX11_mostThatEndAlike 95 = .ok (.invokestatic 334, 3) := by decide +kernel
theorem dX11_mostThatEndAlike_98 : decode cX11_mostThatEndAlike 98 = .ok (.istore 4, 2) := by decide +kernel
theorem dX11_mostThatEndAlike_100 : decode cX11_mostThatEndAlike 100 = .ok (.iinc 5 1, 3) := by decide +kernel
theorem dX11_mostThatEndAlike_103 : decode cX11_mostThatEndAlike 103 = .ok (.goto (-70), 3) := by decide +kernel
theorem dX11_mostThatEndAlike_106 : decode cX11_mostThatEndAlike 106 = .ok (.iload 4, 2) := by decide +kernel
theorem dX11_mostThatEndAlike_108 : decode cX11_mostThatEndAlike 108 = .ok (.ireturn, 1) := by decide +kernel
theorem dX11_endOfPace_0 : decode cX11_endOfPace 0 = .ok (.aload_n 0, 1) := by decide +kernel
theorem dX11_endOfPace_1 : decode cX11_endOfPace 1 = .ok (.getfield 39, 3) := by decide +kernel
theorem dX11_endOfPace_4 : decode cX11_endOfPace 4 = .ok (.iload_n 2, 1) := by decide +kernel
theorem dX11_endOfPace_5 : decode cX11_endOfPace 5 = .ok (.iconst 0, 1) := by decide +kernel
theorem dX11_endOfPace_6 : decode cX11_endOfPace 6 = .ok (.aload_n 0, 1) := by decide +kernel
theorem dX11_endOfPace_7 : decode cX11_endOfPace 7 = .ok (.getfield 18, 3) := by decide +kernel
theorem dX11_endOfPace_10 : decode cX11_endOfPace 10 = .ok (.iload_n 2, 1) := by decide +kernel
theorem dX11_endOfPace_11 : decode cX11_endOfPace 11 = .ok (.invokevirtual 155, 3) := by decide +kernel
theorem dX11_endOfPace_14 : decode cX11_endOfPace 14 = .ok (.invokevirtual 158, 3) := by decide +kernel
theorem dX11_endOfPace_17 : decode cX11_endOfPace 17 = .ok (.iconst 0, 1) := by decide +kernel
theorem dX11_endOfPace_18 : decode cX11_endOfPace 18 = .ok (.istore 4, 2) := by decide +kernel
theorem dX11_endOfPace_20 : decode cX11_endOfPace 20 = .ok (.iload 4, 2) := by decide +kernel
theorem dX11_endOfPace_22 : decode cX11_endOfPace 22 = .ok (.bipush 15, 2) := by decide +kernel
theorem dX11_endOfPace_24 : decode cX11_endOfPace 24 = .ok (.if_icmp .ge 47, 3) := by decide +kernel
theorem dX11_endOfPace_27 : decode cX11_endOfPace 27 = .ok (.aload_n 0, 1) := by decide +kernel
theorem dX11_endOfPace_28 : decode cX11_endOfPace 28 = .ok (.getfield 39, 3) := by decide +kernel
theorem dX11_endOfPace_31 : decode cX11_endOfPace 31 = .ok (.aload_n 0, 1) := by decide +kernel
theorem dX11_endOfPace_32 : decode cX11_endOfPace 32 = .ok (.getfield 18, 3) := by decide +kernel
theorem dX11_endOfPace_35 : decode cX11_endOfPace 35 = .ok (.getfield 106, 3) := by decide +kernel
theorem dX11_endOfPace_38 : decode cX11_endOfPace 38 = .ok (.invokevirtual 173, 3) := by decide +kernel
theorem dX11_endOfPace_41 : decode cX11_endOfPace 41 = .ok (.ifCond .ne 30, 3) := by decide +kernel
theorem dX11_endOfPace_44 : decode cX11_endOfPace 44 = .ok (.aload_n 0, 1) := by decide +kernel
theorem dX11_endOfPace_45 : decode cX11_endOfPace 45 = .ok (.getfield 39, 3) := by decide +kernel
theorem dX11_endOfPace_48 : decode cX11_endOfPace 48 = .ok (.aload_n 0, 1) := by decide +kernel
theorem dX11_endOfPace_49 : decode cX11_endOfPace 49 = .ok (.getfield 18, 3) := by decide +kernel
theorem dX11_endOfPace_52 : decode cX11_endOfPace 52 = .ok (.getfield 106, 3) := by decide +kernel
theorem dX11_endOfPace_55 : decode cX11_endOfPace 55 = .ok (.aload_n 0, 1) := by decide +kernel
theorem dX11_endOfPace_56 : decode cX11_endOfPace 56 = .ok (.iload_n 1, 1) := by decide +kernel
theorem dX11_endOfPace_57 : decode cX11_endOfPace 57 = .ok (.invokevirtual 185, 3) := by decide +kernel
theorem dX11_endOfPace_60 : decode cX11_endOfPace 60 = .ok (.iload_n 3, 1) := by decide +kernel
theorem dX11_endOfPace_61 : decode cX11_endOfPace 61 = .ok (.iconst 0, 1) := by decide +kernel
theorem dX11_endOfPace_62 : decode cX11_endOfPace 62 = .ok (.invokevirtual 189, 3) := by decide +kernel
theorem dX11_endOfPace_65 : decode cX11_endOfPace 65 = .ok (.iinc 4 1, 3) := by decide +kernel
theorem dX11_endOfPace_68 : decode cX11_endOfPace 68 = .ok (.goto (-48), 3) := by decide +kernel
theorem dX11_endOfPace_71 : decode cX11_endOfPace 71 = .ok (.aload_n 0, 1) := by decide +kernel
theorem dX11_endOfPace_72 : decode cX11_endOfPace 72 = .ok (.getfield 39, 3) := by decide +kernel
theorem dX11_endOfPace_75 : decode cX11_endOfPace 75 = .ok (.getfield 193, 3) := by decide +kernel
theorem dX11_endOfPace_78 : decode cX11_endOfPace 78 = .ok (.ireturn, 1) := by decide +kernel
theorem dX11_commonDivisor_0 : decode cX11_commonDivisor 0 = .ok (.lload_n 0, 1) := by decide +kernel
theorem dX11_commonDivisor_1 : decode cX11_commonDivisor 1 = .ok (.lstore 4, 2) := by decide +kernel
theorem dX11_commonDivisor_3 : decode cX11_commonDivisor 3 = .ok (.lload_n 2, 1) := by decide +kernel
theorem dX11_commonDivisor_4 : decode cX11_commonDivisor 4 = .ok (.lstore 6, 2) := by decide +kernel
theorem dX11_commonDivisor_6 : decode cX11_commonDivisor 6 = .ok (.iconst 0, 1) := by decide +kernel
theorem dX11_commonDivisor_7 : decode cX11_commonDivisor 7 = .ok (.istore 8, 2) := by decide +kernel
theorem dX11_commonDivisor_9 : decode cX11_commonDivisor 9 = .ok (.iload 8, 2) := by decide +kernel
theorem dX11_commonDivisor_11 : decode cX11_commonDivisor 11 = .ok (.bipush 100, 2) := by decide +kernel
theorem dX11_commonDivisor_13 : decode cX11_commonDivisor 13 = .ok (.if_icmp .ge 31, 3) := by decide +kernel
theorem dX11_commonDivisor_16 : decode cX11_commonDivisor 16 = .ok (.lload 6, 2) := by decide +kernel
theorem dX11_commonDivisor_18 : decode cX11_commonDivisor 18 = .ok (.lconst 0, 1) := by decide +kernel
theorem dX11_commonDivisor_19 : decode cX11_commonDivisor 19 = .ok (.lcmp, 1) := by decide +kernel
theorem dX11_commonDivisor_20 : decode cX11_commonDivisor 20 = .ok (.ifCond .eq 24, 3) := by decide +kernel
theorem dX11_commonDivisor_23 : decode cX11_commonDivisor 23 = .ok (.lload 4, 2) := by decide +kernel
theorem dX11_commonDivisor_25 : decode cX11_commonDivisor 25 = .ok (.lload 6, 2) := by decide +kernel
theorem dX11_commonDivisor_27 : decode cX11_commonDivisor 27 = .ok (.lrem, 1) := by decide +kernel
theorem dX11_commonDivisor_28 : decode cX11_commonDivisor 28 = .ok (.lstore 9, 2) := by decide +kernel
theorem dX11_commonDivisor_30 : decode cX11_commonDivisor 30 = .ok (.lload 6, 2) := by decide +kernel
theorem dX11_commonDivisor_32 : decode cX11_commonDivisor 32 = .ok (.lstore 4, 2) := by decide +kernel
theorem dX11_commonDivisor_34 : decode cX11_commonDivisor 34 = .ok (.lload 9, 2) := by decide +kernel
theorem dX11_commonDivisor_36 : decode cX11_commonDivisor 36 = .ok (.lstore 6, 2) := by decide +kernel
theorem dX11_commonDivisor_38 : decode cX11_commonDivisor 38 = .ok (.iinc 8 1, 3) := by decide +kernel
theorem dX11_commonDivisor_41 : decode cX11_commonDivisor 41 = .ok (.goto (-32), 3) := by decide +kernel
theorem dX11_commonDivisor_44 : decode cX11_commonDivisor 44 = .ok (.lload 4, 2) := by decide +kernel
theorem dX11_commonDivisor_46 : decode cX11_commonDivisor 46 = .ok (.lreturn, 1) := by decide +kernel
theorem dX12_init_0 : decode cX12_init 0 = .ok (.aload_n 0, 1) := by decide +kernel
theorem dX12_init_1 : decode cX12_init 1 = .ok (.invokespecial 1, 3) := by decide +kernel
theorem dX12_init_4 : decode cX12_init 4 = .ok (.aload_n 0, 1) := by decide +kernel
theorem dX12_init_5 : decode cX12_init 5 = .ok (.bipush 98, 2) := by decide +kernel
theorem dX12_init_7 : decode cX12_init 7 = .ok (.newarray .int, 2) := by decide +kernel
theorem dX12_init_9 : decode cX12_init 9 = .ok (.putfield 7, 3) := by decide +kernel
theorem dX12_init_12 : decode cX12_init 12 = .ok (.aload_n 0, 1) := by decide +kernel
theorem dX12_init_13 : decode cX12_init 13 = .ok (.sipush 196, 3) := by decide +kernel
theorem dX12_init_16 : decode cX12_init 16 = .ok (.newarray .int, 2) := by decide +kernel
theorem dX12_init_18 : decode cX12_init 18 = .ok (.putfield 13, 3) := by decide +kernel
theorem dX12_init_21 : decode cX12_init 21 = .ok (.aload_n 0, 1) := by decide +kernel
theorem dX12_init_22 : decode cX12_init 22 = .ok (.iconst 2, 1) := by decide +kernel
theorem dX12_init_23 : decode cX12_init 23 = .ok (.newarray .boolean, 2) := by decide +kernel
theorem dX12_init_25 : decode cX12_init 25 = .ok (.putfield 16, 3) := by decide +kernel
theorem dX12_init_28 : decode cX12_init 28 = .ok (.aload_n 0, 1) := by decide +kernel
theorem dX12_init_29 : decode cX12_init 29 = .ok (.iconst 3, 1) := by decide +kernel
theorem dX12_init_30 : decode cX12_init 30 = .ok (.newarray .int, 2) := by decide +kernel
theorem dX12_init_32 : decode cX12_init 32 = .ok (.putfield 20, 3) := by decide +kernel
theorem dX12_init_35 : decode cX12_init 35 = .ok (.aload_n 0, 1) := by decide +kernel
theorem dX12_init_36 : decode cX12_init 36 = .ok (.lconst 1, 1) := by decide +kernel
theorem dX12_init_37 : decode cX12_init 37 = .ok (.putfield 23, 3) := by decide +kernel
theorem dX12_init_40 : decode cX12_init 40 = .ok (.aload_n 0, 1) := by decide +kernel
theorem dX12_init_41 : decode cX12_init 41 = .ok (.bipush 16, 2) := by decide +kernel
theorem dX12_init_43 : decode cX12_init 43 = .ok (.newarray .int, 2) := by decide +kernel
theorem dX12_init_45 : decode cX12_init 45 = .ok (.putfield 27, 3) := by decide +kernel
theorem dX12_init_48 : decode cX12_init 48 = .ok (.aload_n 0, 1) := by decide +kernel
theorem dX12_init_49 : decode cX12_init 49 = .ok (.sipush 2400, 3) := by decide +kernel
theorem dX12_init_52 : decode cX12_init 52 = .ok (.newarray .int, 2) := by decide +kernel
theorem dX12_init_54 : decode cX12_init 54 = .ok (.putfield 30, 3) := by decide +kernel
theorem dX12_init_57 : decode cX12_init 57 = .ok (.aload_n 0, 1) := by decide +kernel
theorem dX12_init_58 : decode cX12_init 58 = .ok (.bipush 16, 2) := by decide +kernel
theorem dX12_init_60 : decode cX12_init 60 = .ok (.newarray .int, 2) := by decide +kernel
theorem dX12_init_62 : decode cX12_init 62 = .ok (.putfield 33, 3) := by decide +kernel
theorem dX12_init_65 : decode cX12_init 65 = .ok (.aload_n 0, 1) := by decide +kernel
theorem dX12_init_66 : decode cX12_init 66 = .ok (.bipush 25, 2) := by decide +kernel
theorem dX12_init_68 : decode cX12_init 68 = .ok (.newarray .long, 2) := by decide +kernel
theorem dX12_init_70 : decode cX12_init 70 = .ok (.putfield 36, 3) := by decide +kernel
theorem dX12_init_73 : decode cX12_init 73 = .ok (.aload_n 0, 1) := by decide +kernel
theorem dX12_init_74 : decode cX12_init 74 = .ok (.bipush 25, 2) := by decide +kernel
theorem dX12_init_76 : decode cX12_init 76 = .ok (.newarray .long, 2) := by decide +kernel
theorem dX12_init_78 : decode cX12_init 78 = .ok (.putfield 40, 3) := by decide +kernel
theorem dX12_init_81 : decode cX12_init 81 = .ok (.aload_n 0, 1) := by decide +kernel
theorem dX12_init_82 : decode cX12_init 82 = .ok (.sipush 150, 3) := by decide +kernel
theorem dX12_init_85 : decode cX12_init 85 = .ok (.newarray .int, 2) := by decide +kernel
theorem dX12_init_87 : decode cX12_init 87 = .ok (.putfield 43, 3) := by decide +kernel
theorem dX12_init_90 : decode cX12_init 90 = .ok (.aload_n 0, 1) := by decide +kernel
theorem dX12_init_91 : decode cX12_init 91 = .ok (.bipush 66, 2) := by decide +kernel
theorem dX12_init_93 : decode cX12_init 93 = .ok (.newarray .int, 2) := by decide +kernel
theorem dX12_init_95 : decode cX12_init 95 = .ok (.putfield 46, 3) := by decide +kernel
theorem dX12_init_98 : decode cX12_init 98 = .ok (.aload_n 0, 1) := by decide +kernel
theorem dX12_init_99 : decode cX12_init 99 = .ok (.iconst 2, 1) := by decide +kernel
theorem dX12_init_100 : decode cX12_init 100 = .ok (.newarray .int, 2) := by decide +kernel
theorem dX12_init_102 : decode cX12_init 102 = .ok (.putfield 49, 3) := by decide +kernel
theorem dX12_init_105 : decode cX12_init 105 = .ok (.aload_n 0, 1) := by decide +kernel
theorem dX12_init_106 : decode cX12_init 106 = .ok (.getfield 7, 3) := by decide +kernel
theorem dX12_init_109 : decode cX12_init 109 = .ok (.bipush 8, 2) := by decide +kernel
theorem dX12_init_111 : decode cX12_init 111 = .ok (.iconst 5, 1) := by decide +kernel
theorem dX12_init_112 : decode cX12_init 112 = .ok (.invokestatic 52, 3) := by decide +kernel
theorem dX12_init_115 : decode cX12_init 115 = .ok (.return_, 1) := by decide +kernel
theorem dX12_in_0 : decode cX12_in 0 = .ok (.lload_n 0, 1) := by decide +kernel
theorem dX12_in_1 : decode cX12_in 1 = .ok (.lload_n 2, 1) := by decide +kernel
theorem dX12_in_2 : decode cX12_in 2 = .ok (.lcmp, 1) := by decide +kernel
theorem dX12_in_3 : decode cX12_in 3 = .ok (.ifCond .lt 14, 3) := by decide +kernel
theorem dX12_in_6 : decode cX12_in 6 = .ok (.lload_n 0, 1) := by decide +kernel
theorem dX12_in_7 : decode cX12_in 7 = .ok (.lload 4, 2) := by decide +kernel
theorem dX12_in_9 : decode cX12_in 9 = .ok (.lcmp, 1) := by decide +kernel
theorem dX12_in_10 : decode cX12_in 10 = .ok (.ifCond .gt 7, 3) := by decide +kernel
theorem dX12_in_13 : decode cX12_in 13 = .ok (.iconst 1, 1) := by decide +kernel
theorem dX12_in_14 : decode cX12_in 14 = .ok (.goto 4, 3) := by decide +kernel
theorem dX12_in_17 : decode cX12_in 17 = .ok (.iconst 0, 1) := by decide +kernel
theorem dX12_in_18 : decode cX12_in 18 = .ok (.ireturn, 1) := by decide +kernel
theorem dX12_bad_0 : decode cX12_bad 0 = .ok (.aload_n 0, 1) := by decide +kernel
theorem dX12_bad_1 : decode cX12_bad 1 = .ok (.getfield 20, 3) := by decide +kernel
theorem dX12_bad_4 : decode cX12_bad 4 = .ok (.iconst 0, 1) := by decide +kernel
theorem dX12_bad_5 : decode cX12_bad 5 = .ok (.dup2, 1) := by decide +kernel
theorem dX12_bad_6 : decode cX12_bad 6 = .ok (.iaload, 1) := by decide +kernel
theorem dX12_bad_7 : decode cX12_bad 7 = .ok (.iconst 1, 1) := by decide +kernel
theorem dX12_bad_8 : decode cX12_bad 8 = .ok (.iadd, 1) := by decide +kernel
theorem dX12_bad_9 : decode cX12_bad 9 = .ok (.iastore, 1) := by decide +kernel
theorem dX12_bad_10 : decode cX12_bad 10 = .ok (.iload_n 1, 1) := by decide +kernel
theorem dX12_bad_11 : decode cX12_bad 11 = .ok (.ireturn, 1) := by decide +kernel
theorem dX12_no_0 : decode cX12_no 0 = .ok (.aload_n 0, 1) := by decide +kernel
theorem dX12_no_1 : decode cX12_no 1 = .ok (.getfield 20, 3) := by decide +kernel
theorem dX12_no_4 : decode cX12_no 4 = .ok (.iconst 1, 1) := by decide +kernel
theorem dX12_no_5 : decode cX12_no 5 = .ok (.dup2, 1) := by decide +kernel
theorem dX12_no_6 : decode cX12_no 6 = .ok (.iaload, 1) := by decide +kernel
theorem dX12_no_7 : decode cX12_no 7 = .ok (.iconst 1, 1) := by decide +kernel
theorem dX12_no_8 : decode cX12_no 8 = .ok (.iadd, 1) := by decide +kernel
theorem dX12_no_9 : decode cX12_no 9 = .ok (.iastore, 1) := by decide +kernel
theorem dX12_no_10 : decode cX12_no 10 = .ok (.iload_n 1, 1) := by decide +kernel
theorem dX12_no_11 : decode cX12_no 11 = .ok (.ireturn, 1) := by decide +kernel
theorem dX12_full_0 : decode cX12_full 0 = .ok (.aload_n 0, 1) := by decide +kernel
theorem dX12_full_1 : decode cX12_full 1 = .ok (.getfield 20, 3) := by decide +kernel
theorem dX12_full_4 : decode cX12_full 4 = .ok (.iconst 2, 1) := by decide +kernel
theorem dX12_full_5 : decode cX12_full 5 = .ok (.dup2, 1) := by decide +kernel
theorem dX12_full_6 : decode cX12_full 6 = .ok (.iaload, 1) := by decide +kernel
theorem dX12_full_7 : decode cX12_full 7 = .ok (.iconst 1, 1) := by decide +kernel
theorem dX12_full_8 : decode cX12_full 8 = .ok (.iadd, 1) := by decide +kernel
theorem dX12_full_9 : decode cX12_full 9 = .ok (.iastore, 1) := by decide +kernel
theorem dX12_full_10 : decode cX12_full 10 = .ok (.bipush (-4), 2) := by decide +kernel
theorem dX12_full_12 : decode cX12_full 12 = .ok (.ireturn, 1) := by decide +kernel
theorem dX12_bits_0 : decode cX12_bits 0 = .ok (.iconst 0, 1) := by decide +kernel
theorem dX12_bits_1 : decode cX12_bits 1 = .ok (.istore_n 1, 1) := by decide +kernel
theorem dX12_bits_2 : decode cX12_bits 2 = .ok (.iload_n 0, 1) := by decide +kernel
theorem dX12_bits_3 : decode cX12_bits 3 = .ok (.istore_n 2, 1) := by decide +kernel
theorem dX12_bits_4 : decode cX12_bits 4 = .ok (.iload_n 2, 1) := by decide +kernel
theorem dX12_bits_5 : decode cX12_bits 5 = .ok (.ifCond .le 16, 3) := by decide +kernel
theorem dX12_bits_8 : decode cX12_bits 8 = .ok (.iload_n 1, 1) := by decide +kernel
theorem dX12_bits_9 : decode cX12_bits 9 = .ok (.iload_n 2, 1) := by decide +kernel
theorem dX12_bits_10 : decode cX12_bits 10 = .ok (.iconst 1, 1) := by decide +kernel
theorem dX12_bits_11 : decode cX12_bits 11 = .ok (.iand, 1) := by decide +kernel
theorem dX12_bits_12 : decode cX12_bits 12 = .ok (.iadd, 1) := by decide +kernel
theorem dX12_bits_13 : decode cX12_bits 13 = .ok (.istore_n 1, 1) := by decide +kernel
theorem dX12_bits_14 : decode cX12_bits 14 = .ok (.iload_n 2, 1) := by decide +kernel
theorem dX12_bits_15 : decode cX12_bits 15 = .ok (.iconst 1, 1) := by decide +kernel
theorem dX12_bits_16 : decode cX12_bits 16 = .ok (.ishr, 1) := by decide +kernel
theorem dX12_bits_17 : decode cX12_bits 17 = .ok (.istore_n 2, 1) := by decide +kernel
theorem dX12_bits_18 : decode cX12_bits 18 = .ok (.goto (-14), 3) := by decide +kernel
theorem dX12_bits_21 : decode cX12_bits 21 = .ok (.iload_n 1, 1) := by decide +kernel
theorem dX12_bits_22 : decode cX12_bits 22 = .ok (.ireturn, 1) := by decide +kernel
theorem dX12_begin_0 : decode cX12_begin 0 = .ok (.iconst 0, 1) := by decide +kernel
theorem dX12_begin_1 : decode cX12_begin 1 = .ok (.istore_n 3, 1) := by decide +kernel
theorem dX12_begin_2 : decode cX12_begin 2 = .ok (.iload_n 3, 1) := by decide +kernel
theorem dX12_begin_3 : decode cX12_begin 3 = .ok (.bipush 66, 2) := by decide +kernel
theorem dX12_begin_5 : decode cX12_begin 5 = .ok (.if_icmp .ge 13, 3) := by decide +kernel
theorem dX12_begin_8 : decode cX12_begin 8 = .ok (.aload_n 0, 1) := by decide +kernel
theorem dX12_begin_9 : decode cX12_begin 9 = .ok (.iload_n 3, 1) := by decide +kernel
theorem dX12_begin_10 : decode cX12_begin 10 = .ok (.iconst 0, 1) := by decide +kernel
theorem dX12_begin_11 : decode cX12_begin 11 = .ok (.iastore, 1) := by decide +kernel
theorem dX12_begin_12 : decode cX12_begin 12 = .ok (.iinc 3 1, 3) := by decide +kernel
theorem dX12_begin_15 : decode cX12_begin 15 = .ok (.goto (-13), 3) := by decide +kernel
theorem dX12_begin_18 : decode cX12_begin 18 = .ok (.aload_n 0, 1) := by decide +kernel
theorem dX12_begin_19 : decode cX12_begin 19 = .ok (.iconst 0, 1) := by decide +kernel
theorem dX12_begin_20 : decode cX12_begin 20 = .ok (.iload_n 1, 1) := by decide +kernel
theorem dX12_begin_21 : decode cX12_begin 21 = .ok (.iastore, 1) := by decide +kernel
theorem dX12_begin_22 : decode cX12_begin 22 = .ok (.aload_n 0, 1) := by decide +kernel
theorem dX12_begin_23 : decode cX12_begin 23 = .ok (.iconst 1, 1) := by decide +kernel
theorem dX12_begin_24 : decode cX12_begin 24 = .ok (.iload_n 2, 1) := by decide +kernel
theorem dX12_begin_25 : decode cX12_begin 25 = .ok (.iastore, 1) := by decide +kernel
theorem dX12_begin_26 : decode cX12_begin 26 = .ok (.aload_n 0, 1) := by decide +kernel
theorem dX12_begin_27 : decode cX12_begin 27 = .ok (.bipush 37, 2) := by decide +kernel
theorem dX12_begin_29 : decode cX12_begin 29 = .ok (.iconst (-1), 1) := by decide +kernel
theorem dX12_begin_30 : decode cX12_begin 30 = .ok (.iastore, 1) := by decide +kernel
theorem dX12_begin_31 : decode cX12_begin 31 = .ok (.return_, 1) := by decide +kernel
theorem dX12_fountain_0 : decode cX12_fountain 0 = .ok (.aload_n 0, 1) := by decide +kernel
theorem dX12_fountain_1 : decode cX12_fountain 1 = .ok (.getfield 7, 3) := by decide +kernel
theorem dX12_fountain_4 : decode cX12_fountain 4 = .ok (.iconst 0, 1) := by decide +kernel
theorem dX12_fountain_5 : decode cX12_fountain 5 = .ok (.iaload, 1) := by decide +kernel
theorem dX12_fountain_6 : decode cX12_fountain 6 = .ok (.ireturn, 1) := by decide +kernel
theorem dX12_isHead_0 : decode cX12_isHead 0 = .ok (.iload_n 1, 1) := by decide +kernel
theorem dX12_isHead_1 : decode cX12_isHead 1 = .ok (.i2l, 1) := by decide +kernel
theorem dX12_isHead_2 : decode cX12_isHead 2 = .ok (.lconst 0, 1) := by decide +kernel
theorem dX12_isHead_3 : decode cX12_isHead 3 = .ok (.aload_n 0, 1) := by decide +kernel
theorem dX12_isHead_4 : decode cX12_isHead 4 = .ok (.getfield 7, 3) := by decide +kernel
theorem dX12_isHead_7 : decode cX12_isHead 7 = .ok (.iconst 2, 1) := by decide +kernel
theorem dX12_isHead_8 : decode cX12_isHead 8 = .ok (.iaload, 1) := by decide +kernel
theorem dX12_isHead_9 : decode cX12_isHead 9 = .ok (.iconst 1, 1) := by decide +kernel
theorem dX12_isHead_10 : decode cX12_isHead 10 = .ok (.isub, 1) := by decide +kernel
theorem dX12_isHead_11 : decode cX12_isHead 11 = .ok (.i2l, 1) := by decide +kernel
theorem dX12_isHead_12 : decode cX12_isHead 12 = .ok (.invokestatic 56, 3) := by decide +kernel
theorem dX12_isHead_15 : decode cX12_isHead 15 = .ok (.ireturn, 1) := by decide +kernel
theorem dX12_isCell_0 : decode cX12_isCell 0 = .ok (.iload_n 1, 1) := by decide +kernel
theorem dX12_isCell_1 : decode cX12_isCell 1 = .ok (.i2l, 1) := by decide +kernel
theorem dX12_isCell_2 : decode cX12_isCell 2 = .ok (.lconst 0, 1) := by decide +kernel
theorem dX12_isCell_3 : decode cX12_isCell 3 = .ok (.aload_n 0, 1) := by decide +kernel
theorem dX12_isCell_4 : decode cX12_isCell 4 = .ok (.invokevirtual 60, 3) := by decide +kernel
theorem dX12_isCell_7 : decode cX12_isCell 7 = .ok (.i2l, 1) := by decide +kernel
theorem dX12_isCell_8 : decode cX12_isCell 8 = .ok (.invokestatic 56, 3) := by decide +kernel
theorem dX12_isCell_11 : decode cX12_isCell 11 = .ok (.ireturn, 1) := by decide +kernel
theorem dX12_isStep_0 : decode cX12_isStep 0 = .ok (.iload_n 0, 1) := by decide +kernel
theorem dX12_isStep_1 : decode cX12_isStep 1 = .ok (.i2l, 1) := by decide +kernel
theorem dX12_isStep_2 : decode cX12_isStep 2 = .ok (.lconst 0, 1) := by decide +kernel
theorem dX12_isStep_3 : decode cX12_isStep 3 = .ok (.ldc2_w 64, 3) := by decide +kernel
theorem dX12_isStep_6 : decode cX12_isStep 6 = .ok (.invokestatic 56, 3) := by decide +kernel
theorem dX12_isStep_9 : decode cX12_isStep 9 = .ok (.ireturn, 1) := by decide +kernel
theorem dX12_isPace_0 : decode cX12_isPace 0 = .ok (.iload_n 0, 1) := by decide +kernel
theorem dX12_isPace_1 : decode cX12_isPace 1 = .ok (.i2l, 1) := by decide +kernel
theorem dX12_isPace_2 : decode cX12_isPace 2 = .ok (.lconst 1, 1) := by decide +kernel
theorem dX12_isPace_3 : decode cX12_isPace 3 = .ok (.ldc2_w 66, 3) := by decide +kernel
theorem dX12_isPace_6 : decode cX12_isPace 6 = .ok (.invokestatic 56, 3) := by decide +kernel
theorem dX12_isPace_9 : decode cX12_isPace 9 = .ok (.ireturn, 1) := by decide +kernel
theorem dX12_isRoad_0 : decode cX12_isRoad 0 = .ok (.iload_n 0, 1) := by decide +kernel
theorem dX12_isRoad_1 : decode cX12_isRoad 1 = .ok (.i2l, 1) := by decide +kernel
theorem dX12_isRoad_2 : decode cX12_isRoad 2 = .ok (.lconst 1, 1) := by decide +kernel
theorem dX12_isRoad_3 : decode cX12_isRoad 3 = .ok (.ldc2_w 68, 3) := by decide +kernel
theorem dX12_isRoad_6 : decode cX12_isRoad 6 = .ok (.invokestatic 56, 3) := by decide +kernel
theorem dX12_isRoad_9 : decode cX12_isRoad 9 = .ok (.ifCond .eq 19, 3) := by decide +kernel
theorem dX12_isRoad_12 : decode cX12_isRoad 12 = .ok (.iload_n 1, 1) := by decide +kernel
theorem dX12_isRoad_13 : decode cX12_isRoad 13 = .ok (.i2l, 1) := by decide +kernel
theorem dX12_isRoad_14 : decode cX12_isRoad 14 = .ok (.lconst 1, 1) := by decide +kernel
theorem dX12_isRoad_15 : decode cX12_isRoad 15 = .ok (.ldc2_w 70, 3) := by decide +kernel
theorem dX12_isRoad_18 : decode cX12_isRoad 18 = .ok (.invokestatic 56, 3) := by decide +kernel
theorem dX12_isRoad_21 : decode cX12_isRoad 21 = .ok (.ifCond .eq 7, 3) := by decide +kernel
theorem dX12_isRoad_24 : decode cX12_isRoad 24 = .ok (.iconst 1, 1) := by decide +kernel
theorem dX12_isRoad_25 : decode cX12_isRoad 25 = .ok (.goto 4, 3) := by decide +kernel
theorem dX12_isRoad_28 : decode cX12_isRoad 28 = .ok (.iconst 0, 1) := by decide +kernel
theorem dX12_isRoad_29 : decode cX12_isRoad 29 = .ok (.ireturn, 1) := by decide +kernel
theorem dX12_road_0 : decode cX12_road 0 = .ok (.iload_n 1, 1) := by decide +kernel
theorem dX12_road_1 : decode cX12_road 1 = .ok (.iload_n 2, 1) := by decide +kernel
theorem dX12_road_2 : decode cX12_road 2 = .ok (.invokestatic 72, 3) := by decide +kernel
theorem dX12_road_5 : decode cX12_road 5 = .ok (.ifCond .ne 10, 3) := by decide +kernel
theorem dX12_road_8 : decode cX12_road 8 = .ok (.aload_n 0, 1) := by decide +kernel
theorem dX12_road_9 : decode cX12_road 9 = .ok (.bipush (-2), 2) := by decide +kernel
theorem dX12_road_11 : decode cX12_road 11 = .ok (.invokevirtual 76, 3) := by decide +kernel
theorem dX12_road_14 : decode cX12_road 14 = .ok (.ireturn, 1) := by decide +kernel
theorem dX12_road_15 : decode cX12_road 15 = .ok (.aload_n 0, 1) := by decide +kernel
theorem dX12_road_16 : decode cX12_road 16 = .ok (.getfield 7, 3) := by decide +kernel
theorem dX12_road_19 : decode cX12_road 19 = .ok (.iconst 2, 1) := by decide +kernel
theorem dX12_road_20 : decode cX12_road 20 = .ok (.iaload, 1) := by decide +kernel
theorem dX12_road_21 : decode cX12_road 21 = .ok (.istore_n 3, 1) := by decide +kernel
theorem dX12_road_22 : decode cX12_road 22 = .ok (.aload_n 0, 1) := by decide +kernel
theorem dX12_road_23 : decode cX12_road 23 = .ok (.getfield 7, 3) := by decide +kernel
theorem dX12_road_26 : decode cX12_road 26 = .ok (.iload_n 1, 1) := by decide +kernel
theorem dX12_road_27 : decode cX12_road 27 = .ok (.iload_n 2, 1) := by decide +kernel
theorem dX12_road_28 : decode cX12_road 28 = .ok (.invokestatic 52, 3) := by decide +kernel
theorem dX12_road_31 : decode cX12_road 31 = .ok (.iload_n 3, 1) := by decide +kernel
theorem dX12_road_32 : decode cX12_road 32 = .ok (.ireturn, 1) := by decide +kernel
theorem dX12_cobble_0 : decode cX12_cobble 0 = .ok (.aload_n 0, 1) := by decide +kernel
theorem dX12_cobble_1 : decode cX12_cobble 1 = .ok (.iload_n 1, 1) := by decide +kernel
theorem dX12_cobble_2 : decode cX12_cobble 2 = .ok (.invokevirtual 80, 3) := by decide +kernel
theorem dX12_cobble_5 : decode cX12_cobble 5 = .ok (.ifCond .eq 17, 3) := by decide +kernel
theorem dX12_cobble_8 : decode cX12_cobble 8 = .ok (.iload_n 2, 1) := by decide +kernel
theorem dX12_cobble_9 : decode cX12_cobble 9 = .ok (.i2l, 1) := by decide +kernel
theorem dX12_cobble_10 : decode cX12_cobble 10 = .ok (.ldc2_w 84, 3) := by decide +kernel
theorem dX12_cobble_13 : decode cX12_cobble 13 = .ok (.ldc2_w 86, 3) := by decide +kernel
theorem dX12_cobble_16 : decode cX12_cobble 16 = .ok (.invokestatic 56, 3) := by decide +kernel
theorem dX12_cobble_19 : decode cX12_cobble 19 = .ok (.ifCond .ne 10, 3) := by decide +kernel
theorem dX12_cobble_22 : decode cX12_cobble 22 = .ok (.aload_n 0, 1) := by decide +kernel
theorem dX12_cobble_23 : decode cX12_cobble 23 = .ok (.bipush (-10), 2) := by decide +kernel
theorem dX12_cobble_25 : decode cX12_cobble 25 = .ok (.invokevirtual 76, 3) := by decide +kernel
theorem dX12_cobble_28 : decode cX12_cobble 28 = .ok (.ireturn, 1) := by decide +kernel
theorem dX12_cobble_29 : decode cX12_cobble 29 = .ok (.aload_n 0, 1) := by decide +kernel
theorem dX12_cobble_30 : decode cX12_cobble 30 = .ok (.getfield 7, 3) := by decide +kernel
theorem dX12_cobble_33 : decode cX12_cobble 33 = .ok (.iconst 5, 1) := by decide +kernel
theorem dX12_cobble_34 : decode cX12_cobble 34 = .ok (.iload_n 1, 1) := by decide +kernel
theorem dX12_cobble_35 : decode cX12_cobble 35 = .ok (.iadd, 1) := by decide +kernel
theorem dX12_cobble_36 : decode cX12_cobble 36 = .ok (.iaload, 1) := by decide +kernel
theorem dX12_cobble_37 : decode cX12_cobble 37 = .ok (.istore_n 3, 1) := by decide +kernel
theorem dX12_cobble_38 : decode cX12_cobble 38 = .ok (.aload_n 0, 1) := by decide +kernel
theorem dX12_cobble_39 : decode cX12_cobble 39 = .ok (.getfield 7, 3) := by decide +kernel
theorem dX12_cobble_42 : decode cX12_cobble 42 = .ok (.iconst 5, 1) := by decide +kernel
theorem dX12_cobble_43 : decode cX12_cobble 43 = .ok (.iload_n 1, 1) := by decide +kernel
theorem dX12_cobble_44 : decode cX12_cobble 44 = .ok (.iadd, 1) := by decide +kernel
theorem dX12_cobble_45 : decode cX12_cobble 45 = .ok (.iload_n 2, 1) := by decide +kernel
theorem dX12_cobble_46 : decode cX12_cobble 46 = .ok (.iastore, 1) := by decide +kernel
theorem dX12_cobble_47 : decode cX12_cobble 47 = .ok (.iload_n 3, 1) := by decide +kernel
theorem dX12_cobble_48 : decode cX12_cobble 48 = .ok (.ireturn, 1) := by decide +kernel
theorem dX12_wind_0 : decode cX12_wind 0 = .ok (.iload_n 1, 1) := by decide +kernel
theorem dX12_wind_1 : decode cX12_wind 1 = .ok (.i2l, 1) := by decide +kernel
theorem dX12_wind_2 : decode cX12_wind 2 = .ok (.lconst 0, 1) := by decide +kernel
theorem dX12_wind_3 : decode cX12_wind 3 = .ok (.ldc2_w 64, 3) := by decide +kernel
theorem dX12_wind_6 : decode cX12_wind 6 = .ok (.invokestatic 56, 3) := by decide +kernel
theorem dX12_wind_9 : decode cX12_wind 9 = .ok (.ifCond .eq 17, 3) := by decide +kernel
theorem dX12_wind_12 : decode cX12_wind 12 = .ok (.iload_n 2, 1) := by decide +kernel
theorem dX12_wind_13 : decode cX12_wind 13 = .ok (.i2l, 1) := by decide +kernel
theorem dX12_wind_14 : decode cX12_wind 14 = .ok (.ldc2_w 88, 3) := by decide +kernel
theorem dX12_wind_17 : decode cX12_wind 17 = .ok (.ldc2_w 66, 3) := by decide +kernel
theorem dX12_wind_20 : decode cX12_wind 20 = .ok (.invokestatic 56, 3) := by decide +kernel
theorem dX12_wind_23 : decode cX12_wind 23 = .ok (.ifCond .ne 10, 3) := by decide +kernel
theorem dX12_wind_26 : decode cX12_wind 26 = .ok (.aload_n 0, 1) := by decide +kernel
theorem dX12_wind_27 : decode cX12_wind 27 = .ok (.bipush (-10), 2) := by decide +kernel
