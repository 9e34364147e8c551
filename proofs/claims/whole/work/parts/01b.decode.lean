theorem dX0_init_0 : decode cX0_init 0 = .ok (.aload_n 0, 1) := by decide +kernel
theorem dX0_init_1 : decode cX0_init 1 = .ok (.invokespecial 3, 3) := by decide +kernel
theorem dX0_init_4 : decode cX0_init 4 = .ok (.aload_n 0, 1) := by decide +kernel
theorem dX0_init_5 : decode cX0_init 5 = .ok (.bipush 8, 2) := by decide +kernel
theorem dX0_init_7 : decode cX0_init 7 = .ok (.newarray .int, 2) := by decide +kernel
theorem dX0_init_9 : decode cX0_init 9 = .ok (.putfield 9, 3) := by decide +kernel
theorem dX0_init_12 : decode cX0_init 12 = .ok (.aload_n 0, 1) := by decide +kernel
theorem dX0_init_13 : decode cX0_init 13 = .ok (.bipush 8, 2) := by decide +kernel
theorem dX0_init_15 : decode cX0_init 15 = .ok (.newarray .int, 2) := by decide +kernel
theorem dX0_init_17 : decode cX0_init 17 = .ok (.putfield 15, 3) := by decide +kernel
theorem dX0_init_20 : decode cX0_init 20 = .ok (.aload_n 0, 1) := by decide +kernel
theorem dX0_init_21 : decode cX0_init 21 = .ok (.bipush 8, 2) := by decide +kernel
theorem dX0_init_23 : decode cX0_init 23 = .ok (.newarray .int, 2) := by decide +kernel
theorem dX0_init_25 : decode cX0_init 25 = .ok (.putfield 18, 3) := by decide +kernel
theorem dX0_init_28 : decode cX0_init 28 = .ok (.return_, 1) := by decide +kernel
theorem dX0_copyFrom_0 : decode cX0_copyFrom 0 = .ok (.aload_n 0, 1) := by decide +kernel
theorem dX0_copyFrom_1 : decode cX0_copyFrom 1 = .ok (.aload_n 1, 1) := by decide +kernel
theorem dX0_copyFrom_2 : decode cX0_copyFrom 2 = .ok (.getfield 21, 3) := by decide +kernel
theorem dX0_copyFrom_5 : decode cX0_copyFrom 5 = .ok (.putfield 21, 3) := by decide +kernel
theorem dX0_copyFrom_8 : decode cX0_copyFrom 8 = .ok (.aload_n 0, 1) := by decide +kernel
theorem dX0_copyFrom_9 : decode cX0_copyFrom 9 = .ok (.aload_n 1, 1) := by decide +kernel
theorem dX0_copyFrom_10 : decode cX0_copyFrom 10 = .ok (.getfield 25, 3) := by decide +kernel
theorem dX0_copyFrom_13 : decode cX0_copyFrom 13 = .ok (.putfield 25, 3) := by decide +kernel
theorem dX0_copyFrom_16 : decode cX0_copyFrom 16 = .ok (.aload_n 1, 1) := by decide +kernel
theorem dX0_copyFrom_17 : decode cX0_copyFrom 17 = .ok (.getfield 9, 3) := by decide +kernel
theorem dX0_copyFrom_20 : decode cX0_copyFrom 20 = .ok (.iconst 0, 1) := by decide +kernel
theorem dX0_copyFrom_21 : decode cX0_copyFrom 21 = .ok (.aload_n 0, 1) := by decide +kernel
theorem dX0_copyFrom_22 : decode cX0_copyFrom 22 = .ok (.getfield 9, 3) := by decide +kernel
theorem dX0_copyFrom_25 : decode cX0_copyFrom 25 = .ok (.iconst 0, 1) := by decide +kernel
theorem dX0_copyFrom_26 : decode cX0_copyFrom 26 = .ok (.bipush 8, 2) := by decide +kernel
theorem dX0_copyFrom_28 : decode cX0_copyFrom 28 = .ok (.invokestatic 28, 3) := by decide +kernel
theorem dX0_copyFrom_31 : decode cX0_copyFrom 31 = .ok (.aload_n 1, 1) := by decide +kernel
theorem dX0_copyFrom_32 : decode cX0_copyFrom 32 = .ok (.getfield 15, 3) := by decide +kernel
theorem dX0_copyFrom_35 : decode cX0_copyFrom 35 = .ok (.iconst 0, 1) := by decide +kernel
theorem dX0_copyFrom_36 : decode cX0_copyFrom 36 = .ok (.aload_n 0, 1) := by decide +kernel
theorem dX0_copyFrom_37 : decode cX0_copyFrom 37 = .ok (.getfield 15, 3) := by decide +kernel
theorem dX0_copyFrom_40 : decode cX0_copyFrom 40 = .ok (.iconst 0, 1) := by decide +kernel
theorem dX0_copyFrom_41 : decode cX0_copyFrom 41 = .ok (.bipush 8, 2) := by decide +kernel
theorem dX0_copyFrom_43 : decode cX0_copyFrom 43 = .ok (.invokestatic 28, 3) := by decide +kernel
theorem dX0_copyFrom_46 : decode cX0_copyFrom 46 = .ok (.aload_n 1, 1) := by decide +kernel
theorem dX0_copyFrom_47 : decode cX0_copyFrom 47 = .ok (.getfield 18, 3) := by decide +kernel
theorem dX0_copyFrom_50 : decode cX0_copyFrom 50 = .ok (.iconst 0, 1) := by decide +kernel
theorem dX0_copyFrom_51 : decode cX0_copyFrom 51 = .ok (.aload_n 0, 1) := by decide +kernel
theorem dX0_copyFrom_52 : decode cX0_copyFrom 52 = .ok (.getfield 18, 3) := by decide +kernel
theorem dX0_copyFrom_55 : decode cX0_copyFrom 55 = .ok (.iconst 0, 1) := by decide +kernel
theorem dX0_copyFrom_56 : decode cX0_copyFrom 56 = .ok (.bipush 8, 2) := by decide +kernel
theorem dX0_copyFrom_58 : decode cX0_copyFrom 58 = .ok (.invokestatic 28, 3) := by decide +kernel
theorem dX0_copyFrom_61 : decode cX0_copyFrom 61 = .ok (.return_, 1) := by decide +kernel
theorem dX0_add_0 : decode cX0_add 0 = .ok (.aload_n 0, 1) := by decide +kernel
theorem dX0_add_1 : decode cX0_add 1 = .ok (.dup, 1) := by decide +kernel
theorem dX0_add_2 : decode cX0_add 2 = .ok (.getfield 21, 3) := by decide +kernel
theorem dX0_add_5 : decode cX0_add 5 = .ok (.iconst 1, 1) := by decide +kernel
theorem dX0_add_6 : decode cX0_add 6 = .ok (.iadd, 1) := by decide +kernel
theorem dX0_add_7 : decode cX0_add 7 = .ok (.putfield 21, 3) := by decide +kernel
theorem dX0_add_10 : decode cX0_add 10 = .ok (.aload_n 0, 1) := by decide +kernel
theorem dX0_add_11 : decode cX0_add 11 = .ok (.dup, 1) := by decide +kernel
theorem dX0_add_12 : decode cX0_add 12 = .ok (.getfield 25, 3) := by decide +kernel
theorem dX0_add_15 : decode cX0_add 15 = .ok (.iload_n 1, 1) := by decide +kernel
theorem dX0_add_16 : decode cX0_add 16 = .ok (.invokestatic 34, 3) := by decide +kernel
theorem dX0_add_19 : decode cX0_add 19 = .ok (.iadd, 1) := by decide +kernel
theorem dX0_add_20 : decode cX0_add 20 = .ok (.putfield 25, 3) := by decide +kernel
theorem dX0_add_23 : decode cX0_add 23 = .ok (.aload_n 0, 1) := by decide +kernel
theorem dX0_add_24 : decode cX0_add 24 = .ok (.getfield 9, 3) := by decide +kernel
theorem dX0_add_27 : decode cX0_add 27 = .ok (.iload_n 1, 1) := by decide +kernel
theorem dX0_add_28 : decode cX0_add 28 = .ok (.invokestatic 34, 3) := by decide +kernel
theorem dX0_add_31 : decode cX0_add 31 = .ok (.invokestatic 38, 3) := by decide +kernel
theorem dX0_add_34 : decode cX0_add 34 = .ok (.aload_n 0, 1) := by decide +kernel
theorem dX0_add_35 : decode cX0_add 35 = .ok (.getfield 15, 3) := by decide +kernel
theorem dX0_add_38 : decode cX0_add 38 = .ok (.iload_n 2, 1) := by decide +kernel
theorem dX0_add_39 : decode cX0_add 39 = .ok (.invokestatic 38, 3) := by decide +kernel
theorem dX0_add_42 : decode cX0_add 42 = .ok (.aload_n 0, 1) := by decide +kernel
theorem dX0_add_43 : decode cX0_add 43 = .ok (.getfield 18, 3) := by decide +kernel
theorem dX0_add_46 : decode cX0_add 46 = .ok (.iload_n 3, 1) := by decide +kernel
theorem dX0_add_47 : decode cX0_add 47 = .ok (.invokestatic 38, 3) := by decide +kernel
theorem dX0_add_50 : decode cX0_add 50 = .ok (.return_, 1) := by decide +kernel
theorem dX0_putFirst_0 : decode cX0_putFirst 0 = .ok (.aload_n 0, 1) := by decide +kernel
theorem dX0_putFirst_1 : decode cX0_putFirst 1 = .ok (.arraylength, 1) := by decide +kernel
theorem dX0_putFirst_2 : decode cX0_putFirst 2 = .ok (.iconst 1, 1) := by decide +kernel
theorem dX0_putFirst_3 : decode cX0_putFirst 3 = .ok (.isub, 1) := by decide +kernel
theorem dX0_putFirst_4 : decode cX0_putFirst 4 = .ok (.istore_n 2, 1) := by decide +kernel
theorem dX0_putFirst_5 : decode cX0_putFirst 5 = .ok (.iload_n 2, 1) := by decide +kernel
theorem dX0_putFirst_6 : decode cX0_putFirst 6 = .ok (.ifCond .le 17, 3) := by decide +kernel
theorem dX0_putFirst_9 : decode cX0_putFirst 9 = .ok (.aload_n 0, 1) := by decide +kernel
theorem dX0_putFirst_10 : decode cX0_putFirst 10 = .ok (.iload_n 2, 1) := by decide +kernel
theorem dX0_putFirst_11 : decode cX0_putFirst 11 = .ok (.aload_n 0, 1) := by decide +kernel
theorem dX0_putFirst_12 : decode cX0_putFirst 12 = .ok (.iload_n 2, 1) := by decide +kernel
theorem dX0_putFirst_13 : decode cX0_putFirst 13 = .ok (.iconst 1, 1) := by decide +kernel
theorem dX0_putFirst_14 : decode cX0_putFirst 14 = .ok (.isub, 1) := by decide +kernel
theorem dX0_putFirst_15 : decode cX0_putFirst 15 = .ok (.iaload, 1) := by decide +kernel
theorem dX0_putFirst_16 : decode cX0_putFirst 16 = .ok (.iastore, 1) := by decide +kernel
theorem dX0_putFirst_17 : decode cX0_putFirst 17 = .ok (.iinc 2 (-1), 3) := by decide +kernel
theorem dX0_putFirst_20 : decode cX0_putFirst 20 = .ok (.goto (-15), 3) := by decide +kernel
theorem dX0_putFirst_23 : decode cX0_putFirst 23 = .ok (.aload_n 0, 1) := by decide +kernel
theorem dX0_putFirst_24 : decode cX0_putFirst 24 = .ok (.arraylength, 1) := by decide +kernel
theorem dX0_putFirst_25 : decode cX0_putFirst 25 = .ok (.ifCond .le 7, 3) := by decide +kernel
theorem dX0_putFirst_28 : decode cX0_putFirst 28 = .ok (.aload_n 0, 1) := by decide +kernel
theorem dX0_putFirst_29 : decode cX0_putFirst 29 = .ok (.iconst 0, 1) := by decide +kernel
theorem dX0_putFirst_30 : decode cX0_putFirst 30 = .ok (.iload_n 1, 1) := by decide +kernel
theorem dX0_putFirst_31 : decode cX0_putFirst 31 = .ok (.iastore, 1) := by decide +kernel
theorem dX0_putFirst_32 : decode cX0_putFirst 32 = .ok (.return_, 1) := by decide +kernel
theorem dX1_init_0 : decode cX1_init 0 = .ok (.aload_n 0, 1) := by decide +kernel
theorem dX1_init_1 : decode cX1_init 1 = .ok (.invokespecial 3, 3) := by decide +kernel
theorem dX1_init_4 : decode cX1_init 4 = .ok (.aload_n 0, 1) := by decide +kernel
theorem dX1_init_5 : decode cX1_init 5 = .ok (.iconst 4, 1) := by decide +kernel
theorem dX1_init_6 : decode cX1_init 6 = .ok (.anewarray 9, 3) := by decide +kernel
theorem dX1_init_9 : decode cX1_init 9 = .ok (.putfield 11, 3) := by decide +kernel
theorem dX1_init_12 : decode cX1_init 12 = .ok (.iconst 0, 1) := by decide +kernel
theorem dX1_init_13 : decode cX1_init 13 = .ok (.istore_n 1, 1) := by decide +kernel
theorem dX1_init_14 : decode cX1_init 14 = .ok (.iload_n 1, 1) := by decide +kernel
theorem dX1_init_15 : decode cX1_init 15 = .ok (.iconst 4, 1) := by decide +kernel
theorem dX1_init_16 : decode cX1_init 16 = .ok (.if_icmp .ge 22, 3) := by decide +kernel
theorem dX1_init_19 : decode cX1_init 19 = .ok (.aload_n 0, 1) := by decide +kernel
theorem dX1_init_20 : decode cX1_init 20 = .ok (.getfield 11, 3) := by decide +kernel
theorem dX1_init_23 : decode cX1_init 23 = .ok (.iload_n 1, 1) := by decide +kernel
theorem dX1_init_24 : decode cX1_init 24 = .ok (.new 9, 3) := by decide +kernel
theorem dX1_init_27 : decode cX1_init 27 = .ok (.dup, 1) := by decide +kernel
theorem dX1_init_28 : decode cX1_init 28 = .ok (.invokespecial 17, 3) := by decide +kernel
theorem dX1_init_31 : decode cX1_init 31 = .ok (.aastore, 1) := by decide +kernel
theorem dX1_init_32 : decode cX1_init 32 = .ok (.iinc 1 1, 3) := by decide +kernel
theorem dX1_init_35 : decode cX1_init 35 = .ok (.goto (-21), 3) := by decide +kernel
theorem dX1_init_38 : decode cX1_init 38 = .ok (.return_, 1) := by decide +kernel
theorem dX1_add_0 : decode cX1_add 0 = .ok (.aload_n 0, 1) := by decide +kernel
theorem dX1_add_1 : decode cX1_add 1 = .ok (.getfield 18, 3) := by decide +kernel
theorem dX1_add_4 : decode cX1_add 4 = .ok (.iconst 4, 1) := by decide +kernel
theorem dX1_add_5 : decode cX1_add 5 = .ok (.if_icmp .ne 7, 3) := by decide +kernel
theorem dX1_add_8 : decode cX1_add 8 = .ok (.aload_n 0, 1) := by decide +kernel
theorem dX1_add_9 : decode cX1_add 9 = .ok (.invokevirtual 22, 3) := by decide +kernel
theorem dX1_add_12 : decode cX1_add 12 = .ok (.aload_n 0, 1) := by decide +kernel
theorem dX1_add_13 : decode cX1_add 13 = .ok (.getfield 11, 3) := by decide +kernel
theorem dX1_add_16 : decode cX1_add 16 = .ok (.aload_n 0, 1) := by decide +kernel
theorem dX1_add_17 : decode cX1_add 17 = .ok (.getfield 18, 3) := by decide +kernel
theorem dX1_add_20 : decode cX1_add 20 = .ok (.aaload, 1) := by decide +kernel
theorem dX1_add_21 : decode cX1_add 21 = .ok (.aload_n 1, 1) := by decide +kernel
theorem dX1_add_22 : decode cX1_add 22 = .ok (.invokevirtual 25, 3) := by decide +kernel
theorem dX1_add_25 : decode cX1_add 25 = .ok (.aload_n 0, 1) := by decide +kernel
theorem dX1_add_26 : decode cX1_add 26 = .ok (.dup, 1) := by decide +kernel
theorem dX1_add_27 : decode cX1_add 27 = .ok (.getfield 18, 3) := by decide +kernel
theorem dX1_add_30 : decode cX1_add 30 = .ok (.iconst 1, 1) := by decide +kernel
theorem dX1_add_31 : decode cX1_add 31 = .ok (.iadd, 1) := by decide +kernel
theorem dX1_add_32 : decode cX1_add 32 = .ok (.putfield 18, 3) := by decide +kernel
theorem dX1_add_35 : decode cX1_add 35 = .ok (.return_, 1) := by decide +kernel
theorem dX1_dropOldest_0 : decode cX1_dropOldest 0 = .ok (.aload_n 0, 1) := by decide +kernel
theorem dX1_dropOldest_1 : decode cX1_dropOldest 1 = .ok (.getfield 11, 3) := by decide +kernel
theorem dX1_dropOldest_4 : decode cX1_dropOldest 4 = .ok (.iconst 0, 1) := by decide +kernel
theorem dX1_dropOldest_5 : decode cX1_dropOldest 5 = .ok (.aaload, 1) := by decide +kernel
theorem dX1_dropOldest_6 : decode cX1_dropOldest 6 = .ok (.astore_n 1, 1) := by decide +kernel
theorem dX1_dropOldest_7 : decode cX1_dropOldest 7 = .ok (.iconst 1, 1) := by decide +kernel
theorem dX1_dropOldest_8 : decode cX1_dropOldest 8 = .ok (.istore_n 2, 1) := by decide +kernel
theorem dX1_dropOldest_9 : decode cX1_dropOldest 9 = .ok (.iload_n 2, 1) := by decide +kernel
theorem dX1_dropOldest_10 : decode cX1_dropOldest 10 = .ok (.iconst 4, 1) := by decide +kernel
theorem dX1_dropOldest_11 : decode cX1_dropOldest 11 = .ok (.if_icmp .ge 23, 3) := by decide +kernel
theorem dX1_dropOldest_14 : decode cX1_dropOldest 14 = .ok (.aload_n 0, 1) := by decide +kernel
theorem dX1_dropOldest_15 : decode cX1_dropOldest 15 = .ok (.getfield 11, 3) := by decide +kernel
theorem dX1_dropOldest_18 : decode cX1_dropOldest 18 = .ok (.iload_n 2, 1) := by decide +kernel
theorem dX1_dropOldest_19 : decode cX1_dropOldest 19 = .ok (.iconst 1, 1) := by decide +kernel
theorem dX1_dropOldest_20 : decode cX1_dropOldest 20 = .ok (.isub, 1) := by decide +kernel
theorem dX1_dropOldest_21 : decode cX1_dropOldest 21 = .ok (.aload_n 0, 1) := by decide +kernel
theorem dX1_dropOldest_22 : decode cX1_dropOldest 22 = .ok (.getfield 11, 3) := by decide +kernel
theorem dX1_dropOldest_25 : decode cX1_dropOldest 25 = .ok (.iload_n 2, 1) := by decide +kernel
theorem dX1_dropOldest_26 : decode cX1_dropOldest 26 = .ok (.aaload, 1) := by decide +kernel
theorem dX1_dropOldest_27 : decode cX1_dropOldest 27 = .ok (.aastore, 1) := by decide +kernel
theorem dX1_dropOldest_28 : decode cX1_dropOldest 28 = .ok (.iinc 2 1, 3) := by decide +kernel
theorem dX1_dropOldest_31 : decode cX1_dropOldest 31 = .ok (.goto (-22), 3) := by decide +kernel
theorem dX1_dropOldest_34 : decode cX1_dropOldest 34 = .ok (.aload_n 0, 1) := by decide +kernel
theorem dX1_dropOldest_35 : decode cX1_dropOldest 35 = .ok (.getfield 11, 3) := by decide +kernel
theorem dX1_dropOldest_38 : decode cX1_dropOldest 38 = .ok (.iconst 3, 1) := by decide +kernel
theorem dX1_dropOldest_39 : decode cX1_dropOldest 39 = .ok (.aload_n 1, 1) := by decide +kernel
theorem dX1_dropOldest_40 : decode cX1_dropOldest 40 = .ok (.aastore, 1) := by decide +kernel
theorem dX1_dropOldest_41 : decode cX1_dropOldest 41 = .ok (.aload_n 0, 1) := by decide +kernel
theorem dX1_dropOldest_42 : decode cX1_dropOldest 42 = .ok (.dup, 1) := by decide +kernel
theorem dX1_dropOldest_43 : decode cX1_dropOldest 43 = .ok (.getfield 18, 3) := by decide +kernel
theorem dX1_dropOldest_46 : decode cX1_dropOldest 46 = .ok (.iconst 1, 1) := by decide +kernel
theorem dX1_dropOldest_47 : decode cX1_dropOldest 47 = .ok (.isub, 1) := by decide +kernel
theorem dX1_dropOldest_48 : decode cX1_dropOldest 48 = .ok (.putfield 18, 3) := by decide +kernel
theorem dX1_dropOldest_51 : decode cX1_dropOldest 51 = .ok (.return_, 1) := by decide +kernel
theorem dX1_takeLatest_0 : decode cX1_takeLatest 0 = .ok (.aload_n 0, 1) := by decide +kernel
theorem dX1_takeLatest_1 : decode cX1_takeLatest 1 = .ok (.getfield 18, 3) := by decide +kernel
theorem dX1_takeLatest_4 : decode cX1_takeLatest 4 = .ok (.ifCond .le 26, 3) := by decide +kernel
theorem dX1_takeLatest_7 : decode cX1_takeLatest 7 = .ok (.aload_n 0, 1) := by decide +kernel
theorem dX1_takeLatest_8 : decode cX1_takeLatest 8 = .ok (.dup, 1) := by decide +kernel
theorem dX1_takeLatest_9 : decode cX1_takeLatest 9 = .ok (.getfield 18, 3) := by decide +kernel
theorem dX1_takeLatest_12 : decode cX1_takeLatest 12 = .ok (.iconst 1, 1) := by decide +kernel
theorem dX1_takeLatest_13 : decode cX1_takeLatest 13 = .ok (.isub, 1) := by decide +kernel
theorem dX1_takeLatest_14 : decode cX1_takeLatest 14 = .ok (.putfield 18, 3) := by decide +kernel
theorem dX1_takeLatest_17 : decode cX1_takeLatest 17 = .ok (.aload_n 1, 1) := by decide +kernel
theorem dX1_takeLatest_18 : decode cX1_takeLatest 18 = .ok (.aload_n 0, 1) := by decide +kernel
theorem dX1_takeLatest_19 : decode cX1_takeLatest 19 = .ok (.getfield 11, 3) := by decide +kernel
theorem dX1_takeLatest_22 : decode cX1_takeLatest 22 = .ok (.aload_n 0, 1) := by decide +kernel
theorem dX1_takeLatest_23 : decode cX1_takeLatest 23 = .ok (.getfield 18, 3) := by decide +kernel
theorem dX1_takeLatest_26 : decode cX1_takeLatest 26 = .ok (.aaload, 1) := by decide +kernel
theorem dX1_takeLatest_27 : decode cX1_takeLatest 27 = .ok (.invokevirtual 25, 3) := by decide +kernel
theorem dX1_takeLatest_30 : decode cX1_takeLatest 30 = .ok (.return_, 1) := by decide +kernel
theorem dX2_init_0 : decode cX2_init 0 = .ok (.aload_n 0, 1) := by decide +kernel
theorem dX2_init_1 : decode cX2_init 1 = .ok (.invokespecial 3, 3) := by decide +kernel
theorem dX2_init_4 : decode cX2_init 4 = .ok (.aload_n 0, 1) := by decide +kernel
theorem dX2_init_5 : decode cX2_init 5 = .ok (.bipush 10, 2) := by decide +kernel
theorem dX2_init_7 : decode cX2_init 7 = .ok (.newarray .int, 2) := by decide +kernel
theorem dX2_init_9 : decode cX2_init 9 = .ok (.putfield 9, 3) := by decide +kernel
theorem dX2_init_12 : decode cX2_init 12 = .ok (.aload_n 0, 1) := by decide +kernel
theorem dX2_init_13 : decode cX2_init 13 = .ok (.bipush 10, 2) := by decide +kernel
theorem dX2_init_15 : decode cX2_init 15 = .ok (.newarray .int, 2) := by decide +kernel
theorem dX2_init_17 : decode cX2_init 17 = .ok (.putfield 15, 3) := by decide +kernel
theorem dX2_init_20 : decode cX2_init 20 = .ok (.aload_n 0, 1) := by decide +kernel
theorem dX2_init_21 : decode cX2_init 21 = .ok (.sipush 1024, 3) := by decide +kernel
theorem dX2_init_24 : decode cX2_init 24 = .ok (.newarray .int, 2) := by decide +kernel
theorem dX2_init_26 : decode cX2_init 26 = .ok (.putfield 18, 3) := by decide +kernel
theorem dX2_init_29 : decode cX2_init 29 = .ok (.aload_n 0, 1) := by decide +kernel
theorem dX2_init_30 : decode cX2_init 30 = .ok (.sipush 1024, 3) := by decide +kernel
theorem dX2_init_33 : decode cX2_init 33 = .ok (.newarray .int, 2) := by decide +kernel
theorem dX2_init_35 : decode cX2_init 35 = .ok (.putfield 21, 3) := by decide +kernel
theorem dX2_init_38 : decode cX2_init 38 = .ok (.aload_n 0, 1) := by decide +kernel
theorem dX2_init_39 : decode cX2_init 39 = .ok (.bipush 11, 2) := by decide +kernel
theorem dX2_init_41 : decode cX2_init 41 = .ok (.sipush 501, 3) := by decide +kernel
theorem dX2_init_44 : decode cX2_init 44 = .ok (.multianewarray 24 2, 4) := by decide +kernel
theorem dX2_init_48 : decode cX2_init 48 = .ok (.putfield 26, 3) := by decide +kernel
theorem dX2_init_51 : decode cX2_init 51 = .ok (.aload_n 0, 1) := by decide +kernel
theorem dX2_init_52 : decode cX2_init 52 = .ok (.sipush 252, 3) := by decide +kernel
theorem dX2_init_55 : decode cX2_init 55 = .ok (.newarray .int, 2) := by decide +kernel
theorem dX2_init_57 : decode cX2_init 57 = .ok (.putfield 29, 3) := by decide +kernel
theorem dX2_init_60 : decode cX2_init 60 = .ok (.return_, 1) := by decide +kernel
theorem dX2_workOut_0 : decode cX2_workOut 0 = .ok (.aload_n 0, 1) := by decide +kernel
theorem dX2_workOut_1 : decode cX2_workOut 1 = .ok (.aload_n 1, 1) := by decide +kernel
theorem dX2_workOut_2 : decode cX2_workOut 2 = .ok (.getfield 32, 3) := by decide +kernel
theorem dX2_workOut_5 : decode cX2_workOut 5 = .ok (.putfield 38, 3) := by decide +kernel
theorem dX2_workOut_8 : decode cX2_workOut 8 = .ok (.aload_n 0, 1) := by decide +kernel
theorem dX2_workOut_9 : decode cX2_workOut 9 = .ok (.aload_n 1, 1) := by decide +kernel
theorem dX2_workOut_10 : decode cX2_workOut 10 = .ok (.getfield 39, 3) := by decide +kernel
theorem dX2_workOut_13 : decode cX2_workOut 13 = .ok (.putfield 42, 3) := by decide +kernel
theorem dX2_workOut_16 : decode cX2_workOut 16 = .ok (.aload_n 0, 1) := by decide +kernel
theorem dX2_workOut_17 : decode cX2_workOut 17 = .ok (.aload_n 1, 1) := by decide +kernel
theorem dX2_workOut_18 : decode cX2_workOut 18 = .ok (.getfield 43, 3) := by decide +kernel
theorem dX2_workOut_21 : decode cX2_workOut 21 = .ok (.putfield 46, 3) := by decide +kernel
theorem dX2_workOut_24 : decode cX2_workOut 24 = .ok (.aload_n 0, 1) := by decide +kernel
theorem dX2_workOut_25 : decode cX2_workOut 25 = .ok (.iconst 0, 1) := by decide +kernel
theorem dX2_workOut_26 : decode cX2_workOut 26 = .ok (.putfield 47, 3) := by decide +kernel
theorem dX2_workOut_29 : decode cX2_workOut 29 = .ok (.iconst 0, 1) := by decide +kernel
theorem dX2_workOut_30 : decode cX2_workOut 30 = .ok (.istore_n 2, 1) := by decide +kernel
theorem dX2_workOut_31 : decode cX2_workOut 31 = .ok (.iload_n 2, 1) := by decide +kernel
theorem dX2_workOut_32 : decode cX2_workOut 32 = .ok (.aload_n 0, 1) := by decide +kernel
theorem dX2_workOut_33 : decode cX2_workOut 33 = .ok (.getfield 38, 3) := by decide +kernel
theorem dX2_workOut_36 : decode cX2_workOut 36 = .ok (.if_icmp .ge 58, 3) := by decide +kernel
theorem dX2_workOut_39 : decode cX2_workOut 39 = .ok (.aload_n 0, 1) := by decide +kernel
theorem dX2_workOut_40 : decode cX2_workOut 40 = .ok (.getfield 9, 3) := by decide +kernel
theorem dX2_workOut_43 : decode cX2_workOut 43 = .ok (.iload_n 2, 1) := by decide +kernel
theorem dX2_workOut_44 : decode cX2_workOut 44 = .ok (.aload_n 1, 1) := by decide +kernel
theorem dX2_workOut_45 : decode cX2_workOut 45 = .ok (.getfield 50, 3) := by decide +kernel
theorem dX2_workOut_48 : decode cX2_workOut 48 = .ok (.iload_n 2, 1) := by decide +kernel
theorem dX2_workOut_49 : decode cX2_workOut 49 = .ok (.iaload, 1) := by decide +kernel
theorem dX2_workOut_50 : decode cX2_workOut 50 = .ok (.iastore, 1) := by decide +kernel
theorem dX2_workOut_51 : decode cX2_workOut 51 = .ok (.aload_n 0, 1) := by decide +kernel
theorem dX2_workOut_52 : decode cX2_workOut 52 = .ok (.getfield 15, 3) := by decide +kernel
theorem dX2_workOut_55 : decode cX2_workOut 55 = .ok (.iload_n 2, 1) := by decide +kernel
theorem dX2_workOut_56 : decode cX2_workOut 56 = .ok (.aload_n 1, 1) := by decide +kernel
theorem dX2_workOut_57 : decode cX2_workOut 57 = .ok (.aload_n 1, 1) := by decide +kernel
theorem dX2_workOut_58 : decode cX2_workOut 58 = .ok (.getfield 50, 3) := by decide +kernel
theorem dX2_workOut_61 : decode cX2_workOut 61 = .ok (.iload_n 2, 1) := by decide +kernel
theorem dX2_workOut_62 : decode cX2_workOut 62 = .ok (.iaload, 1) := by decide +kernel
theorem dX2_workOut_63 : decode cX2_workOut 63 = .ok (.invokevirtual 51, 3) := by decide +kernel
theorem dX2_workOut_66 : decode cX2_workOut 66 = .ok (.iastore, 1) := by decide +kernel
theorem dX2_workOut_67 : decode cX2_workOut 67 = .ok (.aload_n 1, 1) := by decide +kernel
theorem dX2_workOut_68 : decode cX2_workOut 68 = .ok (.iload_n 2, 1) := by decide +kernel
theorem dX2_workOut_69 : decode cX2_workOut 69 = .ok (.invokevirtual 55, 3) := by decide +kernel
theorem dX2_workOut_72 : decode cX2_workOut 72 = .ok (.ifCond .eq 16, 3) := by decide +kernel
theorem dX2_workOut_75 : decode cX2_workOut 75 = .ok (.aload_n 0, 1) := by decide +kernel
theorem dX2_workOut_76 : decode cX2_workOut 76 = .ok (.dup, 1) := by decide +kernel
theorem dX2_workOut_77 : decode cX2_workOut 77 = .ok (.getfield 47, 3) := by decide +kernel
theorem dX2_workOut_80 : decode cX2_workOut 80 = .ok (.iload_n 2, 1) := by decide +kernel
theorem dX2_workOut_81 : decode cX2_workOut 81 = .ok (.invokestatic 59, 3) := by decide +kernel
theorem dX2_workOut_84 : decode cX2_workOut 84 = .ok (.ior, 1) := by decide +kernel
theorem dX2_workOut_85 : decode cX2_workOut 85 = .ok (.putfield 47, 3) := by decide +kernel
theorem dX2_workOut_88 : decode cX2_workOut 88 = .ok (.iinc 2 1, 3) := by decide +kernel
theorem dX2_workOut_91 : decode cX2_workOut 91 = .ok (.goto (-60), 3) := by decide +kernel
theorem dX2_workOut_94 : decode cX2_workOut 94 = .ok (.aload_n 0, 1) := by decide +kernel
theorem dX2_workOut_95 : decode cX2_workOut 95 = .ok (.aload_n 0, 1) := by decide +kernel
theorem dX2_workOut_96 : decode cX2_workOut 96 = .ok (.getfield 47, 3) := by decide +kernel
theorem dX2_workOut_99 : decode cX2_workOut 99 = .ok (.invokestatic 62, 3) := by decide +kernel
theorem dX2_workOut_102 : decode cX2_workOut 102 = .ok (.putfield 67, 3) := by decide +kernel
theorem dX2_workOut_105 : decode cX2_workOut 105 = .ok (.aload_n 0, 1) := by decide +kernel
theorem dX2_workOut_106 : decode cX2_workOut 106 = .ok (.invokevirtual 70, 3) := by decide +kernel
theorem dX2_workOut_109 : decode cX2_workOut 109 = .ok (.aload_n 0, 1) := by decide +kernel
theorem dX2_workOut_110 : decode cX2_workOut 110 = .ok (.invokevirtual 73, 3) := by decide +kernel
theorem dX2_workOut_113 : decode cX2_workOut 113 = .ok (.aload_n 0, 1) := by decide +kernel
theorem dX2_workOut_114 : decode cX2_workOut 114 = .ok (.iconst (-1), 1) := by decide +kernel
theorem dX2_workOut_115 : decode cX2_workOut 115 = .ok (.putfield 76, 3) := by decide +kernel
theorem dX2_workOut_118 : decode cX2_workOut 118 = .ok (.return_, 1) := by decide +kernel
theorem dX2_listCoalitions_0 : decode cX2_listCoalitions 0 = .ok (.aload_n 0, 1) := by decide +kernel
theorem dX2_listCoalitions_1 : decode cX2_listCoalitions 1 = .ok (.getfield 18, 3) := by decide +kernel
theorem dX2_listCoalitions_4 : decode cX2_listCoalitions 4 = .ok (.iconst 0, 1) := by decide +kernel
theorem dX2_listCoalitions_5 : decode cX2_listCoalitions 5 = .ok (.iconst 0, 1) := by decide +kernel
theorem dX2_listCoalitions_6 : decode cX2_listCoalitions 6 = .ok (.iastore, 1) := by decide +kernel
theorem dX2_listCoalitions_7 : decode cX2_listCoalitions 7 = .ok (.aload_n 0, 1) := by decide +kernel
theorem dX2_listCoalitions_8 : decode cX2_listCoalitions 8 = .ok (.getfield 21, 3) := by decide +kernel
theorem dX2_listCoalitions_11 : decode cX2_listCoalitions 11 = .ok (.iconst 0, 1) := by decide +kernel
theorem dX2_listCoalitions_12 : decode cX2_listCoalitions 12 = .ok (.iconst 0, 1) := by decide +kernel
theorem dX2_listCoalitions_13 : decode cX2_listCoalitions 13 = .ok (.iastore, 1) := by decide +kernel
theorem dX2_listCoalitions_14 : decode cX2_listCoalitions 14 = .ok (.aload_n 0, 1) := by decide +kernel
theorem dX2_listCoalitions_15 : decode cX2_listCoalitions 15 = .ok (.iconst 1, 1) := by decide +kernel
theorem dX2_listCoalitions_16 : decode cX2_listCoalitions 16 = .ok (.putfield 79, 3) := by decide +kernel
theorem dX2_listCoalitions_19 : decode cX2_listCoalitions 19 = .ok (.iconst 0, 1) := by decide +kernel
theorem dX2_listCoalitions_20 : decode cX2_listCoalitions 20 = .ok (.istore_n 1, 1) := by decide +kernel
theorem dX2_listCoalitions_21 : decode cX2_listCoalitions 21 = .ok (.iload_n 1, 1) := by decide +kernel
theorem dX2_listCoalitions_22 : decode cX2_listCoalitions 22 = .ok (.aload_n 0, 1) := by decide +kernel
theorem dX2_listCoalitions_23 : decode cX2_listCoalitions 23 = .ok (.getfield 38, 3) := by decide +kernel
theorem dX2_listCoalitions_26 : decode cX2_listCoalitions 26 = .ok (.if_icmp .ge 25, 3) := by decide +kernel
theorem dX2_listCoalitions_29 : decode cX2_listCoalitions 29 = .ok (.aload_n 0, 1) := by decide +kernel
theorem dX2_listCoalitions_30 : decode cX2_listCoalitions 30 = .ok (.getfield 47, 3) := by decide +kernel
theorem dX2_listCoalitions_33 : decode cX2_listCoalitions 33 = .ok (.iload_n 1, 1) := by decide +kernel
theorem dX2_listCoalitions_34 : decode cX2_listCoalitions 34 = .ok (.invokestatic 82, 3) := by decide +kernel
theorem dX2_listCoalitions_37 : decode cX2_listCoalitions 37 = .ok (.ifCond .eq 8, 3) := by decide +kernel
theorem dX2_listCoalitions_40 : decode cX2_listCoalitions 40 = .ok (.aload_n 0, 1) := by decide +kernel
theorem dX2_listCoalitions_41 : decode cX2_listCoalitions 41 = .ok (.iload_n 1, 1) := by decide +kernel
theorem dX2_listCoalitions_42 : decode cX2_listCoalitions 42 = .ok (.invokevirtual 86, 3) := by decide +kernel
theorem dX2_listCoalitions_45 : decode cX2_listCoalitions 45 = .ok (.iinc 1 1, 3) := by decide +kernel
theorem dX2_listCoalitions_48 : decode cX2_listCoalitions 48 = .ok (.goto (-27), 3) := by decide +kernel
theorem dX2_listCoalitions_51 : decode cX2_listCoalitions 51 = .ok (.return_, 1) := by decide +kernel
theorem dX2_repeatCoalitionsWith_0 : decode cX2_repeatCoalitionsWith 0 = .ok (.aload_n 0, 1) := by decide +kernel
theorem dX2_repeatCoalitionsWith_1 : decode cX2_repeatCoalitionsWith 1 = .ok (.getfield 79, 3) := by decide +kernel
theorem dX2_repeatCoalitionsWith_4 : decode cX2_repeatCoalitionsWith 4 = .ok (.istore_n 2, 1) := by decide +kernel
theorem dX2_repeatCoalitionsWith_5 : decode cX2_repeatCoalitionsWith 5 = .ok (.iconst 0, 1) := by decide +kernel
theorem dX2_repeatCoalitionsWith_6 : decode cX2_repeatCoalitionsWith 6 = .ok (.istore_n 3, 1) := by decide +kernel
theorem dX2_repeatCoalitionsWith_7 : decode cX2_repeatCoalitionsWith 7 = .ok (.iload_n 3, 1) := by decide +kernel
theorem dX2_repeatCoalitionsWith_8 : decode cX2_repeatCoalitionsWith 8 = .ok (.iload_n 2, 1) := by decide +kernel
theorem dX2_repeatCoalitionsWith_9 : decode cX2_repeatCoalitionsWith 9 = .ok (.if_icmp .ge 72, 3) := by decide +kernel
theorem dX2_repeatCoalitionsWith_12 : decode cX2_repeatCoalitionsWith 12 = .ok (.iload_n 2, 1) := by decide +kernel
theorem dX2_repeatCoalitionsWith_13 : decode cX2_repeatCoalitionsWith 13 = .ok (.iload_n 3, 1) := by decide +kernel
theorem dX2_repeatCoalitionsWith_14 : decode cX2_repeatCoalitionsWith 14 = .ok (.iadd, 1) := by decide +kernel
theorem dX2_repeatCoalitionsWith_15 : decode cX2_repeatCoalitionsWith 15 = .ok (.aload_n 0, 1) := by decide +kernel
theorem dX2_repeatCoalitionsWith_16 : decode cX2_repeatCoalitionsWith 16 = .ok (.getfield 18, 3) := by decide +kernel
theorem dX2_repeatCoalitionsWith_19 : decode cX2_repeatCoalitionsWith 19 = .ok (.arraylength, 1) := by decide +kernel
theorem dX2_repeatCoalitionsWith_20 : decode cX2_repeatCoalitionsWith 20 = .ok (.if_icmp .ge 61, 3) := by decide +kernel
theorem dX2_repeatCoalitionsWith_23 : decode cX2_repeatCoalitionsWith 23 = .ok (.aload_n 0, 1) := by decide +kernel
theorem dX2_repeatCoalitionsWith_24 : decode cX2_repeatCoalitionsWith 24 = .ok (.getfield 18, 3) := by decide +kernel
theorem dX2_repeatCoalitionsWith_27 : decode cX2_repeatCoalitionsWith 27 = .ok (.iload_n 2, 1) := by decide +kernel
theorem dX2_repeatCoalitionsWith_28 : decode cX2_repeatCoalitionsWith 28 = .ok (.iload_n 3, 1) := by decide +kernel
theorem dX2_repeatCoalitionsWith_29 : decode cX2_repeatCoalitionsWith 29 = .ok (.iadd, 1) := by decide +kernel
theorem dX2_repeatCoalitionsWith_30 : decode cX2_repeatCoalitionsWith 30 = .ok (.aload_n 0, 1) := by decide +kernel
theorem dX2_repeatCoalitionsWith_31 : decode cX2_repeatCoalitionsWith 31 = .ok (.getfield 18, 3) := by decide +kernel
theorem dX2_repeatCoalitionsWith_34 : decode cX2_repeatCoalitionsWith 34 = .ok (.iload_n 3, 1) := by decide +kernel
theorem dX2_repeatCoalitionsWith_35 : decode cX2_repeatCoalitionsWith 35 = .ok (.iaload, 1) := by decide +kernel
theorem dX2_repeatCoalitionsWith_36 : decode cX2_repeatCoalitionsWith 36 = .ok (.aload_n 0, 1) := by decide +kernel
theorem dX2_repeatCoalitionsWith_37 : decode cX2_repeatCoalitionsWith 37 = .ok (.getfield 9, 3) := by decide +kernel
theorem dX2_repeatCoalitionsWith_40 : decode cX2_repeatCoalitionsWith 40 = .ok (.iload_n 1, 1) := by decide +kernel
theorem dX2_repeatCoalitionsWith_41 : decode cX2_repeatCoalitionsWith 41 = .ok (.iaload, 1) := by decide +kernel
theorem dX2_repeatCoalitionsWith_42 : decode cX2_repeatCoalitionsWith 42 = .ok (.ior, 1) := by decide +kernel
theorem dX2_repeatCoalitionsWith_43 : decode cX2_repeatCoalitionsWith 43 = .ok (.iastore, 1) := by decide +kernel
theorem dX2_repeatCoalitionsWith_44 : decode cX2_repeatCoalitionsWith 44 = .ok (.aload_n 0, 1) := by decide +kernel
theorem dX2_repeatCoalitionsWith_45 : decode cX2_repeatCoalitionsWith 45 = .ok (.getfield 21, 3) := by decide +kernel
theorem dX2_repeatCoalitionsWith_48 : decode cX2_repeatCoalitionsWith 48 = .ok (.iload_n 2, 1) := by decide +kernel
theorem dX2_repeatCoalitionsWith_49 : decode cX2_repeatCoalitionsWith 49 = .ok (.iload_n 3, 1) := by decide +kernel
theorem dX2_repeatCoalitionsWith_50 : decode cX2_repeatCoalitionsWith 50 = .ok (.iadd, 1) := by decide +kernel
theorem dX2_repeatCoalitionsWith_51 : decode cX2_repeatCoalitionsWith 51 = .ok (.aload_n 0, 1) := by decide +kernel
theorem dX2_repeatCoalitionsWith_52 : decode cX2_repeatCoalitionsWith 52 = .ok (.getfield 21, 3) := by decide +kernel
theorem dX2_repeatCoalitionsWith_55 : decode cX2_repeatCoalitionsWith 55 = .ok (.iload_n 3, 1) := by decide +kernel
theorem dX2_repeatCoalitionsWith_56 : decode cX2_repeatCoalitionsWith 56 = .ok (.iaload, 1) := by decide +kernel
theorem dX2_repeatCoalitionsWith_57 : decode cX2_repeatCoalitionsWith 57 = .ok (.aload_n 0, 1) := by decide +kernel
theorem dX2_repeatCoalitionsWith_58 : decode cX2_repeatCoalitionsWith 58 = .ok (.getfield 15, 3) := by decide +kernel
theorem dX2_repeatCoalitionsWith_61 : decode cX2_repeatCoalitionsWith 61 = .ok (.iload_n 1, 1) := by decide +kernel
theorem dX2_repeatCoalitionsWith_62 : decode cX2_repeatCoalitionsWith 62 = .ok (.iaload, 1) := by decide +kernel
theorem dX2_repeatCoalitionsWith_63 : decode cX2_repeatCoalitionsWith 63 = .ok (.iadd, 1) := by decide +kernel
theorem dX2_repeatCoalitionsWith_64 : decode cX2_repeatCoalitionsWith 64 = .ok (.iastore, 1) := by decide +kernel
theorem dX2_repeatCoalitionsWith_65 : decode cX2_repeatCoalitionsWith 65 = .ok (.aload_n 0, 1) := by decide +kernel
theorem dX2_repeatCoalitionsWith_66 : decode cX2_repeatCoalitionsWith 66 = .ok (.dup, 1) := by decide +kernel
theorem dX2_repeatCoalitionsWith_67 : decode cX2_repeatCoalitionsWith 67 = .ok (.getfield 79, 3) := by decide +kernel
theorem dX2_repeatCoalitionsWith_70 : decode cX2_repeatCoalitionsWith 70 = .ok (.iconst 1, 1) := by decide +kernel
theorem dX2_repeatCoalitionsWith_71 : decode cX2_repeatCoalitionsWith 71 = .ok (.iadd, 1) := by decide +kernel
theorem dX2_repeatCoalitionsWith_72 : decode cX2_repeatCoalitionsWith 72 = .ok (.putfield 79, 3) := by decide +kernel
theorem dX2_repeatCoalitionsWith_75 : decode cX2_repeatCoalitionsWith 75 = .ok (.iinc 3 1, 3) := by decide +kernel
theorem dX2_repeatCoalitionsWith_78 : decode cX2_repeatCoalitionsWith 78 = .ok (.goto (-71), 3) := by decide +kernel
theorem dX2_repeatCoalitionsWith_81 : decode cX2_repeatCoalitionsWith 81 = .ok (.return_, 1) := by decide +kernel
theorem dX2_countWinning_0 : decode cX2_countWinning 0 = .ok (.iconst 0, 1) := by decide +kernel
theorem dX2_countWinning_1 : decode cX2_countWinning 1 = .ok (.istore_n 1, 1) := by decide +kernel
theorem dX2_countWinning_2 : decode cX2_countWinning 2 = .ok (.iload_n 1, 1) := by decide +kernel
theorem dX2_countWinning_3 : decode cX2_countWinning 3 = .ok (.bipush 10, 2) := by decide +kernel
theorem dX2_countWinning_5 : decode cX2_countWinning 5 = .ok (.if_icmp .gt 19, 3) := by decide +kernel
theorem dX2_countWinning_8 : decode cX2_countWinning 8 = .ok (.aload_n 0, 1) := by decide +kernel
theorem dX2_countWinning_9 : decode cX2_countWinning 9 = .ok (.getfield 26, 3) := by decide +kernel
theorem dX2_countWinning_12 : decode cX2_countWinning 12 = .ok (.iload_n 1, 1) := by decide +kernel
theorem dX2_countWinning_13 : decode cX2_countWinning 13 = .ok (.aaload, 1) := by decide +kernel
theorem dX2_countWinning_14 : decode cX2_countWinning 14 = .ok (.iconst 0, 1) := by decide +kernel
theorem dX2_countWinning_15 : decode cX2_countWinning 15 = .ok (.invokestatic 90, 3) := by decide +kernel
theorem dX2_countWinning_18 : decode cX2_countWinning 18 = .ok (.iinc 1 1, 3) := by decide +kernel
theorem dX2_countWinning_21 : decode cX2_countWinning 21 = .ok (.goto (-19), 3) := by decide +kernel
theorem dX2_countWinning_24 : decode cX2_countWinning 24 = .ok (.iconst 0, 1) := by decide +kernel
theorem dX2_countWinning_25 : decode cX2_countWinning 25 = .ok (.istore_n 1, 1) := by decide +kernel
theorem dX2_countWinning_26 : decode cX2_countWinning 26 = .ok (.iload_n 1, 1) := by decide +kernel
theorem dX2_countWinning_27 : decode cX2_countWinning 27 = .ok (.aload_n 0, 1) := by decide +kernel
theorem dX2_countWinning_28 : decode cX2_countWinning 28 = .ok (.getfield 79, 3) := by decide +kernel
theorem dX2_countWinning_31 : decode cX2_countWinning 31 = .ok (.if_icmp .ge 38, 3) := by decide +kernel
theorem dX2_countWinning_34 : decode cX2_countWinning 34 = .ok (.aload_n 0, 1) := by decide +kernel
theorem dX2_countWinning_35 : decode cX2_countWinning 35 = .ok (.aload_n 0, 1) := by decide +kernel
theorem dX2_countWinning_36 : decode cX2_countWinning 36 = .ok (.getfield 18, 3) := by decide +kernel
theorem dX2_countWinning_39 : decode cX2_countWinning 39 = .ok (.iload_n 1, 1) := by decide +kernel
theorem dX2_countWinning_40 : decode cX2_countWinning 40 = .ok (.iaload, 1) := by decide +kernel
theorem dX2_countWinning_41 : decode cX2_countWinning 41 = .ok (.invokevirtual 96, 3) := by decide +kernel
theorem dX2_countWinning_44 : decode cX2_countWinning 44 = .ok (.ifCond .eq 19, 3) := by decide +kernel
theorem dX2_countWinning_47 : decode cX2_countWinning 47 = .ok (.aload_n 0, 1) := by decide +kernel
theorem dX2_countWinning_48 : decode cX2_countWinning 48 = .ok (.aload_n 0, 1) := by decide +kernel
theorem dX2_countWinning_49 : decode cX2_countWinning 49 = .ok (.getfield 18, 3) := by decide +kernel
theorem dX2_countWinning_52 : decode cX2_countWinning 52 = .ok (.iload_n 1, 1) := by decide +kernel
theorem dX2_countWinning_53 : decode cX2_countWinning 53 = .ok (.iaload, 1) := by decide +kernel
theorem dX2_countWinning_54 : decode cX2_countWinning 54 = .ok (.aload_n 0, 1) := by decide +kernel
theorem dX2_countWinning_55 : decode cX2_countWinning 55 = .ok (.getfield 21, 3) := by decide +kernel
theorem dX2_countWinning_58 : decode cX2_countWinning 58 = .ok (.iload_n 1, 1) := by decide +kernel
theorem dX2_countWinning_59 : decode cX2_countWinning 59 = .ok (.iaload, 1) := by decide +kernel
theorem dX2_countWinning_60 : decode cX2_countWinning 60 = .ok (.invokevirtual 99, 3) := by decide +kernel
theorem dX2_countWinning_63 : decode cX2_countWinning 63 = .ok (.iinc 1 1, 3) := by decide +kernel
theorem dX2_countWinning_66 : decode cX2_countWinning 66 = .ok (.goto (-40), 3) := by decide +kernel
theorem dX2_countWinning_69 : decode cX2_countWinning 69 = .ok (.iconst 0, 1) := by decide +kernel
theorem dX2_countWinning_70 : decode cX2_countWinning 70 = .ok (.istore_n 1, 1) := by decide +kernel
theorem dX2_countWinning_71 : decode cX2_countWinning 71 = .ok (.iload_n 1, 1) := by decide +kernel
theorem dX2_countWinning_72 : decode cX2_countWinning 72 = .ok (.bipush 10, 2) := by decide +kernel
theorem dX2_countWinning_74 : decode cX2_countWinning 74 = .ok (.if_icmp .gt 44, 3) := by decide +kernel
theorem dX2_countWinning_77 : decode cX2_countWinning 77 = .ok (.sipush 499, 3) := by decide +kernel
theorem dX2_countWinning_80 : decode cX2_countWinning 80 = .ok (.istore_n 2, 1) := by decide +kernel
theorem dX2_countWinning_81 : decode cX2_countWinning 81 = .ok (.iload_n 2, 1) := by decide +kernel
theorem dX2_countWinning_82 : decode cX2_countWinning 82 = .ok (.ifCond .lt 30, 3) := by decide +kernel
theorem dX2_countWinning_85 : decode cX2_countWinning 85 = .ok (.aload_n 0, 1) := by decide +kernel
theorem dX2_countWinning_86 : decode cX2_countWinning 86 = .ok (.getfield 26, 3) := by decide +kernel
theorem dX2_countWinning_89 : decode cX2_countWinning 89 = .ok (.iload_n 1, 1) := by decide +kernel
theorem dX2_countWinning_90 : decode cX2_countWinning 90 = .ok (.aaload, 1) := by decide +kernel
theorem dX2_countWinning_91 : decode cX2_countWinning 91 = .ok (.iload_n 2, 1) := by decide +kernel
theorem dX2_countWinning_92 : decode cX2_countWinning 92 = .ok (.dup2, 1) := by decide +kernel
theorem dX2_countWinning_93 : decode cX2_countWinning 93 = .ok (.iaload, 1) := by decide +kernel
theorem dX2_countWinning_94 : decode cX2_countWinning 94 = .ok (.aload_n 0, 1) := by decide +kernel
theorem dX2_countWinning_95 : decode cX2_countWinning 95 = .ok (.getfield 26, 3) := by decide +kernel
theorem dX2_countWinning_98 : decode cX2_countWinning 98 = .ok (.iload_n 1, 1) := by decide +kernel
theorem dX2_countWinning_99 : decode cX2_countWinning 99 = .ok (.aaload, 1) := by decide +kernel
theorem dX2_countWinning_100 : decode cX2_countWinning 100 = .ok (.iload_n 2, 1) := by decide +kernel
theorem dX2_countWinning_101 : decode cX2_countWinning 101 = .ok (.iconst 1, 1) := by decide +kernel
theorem dX2_countWinning_102 : decode cX2_countWinning 102 = .ok (.iadd, 1) := by decide +kernel
theorem dX2_countWinning_103 : decode cX2_countWinning 103 = .ok (.iaload, 1) := by decide +kernel
theorem dX2_countWinning_104 : decode cX2_countWinning 104 = .ok (.iadd, 1) := by decide +kernel
theorem dX2_countWinning_105 : decode cX2_countWinning 105 = .ok (.iastore, 1) := by decide +kernel
theorem dX2_countWinning_106 : decode cX2_countWinning 106 = .ok (.iinc 2 (-1), 3) := by decide +kernel
theorem dX2_countWinning_109 : decode cX2_countWinning 109 = .ok (.goto (-28), 3) := by decide +kernel
theorem dX2_countWinning_112 : decode cX2_countWinning 112 = .ok (.iinc 1 1, 3) := by decide +kernel
theorem dX2_countWinning_115 : decode cX2_countWinning 115 = .ok (.goto (-44), 3) := by decide +kernel
theorem dX2_countWinning_118 : decode cX2_countWinning 118 = .ok (.return_, 1) := by decide +kernel
theorem dX2_countAtWeight_0 : decode cX2_countAtWeight 0 = .ok (.iload_n 2, 1) := by decide +kernel
theorem dX2_countAtWeight_1 : decode cX2_countAtWeight 1 = .ok (.ifCond .lt 10, 3) := by decide +kernel
theorem dX2_countAtWeight_4 : decode cX2_countAtWeight 4 = .ok (.iload_n 2, 1) := by decide +kernel
theorem dX2_countAtWeight_5 : decode cX2_countAtWeight 5 = .ok (.sipush 500, 3) := by decide +kernel
theorem dX2_countAtWeight_8 : decode cX2_countAtWeight 8 = .ok (.if_icmp .le 4, 3) := by decide +kernel
theorem dX2_countAtWeight_11 : decode cX2_countAtWeight 11 = .ok (.return_, 1) := by decide +kernel
theorem dX2_countAtWeight_12 : decode cX2_countAtWeight 12 = .ok (.aload_n 0, 1) := by decide +kernel
theorem dX2_countAtWeight_13 : decode cX2_countAtWeight 13 = .ok (.getfield 26, 3) := by decide +kernel
theorem dX2_countAtWeight_16 : decode cX2_countAtWeight 16 = .ok (.bipush 10, 2) := by decide +kernel
theorem dX2_countAtWeight_18 : decode cX2_countAtWeight 18 = .ok (.aaload, 1) := by decide +kernel
theorem dX2_countAtWeight_19 : decode cX2_countAtWeight 19 = .ok (.iload_n 2, 1) := by decide +kernel
theorem dX2_countAtWeight_20 : decode cX2_countAtWeight 20 = .ok (.dup2, 1) := by decide +kernel
theorem dX2_countAtWeight_21 : decode cX2_countAtWeight 21 = .ok (.iaload, 1) := by decide +kernel
theorem dX2_countAtWeight_22 : decode cX2_countAtWeight 22 = .ok (.iconst 1, 1) := by decide +kernel
theorem dX2_countAtWeight_23 : decode cX2_countAtWeight 23 = .ok (.iadd, 1) := by decide +kernel
theorem dX2_countAtWeight_24 : decode cX2_countAtWeight 24 = .ok (.iastore, 1) := by decide +kernel
theorem dX2_countAtWeight_25 : decode cX2_countAtWeight 25 = .ok (.iconst 0, 1) := by decide +kernel
theorem dX2_countAtWeight_26 : decode cX2_countAtWeight 26 = .ok (.istore_n 3, 1) := by decide +kernel
theorem dX2_countAtWeight_27 : decode cX2_countAtWeight 27 = .ok (.iload_n 3, 1) := by decide +kernel
theorem dX2_countAtWeight_28 : decode cX2_countAtWeight 28 = .ok (.aload_n 0, 1) := by decide +kernel
theorem dX2_countAtWeight_29 : decode cX2_countAtWeight 29 = .ok (.getfield 38, 3) := by decide +kernel
theorem dX2_countAtWeight_32 : decode cX2_countAtWeight 32 = .ok (.if_icmp .ge 29, 3) := by decide +kernel
theorem dX2_countAtWeight_35 : decode cX2_countAtWeight 35 = .ok (.iload_n 1, 1) := by decide +kernel
theorem dX2_countAtWeight_36 : decode cX2_countAtWeight 36 = .ok (.iload_n 3, 1) := by decide +kernel
theorem dX2_countAtWeight_37 : decode cX2_countAtWeight 37 = .ok (.invokestatic 82, 3) := by decide +kernel
theorem dX2_countAtWeight_40 : decode cX2_countAtWeight 40 = .ok (.ifCond .eq 15, 3) := by decide +kernel
theorem dX2_countAtWeight_43 : decode cX2_countAtWeight 43 = .ok (.aload_n 0, 1) := by decide +kernel
theorem dX2_countAtWeight_44 : decode cX2_countAtWeight 44 = .ok (.getfield 26, 3) := by decide +kernel
theorem dX2_countAtWeight_47 : decode cX2_countAtWeight 47 = .ok (.iload_n 3, 1) := by decide +kernel
theorem dX2_countAtWeight_48 : decode cX2_countAtWeight 48 = .ok (.aaload, 1) := by decide +kernel
theorem dX2_countAtWeight_49 : decode cX2_countAtWeight 49 = .ok (.iload_n 2, 1) := by decide +kernel
theorem dX2_countAtWeight_50 : decode cX2_countAtWeight 50 = .ok (.dup2, 1) := by decide +kernel
theorem dX2_countAtWeight_51 : decode cX2_countAtWeight 51 = .ok (.iaload, 1) := by decide +kernel
theorem dX2_countAtWeight_52 : decode cX2_countAtWeight 52 = .ok (.iconst 1, 1) := by decide +kernel
theorem dX2_countAtWeight_53 : decode cX2_countAtWeight 53 = .ok (.iadd, 1) := by decide +kernel
theorem dX2_countAtWeight_54 : decode cX2_countAtWeight 54 = .ok (.iastore, 1) := by decide +kernel
theorem dX2_countAtWeight_55 : decode cX2_countAtWeight 55 = .ok (.iinc 3 1, 3) := by decide +kernel
theorem dX2_countAtWeight_58 : decode cX2_countAtWeight 58 = .ok (.goto (-31), 3) := by decide +kernel
theorem dX2_countAtWeight_61 : decode cX2_countAtWeight 61 = .ok (.return_, 1) := by decide +kernel
theorem dX2_hasAllVetoes_0 : decode cX2_hasAllVetoes 0 = .ok (.aload_n 0, 1) := by decide +kernel
theorem dX2_hasAllVetoes_1 : decode cX2_hasAllVetoes 1 = .ok (.getfield 46, 3) := by decide +kernel
theorem dX2_hasAllVetoes_4 : decode cX2_hasAllVetoes 4 = .ok (.iload_n 1, 1) := by decide +kernel
theorem dX2_hasAllVetoes_5 : decode cX2_hasAllVetoes 5 = .ok (.iconst (-1), 1) := by decide +kernel
theorem dX2_hasAllVetoes_6 : decode cX2_hasAllVetoes 6 = .ok (.ixor, 1) := by decide +kernel
theorem dX2_hasAllVetoes_7 : decode cX2_hasAllVetoes 7 = .ok (.iand, 1) := by decide +kernel
theorem dX2_hasAllVetoes_8 : decode cX2_hasAllVetoes 8 = .ok (.ifCond .ne 7, 3) := by decide +kernel
theorem dX2_hasAllVetoes_11 : decode cX2_hasAllVetoes 11 = .ok (.iconst 1, 1) := by decide +kernel
theorem dX2_hasAllVetoes_12 : decode cX2_hasAllVetoes 12 = .ok (.goto 4, 3) := by decide +kernel
theorem dX2_hasAllVetoes_15 : decode cX2_hasAllVetoes 15 = .ok (.iconst 0, 1) := by decide +kernel
theorem dX2_hasAllVetoes_16 : decode cX2_hasAllVetoes 16 = .ok (.ireturn, 1) := by decide +kernel
theorem dX2_isWinning_0 : decode cX2_isWinning 0 = .ok (.iload_n 2, 1) := by decide +kernel
theorem dX2_isWinning_1 : decode cX2_isWinning 1 = .ok (.aload_n 0, 1) := by decide +kernel
theorem dX2_isWinning_2 : decode cX2_isWinning 2 = .ok (.getfield 42, 3) := by decide +kernel
theorem dX2_isWinning_5 : decode cX2_isWinning 5 = .ok (.if_icmp .lt 15, 3) := by decide +kernel
theorem dX2_isWinning_8 : decode cX2_isWinning 8 = .ok (.aload_n 0, 1) := by decide +kernel
theorem dX2_isWinning_9 : decode cX2_isWinning 9 = .ok (.iload_n 1, 1) := by decide +kernel
theorem dX2_isWinning_10 : decode cX2_isWinning 10 = .ok (.invokevirtual 96, 3) := by decide +kernel
theorem dX2_isWinning_13 : decode cX2_isWinning 13 = .ok (.ifCond .eq 7, 3) := by decide +kernel
theorem dX2_isWinning_16 : decode cX2_isWinning 16 = .ok (.iconst 1, 1) := by decide +kernel
theorem dX2_isWinning_17 : decode cX2_isWinning 17 = .ok (.goto 4, 3) := by decide +kernel
theorem dX2_isWinning_20 : decode cX2_isWinning 20 = .ok (.iconst 0, 1) := by decide +kernel
theorem dX2_isWinning_21 : decode cX2_isWinning 21 = .ok (.ireturn, 1) := by decide +kernel
theorem dX2_winningCoalitions_0 : decode cX2_winningCoalitions 0 = .ok (.aload_n 0, 1) := by decide +kernel
theorem dX2_winningCoalitions_1 : decode cX2_winningCoalitions 1 = .ok (.getfield 26, 3) := by decide +kernel
theorem dX2_winningCoalitions_4 : decode cX2_winningCoalitions 4 = .ok (.bipush 10, 2) := by decide +kernel
theorem dX2_winningCoalitions_6 : decode cX2_winningCoalitions 6 = .ok (.aaload, 1) := by decide +kernel
theorem dX2_winningCoalitions_7 : decode cX2_winningCoalitions 7 = .ok (.iload_n 1, 1) := by decide +kernel
theorem dX2_winningCoalitions_8 : decode cX2_winningCoalitions 8 = .ok (.iaload, 1) := by decide +kernel
theorem dX2_winningCoalitions_9 : decode cX2_winningCoalitions 9 = .ok (.ireturn, 1) := by decide +kernel
theorem dX2_swings_0 : decode cX2_swings 0 = .ok (.aload_n 0, 1) := by decide +kernel
theorem dX2_swings_1 : decode cX2_swings 1 = .ok (.getfield 26, 3) := by decide +kernel
theorem dX2_swings_4 : decode cX2_swings 4 = .ok (.iload_n 1, 1) := by decide +kernel
theorem dX2_swings_5 : decode cX2_swings 5 = .ok (.aaload, 1) := by decide +kernel
theorem dX2_swings_6 : decode cX2_swings 6 = .ok (.iload_n 2, 1) := by decide +kernel
theorem dX2_swings_7 : decode cX2_swings 7 = .ok (.iaload, 1) := by decide +kernel
theorem dX2_swings_8 : decode cX2_swings 8 = .ok (.istore_n 3, 1) := by decide +kernel
theorem dX2_swings_9 : decode cX2_swings 9 = .ok (.aload_n 0, 1) := by decide +kernel
theorem dX2_swings_10 : decode cX2_swings 10 = .ok (.getfield 26, 3) := by decide +kernel
theorem dX2_swings_13 : decode cX2_swings 13 = .ok (.bipush 10, 2) := by decide +kernel
theorem dX2_swings_15 : decode cX2_swings 15 = .ok (.aaload, 1) := by decide +kernel
theorem dX2_swings_16 : decode cX2_swings 16 = .ok (.iload_n 2, 1) := by decide +kernel
theorem dX2_swings_17 : decode cX2_swings 17 = .ok (.iaload, 1) := by decide +kernel
theorem dX2_swings_18 : decode cX2_swings 18 = .ok (.iload_n 3, 1) := by decide +kernel
theorem dX2_swings_19 : decode cX2_swings 19 = .ok (.isub, 1) := by decide +kernel
theorem dX2_swings_20 : decode cX2_swings 20 = .ok (.istore 4, 2) := by decide +kernel
theorem dX2_swings_22 : decode cX2_swings 22 = .ok (.iload_n 3, 1) := by decide +kernel
theorem dX2_swings_23 : decode cX2_swings 23 = .ok (.iload 4, 2) := by decide +kernel
theorem dX2_swings_25 : decode cX2_swings 25 = .ok (.isub, 1) := by decide +kernel
theorem dX2_swings_26 : decode cX2_swings 26 = .ok (.ireturn, 1) := by decide +kernel
theorem dX2_swingsOfAll_0 : decode cX2_swingsOfAll 0 = .ok (.iconst 0, 1) := by decide +kernel
theorem dX2_swingsOfAll_1 : decode cX2_swingsOfAll 1 = .ok (.istore_n 2, 1) := by decide +kernel
theorem dX2_swingsOfAll_2 : decode cX2_swingsOfAll 2 = .ok (.iconst 0, 1) := by decide +kernel
theorem dX2_swingsOfAll_3 : decode cX2_swingsOfAll 3 = .ok (.istore_n 3, 1) := by decide +kernel
theorem dX2_swingsOfAll_4 : decode cX2_swingsOfAll 4 = .ok (.iload_n 3, 1) := by decide +kernel
theorem dX2_swingsOfAll_5 : decode cX2_swingsOfAll 5 = .ok (.aload_n 0, 1) := by decide +kernel
theorem dX2_swingsOfAll_6 : decode cX2_swingsOfAll 6 = .ok (.getfield 38, 3) := by decide +kernel
theorem dX2_swingsOfAll_9 : decode cX2_swingsOfAll 9 = .ok (.if_icmp .ge 29, 3) := by decide +kernel
theorem dX2_swingsOfAll_12 : decode cX2_swingsOfAll 12 = .ok (.aload_n 0, 1) := by decide +kernel
theorem dX2_swingsOfAll_13 : decode cX2_swingsOfAll 13 = .ok (.getfield 47, 3) := by decide +kernel
theorem dX2_swingsOfAll_16 : decode cX2_swingsOfAll 16 = .ok (.iload_n 3, 1) := by decide +kernel
theorem dX2_swingsOfAll_17 : decode cX2_swingsOfAll 17 = .ok (.invokestatic 82, 3) := by decide +kernel
theorem dX2_swingsOfAll_20 : decode cX2_swingsOfAll 20 = .ok (.ifCond .eq 12, 3) := by decide +kernel
theorem dX2_swingsOfAll_23 : decode cX2_swingsOfAll 23 = .ok (.iload_n 2, 1) := by decide +kernel
theorem dX2_swingsOfAll_24 : decode cX2_swingsOfAll 24 = .ok (.aload_n 0, 1) := by decide +kernel
theorem dX2_swingsOfAll_25 : decode cX2_swingsOfAll 25 = .ok (.iload_n 3, 1) := by decide +kernel
theorem dX2_swingsOfAll_26 : decode cX2_swingsOfAll 26 = .ok (.iload_n 1, 1) := by decide +kernel
theorem dX2_swingsOfAll_27 : decode cX2_swingsOfAll 27 = .ok (.invokevirtual 103, 3) := by decide +kernel
theorem dX2_swingsOfAll_30 : decode cX2_swingsOfAll 30 = .ok (.iadd, 1) := by decide +kernel
theorem dX2_swingsOfAll_31 : decode cX2_swingsOfAll 31 = .ok (.istore_n 2, 1) := by decide +kernel
theorem dX2_swingsOfAll_32 : decode cX2_swingsOfAll 32 = .ok (.iinc 3 1, 3) := by decide +kernel
theorem dX2_swingsOfAll_35 : decode cX2_swingsOfAll 35 = .ok (.goto (-31), 3) := by decide +kernel
theorem dX2_swingsOfAll_38 : decode cX2_swingsOfAll 38 = .ok (.iload_n 2, 1) := by decide +kernel
theorem dX2_swingsOfAll_39 : decode cX2_swingsOfAll 39 = .ok (.ireturn, 1) := by decide +kernel
theorem dX2_isDummy_0 : decode cX2_isDummy 0 = .ok (.aload_n 0, 1) := by decide +kernel
theorem dX2_isDummy_1 : decode cX2_isDummy 1 = .ok (.iload_n 1, 1) := by decide +kernel
theorem dX2_isDummy_2 : decode cX2_isDummy 2 = .ok (.iload_n 2, 1) := by decide +kernel
theorem dX2_isDummy_3 : decode cX2_isDummy 3 = .ok (.invokevirtual 103, 3) := by decide +kernel
theorem dX2_isDummy_6 : decode cX2_isDummy 6 = .ok (.ifCond .ne 7, 3) := by decide +kernel
theorem dX2_isDummy_9 : decode cX2_isDummy 9 = .ok (.iconst 1, 1) := by decide +kernel
theorem dX2_isDummy_10 : decode cX2_isDummy 10 = .ok (.goto 4, 3) := by decide +kernel
theorem dX2_isDummy_13 : decode cX2_isDummy 13 = .ok (.iconst 0, 1) := by decide +kernel
theorem dX2_isDummy_14 : decode cX2_isDummy 14 = .ok (.ireturn, 1) := by decide +kernel
theorem dX2_isBlocker_0 : decode cX2_isBlocker 0 = .ok (.aload_n 0, 1) := by decide +kernel
theorem dX2_isBlocker_1 : decode cX2_isBlocker 1 = .ok (.getfield 26, 3) := by decide +kernel
theorem dX2_isBlocker_4 : decode cX2_isBlocker 4 = .ok (.bipush 10, 2) := by decide +kernel
theorem dX2_isBlocker_6 : decode cX2_isBlocker 6 = .ok (.aaload, 1) := by decide +kernel
theorem dX2_isBlocker_7 : decode cX2_isBlocker 7 = .ok (.iload_n 2, 1) := by decide +kernel
theorem dX2_isBlocker_8 : decode cX2_isBlocker 8 = .ok (.iaload, 1) := by decide +kernel
theorem dX2_isBlocker_9 : decode cX2_isBlocker 9 = .ok (.ifCond .le 27, 3) := by decide +kernel
theorem dX2_isBlocker_12 : decode cX2_isBlocker 12 = .ok (.aload_n 0, 1) := by decide +kernel
theorem dX2_isBlocker_13 : decode cX2_isBlocker 13 = .ok (.getfield 26, 3) := by decide +kernel
theorem dX2_isBlocker_16 : decode cX2_isBlocker 16 = .ok (.iload_n 1, 1) := by decide +kernel
theorem dX2_isBlocker_17 : decode cX2_isBlocker 17 = .ok (.aaload, 1) := by decide +kernel
theorem dX2_isBlocker_18 : decode cX2_isBlocker 18 = .ok (.iload_n 2, 1) := by decide +kernel
theorem dX2_isBlocker_19 : decode cX2_isBlocker 19 = .ok (.iaload, 1) := by decide +kernel
theorem dX2_isBlocker_20 : decode cX2_isBlocker 20 = .ok (.aload_n 0, 1) := by decide +kernel
theorem dX2_isBlocker_21 : decode cX2_isBlocker 21 = .ok (.getfield 26, 3) := by decide +kernel
theorem dX2_isBlocker_24 : decode cX2_isBlocker 24 = .ok (.bipush 10, 2) := by decide +kernel
theorem dX2_isBlocker_26 : decode cX2_isBlocker 26 = .ok (.aaload, 1) := by decide +kernel
theorem dX2_isBlocker_27 : decode cX2_isBlocker 27 = .ok (.iload_n 2, 1) := by decide +kernel
theorem dX2_isBlocker_28 : decode cX2_isBlocker 28 = .ok (.iaload, 1) := by decide +kernel
theorem dX2_isBlocker_29 : decode cX2_isBlocker 29 = .ok (.if_icmp .ne 7, 3) := by decide +kernel
theorem dX2_isBlocker_32 : decode cX2_isBlocker 32 = .ok (.iconst 1, 1) := by decide +kernel
theorem dX2_isBlocker_33 : decode cX2_isBlocker 33 = .ok (.goto 4, 3) := by decide +kernel
theorem dX2_isBlocker_36 : decode cX2_isBlocker 36 = .ok (.iconst 0, 1) := by decide +kernel
theorem dX2_isBlocker_37 : decode cX2_isBlocker 37 = .ok (.ireturn, 1) := by decide +kernel
theorem dX2_isDictator_0 : decode cX2_isDictator 0 = .ok (.aload_n 0, 1) := by decide +kernel
theorem dX2_isDictator_1 : decode cX2_isDictator 1 = .ok (.aload_n 0, 1) := by decide +kernel
theorem dX2_isDictator_2 : decode cX2_isDictator 2 = .ok (.getfield 9, 3) := by decide +kernel
theorem dX2_isDictator_5 : decode cX2_isDictator 5 = .ok (.iload_n 1, 1) := by decide +kernel
theorem dX2_isDictator_6 : decode cX2_isDictator 6 = .ok (.iaload, 1) := by decide +kernel
theorem dX2_isDictator_7 : decode cX2_isDictator 7 = .ok (.aload_n 0, 1) := by decide +kernel
theorem dX2_isDictator_8 : decode cX2_isDictator 8 = .ok (.getfield 15, 3) := by decide +kernel
theorem dX2_isDictator_11 : decode cX2_isDictator 11 = .ok (.iload_n 1, 1) := by decide +kernel
theorem dX2_isDictator_12 : decode cX2_isDictator 12 = .ok (.iaload, 1) := by decide +kernel
theorem dX2_isDictator_13 : decode cX2_isDictator 13 = .ok (.invokevirtual 107, 3) := by decide +kernel
theorem dX2_isDictator_16 : decode cX2_isDictator 16 = .ok (.ifCond .ne 5, 3) := by decide +kernel
theorem dX2_isDictator_19 : decode cX2_isDictator 19 = .ok (.iconst 0, 1) := by decide +kernel
theorem dX2_isDictator_20 : decode cX2_isDictator 20 = .ok (.ireturn, 1) := by decide +kernel
theorem dX2_isDictator_21 : decode cX2_isDictator 21 = .ok (.iconst 0, 1) := by decide +kernel
theorem dX2_isDictator_22 : decode cX2_isDictator 22 = .ok (.istore_n 2, 1) := by decide +kernel
theorem dX2_isDictator_23 : decode cX2_isDictator 23 = .ok (.iload_n 2, 1) := by decide +kernel
theorem dX2_isDictator_24 : decode cX2_isDictator 24 = .ok (.aload_n 0, 1) := by decide +kernel
theorem dX2_isDictator_25 : decode cX2_isDictator 25 = .ok (.getfield 38, 3) := by decide +kernel
theorem dX2_isDictator_28 : decode cX2_isDictator 28 = .ok (.if_icmp .ge 36, 3) := by decide +kernel
theorem dX2_isDictator_31 : decode cX2_isDictator 31 = .ok (.aload_n 0, 1) := by decide +kernel
theorem dX2_isDictator_32 : decode cX2_isDictator 32 = .ok (.getfield 9, 3) := by decide +kernel
theorem dX2_isDictator_35 : decode cX2_isDictator 35 = .ok (.iload_n 1, 1) := by decide +kernel
theorem dX2_isDictator_36 : decode cX2_isDictator 36 = .ok (.iaload, 1) := by decide +kernel
theorem dX2_isDictator_37 : decode cX2_isDictator 37 = .ok (.iload_n 2, 1) := by decide +kernel
theorem dX2_isDictator_38 : decode cX2_isDictator 38 = .ok (.invokestatic 82, 3) := by decide +kernel
theorem dX2_isDictator_41 : decode cX2_isDictator 41 = .ok (.ifCond .ne 17, 3) := by decide +kernel
theorem dX2_isDictator_44 : decode cX2_isDictator 44 = .ok (.aload_n 0, 1) := by decide +kernel
theorem dX2_isDictator_45 : decode cX2_isDictator 45 = .ok (.iload_n 2, 1) := by decide +kernel
theorem dX2_isDictator_46 : decode cX2_isDictator 46 = .ok (.aload_n 0, 1) := by decide +kernel
theorem dX2_isDictator_47 : decode cX2_isDictator 47 = .ok (.getfield 42, 3) := by decide +kernel
theorem dX2_isDictator_50 : decode cX2_isDictator 50 = .ok (.invokevirtual 110, 3) := by decide +kernel
theorem dX2_isDictator_53 : decode cX2_isDictator 53 = .ok (.ifCond .ne 5, 3) := by decide +kernel
theorem dX2_isDictator_56 : decode cX2_isDictator 56 = .ok (.iconst 0, 1) := by decide +kernel
theorem dX2_isDictator_57 : decode cX2_isDictator 57 = .ok (.ireturn, 1) := by decide +kernel
theorem dX2_isDictator_58 : decode cX2_isDictator 58 = .ok (.iinc 2 1, 3) := by decide +kernel
theorem dX2_isDictator_61 : decode cX2_isDictator 61 = .ok (.goto (-38), 3) := by decide +kernel
theorem dX2_isDictator_64 : decode cX2_isDictator 64 = .ok (.iconst 1, 1) := by decide +kernel
theorem dX2_isDictator_65 : decode cX2_isDictator 65 = .ok (.ireturn, 1) := by decide +kernel
theorem dX2_dummies_0 : decode cX2_dummies 0 = .ok (.iconst 0, 1) := by decide +kernel
theorem dX2_dummies_1 : decode cX2_dummies 1 = .ok (.istore_n 2, 1) := by decide +kernel
theorem dX2_dummies_2 : decode cX2_dummies 2 = .ok (.iconst 0, 1) := by decide +kernel
theorem dX2_dummies_3 : decode cX2_dummies 3 = .ok (.istore_n 3, 1) := by decide +kernel
theorem dX2_dummies_4 : decode cX2_dummies 4 = .ok (.iload_n 3, 1) := by decide +kernel
theorem dX2_dummies_5 : decode cX2_dummies 5 = .ok (.aload_n 0, 1) := by decide +kernel
theorem dX2_dummies_6 : decode cX2_dummies 6 = .ok (.getfield 38, 3) := by decide +kernel
theorem dX2_dummies_9 : decode cX2_dummies 9 = .ok (.if_icmp .ge 32, 3) := by decide +kernel
theorem dX2_dummies_12 : decode cX2_dummies 12 = .ok (.aload_n 0, 1) := by decide +kernel
theorem dX2_dummies_13 : decode cX2_dummies 13 = .ok (.getfield 47, 3) := by decide +kernel
theorem dX2_dummies_16 : decode cX2_dummies 16 = .ok (.iload_n 3, 1) := by decide +kernel
theorem dX2_dummies_17 : decode cX2_dummies 17 = .ok (.invokestatic 82, 3) := by decide +kernel
theorem dX2_dummies_20 : decode cX2_dummies 20 = .ok (.ifCond .eq 15, 3) := by decide +kernel
theorem dX2_dummies_23 : decode cX2_dummies 23 = .ok (.aload_n 0, 1) := by decide +kernel
theorem dX2_dummies_24 : decode cX2_dummies 24 = .ok (.iload_n 3, 1) := by decide +kernel
theorem dX2_dummies_25 : decode cX2_dummies 25 = .ok (.iload_n 1, 1) := by decide +kernel
theorem dX2_dummies_26 : decode cX2_dummies 26 = .ok (.invokevirtual 110, 3) := by decide +kernel
theorem dX2_dummies_29 : decode cX2_dummies 29 = .ok (.ifCond .eq 6, 3) := by decide +kernel
theorem dX2_dummies_32 : decode cX2_dummies 32 = .ok (.iinc 2 1, 3) := by decide +kernel
theorem dX2_dummies_35 : decode cX2_dummies 35 = .ok (.iinc 3 1, 3) := by decide +kernel
theorem dX2_dummies_38 : decode cX2_dummies 38 = .ok (.goto (-34), 3) := by decide +kernel
theorem dX2_dummies_41 : decode cX2_dummies 41 = .ok (.iload_n 2, 1) := by decide +kernel
theorem dX2_dummies_42 : decode cX2_dummies 42 = .ok (.ireturn, 1) := by decide +kernel
theorem dX2_blockers_0 : decode cX2_blockers 0 = .ok (.iconst 0, 1) := by decide +kernel
theorem dX2_blockers_1 : decode cX2_blockers 1 = .ok (.istore_n 2, 1) := by decide +kernel
theorem dX2_blockers_2 : decode cX2_blockers 2 = .ok (.iconst 0, 1) := by decide +kernel
theorem dX2_blockers_3 : decode cX2_blockers 3 = .ok (.istore_n 3, 1) := by decide +kernel
theorem dX2_blockers_4 : decode cX2_blockers 4 = .ok (.iload_n 3, 1) := by decide +kernel
theorem dX2_blockers_5 : decode cX2_blockers 5 = .ok (.aload_n 0, 1) := by decide +kernel
theorem dX2_blockers_6 : decode cX2_blockers 6 = .ok (.getfield 38, 3) := by decide +kernel
theorem dX2_blockers_9 : decode cX2_blockers 9 = .ok (.if_icmp .ge 32, 3) := by decide +kernel
theorem dX2_blockers_12 : decode cX2_blockers 12 = .ok (.aload_n 0, 1) := by decide +kernel
theorem dX2_blockers_13 : decode cX2_blockers 13 = .ok (.getfield 47, 3) := by decide +kernel
theorem dX2_blockers_16 : decode cX2_blockers 16 = .ok (.iload_n 3, 1) := by decide +kernel
theorem dX2_blockers_17 : decode cX2_blockers 17 = .ok (.invokestatic 82, 3) := by decide +kernel
theorem dX2_blockers_20 : decode cX2_blockers 20 = .ok (.ifCond .eq 15, 3) := by decide +kernel
theorem dX2_blockers_23 : decode cX2_blockers 23 = .ok (.aload_n 0, 1) := by decide +kernel
theorem dX2_blockers_24 : decode cX2_blockers 24 = .ok (.iload_n 3, 1) := by decide +kernel
theorem dX2_blockers_25 : decode cX2_blockers 25 = .ok (.iload_n 1, 1) := by decide +kernel
theorem dX2_blockers_26 : decode cX2_blockers 26 = .ok (.invokevirtual 113, 3) := by decide +kernel
theorem dX2_blockers_29 : decode cX2_blockers 29 = .ok (.ifCond .eq 6, 3) := by decide +kernel
theorem dX2_blockers_32 : decode cX2_blockers 32 = .ok (.iinc 2 1, 3) := by decide +kernel
theorem dX2_blockers_35 : decode cX2_blockers 35 = .ok (.iinc 3 1, 3) := by decide +kernel
theorem dX2_blockers_38 : decode cX2_blockers 38 = .ok (.goto (-34), 3) := by decide +kernel
theorem dX2_blockers_41 : decode cX2_blockers 41 = .ok (.iload_n 2, 1) := by decide +kernel
theorem dX2_blockers_42 : decode cX2_blockers 42 = .ok (.ireturn, 1) := by decide +kernel
theorem dX2_orders_0 : decode cX2_orders 0 = .ok (.iconst 0, 1) := by decide +kernel
theorem dX2_orders_1 : decode cX2_orders 1 = .ok (.istore_n 2, 1) := by decide +kernel
theorem dX2_orders_2 : decode cX2_orders 2 = .ok (.iconst 0, 1) := by decide +kernel
theorem dX2_orders_3 : decode cX2_orders 3 = .ok (.istore_n 3, 1) := by decide +kernel
theorem dX2_orders_4 : decode cX2_orders 4 = .ok (.iload_n 3, 1) := by decide +kernel
theorem dX2_orders_5 : decode cX2_orders 5 = .ok (.aload_n 0, 1) := by decide +kernel
theorem dX2_orders_6 : decode cX2_orders 6 = .ok (.getfield 79, 3) := by decide +kernel
theorem dX2_orders_9 : decode cX2_orders 9 = .ok (.if_icmp .ge 45, 3) := by decide +kernel
theorem dX2_orders_12 : decode cX2_orders 12 = .ok (.aload_n 0, 1) := by decide +kernel
theorem dX2_orders_13 : decode cX2_orders 13 = .ok (.iload_n 1, 1) := by decide +kernel
theorem dX2_orders_14 : decode cX2_orders 14 = .ok (.iload_n 3, 1) := by decide +kernel
theorem dX2_orders_15 : decode cX2_orders 15 = .ok (.invokevirtual 116, 3) := by decide +kernel
theorem dX2_orders_18 : decode cX2_orders 18 = .ok (.ifCond .eq 30, 3) := by decide +kernel
theorem dX2_orders_21 : decode cX2_orders 21 = .ok (.iload_n 3, 1) := by decide +kernel
theorem dX2_orders_22 : decode cX2_orders 22 = .ok (.invokestatic 62, 3) := by decide +kernel
theorem dX2_orders_25 : decode cX2_orders 25 = .ok (.istore 4, 2) := by decide +kernel
theorem dX2_orders_27 : decode cX2_orders 27 = .ok (.iload_n 2, 1) := by decide +kernel
theorem dX2_orders_28 : decode cX2_orders 28 = .ok (.iload 4, 2) := by decide +kernel
theorem dX2_orders_30 : decode cX2_orders 30 = .ok (.invokestatic 119, 3) := by decide +kernel
theorem dX2_orders_33 : decode cX2_orders 33 = .ok (.aload_n 0, 1) := by decide +kernel
theorem dX2_orders_34 : decode cX2_orders 34 = .ok (.getfield 67, 3) := by decide +kernel
theorem dX2_orders_37 : decode cX2_orders 37 = .ok (.iconst 1, 1) := by decide +kernel
theorem dX2_orders_38 : decode cX2_orders 38 = .ok (.isub, 1) := by decide +kernel
theorem dX2_orders_39 : decode cX2_orders 39 = .ok (.iload 4, 2) := by decide +kernel
theorem dX2_orders_41 : decode cX2_orders 41 = .ok (.isub, 1) := by decide +kernel
theorem dX2_orders_42 : decode cX2_orders 42 = .ok (.invokestatic 119, 3) := by decide +kernel
theorem dX2_orders_45 : decode cX2_orders 45 = .ok (.imul, 1) := by decide +kernel
theorem dX2_orders_46 : decode cX2_orders 46 = .ok (.iadd, 1) := by decide +kernel
theorem dX2_orders_47 : decode cX2_orders 47 = .ok (.istore_n 2, 1) := by decide +kernel
theorem dX2_orders_48 : decode cX2_orders 48 = .ok (.iinc 3 1, 3) := by decide +kernel
theorem dX2_orders_51 : decode cX2_orders 51 = .ok (.goto (-47), 3) := by decide +kernel
theorem dX2_orders_54 : decode cX2_orders 54 = .ok (.iload_n 2, 1) := by decide +kernel
theorem dX2_orders_55 : decode cX2_orders 55 = .ok (.ireturn, 1) := by decide +kernel
theorem dX2_hasSwing_0 : decode cX2_hasSwing 0 = .ok (.aload_n 0, 1) := by decide +kernel
theorem dX2_hasSwing_1 : decode cX2_hasSwing 1 = .ok (.getfield 18, 3) := by decide +kernel
theorem dX2_hasSwing_4 : decode cX2_hasSwing 4 = .ok (.iload_n 2, 1) := by decide +kernel
theorem dX2_hasSwing_5 : decode cX2_hasSwing 5 = .ok (.iaload, 1) := by decide +kernel
theorem dX2_hasSwing_6 : decode cX2_hasSwing 6 = .ok (.istore_n 3, 1) := by decide +kernel
theorem dX2_hasSwing_7 : decode cX2_hasSwing 7 = .ok (.aload_n 0, 1) := by decide +kernel
theorem dX2_hasSwing_8 : decode cX2_hasSwing 8 = .ok (.getfield 21, 3) := by decide +kernel
theorem dX2_hasSwing_11 : decode cX2_hasSwing 11 = .ok (.iload_n 2, 1) := by decide +kernel
theorem dX2_hasSwing_12 : decode cX2_hasSwing 12 = .ok (.iaload, 1) := by decide +kernel
theorem dX2_hasSwing_13 : decode cX2_hasSwing 13 = .ok (.istore 4, 2) := by decide +kernel
theorem dX2_hasSwing_15 : decode cX2_hasSwing 15 = .ok (.iload_n 3, 1) := by decide +kernel
theorem dX2_hasSwing_16 : decode cX2_hasSwing 16 = .ok (.iload_n 1, 1) := by decide +kernel
theorem dX2_hasSwing_17 : decode cX2_hasSwing 17 = .ok (.invokestatic 82, 3) := by decide +kernel
theorem dX2_hasSwing_20 : decode cX2_hasSwing 20 = .ok (.ifCond .ne 41, 3) := by decide +kernel
theorem dX2_hasSwing_23 : decode cX2_hasSwing 23 = .ok (.aload_n 0, 1) := by decide +kernel
theorem dX2_hasSwing_24 : decode cX2_hasSwing 24 = .ok (.iload_n 3, 1) := by decide +kernel
theorem dX2_hasSwing_25 : decode cX2_hasSwing 25 = .ok (.iload 4, 2) := by decide +kernel
theorem dX2_hasSwing_27 : decode cX2_hasSwing 27 = .ok (.invokevirtual 107, 3) := by decide +kernel
theorem dX2_hasSwing_30 : decode cX2_hasSwing 30 = .ok (.ifCond .ne 31, 3) := by decide +kernel
theorem dX2_hasSwing_33 : decode cX2_hasSwing 33 = .ok (.aload_n 0, 1) := by decide +kernel
theorem dX2_hasSwing_34 : decode cX2_hasSwing 34 = .ok (.iload_n 3, 1) := by decide +kernel
theorem dX2_hasSwing_35 : decode cX2_hasSwing 35 = .ok (.aload_n 0, 1) := by decide +kernel
theorem dX2_hasSwing_36 : decode cX2_hasSwing 36 = .ok (.getfield 9, 3) := by decide +kernel
theorem dX2_hasSwing_39 : decode cX2_hasSwing 39 = .ok (.iload_n 1, 1) := by decide +kernel
theorem dX2_hasSwing_40 : decode cX2_hasSwing 40 = .ok (.iaload, 1) := by decide +kernel
theorem dX2_hasSwing_41 : decode cX2_hasSwing 41 = .ok (.ior, 1) := by decide +kernel
theorem dX2_hasSwing_42 : decode cX2_hasSwing 42 = .ok (.iload 4, 2) := by decide +kernel
theorem dX2_hasSwing_44 : decode cX2_hasSwing 44 = .ok (.aload_n 0, 1) := by decide +kernel
theorem dX2_hasSwing_45 : decode cX2_hasSwing 45 = .ok (.getfield 15, 3) := by decide +kernel
theorem dX2_hasSwing_48 : decode cX2_hasSwing 48 = .ok (.iload_n 1, 1) := by decide +kernel
theorem dX2_hasSwing_49 : decode cX2_hasSwing 49 = .ok (.iaload, 1) := by decide +kernel
theorem dX2_hasSwing_50 : decode cX2_hasSwing 50 = .ok (.iadd, 1) := by decide +kernel
theorem dX2_hasSwing_51 : decode cX2_hasSwing 51 = .ok (.invokevirtual 107, 3) := by decide +kernel
theorem dX2_hasSwing_54 : decode cX2_hasSwing 54 = .ok (.ifCond .eq 7, 3) := by decide +kernel
theorem dX2_hasSwing_57 : decode cX2_hasSwing 57 = .ok (.iconst 1, 1) := by decide +kernel
theorem dX2_hasSwing_58 : decode cX2_hasSwing 58 = .ok (.goto 4, 3) := by decide +kernel
theorem dX2_hasSwing_61 : decode cX2_hasSwing 61 = .ok (.iconst 0, 1) := by decide +kernel
theorem dX2_hasSwing_62 : decode cX2_hasSwing 62 = .ok (.ireturn, 1) := by decide +kernel
theorem dX2_distance_0 : decode cX2_distance 0 = .ok (.aload_n 0, 1) := by decide +kernel
theorem dX2_distance_1 : decode cX2_distance 1 = .ok (.iload_n 1, 1) := by decide +kernel
theorem dX2_distance_2 : decode cX2_distance 2 = .ok (.invokevirtual 122, 3) := by decide +kernel
theorem dX2_distance_5 : decode cX2_distance 5 = .ok (.istore_n 2, 1) := by decide +kernel
theorem dX2_distance_6 : decode cX2_distance 6 = .ok (.aload_n 0, 1) := by decide +kernel
theorem dX2_distance_7 : decode cX2_distance 7 = .ok (.getfield 21, 3) := by decide +kernel
theorem dX2_distance_10 : decode cX2_distance 10 = .ok (.aload_n 0, 1) := by decide +kernel
theorem dX2_distance_11 : decode cX2_distance 11 = .ok (.getfield 79, 3) := by decide +kernel
theorem dX2_distance_14 : decode cX2_distance 14 = .ok (.iconst 1, 1) := by decide +kernel
theorem dX2_distance_15 : decode cX2_distance 15 = .ok (.isub, 1) := by decide +kernel
theorem dX2_distance_16 : decode cX2_distance 16 = .ok (.iaload, 1) := by decide +kernel
theorem dX2_distance_17 : decode cX2_distance 17 = .ok (.istore_n 3, 1) := by decide +kernel
theorem dX2_distance_18 : decode cX2_distance 18 = .ok (.lconst 0, 1) := by decide +kernel
theorem dX2_distance_19 : decode cX2_distance 19 = .ok (.lstore 4, 2) := by decide +kernel
theorem dX2_distance_21 : decode cX2_distance 21 = .ok (.iconst 0, 1) := by decide +kernel
theorem dX2_distance_22 : decode cX2_distance 22 = .ok (.istore 6, 2) := by decide +kernel
theorem dX2_distance_24 : decode cX2_distance 24 = .ok (.iload 6, 2) := by decide +kernel
theorem dX2_distance_26 : decode cX2_distance 26 = .ok (.aload_n 0, 1) := by decide +kernel
theorem dX2_distance_27 : decode cX2_distance 27 = .ok (.getfield 38, 3) := by decide +kernel
theorem dX2_distance_30 : decode cX2_distance 30 = .ok (.if_icmp .ge 49, 3) := by decide +kernel
theorem dX2_distance_33 : decode cX2_distance 33 = .ok (.aload_n 0, 1) := by decide +kernel
theorem dX2_distance_34 : decode cX2_distance 34 = .ok (.getfield 47, 3) := by decide +kernel
theorem dX2_distance_37 : decode cX2_distance 37 = .ok (.iload 6, 2) := by decide +kernel
theorem dX2_distance_39 : decode cX2_distance 39 = .ok (.invokestatic 82, 3) := by decide +kernel
theorem dX2_distance_42 : decode cX2_distance 42 = .ok (.ifCond .eq 31, 3) := by decide +kernel
theorem dX2_distance_45 : decode cX2_distance 45 = .ok (.lload 4, 2) := by decide +kernel
theorem dX2_distance_47 : decode cX2_distance 47 = .ok (.aload_n 0, 1) := by decide +kernel
theorem dX2_distance_48 : decode cX2_distance 48 = .ok (.iload 6, 2) := by decide +kernel
theorem dX2_distance_50 : decode cX2_distance 50 = .ok (.iload_n 1, 1) := by decide +kernel
theorem dX2_distance_51 : decode cX2_distance 51 = .ok (.invokevirtual 103, 3) := by decide +kernel
theorem dX2_distance_54 : decode cX2_distance 54 = .ok (.iload_n 3, 1) := by decide +kernel
theorem dX2_distance_55 : decode cX2_distance 55 = .ok (.imul, 1) := by decide +kernel
theorem dX2_distance_56 : decode cX2_distance 56 = .ok (.aload_n 0, 1) := by decide +kernel
theorem dX2_distance_57 : decode cX2_distance 57 = .ok (.getfield 15, 3) := by decide +kernel
theorem dX2_distance_60 : decode cX2_distance 60 = .ok (.iload 6, 2) := by decide +kernel
theorem dX2_distance_62 : decode cX2_distance 62 = .ok (.iaload, 1) := by decide +kernel
theorem dX2_distance_63 : decode cX2_distance 63 = .ok (.iload_n 2, 1) := by decide +kernel
theorem dX2_distance_64 : decode cX2_distance 64 = .ok (.imul, 1) := by decide +kernel
theorem dX2_distance_65 : decode cX2_distance 65 = .ok (.isub, 1) := by decide +kernel
theorem dX2_distance_66 : decode cX2_distance 66 = .ok (.invokestatic 125, 3) := by decide +kernel
theorem dX2_distance_69 : decode cX2_distance 69 = .ok (.i2l, 1) := by decide +kernel
theorem dX2_distance_70 : decode cX2_distance 70 = .ok (.ladd, 1) := by decide +kernel
theorem dX2_distance_71 : decode cX2_distance 71 = .ok (.lstore 4, 2) := by decide +kernel
theorem dX2_distance_73 : decode cX2_distance 73 = .ok (.iinc 6 1, 3) := by decide +kernel
theorem dX2_distance_76 : decode cX2_distance 76 = .ok (.goto (-52), 3) := by decide +kernel
theorem dX2_distance_79 : decode cX2_distance 79 = .ok (.lload 4, 2) := by decide +kernel
theorem dX2_distance_81 : decode cX2_distance 81 = .ok (.lreturn, 1) := by decide +kernel
theorem dX2_leastCoalitions_0 : decode cX2_leastCoalitions 0 = .ok (.aload_n 0, 1) := by decide +kernel
theorem dX2_leastCoalitions_1 : decode cX2_leastCoalitions 1 = .ok (.getfield 76, 3) := by decide +kernel
theorem dX2_leastCoalitions_4 : decode cX2_leastCoalitions 4 = .ok (.iconst (-1), 1) := by decide +kernel
theorem dX2_leastCoalitions_5 : decode cX2_leastCoalitions 5 = .ok (.if_icmp .ne 7, 3) := by decide +kernel
theorem dX2_leastCoalitions_8 : decode cX2_leastCoalitions 8 = .ok (.aload_n 0, 1) := by decide +kernel
theorem dX2_leastCoalitions_9 : decode cX2_leastCoalitions 9 = .ok (.invokevirtual 130, 3) := by decide +kernel
theorem dX2_leastCoalitions_12 : decode cX2_leastCoalitions 12 = .ok (.aload_n 0, 1) := by decide +kernel
theorem dX2_leastCoalitions_13 : decode cX2_leastCoalitions 13 = .ok (.getfield 76, 3) := by decide +kernel
theorem dX2_leastCoalitions_16 : decode cX2_leastCoalitions 16 = .ok (.ireturn, 1) := by decide +kernel
theorem dX2_listLeast_0 : decode cX2_listLeast 0 = .ok (.aload_n 0, 1) := by decide +kernel
theorem dX2_listLeast_1 : decode cX2_listLeast 1 = .ok (.iconst 0, 1) := by decide +kernel
theorem dX2_listLeast_2 : decode cX2_listLeast 2 = .ok (.putfield 76, 3) := by decide +kernel
theorem dX2_listLeast_5 : decode cX2_listLeast 5 = .ok (.iconst 0, 1) := by decide +kernel
theorem dX2_listLeast_6 : decode cX2_listLeast 6 = .ok (.istore_n 1, 1) := by decide +kernel
theorem dX2_listLeast_7 : decode cX2_listLeast 7 = .ok (.iload_n 1, 1) := by decide +kernel
theorem dX2_listLeast_8 : decode cX2_listLeast 8 = .ok (.aload_n 0, 1) := by decide +kernel
theorem dX2_listLeast_9 : decode cX2_listLeast 9 = .ok (.getfield 79, 3) := by decide +kernel
theorem dX2_listLeast_12 : decode cX2_listLeast 12 = .ok (.if_icmp .ge 61, 3) := by decide +kernel
theorem dX2_listLeast_15 : decode cX2_listLeast 15 = .ok (.aload_n 0, 1) := by decide +kernel
theorem dX2_listLeast_16 : decode cX2_listLeast 16 = .ok (.aload_n 0, 1) := by decide +kernel
theorem dX2_listLeast_17 : decode cX2_listLeast 17 = .ok (.getfield 18, 3) := by decide +kernel
theorem dX2_listLeast_20 : decode cX2_listLeast 20 = .ok (.iload_n 1, 1) := by decide +kernel
theorem dX2_listLeast_21 : decode cX2_listLeast 21 = .ok (.iaload, 1) := by decide +kernel
theorem dX2_listLeast_22 : decode cX2_listLeast 22 = .ok (.aload_n 0, 1) := by decide +kernel
theorem dX2_listLeast_23 : decode cX2_listLeast 23 = .ok (.getfield 21, 3) := by decide +kernel
theorem dX2_listLeast_26 : decode cX2_listLeast 26 = .ok (.iload_n 1, 1) := by decide +kernel
theorem dX2_listLeast_27 : decode cX2_listLeast 27 = .ok (.iaload, 1) := by decide +kernel
theorem dX2_listLeast_28 : decode cX2_listLeast 28 = .ok (.invokevirtual 133, 3) := by decide +kernel
theorem dX2_listLeast_31 : decode cX2_listLeast 31 = .ok (.ifCond .eq 36, 3) := by decide +kernel
theorem dX2_listLeast_34 : decode cX2_listLeast 34 = .ok (.aload_n 0, 1) := by decide +kernel
theorem dX2_listLeast_35 : decode cX2_listLeast 35 = .ok (.getfield 76, 3) := by decide +kernel
theorem dX2_listLeast_38 : decode cX2_listLeast 38 = .ok (.sipush 252, 3) := by decide +kernel
theorem dX2_listLeast_41 : decode cX2_listLeast 41 = .ok (.if_icmp .ge 26, 3) := by decide +kernel
theorem dX2_listLeast_44 : decode cX2_listLeast 44 = .ok (.aload_n 0, 1) := by decide +kernel
theorem dX2_listLeast_45 : decode cX2_listLeast 45 = .ok (.iload_n 1, 1) := by decide +kernel
theorem dX2_listLeast_46 : decode cX2_listLeast 46 = .ok (.invokestatic 62, 3) := by decide +kernel
theorem dX2_listLeast_49 : decode cX2_listLeast 49 = .ok (.aload_n 0, 1) := by decide +kernel
theorem dX2_listLeast_50 : decode cX2_listLeast 50 = .ok (.getfield 21, 3) := by decide +kernel
theorem dX2_listLeast_53 : decode cX2_listLeast 53 = .ok (.iload_n 1, 1) := by decide +kernel
theorem dX2_listLeast_54 : decode cX2_listLeast 54 = .ok (.iaload, 1) := by decide +kernel
theorem dX2_listLeast_55 : decode cX2_listLeast 55 = .ok (.aload_n 0, 1) := by decide +kernel
theorem dX2_listLeast_56 : decode cX2_listLeast 56 = .ok (.getfield 18, 3) := by decide +kernel
theorem dX2_listLeast_59 : decode cX2_listLeast 59 = .ok (.iload_n 1, 1) := by decide +kernel
theorem dX2_listLeast_60 : decode cX2_listLeast 60 = .ok (.iaload, 1) := by decide +kernel
theorem dX2_listLeast_61 : decode cX2_listLeast 61 = .ok (.invokestatic 136, 3) := by decide +kernel
theorem dX2_listLeast_64 : decode cX2_listLeast 64 = .ok (.invokevirtual 140, 3) := by decide +kernel
theorem dX2_listLeast_67 : decode cX2_listLeast 67 = .ok (.iinc 1 1, 3) := by decide +kernel
theorem dX2_listLeast_70 : decode cX2_listLeast 70 = .ok (.goto (-63), 3) := by decide +kernel
theorem dX2_listLeast_73 : decode cX2_listLeast 73 = .ok (.return_, 1) := by decide +kernel
theorem dX2_isLeast_0 : decode cX2_isLeast 0 = .ok (.aload_n 0, 1) := by decide +kernel
theorem dX2_isLeast_1 : decode cX2_isLeast 1 = .ok (.iload_n 1, 1) := by decide +kernel
theorem dX2_isLeast_2 : decode cX2_isLeast 2 = .ok (.iload_n 2, 1) := by decide +kernel
theorem dX2_isLeast_3 : decode cX2_isLeast 3 = .ok (.invokevirtual 107, 3) := by decide +kernel
theorem dX2_isLeast_6 : decode cX2_isLeast 6 = .ok (.ifCond .ne 5, 3) := by decide +kernel
theorem dX2_isLeast_9 : decode cX2_isLeast 9 = .ok (.iconst 0, 1) := by decide +kernel
theorem dX2_isLeast_10 : decode cX2_isLeast 10 = .ok (.ireturn, 1) := by decide +kernel
theorem dX2_isLeast_11 : decode cX2_isLeast 11 = .ok (.iconst 0, 1) := by decide +kernel
theorem dX2_isLeast_12 : decode cX2_isLeast 12 = .ok (.istore_n 3, 1) := by decide +kernel
theorem dX2_isLeast_13 : decode cX2_isLeast 13 = .ok (.iload_n 3, 1) := by decide +kernel
theorem dX2_isLeast_14 : decode cX2_isLeast 14 = .ok (.aload_n 0, 1) := by decide +kernel
theorem dX2_isLeast_15 : decode cX2_isLeast 15 = .ok (.getfield 38, 3) := by decide +kernel
theorem dX2_isLeast_18 : decode cX2_isLeast 18 = .ok (.if_icmp .ge 44, 3) := by decide +kernel
theorem dX2_isLeast_21 : decode cX2_isLeast 21 = .ok (.iload_n 1, 1) := by decide +kernel
theorem dX2_isLeast_22 : decode cX2_isLeast 22 = .ok (.iload_n 3, 1) := by decide +kernel
theorem dX2_isLeast_23 : decode cX2_isLeast 23 = .ok (.invokestatic 82, 3) := by decide +kernel
theorem dX2_isLeast_26 : decode cX2_isLeast 26 = .ok (.ifCond .eq 30, 3) := by decide +kernel
theorem dX2_isLeast_29 : decode cX2_isLeast 29 = .ok (.aload_n 0, 1) := by decide +kernel
theorem dX2_isLeast_30 : decode cX2_isLeast 30 = .ok (.iload_n 1, 1) := by decide +kernel
theorem dX2_isLeast_31 : decode cX2_isLeast 31 = .ok (.aload_n 0, 1) := by decide +kernel
theorem dX2_isLeast_32 : decode cX2_isLeast 32 = .ok (.getfield 9, 3) := by decide +kernel
theorem dX2_isLeast_35 : decode cX2_isLeast 35 = .ok (.iload_n 3, 1) := by decide +kernel
theorem dX2_isLeast_36 : decode cX2_isLeast 36 = .ok (.iaload, 1) := by decide +kernel
theorem dX2_isLeast_37 : decode cX2_isLeast 37 = .ok (.iconst (-1), 1) := by decide +kernel
theorem dX2_isLeast_38 : decode cX2_isLeast 38 = .ok (.ixor, 1) := by decide +kernel
theorem dX2_isLeast_39 : decode cX2_isLeast 39 = .ok (.iand, 1) := by decide +kernel
theorem dX2_isLeast_40 : decode cX2_isLeast 40 = .ok (.iload_n 2, 1) := by decide +kernel
theorem dX2_isLeast_41 : decode cX2_isLeast 41 = .ok (.aload_n 0, 1) := by decide +kernel
theorem dX2_isLeast_42 : decode cX2_isLeast 42 = .ok (.getfield 15, 3) := by decide +kernel
theorem dX2_isLeast_45 : decode cX2_isLeast 45 = .ok (.iload_n 3, 1) := by decide +kernel
theorem dX2_isLeast_46 : decode cX2_isLeast 46 = .ok (.iaload, 1) := by decide +kernel
theorem dX2_isLeast_47 : decode cX2_isLeast 47 = .ok (.isub, 1) := by decide +kernel
theorem dX2_isLeast_48 : decode cX2_isLeast 48 = .ok (.invokevirtual 107, 3) := by decide +kernel
theorem dX2_isLeast_51 : decode cX2_isLeast 51 = .ok (.ifCond .eq 5, 3) := by decide +kernel
theorem dX2_isLeast_54 : decode cX2_isLeast 54 = .ok (.iconst 0, 1) := by decide +kernel
theorem dX2_isLeast_55 : decode cX2_isLeast 55 = .ok (.ireturn, 1) := by decide +kernel
theorem dX2_isLeast_56 : decode cX2_isLeast 56 = .ok (.iinc 3 1, 3) := by decide +kernel
theorem dX2_isLeast_59 : decode cX2_isLeast 59 = .ok (.goto (-46), 3) := by decide +kernel
theorem dX2_isLeast_62 : decode cX2_isLeast 62 = .ok (.iconst 1, 1) := by decide +kernel
theorem dX2_isLeast_63 : decode cX2_isLeast 63 = .ok (.ireturn, 1) := by decide +kernel
theorem dX2_sortingKey_0 : decode cX2_sortingKey 0 = .ok (.iload_n 0, 1) := by decide +kernel
theorem dX2_sortingKey_1 : decode cX2_sortingKey 1 = .ok (.bipush 9, 2) := by decide +kernel
theorem dX2_sortingKey_3 : decode cX2_sortingKey 3 = .ok (.ishl, 1) := by decide +kernel
theorem dX2_sortingKey_4 : decode cX2_sortingKey 4 = .ok (.iload_n 1, 1) := by decide +kernel
theorem dX2_sortingKey_5 : decode cX2_sortingKey 5 = .ok (.ior, 1) := by decide +kernel
theorem dX2_sortingKey_6 : decode cX2_sortingKey 6 = .ok (.bipush 10, 2) := by decide +kernel
theorem dX2_sortingKey_8 : decode cX2_sortingKey 8 = .ok (.ishl, 1) := by decide +kernel
theorem dX2_sortingKey_9 : decode cX2_sortingKey 9 = .ok (.iload_n 2, 1) := by decide +kernel
theorem dX2_sortingKey_10 : decode cX2_sortingKey 10 = .ok (.ior, 1) := by decide +kernel
theorem dX2_sortingKey_11 : decode cX2_sortingKey 11 = .ok (.ireturn, 1) := by decide +kernel
theorem dX2_insertLeast_0 : decode cX2_insertLeast 0 = .ok (.aload_n 0, 1) := by decide +kernel
theorem dX2_insertLeast_1 : decode cX2_insertLeast 1 = .ok (.getfield 76, 3) := by decide +kernel
theorem dX2_insertLeast_4 : decode cX2_insertLeast 4 = .ok (.istore_n 2, 1) := by decide +kernel
theorem dX2_insertLeast_5 : decode cX2_insertLeast 5 = .ok (.iload_n 2, 1) := by decide +kernel
theorem dX2_insertLeast_6 : decode cX2_insertLeast 6 = .ok (.ifCond .le 35, 3) := by decide +kernel
theorem dX2_insertLeast_9 : decode cX2_insertLeast 9 = .ok (.aload_n 0, 1) := by decide +kernel
theorem dX2_insertLeast_10 : decode cX2_insertLeast 10 = .ok (.getfield 29, 3) := by decide +kernel
theorem dX2_insertLeast_13 : decode cX2_insertLeast 13 = .ok (.iload_n 2, 1) := by decide +kernel
theorem dX2_insertLeast_14 : decode cX2_insertLeast 14 = .ok (.iconst 1, 1) := by decide +kernel
theorem dX2_insertLeast_15 : decode cX2_insertLeast 15 = .ok (.isub, 1) := by decide +kernel
theorem dX2_insertLeast_16 : decode cX2_insertLeast 16 = .ok (.iaload, 1) := by decide +kernel
theorem dX2_insertLeast_17 : decode cX2_insertLeast 17 = .ok (.iload_n 1, 1) := by decide +kernel
theorem dX2_insertLeast_18 : decode cX2_insertLeast 18 = .ok (.if_icmp .le 23, 3) := by decide +kernel
theorem dX2_insertLeast_21 : decode cX2_insertLeast 21 = .ok (.aload_n 0, 1) := by decide +kernel
theorem dX2_insertLeast_22 : decode cX2_insertLeast 22 = .ok (.getfield 29, 3) := by decide +kernel
theorem dX2_insertLeast_25 : decode cX2_insertLeast 25 = .ok (.iload_n 2, 1) := by decide +kernel
theorem dX2_insertLeast_26 : decode cX2_insertLeast 26 = .ok (.aload_n 0, 1) := by decide +kernel
theorem dX2_insertLeast_27 : decode cX2_insertLeast 27 = .ok (.getfield 29, 3) := by decide +kernel
theorem dX2_insertLeast_30 : decode cX2_insertLeast 30 = .ok (.iload_n 2, 1) := by decide +kernel
theorem dX2_insertLeast_31 : decode cX2_insertLeast 31 = .ok (.iconst 1, 1) := by decide +kernel
theorem dX2_insertLeast_32 : decode cX2_insertLeast 32 = .ok (.isub, 1) := by decide +kernel
theorem dX2_insertLeast_33 : decode cX2_insertLeast 33 = .ok (.iaload, 1) := by decide +kernel
theorem dX2_insertLeast_34 : decode cX2_insertLeast 34 = .ok (.iastore, 1) := by decide +kernel
theorem dX2_insertLeast_35 : decode cX2_insertLeast 35 = .ok (.iinc 2 (-1), 3) := by decide +kernel
theorem dX2_insertLeast_38 : decode cX2_insertLeast 38 = .ok (.goto (-33), 3) := by decide +kernel
theorem dX2_insertLeast_41 : decode cX2_insertLeast 41 = .ok (.aload_n 0, 1) := by decide +kernel
theorem dX2_insertLeast_42 : decode cX2_insertLeast 42 = .ok (.getfield 29, 3) := by decide +kernel
theorem dX2_insertLeast_45 : decode cX2_insertLeast 45 = .ok (.iload_n 2, 1) := by decide +kernel
theorem dX2_insertLeast_46 : decode cX2_insertLeast 46 = .ok (.iload_n 1, 1) := by decide +kernel
theorem dX2_insertLeast_47 : decode cX2_insertLeast 47 = .ok (.iastore, 1) := by decide +kernel
theorem dX2_insertLeast_48 : decode cX2_insertLeast 48 = .ok (.aload_n 0, 1) := by decide +kernel
theorem dX2_insertLeast_49 : decode cX2_insertLeast 49 = .ok (.dup, 1) := by decide +kernel
theorem dX2_insertLeast_50 : decode cX2_insertLeast 50 = .ok (.getfield 76, 3) := by decide +kernel
theorem dX2_insertLeast_53 : decode cX2_insertLeast 53 = .ok (.iconst 1, 1) := by decide +kernel
theorem dX2_insertLeast_54 : decode cX2_insertLeast 54 = .ok (.iadd, 1) := by decide +kernel
theorem dX2_insertLeast_55 : decode cX2_insertLeast 55 = .ok (.putfield 76, 3) := by decide +kernel
theorem dX2_insertLeast_58 : decode cX2_insertLeast 58 = .ok (.return_, 1) := by decide +kernel
theorem dX2_ofLeast_0 : decode cX2_ofLeast 0 = .ok (.aload_n 0, 1) := by decide +kernel
theorem dX2_ofLeast_1 : decode cX2_ofLeast 1 = .ok (.getfield 29, 3) := by decide +kernel
theorem dX2_ofLeast_4 : decode cX2_ofLeast 4 = .ok (.iload_n 1, 1) := by decide +kernel
theorem dX2_ofLeast_5 : decode cX2_ofLeast 5 = .ok (.iaload, 1) := by decide +kernel
theorem dX2_ofLeast_6 : decode cX2_ofLeast 6 = .ok (.istore_n 3, 1) := by decide +kernel
theorem dX2_ofLeast_7 : decode cX2_ofLeast 7 = .ok (.iload_n 2, 1) := by decide +kernel
theorem dX2_ofLeast_8 : decode cX2_ofLeast 8 = .ok (.lookupswitch 39 #[(0, 28), (1, 34)], 28) := by decide +kernel
theorem dX2_ofLeast_36 : decode cX2_ofLeast 36 = .ok (.iload_n 3, 1) := by decide +kernel
theorem dX2_ofLeast_37 : decode cX2_ofLeast 37 = .ok (.sipush 1023, 3) := by decide +kernel
theorem dX2_ofLeast_40 : decode cX2_ofLeast 40 = .ok (.iand, 1) := by decide +kernel
theorem dX2_ofLeast_41 : decode cX2_ofLeast 41 = .ok (.ireturn, 1) := by decide +kernel
theorem dX2_ofLeast_42 : decode cX2_ofLeast 42 = .ok (.iload_n 3, 1) := by decide +kernel
theorem dX2_ofLeast_43 : decode cX2_ofLeast 43 = .ok (.bipush 19, 2) := by decide +kernel
theorem dX2_ofLeast_45 : decode cX2_ofLeast 45 = .ok (.ishr, 1) := by decide +kernel
theorem dX2_ofLeast_46 : decode cX2_ofLeast 46 = .ok (.ireturn, 1) := by decide +kernel
theorem dX2_ofLeast_47 : decode cX2_ofLeast 47 = .ok (.iload_n 3, 1) := by decide +kernel
theorem dX2_ofLeast_48 : decode cX2_ofLeast 48 = .ok (.bipush 10, 2) := by decide +kernel
theorem dX2_ofLeast_50 : decode cX2_ofLeast 50 = .ok (.ishr, 1) := by decide +kernel
theorem dX2_ofLeast_51 : decode cX2_ofLeast 51 = .ok (.sipush 511, 3) := by decide +kernel
theorem dX2_ofLeast_54 : decode cX2_ofLeast 54 = .ok (.iand, 1) := by decide +kernel
theorem dX2_ofLeast_55 : decode cX2_ofLeast 55 = .ok (.ireturn, 1) := by decide +kernel
theorem dX3_init_0 : decode cX3_init 0 = .ok (.aload_n 0, 1) := by decide +kernel
theorem dX3_init_1 : decode cX3_init 1 = .ok (.invokespecial 3, 3) := by decide +kernel
theorem dX3_init_4 : decode cX3_init 4 = .ok (.aload_n 0, 1) := by decide +kernel
theorem dX3_init_5 : decode cX3_init 5 = .ok (.iconst 1, 1) := by decide +kernel
theorem dX3_init_6 : decode cX3_init 6 = .ok (.putfield 9, 3) := by decide +kernel
theorem dX3_init_9 : decode cX3_init 9 = .ok (.aload_n 0, 1) := by decide +kernel
theorem dX3_init_10 : decode cX3_init 10 = .ok (.bipush 10, 2) := by decide +kernel
theorem dX3_init_12 : decode cX3_init 12 = .ok (.newarray .int, 2) := by decide +kernel
theorem dX3_init_14 : decode cX3_init 14 = .ok (.putfield 15, 3) := by decide +kernel
theorem dX3_init_17 : decode cX3_init 17 = .ok (.aload_n 0, 1) := by decide +kernel
theorem dX3_init_18 : decode cX3_init 18 = .ok (.bipush 10, 2) := by decide +kernel
theorem dX3_init_20 : decode cX3_init 20 = .ok (.newarray .int, 2) := by decide +kernel
theorem dX3_init_22 : decode cX3_init 22 = .ok (.putfield 19, 3) := by decide +kernel
theorem dX3_init_25 : decode cX3_init 25 = .ok (.aload_n 0, 1) := by decide +kernel
theorem dX3_init_26 : decode cX3_init 26 = .ok (.bipush 10, 2) := by decide +kernel
theorem dX3_init_28 : decode cX3_init 28 = .ok (.newarray .int, 2) := by decide +kernel
theorem dX3_init_30 : decode cX3_init 30 = .ok (.putfield 22, 3) := by decide +kernel
theorem dX3_init_33 : decode cX3_init 33 = .ok (.aload_n 0, 1) := by decide +kernel
theorem dX3_init_34 : decode cX3_init 34 = .ok (.new 25, 3) := by decide +kernel
theorem dX3_init_37 : decode cX3_init 37 = .ok (.dup, 1) := by decide +kernel
theorem dX3_init_38 : decode cX3_init 38 = .ok (.invokespecial 27, 3) := by decide +kernel
theorem dX3_init_41 : decode cX3_init 41 = .ok (.putfield 28, 3) := by decide +kernel
theorem dX3_init_44 : decode cX3_init 44 = .ok (.return_, 1) := by decide +kernel
theorem dX3_copyFrom_0 : decode cX3_copyFrom 0 = .ok (.aload_n 0, 1) := by decide +kernel
theorem dX3_copyFrom_1 : decode cX3_copyFrom 1 = .ok (.aload_n 1, 1) := by decide +kernel
theorem dX3_copyFrom_2 : decode cX3_copyFrom 2 = .ok (.getfield 32, 3) := by decide +kernel
theorem dX3_copyFrom_5 : decode cX3_copyFrom 5 = .ok (.putfield 32, 3) := by decide +kernel
theorem dX3_copyFrom_8 : decode cX3_copyFrom 8 = .ok (.aload_n 0, 1) := by decide +kernel
theorem dX3_copyFrom_9 : decode cX3_copyFrom 9 = .ok (.aload_n 1, 1) := by decide +kernel
theorem dX3_copyFrom_10 : decode cX3_copyFrom 10 = .ok (.getfield 9, 3) := by decide +kernel
theorem dX3_copyFrom_13 : decode cX3_copyFrom 13 = .ok (.putfield 9, 3) := by decide +kernel
theorem dX3_copyFrom_16 : decode cX3_copyFrom 16 = .ok (.aload_n 0, 1) := by decide +kernel
theorem dX3_copyFrom_17 : decode cX3_copyFrom 17 = .ok (.aload_n 1, 1) := by decide +kernel
theorem dX3_copyFrom_18 : decode cX3_copyFrom 18 = .ok (.getfield 35, 3) := by decide +kernel
theorem dX3_copyFrom_21 : decode cX3_copyFrom 21 = .ok (.putfield 35, 3) := by decide +kernel
theorem dX3_copyFrom_24 : decode cX3_copyFrom 24 = .ok (.aload_n 1, 1) := by decide +kernel
theorem dX3_copyFrom_25 : decode cX3_copyFrom 25 = .ok (.getfield 15, 3) := by decide +kernel
theorem dX3_copyFrom_28 : decode cX3_copyFrom 28 = .ok (.iconst 0, 1) := by decide +kernel
theorem dX3_copyFrom_29 : decode cX3_copyFrom 29 = .ok (.aload_n 0, 1) := by decide +kernel
theorem dX3_copyFrom_30 : decode cX3_copyFrom 30 = .ok (.getfield 15, 3) := by decide +kernel
theorem dX3_copyFrom_33 : decode cX3_copyFrom 33 = .ok (.iconst 0, 1) := by decide +kernel
theorem dX3_copyFrom_34 : decode cX3_copyFrom 34 = .ok (.bipush 10, 2) := by decide +kernel
theorem dX3_copyFrom_36 : decode cX3_copyFrom 36 = .ok (.invokestatic 38, 3) := by decide +kernel
theorem dX3_copyFrom_39 : decode cX3_copyFrom 39 = .ok (.aload_n 1, 1) := by decide +kernel
theorem dX3_copyFrom_40 : decode cX3_copyFrom 40 = .ok (.getfield 19, 3) := by decide +kernel
theorem dX3_copyFrom_43 : decode cX3_copyFrom 43 = .ok (.iconst 0, 1) := by decide +kernel
theorem dX3_copyFrom_44 : decode cX3_copyFrom 44 = .ok (.aload_n 0, 1) := by decide +kernel
theorem dX3_copyFrom_45 : decode cX3_copyFrom 45 = .ok (.getfield 19, 3) := by decide +kernel
theorem dX3_copyFrom_48 : decode cX3_copyFrom 48 = .ok (.iconst 0, 1) := by decide +kernel
theorem dX3_copyFrom_49 : decode cX3_copyFrom 49 = .ok (.bipush 10, 2) := by decide +kernel
theorem dX3_copyFrom_51 : decode cX3_copyFrom 51 = .ok (.invokestatic 38, 3) := by decide +kernel
theorem dX3_copyFrom_54 : decode cX3_copyFrom 54 = .ok (.aload_n 1, 1) := by decide +kernel
theorem dX3_copyFrom_55 : decode cX3_copyFrom 55 = .ok (.getfield 22, 3) := by decide +kernel
theorem dX3_copyFrom_58 : decode cX3_copyFrom 58 = .ok (.iconst 0, 1) := by decide +kernel
theorem dX3_copyFrom_59 : decode cX3_copyFrom 59 = .ok (.aload_n 0, 1) := by decide +kernel
theorem dX3_copyFrom_60 : decode cX3_copyFrom 60 = .ok (.getfield 22, 3) := by decide +kernel
theorem dX3_copyFrom_63 : decode cX3_copyFrom 63 = .ok (.iconst 0, 1) := by decide +kernel
theorem dX3_copyFrom_64 : decode cX3_copyFrom 64 = .ok (.bipush 10, 2) := by decide +kernel
theorem dX3_copyFrom_66 : decode cX3_copyFrom 66 = .ok (.invokestatic 38, 3) := by decide +kernel
theorem dX3_copyFrom_69 : decode cX3_copyFrom 69 = .ok (.aload_n 0, 1) := by decide +kernel
theorem dX3_copyFrom_70 : decode cX3_copyFrom 70 = .ok (.getfield 28, 3) := by decide +kernel
theorem dX3_copyFrom_73 : decode cX3_copyFrom 73 = .ok (.aload_n 1, 1) := by decide +kernel
theorem dX3_copyFrom_74 : decode cX3_copyFrom 74 = .ok (.getfield 28, 3) := by decide +kernel
theorem dX3_copyFrom_77 : decode cX3_copyFrom 77 = .ok (.invokevirtual 44, 3) := by decide +kernel
theorem dX3_copyFrom_80 : decode cX3_copyFrom 80 = .ok (.return_, 1) := by decide +kernel
theorem dX3_has_0 : decode cX3_has 0 = .ok (.iload_n 1, 1) := by decide +kernel
theorem dX3_has_1 : decode cX3_has 1 = .ok (.ifCond .lt 15, 3) := by decide +kernel
theorem dX3_has_4 : decode cX3_has 4 = .ok (.iload_n 1, 1) := by decide +kernel
theorem dX3_has_5 : decode cX3_has 5 = .ok (.aload_n 0, 1) := by decide +kernel
theorem dX3_has_6 : decode cX3_has 6 = .ok (.getfield 32, 3) := by decide +kernel
theorem dX3_has_9 : decode cX3_has 9 = .ok (.if_icmp .ge 7, 3) := by decide +kernel
theorem dX3_has_12 : decode cX3_has 12 = .ok (.iconst 1, 1) := by decide +kernel
theorem dX3_has_13 : decode cX3_has 13 = .ok (.goto 4, 3) := by decide +kernel
theorem dX3_has_16 : decode cX3_has 16 = .ok (.iconst 0, 1) := by decide +kernel
theorem dX3_has_17 : decode cX3_has 17 = .ok (.ireturn, 1) := by decide +kernel
theorem dX3_everyone_0 : decode cX3_everyone 0 = .ok (.iconst 1, 1) := by decide +kernel
theorem dX3_everyone_1 : decode cX3_everyone 1 = .ok (.aload_n 0, 1) := by decide +kernel
theorem dX3_everyone_2 : decode cX3_everyone 2 = .ok (.getfield 32, 3) := by decide +kernel
theorem dX3_everyone_5 : decode cX3_everyone 5 = .ok (.ishl, 1) := by decide +kernel
theorem dX3_everyone_6 : decode cX3_everyone 6 = .ok (.iconst 1, 1) := by decide +kernel
theorem dX3_everyone_7 : decode cX3_everyone 7 = .ok (.isub, 1) := by decide +kernel
theorem dX3_everyone_8 : decode cX3_everyone 8 = .ok (.ireturn, 1) := by decide +kernel
theorem dX3_append_0 : decode cX3_append 0 = .ok (.aload_n 0, 1) := by decide +kernel
theorem dX3_append_1 : decode cX3_append 1 = .ok (.getfield 32, 3) := by decide +kernel
theorem dX3_append_4 : decode cX3_append 4 = .ok (.istore_n 2, 1) := by decide +kernel
theorem dX3_append_5 : decode cX3_append 5 = .ok (.iload_n 2, 1) := by decide +kernel
theorem dX3_append_6 : decode cX3_append 6 = .ok (.bipush 10, 2) := by decide +kernel
theorem dX3_append_8 : decode cX3_append 8 = .ok (.if_icmp .ge 37, 3) := by decide +kernel
theorem dX3_append_11 : decode cX3_append 11 = .ok (.aload_n 0, 1) := by decide +kernel
theorem dX3_append_12 : decode cX3_append 12 = .ok (.getfield 15, 3) := by decide +kernel
theorem dX3_append_15 : decode cX3_append 15 = .ok (.iload_n 2, 1) := by decide +kernel
theorem dX3_append_16 : decode cX3_append 16 = .ok (.iload_n 1, 1) := by decide +kernel
theorem dX3_append_17 : decode cX3_append 17 = .ok (.iastore, 1) := by decide +kernel
theorem dX3_append_18 : decode cX3_append 18 = .ok (.aload_n 0, 1) := by decide +kernel
theorem dX3_append_19 : decode cX3_append 19 = .ok (.getfield 19, 3) := by decide +kernel
theorem dX3_append_22 : decode cX3_append 22 = .ok (.iload_n 2, 1) := by decide +kernel
theorem dX3_append_23 : decode cX3_append 23 = .ok (.iload_n 2, 1) := by decide +kernel
theorem dX3_append_24 : decode cX3_append 24 = .ok (.invokestatic 48, 3) := by decide +kernel
theorem dX3_append_27 : decode cX3_append 27 = .ok (.iastore, 1) := by decide +kernel
theorem dX3_append_28 : decode cX3_append 28 = .ok (.aload_n 0, 1) := by decide +kernel
theorem dX3_append_29 : decode cX3_append 29 = .ok (.getfield 22, 3) := by decide +kernel
theorem dX3_append_32 : decode cX3_append 32 = .ok (.iload_n 2, 1) := by decide +kernel
theorem dX3_append_33 : decode cX3_append 33 = .ok (.iconst 0, 1) := by decide +kernel
theorem dX3_append_34 : decode cX3_append 34 = .ok (.iastore, 1) := by decide +kernel
theorem dX3_append_35 : decode cX3_append 35 = .ok (.aload_n 0, 1) := by decide +kernel
theorem dX3_append_36 : decode cX3_append 36 = .ok (.dup, 1) := by decide +kernel
theorem dX3_append_37 : decode cX3_append 37 = .ok (.getfield 32, 3) := by decide +kernel
theorem dX3_append_40 : decode cX3_append 40 = .ok (.iconst 1, 1) := by decide +kernel
theorem dX3_append_41 : decode cX3_append 41 = .ok (.iadd, 1) := by decide +kernel
theorem dX3_append_42 : decode cX3_append 42 = .ok (.putfield 32, 3) := by decide +kernel
theorem dX3_append_45 : decode cX3_append 45 = .ok (.iload_n 2, 1) := by decide +kernel
theorem dX3_append_46 : decode cX3_append 46 = .ok (.ireturn, 1) := by decide +kernel
theorem dX3_drop_0 : decode cX3_drop 0 = .ok (.iload_n 1, 1) := by decide +kernel
theorem dX3_drop_1 : decode cX3_drop 1 = .ok (.iconst 1, 1) := by decide +kernel
theorem dX3_drop_2 : decode cX3_drop 2 = .ok (.iadd, 1) := by decide +kernel
theorem dX3_drop_3 : decode cX3_drop 3 = .ok (.istore_n 2, 1) := by decide +kernel
theorem dX3_drop_4 : decode cX3_drop 4 = .ok (.iload_n 2, 1) := by decide +kernel
theorem dX3_drop_5 : decode cX3_drop 5 = .ok (.aload_n 0, 1) := by decide +kernel
theorem dX3_drop_6 : decode cX3_drop 6 = .ok (.getfield 32, 3) := by decide +kernel
theorem dX3_drop_9 : decode cX3_drop 9 = .ok (.if_icmp .ge 51, 3) := by decide +kernel
theorem dX3_drop_12 : decode cX3_drop 12 = .ok (.aload_n 0, 1) := by decide +kernel
theorem dX3_drop_13 : decode cX3_drop 13 = .ok (.getfield 15, 3) := by decide +kernel
theorem dX3_drop_16 : decode cX3_drop 16 = .ok (.iload_n 2, 1) := by decide +kernel
theorem dX3_drop_17 : decode cX3_drop 17 = .ok (.iconst 1, 1) := by decide +kernel
theorem dX3_drop_18 : decode cX3_drop 18 = .ok (.isub, 1) := by decide +kernel
theorem dX3_drop_19 : decode cX3_drop 19 = .ok (.aload_n 0, 1) := by decide +kernel
theorem dX3_drop_20 : decode cX3_drop 20 = .ok (.getfield 15, 3) := by decide +kernel
theorem dX3_drop_23 : decode cX3_drop 23 = .ok (.iload_n 2, 1) := by decide +kernel
theorem dX3_drop_24 : decode cX3_drop 24 = .ok (.iaload, 1) := by decide +kernel
theorem dX3_drop_25 : decode cX3_drop 25 = .ok (.iastore, 1) := by decide +kernel
theorem dX3_drop_26 : decode cX3_drop 26 = .ok (.aload_n 0, 1) := by decide +kernel
theorem dX3_drop_27 : decode cX3_drop 27 = .ok (.getfield 19, 3) := by decide +kernel
theorem dX3_drop_30 : decode cX3_drop 30 = .ok (.iload_n 2, 1) := by decide +kernel
theorem dX3_drop_31 : decode cX3_drop 31 = .ok (.iconst 1, 1) := by decide +kernel
theorem dX3_drop_32 : decode cX3_drop 32 = .ok (.isub, 1) := by decide +kernel
theorem dX3_drop_33 : decode cX3_drop 33 = .ok (.aload_n 0, 1) := by decide +kernel
theorem dX3_drop_34 : decode cX3_drop 34 = .ok (.getfield 19, 3) := by decide +kernel
theorem dX3_drop_37 : decode cX3_drop 37 = .ok (.iload_n 2, 1) := by decide +kernel
theorem dX3_drop_38 : decode cX3_drop 38 = .ok (.iaload, 1) := by decide +kernel
theorem dX3_drop_39 : decode cX3_drop 39 = .ok (.iastore, 1) := by decide +kernel
theorem dX3_drop_40 : decode cX3_drop 40 = .ok (.aload_n 0, 1) := by decide +kernel
theorem dX3_drop_41 : decode cX3_drop 41 = .ok (.getfield 22, 3) := by decide +kernel
theorem dX3_drop_44 : decode cX3_drop 44 = .ok (.iload_n 2, 1) := by decide +kernel
theorem dX3_drop_45 : decode cX3_drop 45 = .ok (.iconst 1, 1) := by decide +kernel
theorem dX3_drop_46 : decode cX3_drop 46 = .ok (.isub, 1) := by decide +kernel
theorem dX3_drop_47 : decode cX3_drop 47 = .ok (.aload_n 0, 1) := by decide +kernel
theorem dX3_drop_48 : decode cX3_drop 48 = .ok (.getfield 22, 3) := by decide +kernel
theorem dX3_drop_51 : decode cX3_drop 51 = .ok (.iload_n 2, 1) := by decide +kernel
theorem dX3_drop_52 : decode cX3_drop 52 = .ok (.iaload, 1) := by decide +kernel
theorem dX3_drop_53 : decode cX3_drop 53 = .ok (.iastore, 1) := by decide +kernel
theorem dX3_drop_54 : decode cX3_drop 54 = .ok (.iinc 2 1, 3) := by decide +kernel
theorem dX3_drop_57 : decode cX3_drop 57 = .ok (.goto (-53), 3) := by decide +kernel
theorem dX3_drop_60 : decode cX3_drop 60 = .ok (.aload_n 0, 1) := by decide +kernel
theorem dX3_drop_61 : decode cX3_drop 61 = .ok (.dup, 1) := by decide +kernel
theorem dX3_drop_62 : decode cX3_drop 62 = .ok (.getfield 32, 3) := by decide +kernel
theorem dX3_drop_65 : decode cX3_drop 65 = .ok (.iconst 1, 1) := by decide +kernel
theorem dX3_drop_66 : decode cX3_drop 66 = .ok (.isub, 1) := by decide +kernel
theorem dX3_drop_67 : decode cX3_drop 67 = .ok (.putfield 32, 3) := by decide +kernel
theorem dX3_drop_70 : decode cX3_drop 70 = .ok (.iconst 0, 1) := by decide +kernel
theorem dX3_drop_71 : decode cX3_drop 71 = .ok (.istore_n 2, 1) := by decide +kernel
theorem dX3_drop_72 : decode cX3_drop 72 = .ok (.iload_n 2, 1) := by decide +kernel
theorem dX3_drop_73 : decode cX3_drop 73 = .ok (.aload_n 0, 1) := by decide +kernel
theorem dX3_drop_74 : decode cX3_drop 74 = .ok (.getfield 32, 3) := by decide +kernel
theorem dX3_drop_77 : decode cX3_drop 77 = .ok (.if_icmp .ge 25, 3) := by decide +kernel
theorem dX3_drop_80 : decode cX3_drop 80 = .ok (.aload_n 0, 1) := by decide +kernel
theorem dX3_drop_81 : decode cX3_drop 81 = .ok (.getfield 19, 3) := by decide +kernel
theorem dX3_drop_84 : decode cX3_drop 84 = .ok (.iload_n 2, 1) := by decide +kernel
theorem dX3_drop_85 : decode cX3_drop 85 = .ok (.aload_n 0, 1) := by decide +kernel
theorem dX3_drop_86 : decode cX3_drop 86 = .ok (.getfield 19, 3) := by decide +kernel
theorem dX3_drop_89 : decode cX3_drop 89 = .ok (.iload_n 2, 1) := by decide +kernel
theorem dX3_drop_90 : decode cX3_drop 90 = .ok (.iaload, 1) := by decide +kernel
theorem dX3_drop_91 : decode cX3_drop 91 = .ok (.iload_n 1, 1) := by decide +kernel
theorem dX3_drop_92 : decode cX3_drop 92 = .ok (.invokestatic 52, 3) := by decide +kernel
theorem dX3_drop_95 : decode cX3_drop 95 = .ok (.iastore, 1) := by decide +kernel
theorem dX3_drop_96 : decode cX3_drop 96 = .ok (.iinc 2 1, 3) := by decide +kernel
theorem dX3_drop_99 : decode cX3_drop 99 = .ok (.goto (-27), 3) := by decide +kernel
theorem dX3_drop_102 : decode cX3_drop 102 = .ok (.aload_n 0, 1) := by decide +kernel
theorem dX3_drop_103 : decode cX3_drop 103 = .ok (.aload_n 0, 1) := by decide +kernel
theorem dX3_drop_104 : decode cX3_drop 104 = .ok (.getfield 35, 3) := by decide +kernel
theorem dX3_drop_107 : decode cX3_drop 107 = .ok (.iload_n 1, 1) := by decide +kernel
theorem dX3_drop_108 : decode cX3_drop 108 = .ok (.invokestatic 52, 3) := by decide +kernel
theorem dX3_drop_111 : decode cX3_drop 111 = .ok (.putfield 35, 3) := by decide +kernel
theorem dX3_drop_114 : decode cX3_drop 114 = .ok (.return_, 1) := by decide +kernel
theorem dX3_closeUp_0 : decode cX3_closeUp 0 = .ok (.iload_n 1, 1) := by decide +kernel
theorem dX3_closeUp_1 : decode cX3_closeUp 1 = .ok (.invokestatic 48, 3) := by decide +kernel
theorem dX3_closeUp_4 : decode cX3_closeUp 4 = .ok (.iconst 1, 1) := by decide +kernel
theorem dX3_closeUp_5 : decode cX3_closeUp 5 = .ok (.isub, 1) := by decide +kernel
theorem dX3_closeUp_6 : decode cX3_closeUp 6 = .ok (.istore_n 2, 1) := by decide +kernel
theorem dX3_closeUp_7 : decode cX3_closeUp 7 = .ok (.iload_n 0, 1) := by decide +kernel
theorem dX3_closeUp_8 : decode cX3_closeUp 8 = .ok (.iload_n 2, 1) := by decide +kernel
theorem dX3_closeUp_9 : decode cX3_closeUp 9 = .ok (.iand, 1) := by decide +kernel
theorem dX3_closeUp_10 : decode cX3_closeUp 10 = .ok (.iload_n 0, 1) := by decide +kernel
theorem dX3_closeUp_11 : decode cX3_closeUp 11 = .ok (.iconst 1, 1) := by decide +kernel
theorem dX3_closeUp_12 : decode cX3_closeUp 12 = .ok (.ishr, 1) := by decide +kernel
theorem dX3_closeUp_13 : decode cX3_closeUp 13 = .ok (.iload_n 2, 1) := by decide +kernel
theorem dX3_closeUp_14 : decode cX3_closeUp 14 = .ok (.iconst (-1), 1) := by decide +kernel
theorem dX3_closeUp_15 : decode cX3_closeUp 15 = .ok (.ixor, 1) := by decide +kernel
theorem dX3_closeUp_16 : decode cX3_closeUp 16 = .ok (.iand, 1) := by decide +kernel
theorem dX3_closeUp_17 : decode cX3_closeUp 17 = .ok (.ior, 1) := by decide +kernel
theorem dX3_closeUp_18 : decode cX3_closeUp 18 = .ok (.ireturn, 1) := by decide +kernel
theorem dX3_makeBloc_0 : decode cX3_makeBloc 0 = .ok (.iconst 0, 1) := by decide +kernel
theorem dX3_makeBloc_1 : decode cX3_makeBloc 1 = .ok (.istore_n 2, 1) := by decide +kernel
theorem dX3_makeBloc_2 : decode cX3_makeBloc 2 = .ok (.iload_n 2, 1) := by decide +kernel
theorem dX3_makeBloc_3 : decode cX3_makeBloc 3 = .ok (.aload_n 0, 1) := by decide +kernel
theorem dX3_makeBloc_4 : decode cX3_makeBloc 4 = .ok (.getfield 32, 3) := by decide +kernel
theorem dX3_makeBloc_7 : decode cX3_makeBloc 7 = .ok (.if_icmp .ge 24, 3) := by decide +kernel
theorem dX3_makeBloc_10 : decode cX3_makeBloc 10 = .ok (.iload_n 1, 1) := by decide +kernel
theorem dX3_makeBloc_11 : decode cX3_makeBloc 11 = .ok (.iload_n 2, 1) := by decide +kernel
theorem dX3_makeBloc_12 : decode cX3_makeBloc 12 = .ok (.invokestatic 56, 3) := by decide +kernel
theorem dX3_makeBloc_15 : decode cX3_makeBloc 15 = .ok (.ifCond .eq 10, 3) := by decide +kernel
theorem dX3_makeBloc_18 : decode cX3_makeBloc 18 = .ok (.aload_n 0, 1) := by decide +kernel
theorem dX3_makeBloc_19 : decode cX3_makeBloc 19 = .ok (.getfield 19, 3) := by decide +kernel
theorem dX3_makeBloc_22 : decode cX3_makeBloc 22 = .ok (.iload_n 2, 1) := by decide +kernel
theorem dX3_makeBloc_23 : decode cX3_makeBloc 23 = .ok (.iload_n 1, 1) := by decide +kernel
theorem dX3_makeBloc_24 : decode cX3_makeBloc 24 = .ok (.iastore, 1) := by decide +kernel
theorem dX3_makeBloc_25 : decode cX3_makeBloc 25 = .ok (.iinc 2 1, 3) := by decide +kernel
theorem dX3_makeBloc_28 : decode cX3_makeBloc 28 = .ok (.goto (-26), 3) := by decide +kernel
theorem dX3_makeBloc_31 : decode cX3_makeBloc 31 = .ok (.return_, 1) := by decide +kernel
theorem dX3_isLowest_0 : decode cX3_isLowest 0 = .ok (.aload_n 0, 1) := by decide +kernel
theorem dX3_isLowest_1 : decode cX3_isLowest 1 = .ok (.iload_n 1, 1) := by decide +kernel
theorem dX3_isLowest_2 : decode cX3_isLowest 2 = .ok (.invokevirtual 60, 3) := by decide +kernel
theorem dX3_isLowest_5 : decode cX3_isLowest 5 = .ok (.iload_n 1, 1) := by decide +kernel
theorem dX3_isLowest_6 : decode cX3_isLowest 6 = .ok (.if_icmp .ne 7, 3) := by decide +kernel
theorem dX3_isLowest_9 : decode cX3_isLowest 9 = .ok (.iconst 1, 1) := by decide +kernel
theorem dX3_isLowest_10 : decode cX3_isLowest 10 = .ok (.goto 4, 3) := by decide +kernel
theorem dX3_isLowest_13 : decode cX3_isLowest 13 = .ok (.iconst 0, 1) := by decide +kernel
theorem dX3_isLowest_14 : decode cX3_isLowest 14 = .ok (.ireturn, 1) := by decide +kernel
theorem dX3_lowestBeside_0 : decode cX3_lowestBeside 0 = .ok (.iconst 0, 1) := by decide +kernel
theorem dX3_lowestBeside_1 : decode cX3_lowestBeside 1 = .ok (.istore_n 2, 1) := by decide +kernel
theorem dX3_lowestBeside_2 : decode cX3_lowestBeside 2 = .ok (.iload_n 2, 1) := by decide +kernel
theorem dX3_lowestBeside_3 : decode cX3_lowestBeside 3 = .ok (.iload_n 1, 1) := by decide +kernel
theorem dX3_lowestBeside_4 : decode cX3_lowestBeside 4 = .ok (.if_icmp .ge 24, 3) := by decide +kernel
theorem dX3_lowestBeside_7 : decode cX3_lowestBeside 7 = .ok (.aload_n 0, 1) := by decide +kernel
theorem dX3_lowestBeside_8 : decode cX3_lowestBeside 8 = .ok (.getfield 19, 3) := by decide +kernel
theorem dX3_lowestBeside_11 : decode cX3_lowestBeside 11 = .ok (.iload_n 1, 1) := by decide +kernel
theorem dX3_lowestBeside_12 : decode cX3_lowestBeside 12 = .ok (.iaload, 1) := by decide +kernel
theorem dX3_lowestBeside_13 : decode cX3_lowestBeside 13 = .ok (.iload_n 2, 1) := by decide +kernel
theorem dX3_lowestBeside_14 : decode cX3_lowestBeside 14 = .ok (.invokestatic 56, 3) := by decide +kernel
theorem dX3_lowestBeside_17 : decode cX3_lowestBeside 17 = .ok (.ifCond .eq 5, 3) := by decide +kernel
theorem dX3_lowestBeside_20 : decode cX3_lowestBeside 20 = .ok (.iload_n 2, 1) := by decide +kernel
theorem dX3_lowestBeside_21 : decode cX3_lowestBeside 21 = .ok (.ireturn, 1) := by decide +kernel
theorem dX3_lowestBeside_22 : decode cX3_lowestBeside 22 = .ok (.iinc 2 1, 3) := by decide +kernel
theorem dX3_lowestBeside_25 : decode cX3_lowestBeside 25 = .ok (.goto (-23), 3) := by decide +kernel
theorem dX3_lowestBeside_28 : decode cX3_lowestBeside 28 = .ok (.iload_n 1, 1) := by decide +kernel
theorem dX3_lowestBeside_29 : decode cX3_lowestBeside 29 = .ok (.ireturn, 1) := by decide +kernel
theorem dX3_blocCount_0 : decode cX3_blocCount 0 = .ok (.iconst 0, 1) := by decide +kernel
theorem dX3_blocCount_1 : decode cX3_blocCount 1 = .ok (.istore_n 1, 1) := by decide +kernel
theorem dX3_blocCount_2 : decode cX3_blocCount 2 = .ok (.iconst 0, 1) := by decide +kernel
theorem dX3_blocCount_3 : decode cX3_blocCount 3 = .ok (.istore_n 2, 1) := by decide +kernel
theorem dX3_blocCount_4 : decode cX3_blocCount 4 = .ok (.iload_n 2, 1) := by decide +kernel
theorem dX3_blocCount_5 : decode cX3_blocCount 5 = .ok (.aload_n 0, 1) := by decide +kernel
theorem dX3_blocCount_6 : decode cX3_blocCount 6 = .ok (.getfield 32, 3) := by decide +kernel
theorem dX3_blocCount_9 : decode cX3_blocCount 9 = .ok (.if_icmp .ge 20, 3) := by decide +kernel
theorem dX3_blocCount_12 : decode cX3_blocCount 12 = .ok (.aload_n 0, 1) := by decide +kernel
theorem dX3_blocCount_13 : decode cX3_blocCount 13 = .ok (.iload_n 2, 1) := by decide +kernel
theorem dX3_blocCount_14 : decode cX3_blocCount 14 = .ok (.invokevirtual 63, 3) := by decide +kernel
theorem dX3_blocCount_17 : decode cX3_blocCount 17 = .ok (.ifCond .eq 6, 3) := by decide +kernel
theorem dX3_blocCount_20 : decode cX3_blocCount 20 = .ok (.iinc 1 1, 3) := by decide +kernel
theorem dX3_blocCount_23 : decode cX3_blocCount 23 = .ok (.iinc 2 1, 3) := by decide +kernel
theorem dX3_blocCount_26 : decode cX3_blocCount 26 = .ok (.goto (-22), 3) := by decide +kernel
theorem dX3_blocCount_29 : decode cX3_blocCount 29 = .ok (.iload_n 1, 1) := by decide +kernel
theorem dX3_blocCount_30 : decode cX3_blocCount 30 = .ok (.ireturn, 1) := by decide +kernel
theorem dX3_leaderOf_0 : decode cX3_leaderOf 0 = .ok (.aload_n 0, 1) := by decide +kernel
theorem dX3_leaderOf_1 : decode cX3_leaderOf 1 = .ok (.iload_n 1, 1) := by decide +kernel
theorem dX3_leaderOf_2 : decode cX3_leaderOf 2 = .ok (.invokevirtual 60, 3) := by decide +kernel
theorem dX3_leaderOf_5 : decode cX3_leaderOf 5 = .ok (.istore_n 2, 1) := by decide +kernel
theorem dX3_leaderOf_6 : decode cX3_leaderOf 6 = .ok (.iload_n 2, 1) := by decide +kernel
theorem dX3_leaderOf_7 : decode cX3_leaderOf 7 = .ok (.iconst 1, 1) := by decide +kernel
theorem dX3_leaderOf_8 : decode cX3_leaderOf 8 = .ok (.iadd, 1) := by decide +kernel
theorem dX3_leaderOf_9 : decode cX3_leaderOf 9 = .ok (.istore_n 3, 1) := by decide +kernel
theorem dX3_leaderOf_10 : decode cX3_leaderOf 10 = .ok (.iload_n 3, 1) := by decide +kernel
theorem dX3_leaderOf_11 : decode cX3_leaderOf 11 = .ok (.aload_n 0, 1) := by decide +kernel
theorem dX3_leaderOf_12 : decode cX3_leaderOf 12 = .ok (.getfield 32, 3) := by decide +kernel
theorem dX3_leaderOf_15 : decode cX3_leaderOf 15 = .ok (.if_icmp .ge 39, 3) := by decide +kernel
theorem dX3_leaderOf_18 : decode cX3_leaderOf 18 = .ok (.aload_n 0, 1) := by decide +kernel
theorem dX3_leaderOf_19 : decode cX3_leaderOf 19 = .ok (.getfield 19, 3) := by decide +kernel
theorem dX3_leaderOf_22 : decode cX3_leaderOf 22 = .ok (.iload_n 1, 1) := by decide +kernel
theorem dX3_leaderOf_23 : decode cX3_leaderOf 23 = .ok (.iaload, 1) := by decide +kernel
theorem dX3_leaderOf_24 : decode cX3_leaderOf 24 = .ok (.iload_n 3, 1) := by decide +kernel
theorem dX3_leaderOf_25 : decode cX3_leaderOf 25 = .ok (.invokestatic 56, 3) := by decide +kernel
theorem dX3_leaderOf_28 : decode cX3_leaderOf 28 = .ok (.ifCond .eq 20, 3) := by decide +kernel
theorem dX3_leaderOf_31 : decode cX3_leaderOf 31 = .ok (.aload_n 0, 1) := by decide +kernel
theorem dX3_leaderOf_32 : decode cX3_leaderOf 32 = .ok (.getfield 15, 3) := by decide +kernel
theorem dX3_leaderOf_35 : decode cX3_leaderOf 35 = .ok (.iload_n 3, 1) := by decide +kernel
theorem dX3_leaderOf_36 : decode cX3_leaderOf 36 = .ok (.iaload, 1) := by decide +kernel
theorem dX3_leaderOf_37 : decode cX3_leaderOf 37 = .ok (.aload_n 0, 1) := by decide +kernel
theorem dX3_leaderOf_38 : decode cX3_leaderOf 38 = .ok (.getfield 15, 3) := by decide +kernel
theorem dX3_leaderOf_41 : decode cX3_leaderOf 41 = .ok (.iload_n 2, 1) := by decide +kernel
theorem dX3_leaderOf_42 : decode cX3_leaderOf 42 = .ok (.iaload, 1) := by decide +kernel
theorem dX3_leaderOf_43 : decode cX3_leaderOf 43 = .ok (.if_icmp .le 5, 3) := by decide +kernel
theorem dX3_leaderOf_46 : decode cX3_leaderOf 46 = .ok (.iload_n 3, 1) := by decide +kernel
theorem dX3_leaderOf_47 : decode cX3_leaderOf 47 = .ok (.istore_n 2, 1) := by decide +kernel
theorem dX3_leaderOf_48 : decode cX3_leaderOf 48 = .ok (.iinc 3 1, 3) := by decide +kernel
theorem dX3_leaderOf_51 : decode cX3_leaderOf 51 = .ok (.goto (-41), 3) := by decide +kernel
theorem dX3_leaderOf_54 : decode cX3_leaderOf 54 = .ok (.iload_n 2, 1) := by decide +kernel
theorem dX3_leaderOf_55 : decode cX3_leaderOf 55 = .ok (.ireturn, 1) := by decide +kernel
theorem dX3_weightOf_0 : decode cX3_weightOf 0 = .ok (.iconst 0, 1) := by decide +kernel
theorem dX3_weightOf_1 : decode cX3_weightOf 1 = .ok (.istore_n 2, 1) := by decide +kernel
theorem dX3_weightOf_2 : decode cX3_weightOf 2 = .ok (.iconst 0, 1) := by decide +kernel
theorem dX3_weightOf_3 : decode cX3_weightOf 3 = .ok (.istore_n 3, 1) := by decide +kernel
theorem dX3_weightOf_4 : decode cX3_weightOf 4 = .ok (.iload_n 3, 1) := by decide +kernel
theorem dX3_weightOf_5 : decode cX3_weightOf 5 = .ok (.aload_n 0, 1) := by decide +kernel
theorem dX3_weightOf_6 : decode cX3_weightOf 6 = .ok (.getfield 32, 3) := by decide +kernel
theorem dX3_weightOf_9 : decode cX3_weightOf 9 = .ok (.if_icmp .ge 26, 3) := by decide +kernel
theorem dX3_weightOf_12 : decode cX3_weightOf 12 = .ok (.iload_n 1, 1) := by decide +kernel
theorem dX3_weightOf_13 : decode cX3_weightOf 13 = .ok (.iload_n 3, 1) := by decide +kernel
theorem dX3_weightOf_14 : decode cX3_weightOf 14 = .ok (.invokestatic 56, 3) := by decide +kernel
theorem dX3_weightOf_17 : decode cX3_weightOf 17 = .ok (.ifCond .eq 12, 3) := by decide +kernel
theorem dX3_weightOf_20 : decode cX3_weightOf 20 = .ok (.iload_n 2, 1) := by decide +kernel
theorem dX3_weightOf_21 : decode cX3_weightOf 21 = .ok (.aload_n 0, 1) := by decide +kernel
theorem dX3_weightOf_22 : decode cX3_weightOf 22 = .ok (.getfield 15, 3) := by decide +kernel
theorem dX3_weightOf_25 : decode cX3_weightOf 25 = .ok (.iload_n 3, 1) := by decide +kernel
theorem dX3_weightOf_26 : decode cX3_weightOf 26 = .ok (.iaload, 1) := by decide +kernel
theorem dX3_weightOf_27 : decode cX3_weightOf 27 = .ok (.iadd, 1) := by decide +kernel
theorem dX3_weightOf_28 : decode cX3_weightOf 28 = .ok (.istore_n 2, 1) := by decide +kernel
theorem dX3_weightOf_29 : decode cX3_weightOf 29 = .ok (.iinc 3 1, 3) := by decide +kernel
theorem dX3_weightOf_32 : decode cX3_weightOf 32 = .ok (.goto (-28), 3) := by decide +kernel
theorem dX3_weightOf_35 : decode cX3_weightOf 35 = .ok (.iload_n 2, 1) := by decide +kernel
theorem dX3_weightOf_36 : decode cX3_weightOf 36 = .ok (.ireturn, 1) := by decide +kernel
theorem dX3_wholeBlocsIn_0 : decode cX3_wholeBlocsIn 0 = .ok (.iconst 0, 1) := by decide +kernel
theorem dX3_wholeBlocsIn_1 : decode cX3_wholeBlocsIn 1 = .ok (.istore_n 2, 1) := by decide +kernel
theorem dX3_wholeBlocsIn_2 : decode cX3_wholeBlocsIn 2 = .ok (.iconst 0, 1) := by decide +kernel
theorem dX3_wholeBlocsIn_3 : decode cX3_wholeBlocsIn 3 = .ok (.istore_n 3, 1) := by decide +kernel
theorem dX3_wholeBlocsIn_4 : decode cX3_wholeBlocsIn 4 = .ok (.iload_n 3, 1) := by decide +kernel
theorem dX3_wholeBlocsIn_5 : decode cX3_wholeBlocsIn 5 = .ok (.aload_n 0, 1) := by decide +kernel
theorem dX3_wholeBlocsIn_6 : decode cX3_wholeBlocsIn 6 = .ok (.getfield 32, 3) := by decide +kernel
theorem dX3_wholeBlocsIn_9 : decode cX3_wholeBlocsIn 9 = .ok (.if_icmp .ge 29, 3) := by decide +kernel
theorem dX3_wholeBlocsIn_12 : decode cX3_wholeBlocsIn 12 = .ok (.aload_n 0, 1) := by decide +kernel
theorem dX3_wholeBlocsIn_13 : decode cX3_wholeBlocsIn 13 = .ok (.getfield 19, 3) := by decide +kernel
theorem dX3_wholeBlocsIn_16 : decode cX3_wholeBlocsIn 16 = .ok (.iload_n 3, 1) := by decide +kernel
theorem dX3_wholeBlocsIn_17 : decode cX3_wholeBlocsIn 17 = .ok (.iaload, 1) := by decide +kernel
theorem dX3_wholeBlocsIn_18 : decode cX3_wholeBlocsIn 18 = .ok (.iload_n 1, 1) := by decide +kernel
theorem dX3_wholeBlocsIn_19 : decode cX3_wholeBlocsIn 19 = .ok (.iconst (-1), 1) := by decide +kernel
theorem dX3_wholeBlocsIn_20 : decode cX3_wholeBlocsIn 20 = .ok (.ixor, 1) := by decide +kernel
theorem dX3_wholeBlocsIn_21 : decode cX3_wholeBlocsIn 21 = .ok (.iand, 1) := by decide +kernel
theorem dX3_wholeBlocsIn_22 : decode cX3_wholeBlocsIn 22 = .ok (.ifCond .ne 10, 3) := by decide +kernel
theorem dX3_wholeBlocsIn_25 : decode cX3_wholeBlocsIn 25 = .ok (.iload_n 2, 1) := by decide +kernel
theorem dX3_wholeBlocsIn_26 : decode cX3_wholeBlocsIn 26 = .ok (.iload_n 3, 1) := by decide +kernel
theorem dX3_wholeBlocsIn_27 : decode cX3_wholeBlocsIn 27 = .ok (.invokestatic 48, 3) := by decide +kernel
theorem dX3_wholeBlocsIn_30 : decode cX3_wholeBlocsIn 30 = .ok (.ior, 1) := by decide +kernel
theorem dX3_wholeBlocsIn_31 : decode cX3_wholeBlocsIn 31 = .ok (.istore_n 2, 1) := by decide +kernel
theorem dX3_wholeBlocsIn_32 : decode cX3_wholeBlocsIn 32 = .ok (.iinc 3 1, 3) := by decide +kernel
theorem dX3_wholeBlocsIn_35 : decode cX3_wholeBlocsIn 35 = .ok (.goto (-31), 3) := by decide +kernel
theorem dX3_wholeBlocsIn_38 : decode cX3_wholeBlocsIn 38 = .ok (.iload_n 2, 1) := by decide +kernel
theorem dX3_wholeBlocsIn_39 : decode cX3_wholeBlocsIn 39 = .ok (.ireturn, 1) := by decide +kernel
theorem dX3_isWinning_0 : decode cX3_isWinning 0 = .ok (.aload_n 0, 1) := by decide +kernel
theorem dX3_isWinning_1 : decode cX3_isWinning 1 = .ok (.iload_n 1, 1) := by decide +kernel
theorem dX3_isWinning_2 : decode cX3_isWinning 2 = .ok (.invokevirtual 67, 3) := by decide +kernel
theorem dX3_isWinning_5 : decode cX3_isWinning 5 = .ok (.aload_n 0, 1) := by decide +kernel
theorem dX3_isWinning_6 : decode cX3_isWinning 6 = .ok (.getfield 9, 3) := by decide +kernel
theorem dX3_isWinning_9 : decode cX3_isWinning 9 = .ok (.if_icmp .lt 18, 3) := by decide +kernel
theorem dX3_isWinning_12 : decode cX3_isWinning 12 = .ok (.aload_n 0, 1) := by decide +kernel
theorem dX3_isWinning_13 : decode cX3_isWinning 13 = .ok (.getfield 35, 3) := by decide +kernel
theorem dX3_isWinning_16 : decode cX3_isWinning 16 = .ok (.iload_n 1, 1) := by decide +kernel
theorem dX3_isWinning_17 : decode cX3_isWinning 17 = .ok (.iconst (-1), 1) := by decide +kernel
theorem dX3_isWinning_18 : decode cX3_isWinning 18 = .ok (.ixor, 1) := by decide +kernel
theorem dX3_isWinning_19 : decode cX3_isWinning 19 = .ok (.iand, 1) := by decide +kernel
theorem dX3_isWinning_20 : decode cX3_isWinning 20 = .ok (.ifCond .ne 7, 3) := by decide +kernel
theorem dX3_isWinning_23 : decode cX3_isWinning 23 = .ok (.iconst 1, 1) := by decide +kernel
theorem dX3_isWinning_24 : decode cX3_isWinning 24 = .ok (.goto 4, 3) := by decide +kernel
theorem dX3_isWinning_27 : decode cX3_isWinning 27 = .ok (.iconst 0, 1) := by decide +kernel
theorem dX3_isWinning_28 : decode cX3_isWinning 28 = .ok (.ireturn, 1) := by decide +kernel
theorem dX3_hold_0 : decode cX3_hold 0 = .ok (.iconst 0, 1) := by decide +kernel
theorem dX3_hold_1 : decode cX3_hold 1 = .ok (.istore_n 3, 1) := by decide +kernel
theorem dX3_hold_2 : decode cX3_hold 2 = .ok (.iconst 0, 1) := by decide +kernel
theorem dX3_hold_3 : decode cX3_hold 3 = .ok (.istore 4, 2) := by decide +kernel
theorem dX3_hold_5 : decode cX3_hold 5 = .ok (.iconst 0, 1) := by decide +kernel
theorem dX3_hold_6 : decode cX3_hold 6 = .ok (.istore 5, 2) := by decide +kernel
theorem dX3_hold_8 : decode cX3_hold 8 = .ok (.iload 5, 2) := by decide +kernel
theorem dX3_hold_10 : decode cX3_hold 10 = .ok (.aload_n 0, 1) := by decide +kernel
theorem dX3_hold_11 : decode cX3_hold 11 = .ok (.getfield 32, 3) := by decide +kernel
theorem dX3_hold_14 : decode cX3_hold 14 = .ok (.if_icmp .ge 54, 3) := by decide +kernel
theorem dX3_hold_17 : decode cX3_hold 17 = .ok (.aload_n 1, 1) := by decide +kernel
theorem dX3_hold_18 : decode cX3_hold 18 = .ok (.iload_n 2, 1) := by decide +kernel
theorem dX3_hold_19 : decode cX3_hold 19 = .ok (.aload_n 0, 1) := by decide +kernel
theorem dX3_hold_20 : decode cX3_hold 20 = .ok (.iload 5, 2) := by decide +kernel
theorem dX3_hold_22 : decode cX3_hold 22 = .ok (.invokevirtual 70, 3) := by decide +kernel
theorem dX3_hold_25 : decode cX3_hold 25 = .ok (.iadd, 1) := by decide +kernel
theorem dX3_hold_26 : decode cX3_hold 26 = .ok (.invokevirtual 73, 3) := by decide +kernel
theorem dX3_hold_29 : decode cX3_hold 29 = .ok (.istore 6, 2) := by decide +kernel
theorem dX3_hold_31 : decode cX3_hold 31 = .ok (.iload 6, 2) := by decide +kernel
theorem dX3_hold_33 : decode cX3_hold 33 = .ok (.bipush 43, 2) := by decide +kernel
theorem dX3_hold_35 : decode cX3_hold 35 = .ok (.if_icmp .ne 11, 3) := by decide +kernel
theorem dX3_hold_38 : decode cX3_hold 38 = .ok (.iload_n 3, 1) := by decide +kernel
theorem dX3_hold_39 : decode cX3_hold 39 = .ok (.iload 5, 2) := by decide +kernel
theorem dX3_hold_41 : decode cX3_hold 41 = .ok (.invokestatic 48, 3) := by decide +kernel
theorem dX3_hold_44 : decode cX3_hold 44 = .ok (.ior, 1) := by decide +kernel
theorem dX3_hold_45 : decode cX3_hold 45 = .ok (.istore_n 3, 1) := by decide +kernel
theorem dX3_hold_46 : decode cX3_hold 46 = .ok (.aload_n 1, 1) := by decide +kernel
theorem dX3_hold_47 : decode cX3_hold 47 = .ok (.iload_n 2, 1) := by decide +kernel
theorem dX3_hold_48 : decode cX3_hold 48 = .ok (.iload 5, 2) := by decide +kernel
theorem dX3_hold_50 : decode cX3_hold 50 = .ok (.iadd, 1) := by decide +kernel
