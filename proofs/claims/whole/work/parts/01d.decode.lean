theorem dX6_keep_12 : decode cX6_keep 12 = .ok (.iload_n 1, 1) := by decide +kernel
theorem dX6_keep_13 : decode cX6_keep 13 = .ok (.aload_n 0, 1) := by decide +kernel
theorem dX6_keep_14 : decode cX6_keep 14 = .ok (.getfield 7, 3) := by decide +kernel
theorem dX6_keep_17 : decode cX6_keep 17 = .ok (.iload_n 1, 1) := by decide +kernel
theorem dX6_keep_18 : decode cX6_keep 18 = .ok (.iaload, 1) := by decide +kernel
theorem dX6_keep_19 : decode cX6_keep 19 = .ok (.iastore, 1) := by decide +kernel
theorem dX6_keep_20 : decode cX6_keep 20 = .ok (.iinc 1 1, 3) := by decide +kernel
theorem dX6_keep_23 : decode cX6_keep 23 = .ok (.goto (-21), 3) := by decide +kernel
theorem dX6_keep_26 : decode cX6_keep 26 = .ok (.aload_n 0, 1) := by decide +kernel
theorem dX6_keep_27 : decode cX6_keep 27 = .ok (.iconst 1, 1) := by decide +kernel
theorem dX6_keep_28 : decode cX6_keep 28 = .ok (.putfield 46, 3) := by decide +kernel
theorem dX6_keep_31 : decode cX6_keep 31 = .ok (.aload_n 0, 1) := by decide +kernel
theorem dX6_keep_32 : decode cX6_keep 32 = .ok (.getfield 7, 3) := by decide +kernel
theorem dX6_keep_35 : decode cX6_keep 35 = .ok (.iconst 0, 1) := by decide +kernel
theorem dX6_keep_36 : decode cX6_keep 36 = .ok (.iaload, 1) := by decide +kernel
theorem dX6_keep_37 : decode cX6_keep 37 = .ok (.ireturn, 1) := by decide +kernel
theorem dX6_restore_0 : decode cX6_restore 0 = .ok (.aload_n 0, 1) := by decide +kernel
theorem dX6_restore_1 : decode cX6_restore 1 = .ok (.getfield 46, 3) := by decide +kernel
theorem dX6_restore_4 : decode cX6_restore 4 = .ok (.ifCond .ne 6, 3) := by decide +kernel
theorem dX6_restore_7 : decode cX6_restore 7 = .ok (.bipush (-5), 2) := by decide +kernel
theorem dX6_restore_9 : decode cX6_restore 9 = .ok (.ireturn, 1) := by decide +kernel
theorem dX6_restore_10 : decode cX6_restore 10 = .ok (.aload_n 0, 1) := by decide +kernel
theorem dX6_restore_11 : decode cX6_restore 11 = .ok (.invokevirtual 50, 3) := by decide +kernel
theorem dX6_restore_14 : decode cX6_restore 14 = .ok (.iconst 0, 1) := by decide +kernel
theorem dX6_restore_15 : decode cX6_restore 15 = .ok (.istore_n 1, 1) := by decide +kernel
theorem dX6_restore_16 : decode cX6_restore 16 = .ok (.iload_n 1, 1) := by decide +kernel
theorem dX6_restore_17 : decode cX6_restore 17 = .ok (.bipush 69, 2) := by decide +kernel
theorem dX6_restore_19 : decode cX6_restore 19 = .ok (.if_icmp .ge 21, 3) := by decide +kernel
theorem dX6_restore_22 : decode cX6_restore 22 = .ok (.aload_n 0, 1) := by decide +kernel
theorem dX6_restore_23 : decode cX6_restore 23 = .ok (.getfield 7, 3) := by decide +kernel
theorem dX6_restore_26 : decode cX6_restore 26 = .ok (.iload_n 1, 1) := by decide +kernel
theorem dX6_restore_27 : decode cX6_restore 27 = .ok (.aload_n 0, 1) := by decide +kernel
theorem dX6_restore_28 : decode cX6_restore 28 = .ok (.getfield 16, 3) := by decide +kernel
theorem dX6_restore_31 : decode cX6_restore 31 = .ok (.iload_n 1, 1) := by decide +kernel
theorem dX6_restore_32 : decode cX6_restore 32 = .ok (.iaload, 1) := by decide +kernel
theorem dX6_restore_33 : decode cX6_restore 33 = .ok (.iastore, 1) := by decide +kernel
theorem dX6_restore_34 : decode cX6_restore 34 = .ok (.iinc 1 1, 3) := by decide +kernel
theorem dX6_restore_37 : decode cX6_restore 37 = .ok (.goto (-21), 3) := by decide +kernel
theorem dX6_restore_40 : decode cX6_restore 40 = .ok (.aload_n 0, 1) := by decide +kernel
theorem dX6_restore_41 : decode cX6_restore 41 = .ok (.getfield 7, 3) := by decide +kernel
theorem dX6_restore_44 : decode cX6_restore 44 = .ok (.iconst 0, 1) := by decide +kernel
theorem dX6_restore_45 : decode cX6_restore 45 = .ok (.iaload, 1) := by decide +kernel
theorem dX6_restore_46 : decode cX6_restore 46 = .ok (.ireturn, 1) := by decide +kernel
theorem dX6_noMember_0 : decode cX6_noMember 0 = .ok (.iload_n 1, 1) := by decide +kernel
theorem dX6_noMember_1 : decode cX6_noMember 1 = .ok (.iconst 0, 1) := by decide +kernel
theorem dX6_noMember_2 : decode cX6_noMember 2 = .ok (.aload_n 0, 1) := by decide +kernel
theorem dX6_noMember_3 : decode cX6_noMember 3 = .ok (.getfield 7, 3) := by decide +kernel
theorem dX6_noMember_6 : decode cX6_noMember 6 = .ok (.iconst 0, 1) := by decide +kernel
theorem dX6_noMember_7 : decode cX6_noMember 7 = .ok (.iaload, 1) := by decide +kernel
theorem dX6_noMember_8 : decode cX6_noMember 8 = .ok (.iconst 1, 1) := by decide +kernel
theorem dX6_noMember_9 : decode cX6_noMember 9 = .ok (.isub, 1) := by decide +kernel
theorem dX6_noMember_10 : decode cX6_noMember 10 = .ok (.invokestatic 53, 3) := by decide +kernel
theorem dX6_noMember_13 : decode cX6_noMember 13 = .ok (.ifCond .ne 7, 3) := by decide +kernel
theorem dX6_noMember_16 : decode cX6_noMember 16 = .ok (.iconst 1, 1) := by decide +kernel
theorem dX6_noMember_17 : decode cX6_noMember 17 = .ok (.goto 4, 3) := by decide +kernel
theorem dX6_noMember_20 : decode cX6_noMember 20 = .ok (.iconst 0, 1) := by decide +kernel
theorem dX6_noMember_21 : decode cX6_noMember 21 = .ok (.ireturn, 1) := by decide +kernel
theorem dX6_addMember_0 : decode cX6_addMember 0 = .ok (.iload_n 1, 1) := by decide +kernel
theorem dX6_addMember_1 : decode cX6_addMember 1 = .ok (.iconst 0, 1) := by decide +kernel
theorem dX6_addMember_2 : decode cX6_addMember 2 = .ok (.bipush 50, 2) := by decide +kernel
theorem dX6_addMember_4 : decode cX6_addMember 4 = .ok (.invokestatic 53, 3) := by decide +kernel
theorem dX6_addMember_7 : decode cX6_addMember 7 = .ok (.ifCond .ne 6, 3) := by decide +kernel
theorem dX6_addMember_10 : decode cX6_addMember 10 = .ok (.bipush (-2), 2) := by decide +kernel
theorem dX6_addMember_12 : decode cX6_addMember 12 = .ok (.ireturn, 1) := by decide +kernel
theorem dX6_addMember_13 : decode cX6_addMember 13 = .ok (.aload_n 0, 1) := by decide +kernel
theorem dX6_addMember_14 : decode cX6_addMember 14 = .ok (.getfield 7, 3) := by decide +kernel
theorem dX6_addMember_17 : decode cX6_addMember 17 = .ok (.iconst 0, 1) := by decide +kernel
theorem dX6_addMember_18 : decode cX6_addMember 18 = .ok (.iaload, 1) := by decide +kernel
theorem dX6_addMember_19 : decode cX6_addMember 19 = .ok (.istore_n 2, 1) := by decide +kernel
theorem dX6_addMember_20 : decode cX6_addMember 20 = .ok (.iload_n 2, 1) := by decide +kernel
theorem dX6_addMember_21 : decode cX6_addMember 21 = .ok (.bipush 10, 2) := by decide +kernel
theorem dX6_addMember_23 : decode cX6_addMember 23 = .ok (.if_icmp .ne 6, 3) := by decide +kernel
theorem dX6_addMember_26 : decode cX6_addMember 26 = .ok (.bipush (-3), 2) := by decide +kernel
theorem dX6_addMember_28 : decode cX6_addMember 28 = .ok (.ireturn, 1) := by decide +kernel
theorem dX6_addMember_29 : decode cX6_addMember 29 = .ok (.aload_n 0, 1) := by decide +kernel
theorem dX6_addMember_30 : decode cX6_addMember 30 = .ok (.invokevirtual 50, 3) := by decide +kernel
theorem dX6_addMember_33 : decode cX6_addMember 33 = .ok (.aload_n 0, 1) := by decide +kernel
theorem dX6_addMember_34 : decode cX6_addMember 34 = .ok (.getfield 7, 3) := by decide +kernel
theorem dX6_addMember_37 : decode cX6_addMember 37 = .ok (.bipush 29, 2) := by decide +kernel
theorem dX6_addMember_39 : decode cX6_addMember 39 = .ok (.iload_n 2, 1) := by decide +kernel
theorem dX6_addMember_40 : decode cX6_addMember 40 = .ok (.iadd, 1) := by decide +kernel
theorem dX6_addMember_41 : decode cX6_addMember 41 = .ok (.iload_n 1, 1) := by decide +kernel
theorem dX6_addMember_42 : decode cX6_addMember 42 = .ok (.iastore, 1) := by decide +kernel
theorem dX6_addMember_43 : decode cX6_addMember 43 = .ok (.aload_n 0, 1) := by decide +kernel
theorem dX6_addMember_44 : decode cX6_addMember 44 = .ok (.getfield 7, 3) := by decide +kernel
theorem dX6_addMember_47 : decode cX6_addMember 47 = .ok (.bipush 39, 2) := by decide +kernel
theorem dX6_addMember_49 : decode cX6_addMember 49 = .ok (.iload_n 2, 1) := by decide +kernel
theorem dX6_addMember_50 : decode cX6_addMember 50 = .ok (.iadd, 1) := by decide +kernel
theorem dX6_addMember_51 : decode cX6_addMember 51 = .ok (.iconst 0, 1) := by decide +kernel
theorem dX6_addMember_52 : decode cX6_addMember 52 = .ok (.iastore, 1) := by decide +kernel
theorem dX6_addMember_53 : decode cX6_addMember 53 = .ok (.aload_n 0, 1) := by decide +kernel
theorem dX6_addMember_54 : decode cX6_addMember 54 = .ok (.getfield 7, 3) := by decide +kernel
theorem dX6_addMember_57 : decode cX6_addMember 57 = .ok (.bipush 49, 2) := by decide +kernel
theorem dX6_addMember_59 : decode cX6_addMember 59 = .ok (.iload_n 2, 1) := by decide +kernel
theorem dX6_addMember_60 : decode cX6_addMember 60 = .ok (.iadd, 1) := by decide +kernel
theorem dX6_addMember_61 : decode cX6_addMember 61 = .ok (.iload_n 2, 1) := by decide +kernel
theorem dX6_addMember_62 : decode cX6_addMember 62 = .ok (.iastore, 1) := by decide +kernel
theorem dX6_addMember_63 : decode cX6_addMember 63 = .ok (.aload_n 0, 1) := by decide +kernel
theorem dX6_addMember_64 : decode cX6_addMember 64 = .ok (.getfield 7, 3) := by decide +kernel
theorem dX6_addMember_67 : decode cX6_addMember 67 = .ok (.bipush 59, 2) := by decide +kernel
theorem dX6_addMember_69 : decode cX6_addMember 69 = .ok (.iload_n 2, 1) := by decide +kernel
theorem dX6_addMember_70 : decode cX6_addMember 70 = .ok (.iadd, 1) := by decide +kernel
theorem dX6_addMember_71 : decode cX6_addMember 71 = .ok (.iconst 0, 1) := by decide +kernel
theorem dX6_addMember_72 : decode cX6_addMember 72 = .ok (.iastore, 1) := by decide +kernel
theorem dX6_addMember_73 : decode cX6_addMember 73 = .ok (.aload_n 0, 1) := by decide +kernel
theorem dX6_addMember_74 : decode cX6_addMember 74 = .ok (.getfield 7, 3) := by decide +kernel
theorem dX6_addMember_77 : decode cX6_addMember 77 = .ok (.iconst 0, 1) := by decide +kernel
theorem dX6_addMember_78 : decode cX6_addMember 78 = .ok (.dup2, 1) := by decide +kernel
theorem dX6_addMember_79 : decode cX6_addMember 79 = .ok (.iaload, 1) := by decide +kernel
theorem dX6_addMember_80 : decode cX6_addMember 80 = .ok (.iconst 1, 1) := by decide +kernel
theorem dX6_addMember_81 : decode cX6_addMember 81 = .ok (.iadd, 1) := by decide +kernel
theorem dX6_addMember_82 : decode cX6_addMember 82 = .ok (.iastore, 1) := by decide +kernel
theorem dX6_addMember_83 : decode cX6_addMember 83 = .ok (.iload_n 2, 1) := by decide +kernel
theorem dX6_addMember_84 : decode cX6_addMember 84 = .ok (.ireturn, 1) := by decide +kernel
theorem dX6_part_0 : decode cX6_part 0 = .ok (.aload_n 0, 1) := by decide +kernel
theorem dX6_part_1 : decode cX6_part 1 = .ok (.getfield 7, 3) := by decide +kernel
theorem dX6_part_4 : decode cX6_part 4 = .ok (.bipush 49, 2) := by decide +kernel
theorem dX6_part_6 : decode cX6_part 6 = .ok (.iload_n 1, 1) := by decide +kernel
theorem dX6_part_7 : decode cX6_part 7 = .ok (.iadd, 1) := by decide +kernel
theorem dX6_part_8 : decode cX6_part 8 = .ok (.iaload, 1) := by decide +kernel
theorem dX6_part_9 : decode cX6_part 9 = .ok (.istore_n 2, 1) := by decide +kernel
theorem dX6_part_10 : decode cX6_part 10 = .ok (.bipush (-5), 2) := by decide +kernel
theorem dX6_part_12 : decode cX6_part 12 = .ok (.istore_n 3, 1) := by decide +kernel
theorem dX6_part_13 : decode cX6_part 13 = .ok (.iconst 0, 1) := by decide +kernel
theorem dX6_part_14 : decode cX6_part 14 = .ok (.istore 4, 2) := by decide +kernel
theorem dX6_part_16 : decode cX6_part 16 = .ok (.iload 4, 2) := by decide +kernel
theorem dX6_part_18 : decode cX6_part 18 = .ok (.aload_n 0, 1) := by decide +kernel
theorem dX6_part_19 : decode cX6_part 19 = .ok (.getfield 7, 3) := by decide +kernel
theorem dX6_part_22 : decode cX6_part 22 = .ok (.iconst 0, 1) := by decide +kernel
theorem dX6_part_23 : decode cX6_part 23 = .ok (.iaload, 1) := by decide +kernel
theorem dX6_part_24 : decode cX6_part 24 = .ok (.if_icmp .ge 51, 3) := by decide +kernel
theorem dX6_part_27 : decode cX6_part 27 = .ok (.iload 4, 2) := by decide +kernel
theorem dX6_part_29 : decode cX6_part 29 = .ok (.iload_n 1, 1) := by decide +kernel
theorem dX6_part_30 : decode cX6_part 30 = .ok (.if_icmp .eq 39, 3) := by decide +kernel
theorem dX6_part_33 : decode cX6_part 33 = .ok (.aload_n 0, 1) := by decide +kernel
theorem dX6_part_34 : decode cX6_part 34 = .ok (.getfield 7, 3) := by decide +kernel
theorem dX6_part_37 : decode cX6_part 37 = .ok (.bipush 49, 2) := by decide +kernel
theorem dX6_part_39 : decode cX6_part 39 = .ok (.iload 4, 2) := by decide +kernel
theorem dX6_part_41 : decode cX6_part 41 = .ok (.iadd, 1) := by decide +kernel
theorem dX6_part_42 : decode cX6_part 42 = .ok (.iaload, 1) := by decide +kernel
theorem dX6_part_43 : decode cX6_part 43 = .ok (.iload_n 2, 1) := by decide +kernel
theorem dX6_part_44 : decode cX6_part 44 = .ok (.if_icmp .ne 25, 3) := by decide +kernel
theorem dX6_part_47 : decode cX6_part 47 = .ok (.iload_n 3, 1) := by decide +kernel
theorem dX6_part_48 : decode cX6_part 48 = .ok (.ifCond .ge 8, 3) := by decide +kernel
theorem dX6_part_51 : decode cX6_part 51 = .ok (.iload 4, 2) := by decide +kernel
theorem dX6_part_53 : decode cX6_part 53 = .ok (.goto 4, 3) := by decide +kernel
theorem dX6_part_56 : decode cX6_part 56 = .ok (.iload_n 3, 1) := by decide +kernel
theorem dX6_part_57 : decode cX6_part 57 = .ok (.istore_n 3, 1) := by decide +kernel
theorem dX6_part_58 : decode cX6_part 58 = .ok (.aload_n 0, 1) := by decide +kernel
theorem dX6_part_59 : decode cX6_part 59 = .ok (.getfield 7, 3) := by decide +kernel
theorem dX6_part_62 : decode cX6_part 62 = .ok (.bipush 49, 2) := by decide +kernel
theorem dX6_part_64 : decode cX6_part 64 = .ok (.iload 4, 2) := by decide +kernel
theorem dX6_part_66 : decode cX6_part 66 = .ok (.iadd, 1) := by decide +kernel
theorem dX6_part_67 : decode cX6_part 67 = .ok (.iload_n 3, 1) := by decide +kernel
theorem dX6_part_68 : decode cX6_part 68 = .ok (.iastore, 1) := by decide +kernel
theorem dX6_part_69 : decode cX6_part 69 = .ok (.iinc 4 1, 3) := by decide +kernel
theorem dX6_part_72 : decode cX6_part 72 = .ok (.goto (-56), 3) := by decide +kernel
theorem dX6_part_75 : decode cX6_part 75 = .ok (.aload_n 0, 1) := by decide +kernel
theorem dX6_part_76 : decode cX6_part 76 = .ok (.getfield 7, 3) := by decide +kernel
theorem dX6_part_79 : decode cX6_part 79 = .ok (.bipush 49, 2) := by decide +kernel
theorem dX6_part_81 : decode cX6_part 81 = .ok (.iload_n 1, 1) := by decide +kernel
theorem dX6_part_82 : decode cX6_part 82 = .ok (.iadd, 1) := by decide +kernel
theorem dX6_part_83 : decode cX6_part 83 = .ok (.iload_n 1, 1) := by decide +kernel
theorem dX6_part_84 : decode cX6_part 84 = .ok (.iastore, 1) := by decide +kernel
theorem dX6_part_85 : decode cX6_part 85 = .ok (.return_, 1) := by decide +kernel
theorem dX6_removeMember_0 : decode cX6_removeMember 0 = .ok (.aload_n 0, 1) := by decide +kernel
theorem dX6_removeMember_1 : decode cX6_removeMember 1 = .ok (.iload_n 1, 1) := by decide +kernel
theorem dX6_removeMember_2 : decode cX6_removeMember 2 = .ok (.invokevirtual 57, 3) := by decide +kernel
theorem dX6_removeMember_5 : decode cX6_removeMember 5 = .ok (.ifCond .eq 5, 3) := by decide +kernel
theorem dX6_removeMember_8 : decode cX6_removeMember 8 = .ok (.iconst (-1), 1) := by decide +kernel
theorem dX6_removeMember_9 : decode cX6_removeMember 9 = .ok (.ireturn, 1) := by decide +kernel
theorem dX6_removeMember_10 : decode cX6_removeMember 10 = .ok (.aload_n 0, 1) := by decide +kernel
theorem dX6_removeMember_11 : decode cX6_removeMember 11 = .ok (.invokevirtual 50, 3) := by decide +kernel
theorem dX6_removeMember_14 : decode cX6_removeMember 14 = .ok (.aload_n 0, 1) := by decide +kernel
theorem dX6_removeMember_15 : decode cX6_removeMember 15 = .ok (.iload_n 1, 1) := by decide +kernel
theorem dX6_removeMember_16 : decode cX6_removeMember 16 = .ok (.invokevirtual 61, 3) := by decide +kernel
theorem dX6_removeMember_19 : decode cX6_removeMember 19 = .ok (.aload_n 0, 1) := by decide +kernel
theorem dX6_removeMember_20 : decode cX6_removeMember 20 = .ok (.getfield 7, 3) := by decide +kernel
theorem dX6_removeMember_23 : decode cX6_removeMember 23 = .ok (.iconst 0, 1) := by decide +kernel
theorem dX6_removeMember_24 : decode cX6_removeMember 24 = .ok (.dup2, 1) := by decide +kernel
theorem dX6_removeMember_25 : decode cX6_removeMember 25 = .ok (.iaload, 1) := by decide +kernel
theorem dX6_removeMember_26 : decode cX6_removeMember 26 = .ok (.iconst 1, 1) := by decide +kernel
theorem dX6_removeMember_27 : decode cX6_removeMember 27 = .ok (.isub, 1) := by decide +kernel
theorem dX6_removeMember_28 : decode cX6_removeMember 28 = .ok (.iastore, 1) := by decide +kernel
theorem dX6_removeMember_29 : decode cX6_removeMember 29 = .ok (.iload_n 1, 1) := by decide +kernel
theorem dX6_removeMember_30 : decode cX6_removeMember 30 = .ok (.istore_n 2, 1) := by decide +kernel
theorem dX6_removeMember_31 : decode cX6_removeMember 31 = .ok (.iload_n 2, 1) := by decide +kernel
theorem dX6_removeMember_32 : decode cX6_removeMember 32 = .ok (.aload_n 0, 1) := by decide +kernel
theorem dX6_removeMember_33 : decode cX6_removeMember 33 = .ok (.getfield 7, 3) := by decide +kernel
theorem dX6_removeMember_36 : decode cX6_removeMember 36 = .ok (.iconst 0, 1) := by decide +kernel
theorem dX6_removeMember_37 : decode cX6_removeMember 37 = .ok (.iaload, 1) := by decide +kernel
theorem dX6_removeMember_38 : decode cX6_removeMember 38 = .ok (.if_icmp .ge 89, 3) := by decide +kernel
theorem dX6_removeMember_41 : decode cX6_removeMember 41 = .ok (.aload_n 0, 1) := by decide +kernel
theorem dX6_removeMember_42 : decode cX6_removeMember 42 = .ok (.getfield 7, 3) := by decide +kernel
theorem dX6_removeMember_45 : decode cX6_removeMember 45 = .ok (.bipush 29, 2) := by decide +kernel
theorem dX6_removeMember_47 : decode cX6_removeMember 47 = .ok (.iload_n 2, 1) := by decide +kernel
theorem dX6_removeMember_48 : decode cX6_removeMember 48 = .ok (.iadd, 1) := by decide +kernel
theorem dX6_removeMember_49 : decode cX6_removeMember 49 = .ok (.aload_n 0, 1) := by decide +kernel
theorem dX6_removeMember_50 : decode cX6_removeMember 50 = .ok (.getfield 7, 3) := by decide +kernel
theorem dX6_removeMember_53 : decode cX6_removeMember 53 = .ok (.bipush 29, 2) := by decide +kernel
theorem dX6_removeMember_55 : decode cX6_removeMember 55 = .ok (.iload_n 2, 1) := by decide +kernel
theorem dX6_removeMember_56 : decode cX6_removeMember 56 = .ok (.iadd, 1) := by decide +kernel
theorem dX6_removeMember_57 : decode cX6_removeMember 57 = .ok (.iconst 1, 1) := by decide +kernel
theorem dX6_removeMember_58 : decode cX6_removeMember 58 = .ok (.iadd, 1) := by decide +kernel
theorem dX6_removeMember_59 : decode cX6_removeMember 59 = .ok (.iaload, 1) := by decide +kernel
theorem dX6_removeMember_60 : decode cX6_removeMember 60 = .ok (.iastore, 1) := by decide +kernel
theorem dX6_removeMember_61 : decode cX6_removeMember 61 = .ok (.aload_n 0, 1) := by decide +kernel
theorem dX6_removeMember_62 : decode cX6_removeMember 62 = .ok (.getfield 7, 3) := by decide +kernel
theorem dX6_removeMember_65 : decode cX6_removeMember 65 = .ok (.bipush 39, 2) := by decide +kernel
theorem dX6_removeMember_67 : decode cX6_removeMember 67 = .ok (.iload_n 2, 1) := by decide +kernel
theorem dX6_removeMember_68 : decode cX6_removeMember 68 = .ok (.iadd, 1) := by decide +kernel
theorem dX6_removeMember_69 : decode cX6_removeMember 69 = .ok (.aload_n 0, 1) := by decide +kernel
theorem dX6_removeMember_70 : decode cX6_removeMember 70 = .ok (.getfield 7, 3) := by decide +kernel
theorem dX6_removeMember_73 : decode cX6_removeMember 73 = .ok (.bipush 39, 2) := by decide +kernel
theorem dX6_removeMember_75 : decode cX6_removeMember 75 = .ok (.iload_n 2, 1) := by decide +kernel
theorem dX6_removeMember_76 : decode cX6_removeMember 76 = .ok (.iadd, 1) := by decide +kernel
theorem dX6_removeMember_77 : decode cX6_removeMember 77 = .ok (.iconst 1, 1) := by decide +kernel
theorem dX6_removeMember_78 : decode cX6_removeMember 78 = .ok (.iadd, 1) := by decide +kernel
theorem dX6_removeMember_79 : decode cX6_removeMember 79 = .ok (.iaload, 1) := by decide +kernel
theorem dX6_removeMember_80 : decode cX6_removeMember 80 = .ok (.iastore, 1) := by decide +kernel
theorem dX6_removeMember_81 : decode cX6_removeMember 81 = .ok (.aload_n 0, 1) := by decide +kernel
theorem dX6_removeMember_82 : decode cX6_removeMember 82 = .ok (.getfield 7, 3) := by decide +kernel
theorem dX6_removeMember_85 : decode cX6_removeMember 85 = .ok (.bipush 49, 2) := by decide +kernel
theorem dX6_removeMember_87 : decode cX6_removeMember 87 = .ok (.iload_n 2, 1) := by decide +kernel
theorem dX6_removeMember_88 : decode cX6_removeMember 88 = .ok (.iadd, 1) := by decide +kernel
theorem dX6_removeMember_89 : decode cX6_removeMember 89 = .ok (.aload_n 0, 1) := by decide +kernel
theorem dX6_removeMember_90 : decode cX6_removeMember 90 = .ok (.getfield 7, 3) := by decide +kernel
theorem dX6_removeMember_93 : decode cX6_removeMember 93 = .ok (.bipush 49, 2) := by decide +kernel
theorem dX6_removeMember_95 : decode cX6_removeMember 95 = .ok (.iload_n 2, 1) := by decide +kernel
theorem dX6_removeMember_96 : decode cX6_removeMember 96 = .ok (.iadd, 1) := by decide +kernel
theorem dX6_removeMember_97 : decode cX6_removeMember 97 = .ok (.iconst 1, 1) := by decide +kernel
theorem dX6_removeMember_98 : decode cX6_removeMember 98 = .ok (.iadd, 1) := by decide +kernel
theorem dX6_removeMember_99 : decode cX6_removeMember 99 = .ok (.iaload, 1) := by decide +kernel
theorem dX6_removeMember_100 : decode cX6_removeMember 100 = .ok (.iastore, 1) := by decide +kernel
theorem dX6_removeMember_101 : decode cX6_removeMember 101 = .ok (.aload_n 0, 1) := by decide +kernel
theorem dX6_removeMember_102 : decode cX6_removeMember 102 = .ok (.getfield 7, 3) := by decide +kernel
theorem dX6_removeMember_105 : decode cX6_removeMember 105 = .ok (.bipush 59, 2) := by decide +kernel
theorem dX6_removeMember_107 : decode cX6_removeMember 107 = .ok (.iload_n 2, 1) := by decide +kernel
theorem dX6_removeMember_108 : decode cX6_removeMember 108 = .ok (.iadd, 1) := by decide +kernel
theorem dX6_removeMember_109 : decode cX6_removeMember 109 = .ok (.aload_n 0, 1) := by decide +kernel
theorem dX6_removeMember_110 : decode cX6_removeMember 110 = .ok (.getfield 7, 3) := by decide +kernel
theorem dX6_removeMember_113 : decode cX6_removeMember 113 = .ok (.bipush 59, 2) := by decide +kernel
theorem dX6_removeMember_115 : decode cX6_removeMember 115 = .ok (.iload_n 2, 1) := by decide +kernel
theorem dX6_removeMember_116 : decode cX6_removeMember 116 = .ok (.iadd, 1) := by decide +kernel
theorem dX6_removeMember_117 : decode cX6_removeMember 117 = .ok (.iconst 1, 1) := by decide +kernel
theorem dX6_removeMember_118 : decode cX6_removeMember 118 = .ok (.iadd, 1) := by decide +kernel
theorem dX6_removeMember_119 : decode cX6_removeMember 119 = .ok (.iaload, 1) := by decide +kernel
theorem dX6_removeMember_120 : decode cX6_removeMember 120 = .ok (.iastore, 1) := by decide +kernel
theorem dX6_removeMember_121 : decode cX6_removeMember 121 = .ok (.iinc 2 1, 3) := by decide +kernel
theorem dX6_removeMember_124 : decode cX6_removeMember 124 = .ok (.goto (-93), 3) := by decide +kernel
theorem dX6_removeMember_127 : decode cX6_removeMember 127 = .ok (.iconst 0, 1) := by decide +kernel
theorem dX6_removeMember_128 : decode cX6_removeMember 128 = .ok (.istore_n 2, 1) := by decide +kernel
theorem dX6_removeMember_129 : decode cX6_removeMember 129 = .ok (.iload_n 2, 1) := by decide +kernel
theorem dX6_removeMember_130 : decode cX6_removeMember 130 = .ok (.aload_n 0, 1) := by decide +kernel
theorem dX6_removeMember_131 : decode cX6_removeMember 131 = .ok (.getfield 7, 3) := by decide +kernel
theorem dX6_removeMember_134 : decode cX6_removeMember 134 = .ok (.iconst 0, 1) := by decide +kernel
theorem dX6_removeMember_135 : decode cX6_removeMember 135 = .ok (.iaload, 1) := by decide +kernel
theorem dX6_removeMember_136 : decode cX6_removeMember 136 = .ok (.if_icmp .ge 39, 3) := by decide +kernel
theorem dX6_removeMember_139 : decode cX6_removeMember 139 = .ok (.aload_n 0, 1) := by decide +kernel
theorem dX6_removeMember_140 : decode cX6_removeMember 140 = .ok (.getfield 7, 3) := by decide +kernel
theorem dX6_removeMember_143 : decode cX6_removeMember 143 = .ok (.bipush 49, 2) := by decide +kernel
theorem dX6_removeMember_145 : decode cX6_removeMember 145 = .ok (.iload_n 2, 1) := by decide +kernel
theorem dX6_removeMember_146 : decode cX6_removeMember 146 = .ok (.iadd, 1) := by decide +kernel
theorem dX6_removeMember_147 : decode cX6_removeMember 147 = .ok (.dup2, 1) := by decide +kernel
theorem dX6_removeMember_148 : decode cX6_removeMember 148 = .ok (.iaload, 1) := by decide +kernel
theorem dX6_removeMember_149 : decode cX6_removeMember 149 = .ok (.aload_n 0, 1) := by decide +kernel
theorem dX6_removeMember_150 : decode cX6_removeMember 150 = .ok (.getfield 7, 3) := by decide +kernel
theorem dX6_removeMember_153 : decode cX6_removeMember 153 = .ok (.bipush 49, 2) := by decide +kernel
theorem dX6_removeMember_155 : decode cX6_removeMember 155 = .ok (.iload_n 2, 1) := by decide +kernel
theorem dX6_removeMember_156 : decode cX6_removeMember 156 = .ok (.iadd, 1) := by decide +kernel
theorem dX6_removeMember_157 : decode cX6_removeMember 157 = .ok (.iaload, 1) := by decide +kernel
theorem dX6_removeMember_158 : decode cX6_removeMember 158 = .ok (.iload_n 1, 1) := by decide +kernel
theorem dX6_removeMember_159 : decode cX6_removeMember 159 = .ok (.if_icmp .le 7, 3) := by decide +kernel
theorem dX6_removeMember_162 : decode cX6_removeMember 162 = .ok (.iconst 1, 1) := by decide +kernel
theorem dX6_removeMember_163 : decode cX6_removeMember 163 = .ok (.goto 4, 3) := by decide +kernel
theorem dX6_removeMember_166 : decode cX6_removeMember 166 = .ok (.iconst 0, 1) := by decide +kernel
theorem dX6_removeMember_167 : decode cX6_removeMember 167 = .ok (.isub, 1) := by decide +kernel
theorem dX6_removeMember_168 : decode cX6_removeMember 168 = .ok (.iastore, 1) := by decide +kernel
theorem dX6_removeMember_169 : decode cX6_removeMember 169 = .ok (.iinc 2 1, 3) := by decide +kernel
theorem dX6_removeMember_172 : decode cX6_removeMember 172 = .ok (.goto (-43), 3) := by decide +kernel
theorem dX6_removeMember_175 : decode cX6_removeMember 175 = .ok (.aload_n 0, 1) := by decide +kernel
theorem dX6_removeMember_176 : decode cX6_removeMember 176 = .ok (.getfield 7, 3) := by decide +kernel
theorem dX6_removeMember_179 : decode cX6_removeMember 179 = .ok (.iconst 0, 1) := by decide +kernel
theorem dX6_removeMember_180 : decode cX6_removeMember 180 = .ok (.iaload, 1) := by decide +kernel
theorem dX6_removeMember_181 : decode cX6_removeMember 181 = .ok (.ireturn, 1) := by decide +kernel
theorem dX6_set_0 : decode cX6_set 0 = .ok (.aload_n 0, 1) := by decide +kernel
theorem dX6_set_1 : decode cX6_set 1 = .ok (.getfield 7, 3) := by decide +kernel
theorem dX6_set_4 : decode cX6_set 4 = .ok (.iload_n 1, 1) := by decide +kernel
theorem dX6_set_5 : decode cX6_set 5 = .ok (.iaload, 1) := by decide +kernel
theorem dX6_set_6 : decode cX6_set 6 = .ok (.istore_n 3, 1) := by decide +kernel
theorem dX6_set_7 : decode cX6_set 7 = .ok (.iload_n 3, 1) := by decide +kernel
theorem dX6_set_8 : decode cX6_set 8 = .ok (.iload_n 2, 1) := by decide +kernel
theorem dX6_set_9 : decode cX6_set 9 = .ok (.if_icmp .ne 6, 3) := by decide +kernel
theorem dX6_set_12 : decode cX6_set 12 = .ok (.bipush (-5), 2) := by decide +kernel
theorem dX6_set_14 : decode cX6_set 14 = .ok (.ireturn, 1) := by decide +kernel
theorem dX6_set_15 : decode cX6_set 15 = .ok (.aload_n 0, 1) := by decide +kernel
theorem dX6_set_16 : decode cX6_set 16 = .ok (.invokevirtual 50, 3) := by decide +kernel
theorem dX6_set_19 : decode cX6_set 19 = .ok (.aload_n 0, 1) := by decide +kernel
theorem dX6_set_20 : decode cX6_set 20 = .ok (.getfield 7, 3) := by decide +kernel
theorem dX6_set_23 : decode cX6_set 23 = .ok (.iload_n 1, 1) := by decide +kernel
theorem dX6_set_24 : decode cX6_set 24 = .ok (.iload_n 2, 1) := by decide +kernel
theorem dX6_set_25 : decode cX6_set 25 = .ok (.iastore, 1) := by decide +kernel
theorem dX6_set_26 : decode cX6_set 26 = .ok (.iload_n 3, 1) := by decide +kernel
theorem dX6_set_27 : decode cX6_set 27 = .ok (.ireturn, 1) := by decide +kernel
theorem dX6_setWeight_0 : decode cX6_setWeight 0 = .ok (.aload_n 0, 1) := by decide +kernel
theorem dX6_setWeight_1 : decode cX6_setWeight 1 = .ok (.iload_n 1, 1) := by decide +kernel
theorem dX6_setWeight_2 : decode cX6_setWeight 2 = .ok (.invokevirtual 57, 3) := by decide +kernel
theorem dX6_setWeight_5 : decode cX6_setWeight 5 = .ok (.ifCond .eq 5, 3) := by decide +kernel
theorem dX6_setWeight_8 : decode cX6_setWeight 8 = .ok (.iconst (-1), 1) := by decide +kernel
theorem dX6_setWeight_9 : decode cX6_setWeight 9 = .ok (.ireturn, 1) := by decide +kernel
theorem dX6_setWeight_10 : decode cX6_setWeight 10 = .ok (.iload_n 2, 1) := by decide +kernel
theorem dX6_setWeight_11 : decode cX6_setWeight 11 = .ok (.iconst 0, 1) := by decide +kernel
theorem dX6_setWeight_12 : decode cX6_setWeight 12 = .ok (.bipush 50, 2) := by decide +kernel
theorem dX6_setWeight_14 : decode cX6_setWeight 14 = .ok (.invokestatic 53, 3) := by decide +kernel
theorem dX6_setWeight_17 : decode cX6_setWeight 17 = .ok (.ifCond .eq 15, 3) := by decide +kernel
theorem dX6_setWeight_20 : decode cX6_setWeight 20 = .ok (.aload_n 0, 1) := by decide +kernel
theorem dX6_setWeight_21 : decode cX6_setWeight 21 = .ok (.bipush 29, 2) := by decide +kernel
theorem dX6_setWeight_23 : decode cX6_setWeight 23 = .ok (.iload_n 1, 1) := by decide +kernel
theorem dX6_setWeight_24 : decode cX6_setWeight 24 = .ok (.iadd, 1) := by decide +kernel
theorem dX6_setWeight_25 : decode cX6_setWeight 25 = .ok (.iload_n 2, 1) := by decide +kernel
theorem dX6_setWeight_26 : decode cX6_setWeight 26 = .ok (.invokevirtual 65, 3) := by decide +kernel
theorem dX6_setWeight_29 : decode cX6_setWeight 29 = .ok (.goto 5, 3) := by decide +kernel
theorem dX6_setWeight_32 : decode cX6_setWeight 32 = .ok (.bipush (-2), 2) := by decide +kernel
theorem dX6_setWeight_34 : decode cX6_setWeight 34 = .ok (.ireturn, 1) := by decide +kernel
theorem dX6_withVeto_0 : decode cX6_withVeto 0 = .ok (.iconst 0, 1) := by decide +kernel
theorem dX6_withVeto_1 : decode cX6_withVeto 1 = .ok (.istore_n 1, 1) := by decide +kernel
theorem dX6_withVeto_2 : decode cX6_withVeto 2 = .ok (.iconst 0, 1) := by decide +kernel
theorem dX6_withVeto_3 : decode cX6_withVeto 3 = .ok (.istore_n 2, 1) := by decide +kernel
theorem dX6_withVeto_4 : decode cX6_withVeto 4 = .ok (.iload_n 2, 1) := by decide +kernel
theorem dX6_withVeto_5 : decode cX6_withVeto 5 = .ok (.aload_n 0, 1) := by decide +kernel
theorem dX6_withVeto_6 : decode cX6_withVeto 6 = .ok (.getfield 7, 3) := by decide +kernel
theorem dX6_withVeto_9 : decode cX6_withVeto 9 = .ok (.iconst 0, 1) := by decide +kernel
theorem dX6_withVeto_10 : decode cX6_withVeto 10 = .ok (.iaload, 1) := by decide +kernel
theorem dX6_withVeto_11 : decode cX6_withVeto 11 = .ok (.if_icmp .ge 21, 3) := by decide +kernel
theorem dX6_withVeto_14 : decode cX6_withVeto 14 = .ok (.iload_n 1, 1) := by decide +kernel
theorem dX6_withVeto_15 : decode cX6_withVeto 15 = .ok (.aload_n 0, 1) := by decide +kernel
theorem dX6_withVeto_16 : decode cX6_withVeto 16 = .ok (.getfield 7, 3) := by decide +kernel
theorem dX6_withVeto_19 : decode cX6_withVeto 19 = .ok (.bipush 39, 2) := by decide +kernel
theorem dX6_withVeto_21 : decode cX6_withVeto 21 = .ok (.iload_n 2, 1) := by decide +kernel
theorem dX6_withVeto_22 : decode cX6_withVeto 22 = .ok (.iadd, 1) := by decide +kernel
theorem dX6_withVeto_23 : decode cX6_withVeto 23 = .ok (.iaload, 1) := by decide +kernel
theorem dX6_withVeto_24 : decode cX6_withVeto 24 = .ok (.iadd, 1) := by decide +kernel
theorem dX6_withVeto_25 : decode cX6_withVeto 25 = .ok (.istore_n 1, 1) := by decide +kernel
theorem dX6_withVeto_26 : decode cX6_withVeto 26 = .ok (.iinc 2 1, 3) := by decide +kernel
theorem dX6_withVeto_29 : decode cX6_withVeto 29 = .ok (.goto (-25), 3) := by decide +kernel
theorem dX6_withVeto_32 : decode cX6_withVeto 32 = .ok (.iload_n 1, 1) := by decide +kernel
theorem dX6_withVeto_33 : decode cX6_withVeto 33 = .ok (.ireturn, 1) := by decide +kernel
theorem dX6_setVeto_0 : decode cX6_setVeto 0 = .ok (.aload_n 0, 1) := by decide +kernel
theorem dX6_setVeto_1 : decode cX6_setVeto 1 = .ok (.iload_n 1, 1) := by decide +kernel
theorem dX6_setVeto_2 : decode cX6_setVeto 2 = .ok (.invokevirtual 57, 3) := by decide +kernel
theorem dX6_setVeto_5 : decode cX6_setVeto 5 = .ok (.ifCond .eq 5, 3) := by decide +kernel
theorem dX6_setVeto_8 : decode cX6_setVeto 8 = .ok (.iconst (-1), 1) := by decide +kernel
theorem dX6_setVeto_9 : decode cX6_setVeto 9 = .ok (.ireturn, 1) := by decide +kernel
theorem dX6_setVeto_10 : decode cX6_setVeto 10 = .ok (.iload_n 2, 1) := by decide +kernel
theorem dX6_setVeto_11 : decode cX6_setVeto 11 = .ok (.ifCond .eq 7, 3) := by decide +kernel
theorem dX6_setVeto_14 : decode cX6_setVeto 14 = .ok (.iconst 1, 1) := by decide +kernel
theorem dX6_setVeto_15 : decode cX6_setVeto 15 = .ok (.goto 4, 3) := by decide +kernel
theorem dX6_setVeto_18 : decode cX6_setVeto 18 = .ok (.iconst 0, 1) := by decide +kernel
theorem dX6_setVeto_19 : decode cX6_setVeto 19 = .ok (.istore_n 3, 1) := by decide +kernel
theorem dX6_setVeto_20 : decode cX6_setVeto 20 = .ok (.aload_n 0, 1) := by decide +kernel
theorem dX6_setVeto_21 : decode cX6_setVeto 21 = .ok (.getfield 7, 3) := by decide +kernel
theorem dX6_setVeto_24 : decode cX6_setVeto 24 = .ok (.bipush 39, 2) := by decide +kernel
theorem dX6_setVeto_26 : decode cX6_setVeto 26 = .ok (.iload_n 1, 1) := by decide +kernel
theorem dX6_setVeto_27 : decode cX6_setVeto 27 = .ok (.iadd, 1) := by decide +kernel
theorem dX6_setVeto_28 : decode cX6_setVeto 28 = .ok (.iaload, 1) := by decide +kernel
theorem dX6_setVeto_29 : decode cX6_setVeto 29 = .ok (.iload_n 3, 1) := by decide +kernel
theorem dX6_setVeto_30 : decode cX6_setVeto 30 = .ok (.if_icmp .ne 6, 3) := by decide +kernel
theorem dX6_setVeto_33 : decode cX6_setVeto 33 = .ok (.bipush (-5), 2) := by decide +kernel
theorem dX6_setVeto_35 : decode cX6_setVeto 35 = .ok (.ireturn, 1) := by decide +kernel
theorem dX6_setVeto_36 : decode cX6_setVeto 36 = .ok (.aload_n 0, 1) := by decide +kernel
theorem dX6_setVeto_37 : decode cX6_setVeto 37 = .ok (.invokevirtual 50, 3) := by decide +kernel
theorem dX6_setVeto_40 : decode cX6_setVeto 40 = .ok (.aload_n 0, 1) := by decide +kernel
theorem dX6_setVeto_41 : decode cX6_setVeto 41 = .ok (.getfield 7, 3) := by decide +kernel
theorem dX6_setVeto_44 : decode cX6_setVeto 44 = .ok (.bipush 39, 2) := by decide +kernel
theorem dX6_setVeto_46 : decode cX6_setVeto 46 = .ok (.iload_n 1, 1) := by decide +kernel
theorem dX6_setVeto_47 : decode cX6_setVeto 47 = .ok (.iadd, 1) := by decide +kernel
theorem dX6_setVeto_48 : decode cX6_setVeto 48 = .ok (.iload_n 3, 1) := by decide +kernel
theorem dX6_setVeto_49 : decode cX6_setVeto 49 = .ok (.iastore, 1) := by decide +kernel
theorem dX6_setVeto_50 : decode cX6_setVeto 50 = .ok (.aload_n 0, 1) := by decide +kernel
theorem dX6_setVeto_51 : decode cX6_setVeto 51 = .ok (.invokevirtual 69, 3) := by decide +kernel
theorem dX6_setVeto_54 : decode cX6_setVeto 54 = .ok (.ireturn, 1) := by decide +kernel
theorem dX6_setQuota_0 : decode cX6_setQuota 0 = .ok (.iload_n 1, 1) := by decide +kernel
theorem dX6_setQuota_1 : decode cX6_setQuota 1 = .ok (.iconst 1, 1) := by decide +kernel
theorem dX6_setQuota_2 : decode cX6_setQuota 2 = .ok (.sipush 500, 3) := by decide +kernel
theorem dX6_setQuota_5 : decode cX6_setQuota 5 = .ok (.invokestatic 53, 3) := by decide +kernel
theorem dX6_setQuota_8 : decode cX6_setQuota 8 = .ok (.ifCond .eq 12, 3) := by decide +kernel
theorem dX6_setQuota_11 : decode cX6_setQuota 11 = .ok (.aload_n 0, 1) := by decide +kernel
theorem dX6_setQuota_12 : decode cX6_setQuota 12 = .ok (.iconst 1, 1) := by decide +kernel
theorem dX6_setQuota_13 : decode cX6_setQuota 13 = .ok (.iload_n 1, 1) := by decide +kernel
theorem dX6_setQuota_14 : decode cX6_setQuota 14 = .ok (.invokevirtual 65, 3) := by decide +kernel
theorem dX6_setQuota_17 : decode cX6_setQuota 17 = .ok (.goto 5, 3) := by decide +kernel
theorem dX6_setQuota_20 : decode cX6_setQuota 20 = .ok (.bipush (-2), 2) := by decide +kernel
theorem dX6_setQuota_22 : decode cX6_setQuota 22 = .ok (.ireturn, 1) := by decide +kernel
theorem dX6_size_0 : decode cX6_size 0 = .ok (.iconst 0, 1) := by decide +kernel
theorem dX6_size_1 : decode cX6_size 1 = .ok (.istore_n 2, 1) := by decide +kernel
theorem dX6_size_2 : decode cX6_size 2 = .ok (.iconst 0, 1) := by decide +kernel
theorem dX6_size_3 : decode cX6_size 3 = .ok (.istore_n 3, 1) := by decide +kernel
theorem dX6_size_4 : decode cX6_size 4 = .ok (.iload_n 3, 1) := by decide +kernel
theorem dX6_size_5 : decode cX6_size 5 = .ok (.aload_n 0, 1) := by decide +kernel
theorem dX6_size_6 : decode cX6_size 6 = .ok (.getfield 7, 3) := by decide +kernel
theorem dX6_size_9 : decode cX6_size 9 = .ok (.iconst 0, 1) := by decide +kernel
theorem dX6_size_10 : decode cX6_size 10 = .ok (.iaload, 1) := by decide +kernel
theorem dX6_size_11 : decode cX6_size 11 = .ok (.if_icmp .ge 30, 3) := by decide +kernel
theorem dX6_size_14 : decode cX6_size 14 = .ok (.iload_n 2, 1) := by decide +kernel
theorem dX6_size_15 : decode cX6_size 15 = .ok (.aload_n 0, 1) := by decide +kernel
theorem dX6_size_16 : decode cX6_size 16 = .ok (.getfield 7, 3) := by decide +kernel
theorem dX6_size_19 : decode cX6_size 19 = .ok (.bipush 49, 2) := by decide +kernel
theorem dX6_size_21 : decode cX6_size 21 = .ok (.iload_n 3, 1) := by decide +kernel
theorem dX6_size_22 : decode cX6_size 22 = .ok (.iadd, 1) := by decide +kernel
theorem dX6_size_23 : decode cX6_size 23 = .ok (.iaload, 1) := by decide +kernel
theorem dX6_size_24 : decode cX6_size 24 = .ok (.iload_n 1, 1) := by decide +kernel
theorem dX6_size_25 : decode cX6_size 25 = .ok (.if_icmp .ne 7, 3) := by decide +kernel
theorem dX6_size_28 : decode cX6_size 28 = .ok (.iconst 1, 1) := by decide +kernel
theorem dX6_size_29 : decode cX6_size 29 = .ok (.goto 4, 3) := by decide +kernel
theorem dX6_size_32 : decode cX6_size 32 = .ok (.iconst 0, 1) := by decide +kernel
theorem dX6_size_33 : decode cX6_size 33 = .ok (.iadd, 1) := by decide +kernel
theorem dX6_size_34 : decode cX6_size 34 = .ok (.istore_n 2, 1) := by decide +kernel
theorem dX6_size_35 : decode cX6_size 35 = .ok (.iinc 3 1, 3) := by decide +kernel
theorem dX6_size_38 : decode cX6_size 38 = .ok (.goto (-34), 3) := by decide +kernel
theorem dX6_size_41 : decode cX6_size 41 = .ok (.iload_n 2, 1) := by decide +kernel
theorem dX6_size_42 : decode cX6_size 42 = .ok (.ireturn, 1) := by decide +kernel
theorem dX6_join_0 : decode cX6_join 0 = .ok (.aload_n 0, 1) := by decide +kernel
theorem dX6_join_1 : decode cX6_join 1 = .ok (.iload_n 1, 1) := by decide +kernel
theorem dX6_join_2 : decode cX6_join 2 = .ok (.invokevirtual 57, 3) := by decide +kernel
theorem dX6_join_5 : decode cX6_join 5 = .ok (.ifCond .ne 11, 3) := by decide +kernel
theorem dX6_join_8 : decode cX6_join 8 = .ok (.aload_n 0, 1) := by decide +kernel
theorem dX6_join_9 : decode cX6_join 9 = .ok (.iload_n 2, 1) := by decide +kernel
theorem dX6_join_10 : decode cX6_join 10 = .ok (.invokevirtual 57, 3) := by decide +kernel
theorem dX6_join_13 : decode cX6_join 13 = .ok (.ifCond .eq 5, 3) := by decide +kernel
theorem dX6_join_16 : decode cX6_join 16 = .ok (.iconst (-1), 1) := by decide +kernel
theorem dX6_join_17 : decode cX6_join 17 = .ok (.ireturn, 1) := by decide +kernel
theorem dX6_join_18 : decode cX6_join 18 = .ok (.aload_n 0, 1) := by decide +kernel
theorem dX6_join_19 : decode cX6_join 19 = .ok (.getfield 7, 3) := by decide +kernel
theorem dX6_join_22 : decode cX6_join 22 = .ok (.bipush 49, 2) := by decide +kernel
theorem dX6_join_24 : decode cX6_join 24 = .ok (.iload_n 1, 1) := by decide +kernel
theorem dX6_join_25 : decode cX6_join 25 = .ok (.iadd, 1) := by decide +kernel
theorem dX6_join_26 : decode cX6_join 26 = .ok (.iaload, 1) := by decide +kernel
theorem dX6_join_27 : decode cX6_join 27 = .ok (.istore_n 3, 1) := by decide +kernel
theorem dX6_join_28 : decode cX6_join 28 = .ok (.aload_n 0, 1) := by decide +kernel
theorem dX6_join_29 : decode cX6_join 29 = .ok (.getfield 7, 3) := by decide +kernel
theorem dX6_join_32 : decode cX6_join 32 = .ok (.bipush 49, 2) := by decide +kernel
theorem dX6_join_34 : decode cX6_join 34 = .ok (.iload_n 2, 1) := by decide +kernel
theorem dX6_join_35 : decode cX6_join 35 = .ok (.iadd, 1) := by decide +kernel
theorem dX6_join_36 : decode cX6_join 36 = .ok (.iaload, 1) := by decide +kernel
theorem dX6_join_37 : decode cX6_join 37 = .ok (.istore 4, 2) := by decide +kernel
theorem dX6_join_39 : decode cX6_join 39 = .ok (.iload_n 3, 1) := by decide +kernel
theorem dX6_join_40 : decode cX6_join 40 = .ok (.iload 4, 2) := by decide +kernel
theorem dX6_join_42 : decode cX6_join 42 = .ok (.if_icmp .ne 6, 3) := by decide +kernel
theorem dX6_join_45 : decode cX6_join 45 = .ok (.bipush (-5), 2) := by decide +kernel
theorem dX6_join_47 : decode cX6_join 47 = .ok (.ireturn, 1) := by decide +kernel
theorem dX6_join_48 : decode cX6_join 48 = .ok (.aload_n 0, 1) := by decide +kernel
theorem dX6_join_49 : decode cX6_join 49 = .ok (.invokevirtual 50, 3) := by decide +kernel
theorem dX6_join_52 : decode cX6_join 52 = .ok (.iload_n 3, 1) := by decide +kernel
theorem dX6_join_53 : decode cX6_join 53 = .ok (.iload 4, 2) := by decide +kernel
theorem dX6_join_55 : decode cX6_join 55 = .ok (.if_icmp .ge 7, 3) := by decide +kernel
theorem dX6_join_58 : decode cX6_join 58 = .ok (.iload_n 3, 1) := by decide +kernel
theorem dX6_join_59 : decode cX6_join 59 = .ok (.goto 5, 3) := by decide +kernel
theorem dX6_join_62 : decode cX6_join 62 = .ok (.iload 4, 2) := by decide +kernel
theorem dX6_join_64 : decode cX6_join 64 = .ok (.istore 5, 2) := by decide +kernel
theorem dX6_join_66 : decode cX6_join 66 = .ok (.iconst 0, 1) := by decide +kernel
theorem dX6_join_67 : decode cX6_join 67 = .ok (.istore 6, 2) := by decide +kernel
theorem dX6_join_69 : decode cX6_join 69 = .ok (.iload 6, 2) := by decide +kernel
theorem dX6_join_71 : decode cX6_join 71 = .ok (.aload_n 0, 1) := by decide +kernel
theorem dX6_join_72 : decode cX6_join 72 = .ok (.getfield 7, 3) := by decide +kernel
theorem dX6_join_75 : decode cX6_join 75 = .ok (.iconst 0, 1) := by decide +kernel
theorem dX6_join_76 : decode cX6_join 76 = .ok (.iaload, 1) := by decide +kernel
theorem dX6_join_77 : decode cX6_join 77 = .ok (.if_icmp .ge 63, 3) := by decide +kernel
theorem dX6_join_80 : decode cX6_join 80 = .ok (.aload_n 0, 1) := by decide +kernel
theorem dX6_join_81 : decode cX6_join 81 = .ok (.getfield 7, 3) := by decide +kernel
theorem dX6_join_84 : decode cX6_join 84 = .ok (.bipush 49, 2) := by decide +kernel
theorem dX6_join_86 : decode cX6_join 86 = .ok (.iload 6, 2) := by decide +kernel
theorem dX6_join_88 : decode cX6_join 88 = .ok (.iadd, 1) := by decide +kernel
theorem dX6_join_89 : decode cX6_join 89 = .ok (.aload_n 0, 1) := by decide +kernel
theorem dX6_join_90 : decode cX6_join 90 = .ok (.getfield 7, 3) := by decide +kernel
theorem dX6_join_93 : decode cX6_join 93 = .ok (.bipush 49, 2) := by decide +kernel
theorem dX6_join_95 : decode cX6_join 95 = .ok (.iload 6, 2) := by decide +kernel
theorem dX6_join_97 : decode cX6_join 97 = .ok (.iadd, 1) := by decide +kernel
theorem dX6_join_98 : decode cX6_join 98 = .ok (.iaload, 1) := by decide +kernel
theorem dX6_join_99 : decode cX6_join 99 = .ok (.iload_n 3, 1) := by decide +kernel
theorem dX6_join_100 : decode cX6_join 100 = .ok (.if_icmp .eq 18, 3) := by decide +kernel
theorem dX6_join_103 : decode cX6_join 103 = .ok (.aload_n 0, 1) := by decide +kernel
theorem dX6_join_104 : decode cX6_join 104 = .ok (.getfield 7, 3) := by decide +kernel
theorem dX6_join_107 : decode cX6_join 107 = .ok (.bipush 49, 2) := by decide +kernel
theorem dX6_join_109 : decode cX6_join 109 = .ok (.iload 6, 2) := by decide +kernel
theorem dX6_join_111 : decode cX6_join 111 = .ok (.iadd, 1) := by decide +kernel
theorem dX6_join_112 : decode cX6_join 112 = .ok (.iaload, 1) := by decide +kernel
theorem dX6_join_113 : decode cX6_join 113 = .ok (.iload 4, 2) := by decide +kernel
theorem dX6_join_115 : decode cX6_join 115 = .ok (.if_icmp .ne 8, 3) := by decide +kernel
theorem dX6_join_118 : decode cX6_join 118 = .ok (.iload 5, 2) := by decide +kernel
theorem dX6_join_120 : decode cX6_join 120 = .ok (.goto 13, 3) := by decide +kernel
theorem dX6_join_123 : decode cX6_join 123 = .ok (.aload_n 0, 1) := by decide +kernel
theorem dX6_join_124 : decode cX6_join 124 = .ok (.getfield 7, 3) := by decide +kernel
theorem dX6_join_127 : decode cX6_join 127 = .ok (.bipush 49, 2) := by decide +kernel
theorem dX6_join_129 : decode cX6_join 129 = .ok (.iload 6, 2) := by decide +kernel
theorem dX6_join_131 : decode cX6_join 131 = .ok (.iadd, 1) := by decide +kernel
theorem dX6_join_132 : decode cX6_join 132 = .ok (.iaload, 1) := by decide +kernel
theorem dX6_join_133 : decode cX6_join 133 = .ok (.iastore, 1) := by decide +kernel
theorem dX6_join_134 : decode cX6_join 134 = .ok (.iinc 6 1, 3) := by decide +kernel
theorem dX6_join_137 : decode cX6_join 137 = .ok (.goto (-68), 3) := by decide +kernel
theorem dX6_join_140 : decode cX6_join 140 = .ok (.aload_n 0, 1) := by decide +kernel
theorem dX6_join_141 : decode cX6_join 141 = .ok (.iload 5, 2) := by decide +kernel
theorem dX6_join_143 : decode cX6_join 143 = .ok (.invokevirtual 73, 3) := by decide +kernel
theorem dX6_join_146 : decode cX6_join 146 = .ok (.ireturn, 1) := by decide +kernel
theorem dX6_leave_0 : decode cX6_leave 0 = .ok (.aload_n 0, 1) := by decide +kernel
theorem dX6_leave_1 : decode cX6_leave 1 = .ok (.iload_n 1, 1) := by decide +kernel
theorem dX6_leave_2 : decode cX6_leave 2 = .ok (.invokevirtual 57, 3) := by decide +kernel
theorem dX6_leave_5 : decode cX6_leave 5 = .ok (.ifCond .eq 5, 3) := by decide +kernel
theorem dX6_leave_8 : decode cX6_leave 8 = .ok (.iconst (-1), 1) := by decide +kernel
theorem dX6_leave_9 : decode cX6_leave 9 = .ok (.ireturn, 1) := by decide +kernel
theorem dX6_leave_10 : decode cX6_leave 10 = .ok (.aload_n 0, 1) := by decide +kernel
theorem dX6_leave_11 : decode cX6_leave 11 = .ok (.aload_n 0, 1) := by decide +kernel
theorem dX6_leave_12 : decode cX6_leave 12 = .ok (.getfield 7, 3) := by decide +kernel
theorem dX6_leave_15 : decode cX6_leave 15 = .ok (.bipush 49, 2) := by decide +kernel
theorem dX6_leave_17 : decode cX6_leave 17 = .ok (.iload_n 1, 1) := by decide +kernel
theorem dX6_leave_18 : decode cX6_leave 18 = .ok (.iadd, 1) := by decide +kernel
theorem dX6_leave_19 : decode cX6_leave 19 = .ok (.iaload, 1) := by decide +kernel
theorem dX6_leave_20 : decode cX6_leave 20 = .ok (.invokevirtual 73, 3) := by decide +kernel
theorem dX6_leave_23 : decode cX6_leave 23 = .ok (.iconst 1, 1) := by decide +kernel
theorem dX6_leave_24 : decode cX6_leave 24 = .ok (.isub, 1) := by decide +kernel
theorem dX6_leave_25 : decode cX6_leave 25 = .ok (.istore_n 2, 1) := by decide +kernel
theorem dX6_leave_26 : decode cX6_leave 26 = .ok (.iload_n 2, 1) := by decide +kernel
theorem dX6_leave_27 : decode cX6_leave 27 = .ok (.ifCond .ne 6, 3) := by decide +kernel
theorem dX6_leave_30 : decode cX6_leave 30 = .ok (.bipush (-5), 2) := by decide +kernel
theorem dX6_leave_32 : decode cX6_leave 32 = .ok (.ireturn, 1) := by decide +kernel
theorem dX6_leave_33 : decode cX6_leave 33 = .ok (.aload_n 0, 1) := by decide +kernel
theorem dX6_leave_34 : decode cX6_leave 34 = .ok (.invokevirtual 50, 3) := by decide +kernel
theorem dX6_leave_37 : decode cX6_leave 37 = .ok (.aload_n 0, 1) := by decide +kernel
theorem dX6_leave_38 : decode cX6_leave 38 = .ok (.iload_n 1, 1) := by decide +kernel
theorem dX6_leave_39 : decode cX6_leave 39 = .ok (.invokevirtual 61, 3) := by decide +kernel
theorem dX6_leave_42 : decode cX6_leave 42 = .ok (.iload_n 2, 1) := by decide +kernel
theorem dX6_leave_43 : decode cX6_leave 43 = .ok (.ireturn, 1) := by decide +kernel
theorem dX6_layBlocs_0 : decode cX6_layBlocs 0 = .ok (.aload_n 0, 1) := by decide +kernel
theorem dX6_layBlocs_1 : decode cX6_layBlocs 1 = .ok (.iconst 0, 1) := by decide +kernel
theorem dX6_layBlocs_2 : decode cX6_layBlocs 2 = .ok (.putfield 77, 3) := by decide +kernel
theorem dX6_layBlocs_5 : decode cX6_layBlocs 5 = .ok (.aload_n 0, 1) := by decide +kernel
theorem dX6_layBlocs_6 : decode cX6_layBlocs 6 = .ok (.iconst 0, 1) := by decide +kernel
theorem dX6_layBlocs_7 : decode cX6_layBlocs 7 = .ok (.putfield 80, 3) := by decide +kernel
theorem dX6_layBlocs_10 : decode cX6_layBlocs 10 = .ok (.iconst 0, 1) := by decide +kernel
theorem dX6_layBlocs_11 : decode cX6_layBlocs 11 = .ok (.istore_n 1, 1) := by decide +kernel
theorem dX6_layBlocs_12 : decode cX6_layBlocs 12 = .ok (.iload_n 1, 1) := by decide +kernel
theorem dX6_layBlocs_13 : decode cX6_layBlocs 13 = .ok (.aload_n 0, 1) := by decide +kernel
theorem dX6_layBlocs_14 : decode cX6_layBlocs 14 = .ok (.getfield 7, 3) := by decide +kernel
theorem dX6_layBlocs_17 : decode cX6_layBlocs 17 = .ok (.iconst 0, 1) := by decide +kernel
theorem dX6_layBlocs_18 : decode cX6_layBlocs 18 = .ok (.iaload, 1) := by decide +kernel
theorem dX6_layBlocs_19 : decode cX6_layBlocs 19 = .ok (.if_icmp .ge 127, 3) := by decide +kernel
theorem dX6_layBlocs_22 : decode cX6_layBlocs 22 = .ok (.aload_n 0, 1) := by decide +kernel
theorem dX6_layBlocs_23 : decode cX6_layBlocs 23 = .ok (.getfield 7, 3) := by decide +kernel
theorem dX6_layBlocs_26 : decode cX6_layBlocs 26 = .ok (.bipush 49, 2) := by decide +kernel
theorem dX6_layBlocs_28 : decode cX6_layBlocs 28 = .ok (.iload_n 1, 1) := by decide +kernel
theorem dX6_layBlocs_29 : decode cX6_layBlocs 29 = .ok (.iadd, 1) := by decide +kernel
theorem dX6_layBlocs_30 : decode cX6_layBlocs 30 = .ok (.iaload, 1) := by decide +kernel
theorem dX6_layBlocs_31 : decode cX6_layBlocs 31 = .ok (.iload_n 1, 1) := by decide +kernel
theorem dX6_layBlocs_32 : decode cX6_layBlocs 32 = .ok (.if_icmp .ne 43, 3) := by decide +kernel
theorem dX6_layBlocs_35 : decode cX6_layBlocs 35 = .ok (.aload_n 0, 1) := by decide +kernel
theorem dX6_layBlocs_36 : decode cX6_layBlocs 36 = .ok (.getfield 23, 3) := by decide +kernel
theorem dX6_layBlocs_39 : decode cX6_layBlocs 39 = .ok (.aload_n 0, 1) := by decide +kernel
theorem dX6_layBlocs_40 : decode cX6_layBlocs 40 = .ok (.getfield 77, 3) := by decide +kernel
theorem dX6_layBlocs_43 : decode cX6_layBlocs 43 = .ok (.iload_n 1, 1) := by decide +kernel
theorem dX6_layBlocs_44 : decode cX6_layBlocs 44 = .ok (.iastore, 1) := by decide +kernel
theorem dX6_layBlocs_45 : decode cX6_layBlocs 45 = .ok (.aload_n 0, 1) := by decide +kernel
theorem dX6_layBlocs_46 : decode cX6_layBlocs 46 = .ok (.getfield 26, 3) := by decide +kernel
theorem dX6_layBlocs_49 : decode cX6_layBlocs 49 = .ok (.aload_n 0, 1) := by decide +kernel
theorem dX6_layBlocs_50 : decode cX6_layBlocs 50 = .ok (.getfield 77, 3) := by decide +kernel
theorem dX6_layBlocs_53 : decode cX6_layBlocs 53 = .ok (.iconst 0, 1) := by decide +kernel
theorem dX6_layBlocs_54 : decode cX6_layBlocs 54 = .ok (.iastore, 1) := by decide +kernel
theorem dX6_layBlocs_55 : decode cX6_layBlocs 55 = .ok (.aload_n 0, 1) := by decide +kernel
theorem dX6_layBlocs_56 : decode cX6_layBlocs 56 = .ok (.getfield 29, 3) := by decide +kernel
theorem dX6_layBlocs_59 : decode cX6_layBlocs 59 = .ok (.aload_n 0, 1) := by decide +kernel
theorem dX6_layBlocs_60 : decode cX6_layBlocs 60 = .ok (.getfield 77, 3) := by decide +kernel
theorem dX6_layBlocs_63 : decode cX6_layBlocs 63 = .ok (.iconst 0, 1) := by decide +kernel
theorem dX6_layBlocs_64 : decode cX6_layBlocs 64 = .ok (.iastore, 1) := by decide +kernel
theorem dX6_layBlocs_65 : decode cX6_layBlocs 65 = .ok (.aload_n 0, 1) := by decide +kernel
theorem dX6_layBlocs_66 : decode cX6_layBlocs 66 = .ok (.dup, 1) := by decide +kernel
theorem dX6_layBlocs_67 : decode cX6_layBlocs 67 = .ok (.getfield 77, 3) := by decide +kernel
theorem dX6_layBlocs_70 : decode cX6_layBlocs 70 = .ok (.iconst 1, 1) := by decide +kernel
theorem dX6_layBlocs_71 : decode cX6_layBlocs 71 = .ok (.iadd, 1) := by decide +kernel
theorem dX6_layBlocs_72 : decode cX6_layBlocs 72 = .ok (.putfield 77, 3) := by decide +kernel
theorem dX6_layBlocs_75 : decode cX6_layBlocs 75 = .ok (.aload_n 0, 1) := by decide +kernel
theorem dX6_layBlocs_76 : decode cX6_layBlocs 76 = .ok (.iload_n 1, 1) := by decide +kernel
theorem dX6_layBlocs_77 : decode cX6_layBlocs 77 = .ok (.invokevirtual 83, 3) := by decide +kernel
theorem dX6_layBlocs_80 : decode cX6_layBlocs 80 = .ok (.istore_n 2, 1) := by decide +kernel
theorem dX6_layBlocs_81 : decode cX6_layBlocs 81 = .ok (.aload_n 0, 1) := by decide +kernel
theorem dX6_layBlocs_82 : decode cX6_layBlocs 82 = .ok (.getfield 26, 3) := by decide +kernel
theorem dX6_layBlocs_85 : decode cX6_layBlocs 85 = .ok (.iload_n 2, 1) := by decide +kernel
theorem dX6_layBlocs_86 : decode cX6_layBlocs 86 = .ok (.dup2, 1) := by decide +kernel
theorem dX6_layBlocs_87 : decode cX6_layBlocs 87 = .ok (.iaload, 1) := by decide +kernel
theorem dX6_layBlocs_88 : decode cX6_layBlocs 88 = .ok (.aload_n 0, 1) := by decide +kernel
theorem dX6_layBlocs_89 : decode cX6_layBlocs 89 = .ok (.getfield 7, 3) := by decide +kernel
theorem dX6_layBlocs_92 : decode cX6_layBlocs 92 = .ok (.bipush 29, 2) := by decide +kernel
theorem dX6_layBlocs_94 : decode cX6_layBlocs 94 = .ok (.iload_n 1, 1) := by decide +kernel
theorem dX6_layBlocs_95 : decode cX6_layBlocs 95 = .ok (.iadd, 1) := by decide +kernel
theorem dX6_layBlocs_96 : decode cX6_layBlocs 96 = .ok (.iaload, 1) := by decide +kernel
theorem dX6_layBlocs_97 : decode cX6_layBlocs 97 = .ok (.iadd, 1) := by decide +kernel
theorem dX6_layBlocs_98 : decode cX6_layBlocs 98 = .ok (.iastore, 1) := by decide +kernel
theorem dX6_layBlocs_99 : decode cX6_layBlocs 99 = .ok (.aload_n 0, 1) := by decide +kernel
theorem dX6_layBlocs_100 : decode cX6_layBlocs 100 = .ok (.getfield 29, 3) := by decide +kernel
theorem dX6_layBlocs_103 : decode cX6_layBlocs 103 = .ok (.iload_n 2, 1) := by decide +kernel
theorem dX6_layBlocs_104 : decode cX6_layBlocs 104 = .ok (.dup2, 1) := by decide +kernel
theorem dX6_layBlocs_105 : decode cX6_layBlocs 105 = .ok (.iaload, 1) := by decide +kernel
theorem dX6_layBlocs_106 : decode cX6_layBlocs 106 = .ok (.iconst 1, 1) := by decide +kernel
theorem dX6_layBlocs_107 : decode cX6_layBlocs 107 = .ok (.iload_n 1, 1) := by decide +kernel
theorem dX6_layBlocs_108 : decode cX6_layBlocs 108 = .ok (.ishl, 1) := by decide +kernel
theorem dX6_layBlocs_109 : decode cX6_layBlocs 109 = .ok (.ior, 1) := by decide +kernel
theorem dX6_layBlocs_110 : decode cX6_layBlocs 110 = .ok (.iastore, 1) := by decide +kernel
theorem dX6_layBlocs_111 : decode cX6_layBlocs 111 = .ok (.aload_n 0, 1) := by decide +kernel
theorem dX6_layBlocs_112 : decode cX6_layBlocs 112 = .ok (.dup, 1) := by decide +kernel
theorem dX6_layBlocs_113 : decode cX6_layBlocs 113 = .ok (.getfield 80, 3) := by decide +kernel
theorem dX6_layBlocs_116 : decode cX6_layBlocs 116 = .ok (.aload_n 0, 1) := by decide +kernel
theorem dX6_layBlocs_117 : decode cX6_layBlocs 117 = .ok (.getfield 7, 3) := by decide +kernel
theorem dX6_layBlocs_120 : decode cX6_layBlocs 120 = .ok (.bipush 39, 2) := by decide +kernel
theorem dX6_layBlocs_122 : decode cX6_layBlocs 122 = .ok (.iload_n 1, 1) := by decide +kernel
theorem dX6_layBlocs_123 : decode cX6_layBlocs 123 = .ok (.iadd, 1) := by decide +kernel
theorem dX6_layBlocs_124 : decode cX6_layBlocs 124 = .ok (.iaload, 1) := by decide +kernel
theorem dX6_layBlocs_125 : decode cX6_layBlocs 125 = .ok (.iconst 1, 1) := by decide +kernel
theorem dX6_layBlocs_126 : decode cX6_layBlocs 126 = .ok (.if_icmp .ne 9, 3) := by decide +kernel
theorem dX6_layBlocs_129 : decode cX6_layBlocs 129 = .ok (.iconst 1, 1) := by decide +kernel
theorem dX6_layBlocs_130 : decode cX6_layBlocs 130 = .ok (.iload_n 2, 1) := by decide +kernel
theorem dX6_layBlocs_131 : decode cX6_layBlocs 131 = .ok (.ishl, 1) := by decide +kernel
theorem dX6_layBlocs_132 : decode cX6_layBlocs 132 = .ok (.goto 4, 3) := by decide +kernel
theorem dX6_layBlocs_135 : decode cX6_layBlocs 135 = .ok (.iconst 0, 1) := by decide +kernel
theorem dX6_layBlocs_136 : decode cX6_layBlocs 136 = .ok (.ior, 1) := by decide +kernel
theorem dX6_layBlocs_137 : decode cX6_layBlocs 137 = .ok (.putfield 80, 3) := by decide +kernel
theorem dX6_layBlocs_140 : decode cX6_layBlocs 140 = .ok (.iinc 1 1, 3) := by decide +kernel
theorem dX6_layBlocs_143 : decode cX6_layBlocs 143 = .ok (.goto (-131), 3) := by decide +kernel
theorem dX6_layBlocs_146 : decode cX6_layBlocs 146 = .ok (.return_, 1) := by decide +kernel
theorem dX6_blocOf_0 : decode cX6_blocOf 0 = .ok (.iconst 0, 1) := by decide +kernel
theorem dX6_blocOf_1 : decode cX6_blocOf 1 = .ok (.istore_n 2, 1) := by decide +kernel
theorem dX6_blocOf_2 : decode cX6_blocOf 2 = .ok (.aload_n 0, 1) := by decide +kernel
theorem dX6_blocOf_3 : decode cX6_blocOf 3 = .ok (.getfield 23, 3) := by decide +kernel
theorem dX6_blocOf_6 : decode cX6_blocOf 6 = .ok (.iload_n 2, 1) := by decide +kernel
theorem dX6_blocOf_7 : decode cX6_blocOf 7 = .ok (.iaload, 1) := by decide +kernel
theorem dX6_blocOf_8 : decode cX6_blocOf 8 = .ok (.aload_n 0, 1) := by decide +kernel
theorem dX6_blocOf_9 : decode cX6_blocOf 9 = .ok (.getfield 7, 3) := by decide +kernel
theorem dX6_blocOf_12 : decode cX6_blocOf 12 = .ok (.bipush 49, 2) := by decide +kernel
theorem dX6_blocOf_14 : decode cX6_blocOf 14 = .ok (.iload_n 1, 1) := by decide +kernel
theorem dX6_blocOf_15 : decode cX6_blocOf 15 = .ok (.iadd, 1) := by decide +kernel
theorem dX6_blocOf_16 : decode cX6_blocOf 16 = .ok (.iaload, 1) := by decide +kernel
theorem dX6_blocOf_17 : decode cX6_blocOf 17 = .ok (.if_icmp .eq 9, 3) := by decide +kernel
theorem dX6_blocOf_20 : decode cX6_blocOf 20 = .ok (.iinc 2 1, 3) := by decide +kernel
theorem dX6_blocOf_23 : decode cX6_blocOf 23 = .ok (.goto (-21), 3) := by decide +kernel
theorem dX6_blocOf_26 : decode cX6_blocOf 26 = .ok (.iload_n 2, 1) := by decide +kernel
theorem dX6_blocOf_27 : decode cX6_blocOf 27 = .ok (.ireturn, 1) := by decide +kernel
theorem dX6_weightOf_0 : decode cX6_weightOf 0 = .ok (.iconst 0, 1) := by decide +kernel
theorem dX6_weightOf_1 : decode cX6_weightOf 1 = .ok (.istore_n 2, 1) := by decide +kernel
theorem dX6_weightOf_2 : decode cX6_weightOf 2 = .ok (.iconst 0, 1) := by decide +kernel
theorem dX6_weightOf_3 : decode cX6_weightOf 3 = .ok (.istore_n 3, 1) := by decide +kernel
theorem dX6_weightOf_4 : decode cX6_weightOf 4 = .ok (.iload_n 3, 1) := by decide +kernel
theorem dX6_weightOf_5 : decode cX6_weightOf 5 = .ok (.aload_n 0, 1) := by decide +kernel
theorem dX6_weightOf_6 : decode cX6_weightOf 6 = .ok (.getfield 77, 3) := by decide +kernel
theorem dX6_weightOf_9 : decode cX6_weightOf 9 = .ok (.if_icmp .ge 30, 3) := by decide +kernel
theorem dX6_weightOf_12 : decode cX6_weightOf 12 = .ok (.iload_n 2, 1) := by decide +kernel
theorem dX6_weightOf_13 : decode cX6_weightOf 13 = .ok (.iload_n 1, 1) := by decide +kernel
theorem dX6_weightOf_14 : decode cX6_weightOf 14 = .ok (.iload_n 3, 1) := by decide +kernel
theorem dX6_weightOf_15 : decode cX6_weightOf 15 = .ok (.invokestatic 86, 3) := by decide +kernel
theorem dX6_weightOf_18 : decode cX6_weightOf 18 = .ok (.ifCond .eq 12, 3) := by decide +kernel
theorem dX6_weightOf_21 : decode cX6_weightOf 21 = .ok (.aload_n 0, 1) := by decide +kernel
theorem dX6_weightOf_22 : decode cX6_weightOf 22 = .ok (.getfield 26, 3) := by decide +kernel
theorem dX6_weightOf_25 : decode cX6_weightOf 25 = .ok (.iload_n 3, 1) := by decide +kernel
theorem dX6_weightOf_26 : decode cX6_weightOf 26 = .ok (.iaload, 1) := by decide +kernel
theorem dX6_weightOf_27 : decode cX6_weightOf 27 = .ok (.goto 4, 3) := by decide +kernel
theorem dX6_weightOf_30 : decode cX6_weightOf 30 = .ok (.iconst 0, 1) := by decide +kernel
theorem dX6_weightOf_31 : decode cX6_weightOf 31 = .ok (.iadd, 1) := by decide +kernel
theorem dX6_weightOf_32 : decode cX6_weightOf 32 = .ok (.istore_n 2, 1) := by decide +kernel
theorem dX6_weightOf_33 : decode cX6_weightOf 33 = .ok (.iinc 3 1, 3) := by decide +kernel
theorem dX6_weightOf_36 : decode cX6_weightOf 36 = .ok (.goto (-32), 3) := by decide +kernel
theorem dX6_weightOf_39 : decode cX6_weightOf 39 = .ok (.iload_n 2, 1) := by decide +kernel
theorem dX6_weightOf_40 : decode cX6_weightOf 40 = .ok (.ireturn, 1) := by decide +kernel
theorem dX6_winsWith_0 : decode cX6_winsWith 0 = .ok (.aload_n 0, 1) := by decide +kernel
theorem dX6_winsWith_1 : decode cX6_winsWith 1 = .ok (.iload_n 1, 1) := by decide +kernel
theorem dX6_winsWith_2 : decode cX6_winsWith 2 = .ok (.invokevirtual 90, 3) := by decide +kernel
theorem dX6_winsWith_5 : decode cX6_winsWith 5 = .ok (.iload_n 2, 1) := by decide +kernel
theorem dX6_winsWith_6 : decode cX6_winsWith 6 = .ok (.if_icmp .lt 20, 3) := by decide +kernel
theorem dX6_winsWith_9 : decode cX6_winsWith 9 = .ok (.iload_n 1, 1) := by decide +kernel
theorem dX6_winsWith_10 : decode cX6_winsWith 10 = .ok (.aload_n 0, 1) := by decide +kernel
theorem dX6_winsWith_11 : decode cX6_winsWith 11 = .ok (.getfield 80, 3) := by decide +kernel
theorem dX6_winsWith_14 : decode cX6_winsWith 14 = .ok (.iand, 1) := by decide +kernel
theorem dX6_winsWith_15 : decode cX6_winsWith 15 = .ok (.aload_n 0, 1) := by decide +kernel
theorem dX6_winsWith_16 : decode cX6_winsWith 16 = .ok (.getfield 80, 3) := by decide +kernel
theorem dX6_winsWith_19 : decode cX6_winsWith 19 = .ok (.if_icmp .ne 7, 3) := by decide +kernel
theorem dX6_winsWith_22 : decode cX6_winsWith 22 = .ok (.iconst 1, 1) := by decide +kernel
theorem dX6_winsWith_23 : decode cX6_winsWith 23 = .ok (.goto 4, 3) := by decide +kernel
theorem dX6_winsWith_26 : decode cX6_winsWith 26 = .ok (.iconst 0, 1) := by decide +kernel
theorem dX6_winsWith_27 : decode cX6_winsWith 27 = .ok (.ireturn, 1) := by decide +kernel
theorem dX6_find_0 : decode cX6_find 0 = .ok (.aload_n 0, 1) := by decide +kernel
theorem dX6_find_1 : decode cX6_find 1 = .ok (.invokevirtual 93, 3) := by decide +kernel
theorem dX6_find_4 : decode cX6_find 4 = .ok (.iconst 0, 1) := by decide +kernel
theorem dX6_find_5 : decode cX6_find 5 = .ok (.istore_n 2, 1) := by decide +kernel
theorem dX6_find_6 : decode cX6_find 6 = .ok (.iload_n 2, 1) := by decide +kernel
theorem dX6_find_7 : decode cX6_find 7 = .ok (.iconst 1, 1) := by decide +kernel
theorem dX6_find_8 : decode cX6_find 8 = .ok (.aload_n 0, 1) := by decide +kernel
theorem dX6_find_9 : decode cX6_find 9 = .ok (.getfield 77, 3) := by decide +kernel
theorem dX6_find_12 : decode cX6_find 12 = .ok (.ishl, 1) := by decide +kernel
theorem dX6_find_13 : decode cX6_find 13 = .ok (.if_icmp .ge 21, 3) := by decide +kernel
theorem dX6_find_16 : decode cX6_find 16 = .ok (.aload_n 0, 1) := by decide +kernel
theorem dX6_find_17 : decode cX6_find 17 = .ok (.getfield 32, 3) := by decide +kernel
theorem dX6_find_20 : decode cX6_find 20 = .ok (.iload_n 2, 1) := by decide +kernel
theorem dX6_find_21 : decode cX6_find 21 = .ok (.aload_n 0, 1) := by decide +kernel
theorem dX6_find_22 : decode cX6_find 22 = .ok (.iload_n 2, 1) := by decide +kernel
theorem dX6_find_23 : decode cX6_find 23 = .ok (.iload_n 1, 1) := by decide +kernel
theorem dX6_find_24 : decode cX6_find 24 = .ok (.invokevirtual 96, 3) := by decide +kernel
theorem dX6_find_27 : decode cX6_find 27 = .ok (.bastore, 1) := by decide +kernel
theorem dX6_find_28 : decode cX6_find 28 = .ok (.iinc 2 1, 3) := by decide +kernel
theorem dX6_find_31 : decode cX6_find 31 = .ok (.goto (-25), 3) := by decide +kernel
theorem dX6_find_34 : decode cX6_find 34 = .ok (.aload_n 0, 1) := by decide +kernel
theorem dX6_find_35 : decode cX6_find 35 = .ok (.iconst 0, 1) := by decide +kernel
theorem dX6_find_36 : decode cX6_find 36 = .ok (.putfield 99, 3) := by decide +kernel
theorem dX6_find_39 : decode cX6_find 39 = .ok (.iconst 0, 1) := by decide +kernel
theorem dX6_find_40 : decode cX6_find 40 = .ok (.istore_n 2, 1) := by decide +kernel
theorem dX6_find_41 : decode cX6_find 41 = .ok (.iload_n 2, 1) := by decide +kernel
theorem dX6_find_42 : decode cX6_find 42 = .ok (.aload_n 0, 1) := by decide +kernel
theorem dX6_find_43 : decode cX6_find 43 = .ok (.getfield 77, 3) := by decide +kernel
theorem dX6_find_46 : decode cX6_find 46 = .ok (.if_icmp .ge 93, 3) := by decide +kernel
theorem dX6_find_49 : decode cX6_find 49 = .ok (.aload_n 0, 1) := by decide +kernel
theorem dX6_find_50 : decode cX6_find 50 = .ok (.getfield 36, 3) := by decide +kernel
theorem dX6_find_53 : decode cX6_find 53 = .ok (.iload_n 2, 1) := by decide +kernel
theorem dX6_find_54 : decode cX6_find 54 = .ok (.iconst 0, 1) := by decide +kernel
theorem dX6_find_55 : decode cX6_find 55 = .ok (.iastore, 1) := by decide +kernel
theorem dX6_find_56 : decode cX6_find 56 = .ok (.iconst 0, 1) := by decide +kernel
theorem dX6_find_57 : decode cX6_find 57 = .ok (.istore_n 3, 1) := by decide +kernel
theorem dX6_find_58 : decode cX6_find 58 = .ok (.iload_n 3, 1) := by decide +kernel
theorem dX6_find_59 : decode cX6_find 59 = .ok (.iconst 1, 1) := by decide +kernel
theorem dX6_find_60 : decode cX6_find 60 = .ok (.aload_n 0, 1) := by decide +kernel
theorem dX6_find_61 : decode cX6_find 61 = .ok (.getfield 77, 3) := by decide +kernel
theorem dX6_find_64 : decode cX6_find 64 = .ok (.ishl, 1) := by decide +kernel
theorem dX6_find_65 : decode cX6_find 65 = .ok (.if_icmp .ge 53, 3) := by decide +kernel
theorem dX6_find_68 : decode cX6_find 68 = .ok (.aload_n 0, 1) := by decide +kernel
theorem dX6_find_69 : decode cX6_find 69 = .ok (.getfield 36, 3) := by decide +kernel
theorem dX6_find_72 : decode cX6_find 72 = .ok (.iload_n 2, 1) := by decide +kernel
theorem dX6_find_73 : decode cX6_find 73 = .ok (.dup2, 1) := by decide +kernel
theorem dX6_find_74 : decode cX6_find 74 = .ok (.iaload, 1) := by decide +kernel
theorem dX6_find_75 : decode cX6_find 75 = .ok (.iload_n 3, 1) := by decide +kernel
theorem dX6_find_76 : decode cX6_find 76 = .ok (.iload_n 2, 1) := by decide +kernel
theorem dX6_find_77 : decode cX6_find 77 = .ok (.invokestatic 86, 3) := by decide +kernel
theorem dX6_find_80 : decode cX6_find 80 = .ok (.ifCond .ne 29, 3) := by decide +kernel
theorem dX6_find_83 : decode cX6_find 83 = .ok (.aload_n 0, 1) := by decide +kernel
theorem dX6_find_84 : decode cX6_find 84 = .ok (.getfield 32, 3) := by decide +kernel
theorem dX6_find_87 : decode cX6_find 87 = .ok (.iload_n 3, 1) := by decide +kernel
theorem dX6_find_88 : decode cX6_find 88 = .ok (.baload, 1) := by decide +kernel
theorem dX6_find_89 : decode cX6_find 89 = .ok (.ifCond .ne 20, 3) := by decide +kernel
theorem dX6_find_92 : decode cX6_find 92 = .ok (.aload_n 0, 1) := by decide +kernel
theorem dX6_find_93 : decode cX6_find 93 = .ok (.getfield 32, 3) := by decide +kernel
theorem dX6_find_96 : decode cX6_find 96 = .ok (.iload_n 3, 1) := by decide +kernel
theorem dX6_find_97 : decode cX6_find 97 = .ok (.iconst 1, 1) := by decide +kernel
theorem dX6_find_98 : decode cX6_find 98 = .ok (.iload_n 2, 1) := by decide +kernel
theorem dX6_find_99 : decode cX6_find 99 = .ok (.ishl, 1) := by decide +kernel
theorem dX6_find_100 : decode cX6_find 100 = .ok (.ior, 1) := by decide +kernel
theorem dX6_find_101 : decode cX6_find 101 = .ok (.baload, 1) := by decide +kernel
theorem dX6_find_102 : decode cX6_find 102 = .ok (.ifCond .eq 7, 3) := by decide +kernel
theorem dX6_find_105 : decode cX6_find 105 = .ok (.iconst 1, 1) := by decide +kernel
theorem dX6_find_106 : decode cX6_find 106 = .ok (.goto 4, 3) := by decide +kernel
theorem dX6_find_109 : decode cX6_find 109 = .ok (.iconst 0, 1) := by decide +kernel
theorem dX6_find_110 : decode cX6_find 110 = .ok (.iadd, 1) := by decide +kernel
theorem dX6_find_111 : decode cX6_find 111 = .ok (.iastore, 1) := by decide +kernel
theorem dX6_find_112 : decode cX6_find 112 = .ok (.iinc 3 1, 3) := by decide +kernel
theorem dX6_find_115 : decode cX6_find 115 = .ok (.goto (-57), 3) := by decide +kernel
theorem dX6_find_118 : decode cX6_find 118 = .ok (.aload_n 0, 1) := by decide +kernel
theorem dX6_find_119 : decode cX6_find 119 = .ok (.dup, 1) := by decide +kernel
theorem dX6_find_120 : decode cX6_find 120 = .ok (.getfield 99, 3) := by decide +kernel
theorem dX6_find_123 : decode cX6_find 123 = .ok (.aload_n 0, 1) := by decide +kernel
theorem dX6_find_124 : decode cX6_find 124 = .ok (.getfield 36, 3) := by decide +kernel
theorem dX6_find_127 : decode cX6_find 127 = .ok (.iload_n 2, 1) := by decide +kernel
theorem dX6_find_128 : decode cX6_find 128 = .ok (.iaload, 1) := by decide +kernel
theorem dX6_find_129 : decode cX6_find 129 = .ok (.iadd, 1) := by decide +kernel
theorem dX6_find_130 : decode cX6_find 130 = .ok (.putfield 99, 3) := by decide +kernel
theorem dX6_find_133 : decode cX6_find 133 = .ok (.iinc 2 1, 3) := by decide +kernel
theorem dX6_find_136 : decode cX6_find 136 = .ok (.goto (-95), 3) := by decide +kernel
theorem dX6_find_139 : decode cX6_find 139 = .ok (.return_, 1) := by decide +kernel
theorem dX6_findNow_0 : decode cX6_findNow 0 = .ok (.aload_n 0, 1) := by decide +kernel
theorem dX6_findNow_1 : decode cX6_findNow 1 = .ok (.aload_n 0, 1) := by decide +kernel
theorem dX6_findNow_2 : decode cX6_findNow 2 = .ok (.getfield 7, 3) := by decide +kernel
theorem dX6_findNow_5 : decode cX6_findNow 5 = .ok (.iconst 1, 1) := by decide +kernel
theorem dX6_findNow_6 : decode cX6_findNow 6 = .ok (.iaload, 1) := by decide +kernel
theorem dX6_findNow_7 : decode cX6_findNow 7 = .ok (.invokevirtual 102, 3) := by decide +kernel
theorem dX6_findNow_10 : decode cX6_findNow 10 = .ok (.return_, 1) := by decide +kernel
theorem dX6_winning_0 : decode cX6_winning 0 = .ok (.iconst 0, 1) := by decide +kernel
theorem dX6_winning_1 : decode cX6_winning 1 = .ok (.istore_n 1, 1) := by decide +kernel
theorem dX6_winning_2 : decode cX6_winning 2 = .ok (.iconst 0, 1) := by decide +kernel
theorem dX6_winning_3 : decode cX6_winning 3 = .ok (.istore_n 2, 1) := by decide +kernel
theorem dX6_winning_4 : decode cX6_winning 4 = .ok (.iload_n 2, 1) := by decide +kernel
theorem dX6_winning_5 : decode cX6_winning 5 = .ok (.iconst 1, 1) := by decide +kernel
theorem dX6_winning_6 : decode cX6_winning 6 = .ok (.aload_n 0, 1) := by decide +kernel
theorem dX6_winning_7 : decode cX6_winning 7 = .ok (.getfield 77, 3) := by decide +kernel
theorem dX6_winning_10 : decode cX6_winning 10 = .ok (.ishl, 1) := by decide +kernel
theorem dX6_winning_11 : decode cX6_winning 11 = .ok (.if_icmp .ge 26, 3) := by decide +kernel
theorem dX6_winning_14 : decode cX6_winning 14 = .ok (.iload_n 1, 1) := by decide +kernel
theorem dX6_winning_15 : decode cX6_winning 15 = .ok (.aload_n 0, 1) := by decide +kernel
theorem dX6_winning_16 : decode cX6_winning 16 = .ok (.getfield 32, 3) := by decide +kernel
theorem dX6_winning_19 : decode cX6_winning 19 = .ok (.iload_n 2, 1) := by decide +kernel
theorem dX6_winning_20 : decode cX6_winning 20 = .ok (.baload, 1) := by decide +kernel
theorem dX6_winning_21 : decode cX6_winning 21 = .ok (.ifCond .eq 7, 3) := by decide +kernel
theorem dX6_winning_24 : decode cX6_winning 24 = .ok (.iconst 1, 1) := by decide +kernel
theorem dX6_winning_25 : decode cX6_winning 25 = .ok (.goto 4, 3) := by decide +kernel
theorem dX6_winning_28 : decode cX6_winning 28 = .ok (.iconst 0, 1) := by decide +kernel
theorem dX6_winning_29 : decode cX6_winning 29 = .ok (.iadd, 1) := by decide +kernel
theorem dX6_winning_30 : decode cX6_winning 30 = .ok (.istore_n 1, 1) := by decide +kernel
theorem dX6_winning_31 : decode cX6_winning 31 = .ok (.iinc 2 1, 3) := by decide +kernel
theorem dX6_winning_34 : decode cX6_winning 34 = .ok (.goto (-30), 3) := by decide +kernel
theorem dX6_winning_37 : decode cX6_winning 37 = .ok (.iload_n 1, 1) := by decide +kernel
theorem dX6_winning_38 : decode cX6_winning 38 = .ok (.ireturn, 1) := by decide +kernel
theorem dX6_factorial_0 : decode cX6_factorial 0 = .ok (.iconst 1, 1) := by decide +kernel
theorem dX6_factorial_1 : decode cX6_factorial 1 = .ok (.istore_n 1, 1) := by decide +kernel
theorem dX6_factorial_2 : decode cX6_factorial 2 = .ok (.iconst 2, 1) := by decide +kernel
theorem dX6_factorial_3 : decode cX6_factorial 3 = .ok (.istore_n 2, 1) := by decide +kernel
theorem dX6_factorial_4 : decode cX6_factorial 4 = .ok (.iload_n 2, 1) := by decide +kernel
theorem dX6_factorial_5 : decode cX6_factorial 5 = .ok (.iload_n 0, 1) := by decide +kernel
theorem dX6_factorial_6 : decode cX6_factorial 6 = .ok (.if_icmp .gt 13, 3) := by decide +kernel
theorem dX6_factorial_9 : decode cX6_factorial 9 = .ok (.iload_n 1, 1) := by decide +kernel
theorem dX6_factorial_10 : decode cX6_factorial 10 = .ok (.iload_n 2, 1) := by decide +kernel
theorem dX6_factorial_11 : decode cX6_factorial 11 = .ok (.imul, 1) := by decide +kernel
theorem dX6_factorial_12 : decode cX6_factorial 12 = .ok (.istore_n 1, 1) := by decide +kernel
theorem dX6_factorial_13 : decode cX6_factorial 13 = .ok (.iinc 2 1, 3) := by decide +kernel
theorem dX6_factorial_16 : decode cX6_factorial 16 = .ok (.goto (-12), 3) := by decide +kernel
theorem dX6_factorial_19 : decode cX6_factorial 19 = .ok (.iload_n 1, 1) := by decide +kernel
theorem dX6_factorial_20 : decode cX6_factorial 20 = .ok (.ireturn, 1) := by decide +kernel
theorem dX6_orders_0 : decode cX6_orders 0 = .ok (.iconst 0, 1) := by decide +kernel
theorem dX6_orders_1 : decode cX6_orders 1 = .ok (.istore_n 2, 1) := by decide +kernel
theorem dX6_orders_2 : decode cX6_orders 2 = .ok (.iconst 0, 1) := by decide +kernel
theorem dX6_orders_3 : decode cX6_orders 3 = .ok (.istore_n 3, 1) := by decide +kernel
theorem dX6_orders_4 : decode cX6_orders 4 = .ok (.iload_n 3, 1) := by decide +kernel
theorem dX6_orders_5 : decode cX6_orders 5 = .ok (.iconst 1, 1) := by decide +kernel
theorem dX6_orders_6 : decode cX6_orders 6 = .ok (.aload_n 0, 1) := by decide +kernel
theorem dX6_orders_7 : decode cX6_orders 7 = .ok (.getfield 77, 3) := by decide +kernel
theorem dX6_orders_10 : decode cX6_orders 10 = .ok (.ishl, 1) := by decide +kernel
theorem dX6_orders_11 : decode cX6_orders 11 = .ok (.if_icmp .ge 64, 3) := by decide +kernel
theorem dX6_orders_14 : decode cX6_orders 14 = .ok (.iload_n 3, 1) := by decide +kernel
theorem dX6_orders_15 : decode cX6_orders 15 = .ok (.iload_n 1, 1) := by decide +kernel
theorem dX6_orders_16 : decode cX6_orders 16 = .ok (.invokestatic 86, 3) := by decide +kernel
theorem dX6_orders_19 : decode cX6_orders 19 = .ok (.ifCond .ne 50, 3) := by decide +kernel
theorem dX6_orders_22 : decode cX6_orders 22 = .ok (.aload_n 0, 1) := by decide +kernel
theorem dX6_orders_23 : decode cX6_orders 23 = .ok (.getfield 32, 3) := by decide +kernel
theorem dX6_orders_26 : decode cX6_orders 26 = .ok (.iload_n 3, 1) := by decide +kernel
theorem dX6_orders_27 : decode cX6_orders 27 = .ok (.baload, 1) := by decide +kernel
theorem dX6_orders_28 : decode cX6_orders 28 = .ok (.ifCond .ne 41, 3) := by decide +kernel
theorem dX6_orders_31 : decode cX6_orders 31 = .ok (.aload_n 0, 1) := by decide +kernel
theorem dX6_orders_32 : decode cX6_orders 32 = .ok (.getfield 32, 3) := by decide +kernel
theorem dX6_orders_35 : decode cX6_orders 35 = .ok (.iload_n 3, 1) := by decide +kernel
theorem dX6_orders_36 : decode cX6_orders 36 = .ok (.iconst 1, 1) := by decide +kernel
theorem dX6_orders_37 : decode cX6_orders 37 = .ok (.iload_n 1, 1) := by decide +kernel
theorem dX6_orders_38 : decode cX6_orders 38 = .ok (.ishl, 1) := by decide +kernel
theorem dX6_orders_39 : decode cX6_orders 39 = .ok (.ior, 1) := by decide +kernel
theorem dX6_orders_40 : decode cX6_orders 40 = .ok (.baload, 1) := by decide +kernel
theorem dX6_orders_41 : decode cX6_orders 41 = .ok (.ifCond .eq 28, 3) := by decide +kernel
theorem dX6_orders_44 : decode cX6_orders 44 = .ok (.iload_n 2, 1) := by decide +kernel
theorem dX6_orders_45 : decode cX6_orders 45 = .ok (.iload_n 3, 1) := by decide +kernel
theorem dX6_orders_46 : decode cX6_orders 46 = .ok (.invokestatic 105, 3) := by decide +kernel
theorem dX6_orders_49 : decode cX6_orders 49 = .ok (.invokestatic 108, 3) := by decide +kernel
theorem dX6_orders_52 : decode cX6_orders 52 = .ok (.aload_n 0, 1) := by decide +kernel
theorem dX6_orders_53 : decode cX6_orders 53 = .ok (.getfield 77, 3) := by decide +kernel
theorem dX6_orders_56 : decode cX6_orders 56 = .ok (.iconst 1, 1) := by decide +kernel
theorem dX6_orders_57 : decode cX6_orders 57 = .ok (.isub, 1) := by decide +kernel
theorem dX6_orders_58 : decode cX6_orders 58 = .ok (.iload_n 3, 1) := by decide +kernel
theorem dX6_orders_59 : decode cX6_orders 59 = .ok (.invokestatic 105, 3) := by decide +kernel
theorem dX6_orders_62 : decode cX6_orders 62 = .ok (.isub, 1) := by decide +kernel
theorem dX6_orders_63 : decode cX6_orders 63 = .ok (.invokestatic 108, 3) := by decide +kernel
theorem dX6_orders_66 : decode cX6_orders 66 = .ok (.imul, 1) := by decide +kernel
theorem dX6_orders_67 : decode cX6_orders 67 = .ok (.iadd, 1) := by decide +kernel
theorem dX6_orders_68 : decode cX6_orders 68 = .ok (.istore_n 2, 1) := by decide +kernel
theorem dX6_orders_69 : decode cX6_orders 69 = .ok (.iinc 3 1, 3) := by decide +kernel
theorem dX6_orders_72 : decode cX6_orders 72 = .ok (.goto (-68), 3) := by decide +kernel
theorem dX6_orders_75 : decode cX6_orders 75 = .ok (.iload_n 2, 1) := by decide +kernel
theorem dX6_orders_76 : decode cX6_orders 76 = .ok (.ireturn, 1) := by decide +kernel
theorem dX6_isBlocker_0 : decode cX6_isBlocker 0 = .ok (.iconst 1, 1) := by decide +kernel
theorem dX6_isBlocker_1 : decode cX6_isBlocker 1 = .ok (.aload_n 0, 1) := by decide +kernel
theorem dX6_isBlocker_2 : decode cX6_isBlocker 2 = .ok (.getfield 77, 3) := by decide +kernel
theorem dX6_isBlocker_5 : decode cX6_isBlocker 5 = .ok (.ishl, 1) := by decide +kernel
theorem dX6_isBlocker_6 : decode cX6_isBlocker 6 = .ok (.iconst 1, 1) := by decide +kernel
theorem dX6_isBlocker_7 : decode cX6_isBlocker 7 = .ok (.isub, 1) := by decide +kernel
theorem dX6_isBlocker_8 : decode cX6_isBlocker 8 = .ok (.istore_n 2, 1) := by decide +kernel
theorem dX6_isBlocker_9 : decode cX6_isBlocker 9 = .ok (.aload_n 0, 1) := by decide +kernel
theorem dX6_isBlocker_10 : decode cX6_isBlocker 10 = .ok (.getfield 32, 3) := by decide +kernel
theorem dX6_isBlocker_13 : decode cX6_isBlocker 13 = .ok (.iload_n 2, 1) := by decide +kernel
theorem dX6_isBlocker_14 : decode cX6_isBlocker 14 = .ok (.baload, 1) := by decide +kernel
theorem dX6_isBlocker_15 : decode cX6_isBlocker 15 = .ok (.ifCond .eq 22, 3) := by decide +kernel
theorem dX6_isBlocker_18 : decode cX6_isBlocker 18 = .ok (.aload_n 0, 1) := by decide +kernel
theorem dX6_isBlocker_19 : decode cX6_isBlocker 19 = .ok (.getfield 32, 3) := by decide +kernel
theorem dX6_isBlocker_22 : decode cX6_isBlocker 22 = .ok (.iload_n 2, 1) := by decide +kernel
theorem dX6_isBlocker_23 : decode cX6_isBlocker 23 = .ok (.iconst 1, 1) := by decide +kernel
theorem dX6_isBlocker_24 : decode cX6_isBlocker 24 = .ok (.iload_n 1, 1) := by decide +kernel
theorem dX6_isBlocker_25 : decode cX6_isBlocker 25 = .ok (.ishl, 1) := by decide +kernel
theorem dX6_isBlocker_26 : decode cX6_isBlocker 26 = .ok (.iconst (-1), 1) := by decide +kernel
theorem dX6_isBlocker_27 : decode cX6_isBlocker 27 = .ok (.ixor, 1) := by decide +kernel
theorem dX6_isBlocker_28 : decode cX6_isBlocker 28 = .ok (.iand, 1) := by decide +kernel
theorem dX6_isBlocker_29 : decode cX6_isBlocker 29 = .ok (.baload, 1) := by decide +kernel
theorem dX6_isBlocker_30 : decode cX6_isBlocker 30 = .ok (.ifCond .ne 7, 3) := by decide +kernel
theorem dX6_isBlocker_33 : decode cX6_isBlocker 33 = .ok (.iconst 1, 1) := by decide +kernel
theorem dX6_isBlocker_34 : decode cX6_isBlocker 34 = .ok (.goto 4, 3) := by decide +kernel
theorem dX6_isBlocker_37 : decode cX6_isBlocker 37 = .ok (.iconst 0, 1) := by decide +kernel
theorem dX6_isBlocker_38 : decode cX6_isBlocker 38 = .ok (.ireturn, 1) := by decide +kernel
theorem dX6_isDictator_0 : decode cX6_isDictator 0 = .ok (.aload_n 0, 1) := by decide +kernel
theorem dX6_isDictator_1 : decode cX6_isDictator 1 = .ok (.getfield 32, 3) := by decide +kernel
theorem dX6_isDictator_4 : decode cX6_isDictator 4 = .ok (.iconst 1, 1) := by decide +kernel
theorem dX6_isDictator_5 : decode cX6_isDictator 5 = .ok (.iload_n 1, 1) := by decide +kernel
theorem dX6_isDictator_6 : decode cX6_isDictator 6 = .ok (.ishl, 1) := by decide +kernel
theorem dX6_isDictator_7 : decode cX6_isDictator 7 = .ok (.baload, 1) := by decide +kernel
theorem dX6_isDictator_8 : decode cX6_isDictator 8 = .ok (.istore_n 2, 1) := by decide +kernel
theorem dX6_isDictator_9 : decode cX6_isDictator 9 = .ok (.iconst 0, 1) := by decide +kernel
theorem dX6_isDictator_10 : decode cX6_isDictator 10 = .ok (.istore_n 3, 1) := by decide +kernel
theorem dX6_isDictator_11 : decode cX6_isDictator 11 = .ok (.iload_n 3, 1) := by decide +kernel
theorem dX6_isDictator_12 : decode cX6_isDictator 12 = .ok (.aload_n 0, 1) := by decide +kernel
theorem dX6_isDictator_13 : decode cX6_isDictator 13 = .ok (.getfield 77, 3) := by decide +kernel
theorem dX6_isDictator_16 : decode cX6_isDictator 16 = .ok (.if_icmp .ge 33, 3) := by decide +kernel
theorem dX6_isDictator_19 : decode cX6_isDictator 19 = .ok (.iload_n 2, 1) := by decide +kernel
theorem dX6_isDictator_20 : decode cX6_isDictator 20 = .ok (.ifCond .eq 21, 3) := by decide +kernel
theorem dX6_isDictator_23 : decode cX6_isDictator 23 = .ok (.iload_n 3, 1) := by decide +kernel
theorem dX6_isDictator_24 : decode cX6_isDictator 24 = .ok (.iload_n 1, 1) := by decide +kernel
theorem dX6_isDictator_25 : decode cX6_isDictator 25 = .ok (.if_icmp .eq 12, 3) := by decide +kernel
theorem dX6_isDictator_28 : decode cX6_isDictator 28 = .ok (.aload_n 0, 1) := by decide +kernel
theorem dX6_isDictator_29 : decode cX6_isDictator 29 = .ok (.getfield 36, 3) := by decide +kernel
theorem dX6_isDictator_32 : decode cX6_isDictator 32 = .ok (.iload_n 3, 1) := by decide +kernel
theorem dX6_isDictator_33 : decode cX6_isDictator 33 = .ok (.iaload, 1) := by decide +kernel
theorem dX6_isDictator_34 : decode cX6_isDictator 34 = .ok (.ifCond .ne 7, 3) := by decide +kernel
theorem dX6_isDictator_37 : decode cX6_isDictator 37 = .ok (.iconst 1, 1) := by decide +kernel
theorem dX6_isDictator_38 : decode cX6_isDictator 38 = .ok (.goto 4, 3) := by decide +kernel
theorem dX6_isDictator_41 : decode cX6_isDictator 41 = .ok (.iconst 0, 1) := by decide +kernel
theorem dX6_isDictator_42 : decode cX6_isDictator 42 = .ok (.istore_n 2, 1) := by decide +kernel
theorem dX6_isDictator_43 : decode cX6_isDictator 43 = .ok (.iinc 3 1, 3) := by decide +kernel
theorem dX6_isDictator_46 : decode cX6_isDictator 46 = .ok (.goto (-35), 3) := by decide +kernel
theorem dX6_isDictator_49 : decode cX6_isDictator 49 = .ok (.iload_n 2, 1) := by decide +kernel
theorem dX6_isDictator_50 : decode cX6_isDictator 50 = .ok (.ireturn, 1) := by decide +kernel
theorem dX6_membersOf_0 : decode cX6_membersOf 0 = .ok (.iconst 0, 1) := by decide +kernel
theorem dX6_membersOf_1 : decode cX6_membersOf 1 = .ok (.istore_n 2, 1) := by decide +kernel
theorem dX6_membersOf_2 : decode cX6_membersOf 2 = .ok (.iconst 0, 1) := by decide +kernel
theorem dX6_membersOf_3 : decode cX6_membersOf 3 = .ok (.istore_n 3, 1) := by decide +kernel
theorem dX6_membersOf_4 : decode cX6_membersOf 4 = .ok (.iload_n 3, 1) := by decide +kernel
theorem dX6_membersOf_5 : decode cX6_membersOf 5 = .ok (.aload_n 0, 1) := by decide +kernel
theorem dX6_membersOf_6 : decode cX6_membersOf 6 = .ok (.getfield 77, 3) := by decide +kernel
theorem dX6_membersOf_9 : decode cX6_membersOf 9 = .ok (.if_icmp .ge 30, 3) := by decide +kernel
theorem dX6_membersOf_12 : decode cX6_membersOf 12 = .ok (.iload_n 2, 1) := by decide +kernel
theorem dX6_membersOf_13 : decode cX6_membersOf 13 = .ok (.iload_n 1, 1) := by decide +kernel
theorem dX6_membersOf_14 : decode cX6_membersOf 14 = .ok (.iload_n 3, 1) := by decide +kernel
theorem dX6_membersOf_15 : decode cX6_membersOf 15 = .ok (.invokestatic 86, 3) := by decide +kernel
theorem dX6_membersOf_18 : decode cX6_membersOf 18 = .ok (.ifCond .eq 12, 3) := by decide +kernel
theorem dX6_membersOf_21 : decode cX6_membersOf 21 = .ok (.aload_n 0, 1) := by decide +kernel
theorem dX6_membersOf_22 : decode cX6_membersOf 22 = .ok (.getfield 29, 3) := by decide +kernel
theorem dX6_membersOf_25 : decode cX6_membersOf 25 = .ok (.iload_n 3, 1) := by decide +kernel
theorem dX6_membersOf_26 : decode cX6_membersOf 26 = .ok (.iaload, 1) := by decide +kernel
theorem dX6_membersOf_27 : decode cX6_membersOf 27 = .ok (.goto 4, 3) := by decide +kernel
theorem dX6_membersOf_30 : decode cX6_membersOf 30 = .ok (.iconst 0, 1) := by decide +kernel
theorem dX6_membersOf_31 : decode cX6_membersOf 31 = .ok (.ior, 1) := by decide +kernel
theorem dX6_membersOf_32 : decode cX6_membersOf 32 = .ok (.istore_n 2, 1) := by decide +kernel
theorem dX6_membersOf_33 : decode cX6_membersOf 33 = .ok (.iinc 3 1, 3) := by decide +kernel
theorem dX6_membersOf_36 : decode cX6_membersOf 36 = .ok (.goto (-32), 3) := by decide +kernel
theorem dX6_membersOf_39 : decode cX6_membersOf 39 = .ok (.iload_n 2, 1) := by decide +kernel
theorem dX6_membersOf_40 : decode cX6_membersOf 40 = .ok (.ireturn, 1) := by decide +kernel
theorem dX6_isLeast_0 : decode cX6_isLeast 0 = .ok (.aload_n 0, 1) := by decide +kernel
theorem dX6_isLeast_1 : decode cX6_isLeast 1 = .ok (.getfield 32, 3) := by decide +kernel
theorem dX6_isLeast_4 : decode cX6_isLeast 4 = .ok (.iload_n 1, 1) := by decide +kernel
theorem dX6_isLeast_5 : decode cX6_isLeast 5 = .ok (.baload, 1) := by decide +kernel
theorem dX6_isLeast_6 : decode cX6_isLeast 6 = .ok (.istore_n 2, 1) := by decide +kernel
theorem dX6_isLeast_7 : decode cX6_isLeast 7 = .ok (.iconst 0, 1) := by decide +kernel
theorem dX6_isLeast_8 : decode cX6_isLeast 8 = .ok (.istore_n 3, 1) := by decide +kernel
theorem dX6_isLeast_9 : decode cX6_isLeast 9 = .ok (.iload_n 3, 1) := by decide +kernel
theorem dX6_isLeast_10 : decode cX6_isLeast 10 = .ok (.aload_n 0, 1) := by decide +kernel
theorem dX6_isLeast_11 : decode cX6_isLeast 11 = .ok (.getfield 77, 3) := by decide +kernel
theorem dX6_isLeast_14 : decode cX6_isLeast 14 = .ok (.if_icmp .ge 42, 3) := by decide +kernel
theorem dX6_isLeast_17 : decode cX6_isLeast 17 = .ok (.iload_n 2, 1) := by decide +kernel
theorem dX6_isLeast_18 : decode cX6_isLeast 18 = .ok (.ifCond .eq 30, 3) := by decide +kernel
theorem dX6_isLeast_21 : decode cX6_isLeast 21 = .ok (.iload_n 1, 1) := by decide +kernel
theorem dX6_isLeast_22 : decode cX6_isLeast 22 = .ok (.iload_n 3, 1) := by decide +kernel
theorem dX6_isLeast_23 : decode cX6_isLeast 23 = .ok (.invokestatic 86, 3) := by decide +kernel
theorem dX6_isLeast_26 : decode cX6_isLeast 26 = .ok (.ifCond .eq 18, 3) := by decide +kernel
theorem dX6_isLeast_29 : decode cX6_isLeast 29 = .ok (.aload_n 0, 1) := by decide +kernel
theorem dX6_isLeast_30 : decode cX6_isLeast 30 = .ok (.getfield 32, 3) := by decide +kernel
theorem dX6_isLeast_33 : decode cX6_isLeast 33 = .ok (.iload_n 1, 1) := by decide +kernel
theorem dX6_isLeast_34 : decode cX6_isLeast 34 = .ok (.iconst 1, 1) := by decide +kernel
theorem dX6_isLeast_35 : decode cX6_isLeast 35 = .ok (.iload_n 3, 1) := by decide +kernel
theorem dX6_isLeast_36 : decode cX6_isLeast 36 = .ok (.ishl, 1) := by decide +kernel
theorem dX6_isLeast_37 : decode cX6_isLeast 37 = .ok (.iconst (-1), 1) := by decide +kernel
theorem dX6_isLeast_38 : decode cX6_isLeast 38 = .ok (.ixor, 1) := by decide +kernel
theorem dX6_isLeast_39 : decode cX6_isLeast 39 = .ok (.iand, 1) := by decide +kernel
theorem dX6_isLeast_40 : decode cX6_isLeast 40 = .ok (.baload, 1) := by decide +kernel
theorem dX6_isLeast_41 : decode cX6_isLeast 41 = .ok (.ifCond .ne 7, 3) := by decide +kernel
theorem dX6_isLeast_44 : decode cX6_isLeast 44 = .ok (.iconst 1, 1) := by decide +kernel
theorem dX6_isLeast_45 : decode cX6_isLeast 45 = .ok (.goto 4, 3) := by decide +kernel
theorem dX6_isLeast_48 : decode cX6_isLeast 48 = .ok (.iconst 0, 1) := by decide +kernel
theorem dX6_isLeast_49 : decode cX6_isLeast 49 = .ok (.istore_n 2, 1) := by decide +kernel
theorem dX6_isLeast_50 : decode cX6_isLeast 50 = .ok (.iinc 3 1, 3) := by decide +kernel
theorem dX6_isLeast_53 : decode cX6_isLeast 53 = .ok (.goto (-44), 3) := by decide +kernel
theorem dX6_isLeast_56 : decode cX6_isLeast 56 = .ok (.iload_n 2, 1) := by decide +kernel
theorem dX6_isLeast_57 : decode cX6_isLeast 57 = .ok (.ireturn, 1) := by decide +kernel
theorem dX6_isAhead_0 : decode cX6_isAhead 0 = .ok (.iload_n 1, 1) := by decide +kernel
theorem dX6_isAhead_1 : decode cX6_isAhead 1 = .ok (.invokestatic 105, 3) := by decide +kernel
theorem dX6_isAhead_4 : decode cX6_isAhead 4 = .ok (.iload_n 2, 1) := by decide +kernel
theorem dX6_isAhead_5 : decode cX6_isAhead 5 = .ok (.invokestatic 105, 3) := by decide +kernel
theorem dX6_isAhead_8 : decode cX6_isAhead 8 = .ok (.if_icmp .eq 20, 3) := by decide +kernel
theorem dX6_isAhead_11 : decode cX6_isAhead 11 = .ok (.iload_n 1, 1) := by decide +kernel
theorem dX6_isAhead_12 : decode cX6_isAhead 12 = .ok (.invokestatic 105, 3) := by decide +kernel
theorem dX6_isAhead_15 : decode cX6_isAhead 15 = .ok (.iload_n 2, 1) := by decide +kernel
theorem dX6_isAhead_16 : decode cX6_isAhead 16 = .ok (.invokestatic 105, 3) := by decide +kernel
theorem dX6_isAhead_19 : decode cX6_isAhead 19 = .ok (.if_icmp .ge 7, 3) := by decide +kernel
theorem dX6_isAhead_22 : decode cX6_isAhead 22 = .ok (.iconst 1, 1) := by decide +kernel
theorem dX6_isAhead_23 : decode cX6_isAhead 23 = .ok (.goto 4, 3) := by decide +kernel
theorem dX6_isAhead_26 : decode cX6_isAhead 26 = .ok (.iconst 0, 1) := by decide +kernel
theorem dX6_isAhead_27 : decode cX6_isAhead 27 = .ok (.ireturn, 1) := by decide +kernel
theorem dX6_isAhead_28 : decode cX6_isAhead 28 = .ok (.aload_n 0, 1) := by decide +kernel
theorem dX6_isAhead_29 : decode cX6_isAhead 29 = .ok (.iload_n 1, 1) := by decide +kernel
theorem dX6_isAhead_30 : decode cX6_isAhead 30 = .ok (.invokevirtual 90, 3) := by decide +kernel
theorem dX6_isAhead_33 : decode cX6_isAhead 33 = .ok (.aload_n 0, 1) := by decide +kernel
theorem dX6_isAhead_34 : decode cX6_isAhead 34 = .ok (.iload_n 2, 1) := by decide +kernel
theorem dX6_isAhead_35 : decode cX6_isAhead 35 = .ok (.invokevirtual 90, 3) := by decide +kernel
theorem dX6_isAhead_38 : decode cX6_isAhead 38 = .ok (.if_icmp .eq 22, 3) := by decide +kernel
theorem dX6_isAhead_41 : decode cX6_isAhead 41 = .ok (.aload_n 0, 1) := by decide +kernel
theorem dX6_isAhead_42 : decode cX6_isAhead 42 = .ok (.iload_n 1, 1) := by decide +kernel
theorem dX6_isAhead_43 : decode cX6_isAhead 43 = .ok (.invokevirtual 90, 3) := by decide +kernel
theorem dX6_isAhead_46 : decode cX6_isAhead 46 = .ok (.aload_n 0, 1) := by decide +kernel
theorem dX6_isAhead_47 : decode cX6_isAhead 47 = .ok (.iload_n 2, 1) := by decide +kernel
theorem dX6_isAhead_48 : decode cX6_isAhead 48 = .ok (.invokevirtual 90, 3) := by decide +kernel
theorem dX6_isAhead_51 : decode cX6_isAhead 51 = .ok (.if_icmp .ge 7, 3) := by decide +kernel
theorem dX6_isAhead_54 : decode cX6_isAhead 54 = .ok (.iconst 1, 1) := by decide +kernel
theorem dX6_isAhead_55 : decode cX6_isAhead 55 = .ok (.goto 4, 3) := by decide +kernel
theorem dX6_isAhead_58 : decode cX6_isAhead 58 = .ok (.iconst 0, 1) := by decide +kernel
theorem dX6_isAhead_59 : decode cX6_isAhead 59 = .ok (.ireturn, 1) := by decide +kernel
theorem dX6_isAhead_60 : decode cX6_isAhead 60 = .ok (.aload_n 0, 1) := by decide +kernel
theorem dX6_isAhead_61 : decode cX6_isAhead 61 = .ok (.iload_n 1, 1) := by decide +kernel
theorem dX6_isAhead_62 : decode cX6_isAhead 62 = .ok (.invokevirtual 111, 3) := by decide +kernel
theorem dX6_isAhead_65 : decode cX6_isAhead 65 = .ok (.aload_n 0, 1) := by decide +kernel
theorem dX6_isAhead_66 : decode cX6_isAhead 66 = .ok (.iload_n 2, 1) := by decide +kernel
theorem dX6_isAhead_67 : decode cX6_isAhead 67 = .ok (.invokevirtual 111, 3) := by decide +kernel
theorem dX6_isAhead_70 : decode cX6_isAhead 70 = .ok (.if_icmp .ge 7, 3) := by decide +kernel
theorem dX6_isAhead_73 : decode cX6_isAhead 73 = .ok (.iconst 1, 1) := by decide +kernel
theorem dX6_isAhead_74 : decode cX6_isAhead 74 = .ok (.goto 4, 3) := by decide +kernel
theorem dX6_isAhead_77 : decode cX6_isAhead 77 = .ok (.iconst 0, 1) := by decide +kernel
theorem dX6_isAhead_78 : decode cX6_isAhead 78 = .ok (.ireturn, 1) := by decide +kernel
theorem dX6_findLeast_0 : decode cX6_findLeast 0 = .ok (.aload_n 0, 1) := by decide +kernel
theorem dX6_findLeast_1 : decode cX6_findLeast 1 = .ok (.invokevirtual 114, 3) := by decide +kernel
theorem dX6_findLeast_4 : decode cX6_findLeast 4 = .ok (.aload_n 0, 1) := by decide +kernel
theorem dX6_findLeast_5 : decode cX6_findLeast 5 = .ok (.iconst 0, 1) := by decide +kernel
theorem dX6_findLeast_6 : decode cX6_findLeast 6 = .ok (.putfield 117, 3) := by decide +kernel
theorem dX6_findLeast_9 : decode cX6_findLeast 9 = .ok (.iconst 0, 1) := by decide +kernel
theorem dX6_findLeast_10 : decode cX6_findLeast 10 = .ok (.istore_n 1, 1) := by decide +kernel
theorem dX6_findLeast_11 : decode cX6_findLeast 11 = .ok (.iload_n 1, 1) := by decide +kernel
theorem dX6_findLeast_12 : decode cX6_findLeast 12 = .ok (.iconst 1, 1) := by decide +kernel
theorem dX6_findLeast_13 : decode cX6_findLeast 13 = .ok (.aload_n 0, 1) := by decide +kernel
theorem dX6_findLeast_14 : decode cX6_findLeast 14 = .ok (.getfield 77, 3) := by decide +kernel
theorem dX6_findLeast_17 : decode cX6_findLeast 17 = .ok (.ishl, 1) := by decide +kernel
theorem dX6_findLeast_18 : decode cX6_findLeast 18 = .ok (.if_icmp .ge 79, 3) := by decide +kernel
theorem dX6_findLeast_21 : decode cX6_findLeast 21 = .ok (.aload_n 0, 1) := by decide +kernel
theorem dX6_findLeast_22 : decode cX6_findLeast 22 = .ok (.iload_n 1, 1) := by decide +kernel
theorem dX6_findLeast_23 : decode cX6_findLeast 23 = .ok (.invokevirtual 120, 3) := by decide +kernel
theorem dX6_findLeast_26 : decode cX6_findLeast 26 = .ok (.ifCond .eq 65, 3) := by decide +kernel
theorem dX6_findLeast_29 : decode cX6_findLeast 29 = .ok (.aload_n 0, 1) := by decide +kernel
theorem dX6_findLeast_30 : decode cX6_findLeast 30 = .ok (.getfield 117, 3) := by decide +kernel
theorem dX6_findLeast_33 : decode cX6_findLeast 33 = .ok (.istore_n 2, 1) := by decide +kernel
theorem dX6_findLeast_34 : decode cX6_findLeast 34 = .ok (.iload_n 2, 1) := by decide +kernel
theorem dX6_findLeast_35 : decode cX6_findLeast 35 = .ok (.ifCond .le 39, 3) := by decide +kernel
theorem dX6_findLeast_38 : decode cX6_findLeast 38 = .ok (.aload_n 0, 1) := by decide +kernel
theorem dX6_findLeast_39 : decode cX6_findLeast 39 = .ok (.iload_n 1, 1) := by decide +kernel
theorem dX6_findLeast_40 : decode cX6_findLeast 40 = .ok (.aload_n 0, 1) := by decide +kernel
theorem dX6_findLeast_41 : decode cX6_findLeast 41 = .ok (.getfield 39, 3) := by decide +kernel
theorem dX6_findLeast_44 : decode cX6_findLeast 44 = .ok (.iload_n 2, 1) := by decide +kernel
theorem dX6_findLeast_45 : decode cX6_findLeast 45 = .ok (.iconst 1, 1) := by decide +kernel
theorem dX6_findLeast_46 : decode cX6_findLeast 46 = .ok (.isub, 1) := by decide +kernel
theorem dX6_findLeast_47 : decode cX6_findLeast 47 = .ok (.iaload, 1) := by decide +kernel
theorem dX6_findLeast_48 : decode cX6_findLeast 48 = .ok (.invokevirtual 123, 3) := by decide +kernel
theorem dX6_findLeast_51 : decode cX6_findLeast 51 = .ok (.ifCond .eq 23, 3) := by decide +kernel
theorem dX6_findLeast_54 : decode cX6_findLeast 54 = .ok (.aload_n 0, 1) := by decide +kernel
theorem dX6_findLeast_55 : decode cX6_findLeast 55 = .ok (.getfield 39, 3) := by decide +kernel
theorem dX6_findLeast_58 : decode cX6_findLeast 58 = .ok (.iload_n 2, 1) := by decide +kernel
theorem dX6_findLeast_59 : decode cX6_findLeast 59 = .ok (.aload_n 0, 1) := by decide +kernel
theorem dX6_findLeast_60 : decode cX6_findLeast 60 = .ok (.getfield 39, 3) := by decide +kernel
theorem dX6_findLeast_63 : decode cX6_findLeast 63 = .ok (.iload_n 2, 1) := by decide +kernel
theorem dX6_findLeast_64 : decode cX6_findLeast 64 = .ok (.iconst 1, 1) := by decide +kernel
theorem dX6_findLeast_65 : decode cX6_findLeast 65 = .ok (.isub, 1) := by decide +kernel
theorem dX6_findLeast_66 : decode cX6_findLeast 66 = .ok (.iaload, 1) := by decide +kernel
theorem dX6_findLeast_67 : decode cX6_findLeast 67 = .ok (.iastore, 1) := by decide +kernel
theorem dX6_findLeast_68 : decode cX6_findLeast 68 = .ok (.iinc 2 (-1), 3) := by decide +kernel
theorem dX6_findLeast_71 : decode cX6_findLeast 71 = .ok (.goto (-37), 3) := by decide +kernel
theorem dX6_findLeast_74 : decode cX6_findLeast 74 = .ok (.aload_n 0, 1) := by decide +kernel
theorem dX6_findLeast_75 : decode cX6_findLeast 75 = .ok (.getfield 39, 3) := by decide +kernel
theorem dX6_findLeast_78 : decode cX6_findLeast 78 = .ok (.iload_n 2, 1) := by decide +kernel
theorem dX6_findLeast_79 : decode cX6_findLeast 79 = .ok (.iload_n 1, 1) := by decide +kernel
theorem dX6_findLeast_80 : decode cX6_findLeast 80 = .ok (.iastore, 1) := by decide +kernel
theorem dX6_findLeast_81 : decode cX6_findLeast 81 = .ok (.aload_n 0, 1) := by decide +kernel
theorem dX6_findLeast_82 : decode cX6_findLeast 82 = .ok (.dup, 1) := by decide +kernel
theorem dX6_findLeast_83 : decode cX6_findLeast 83 = .ok (.getfield 117, 3) := by decide +kernel
theorem dX6_findLeast_86 : decode cX6_findLeast 86 = .ok (.iconst 1, 1) := by decide +kernel
theorem dX6_findLeast_87 : decode cX6_findLeast 87 = .ok (.iadd, 1) := by decide +kernel
theorem dX6_findLeast_88 : decode cX6_findLeast 88 = .ok (.putfield 117, 3) := by decide +kernel
theorem dX6_findLeast_91 : decode cX6_findLeast 91 = .ok (.iinc 1 1, 3) := by decide +kernel
theorem dX6_findLeast_94 : decode cX6_findLeast 94 = .ok (.goto (-83), 3) := by decide +kernel
theorem dX6_findLeast_97 : decode cX6_findLeast 97 = .ok (.return_, 1) := by decide +kernel
theorem dX6_type_0 : decode cX6_type 0 = .ok (.aload_n 0, 1) := by decide +kernel
theorem dX6_type_1 : decode cX6_type 1 = .ok (.getfield 126, 3) := by decide +kernel
theorem dX6_type_4 : decode cX6_type 4 = .ok (.bipush 60, 2) := by decide +kernel
theorem dX6_type_6 : decode cX6_type 6 = .ok (.if_icmp .ne 6, 3) := by decide +kernel
theorem dX6_type_9 : decode cX6_type 9 = .ok (.bipush (-3), 2) := by decide +kernel
theorem dX6_type_11 : decode cX6_type 11 = .ok (.ireturn, 1) := by decide +kernel
theorem dX6_type_12 : decode cX6_type 12 = .ok (.aload_n 0, 1) := by decide +kernel
theorem dX6_type_13 : decode cX6_type 13 = .ok (.getfield 19, 3) := by decide +kernel
theorem dX6_type_16 : decode cX6_type 16 = .ok (.aload_n 0, 1) := by decide +kernel
theorem dX6_type_17 : decode cX6_type 17 = .ok (.getfield 126, 3) := by decide +kernel
theorem dX6_type_20 : decode cX6_type 20 = .ok (.iload_n 1, 1) := by decide +kernel
theorem dX6_type_21 : decode cX6_type 21 = .ok (.castore, 1) := by decide +kernel
theorem dX6_type_22 : decode cX6_type 22 = .ok (.aload_n 0, 1) := by decide +kernel
theorem dX6_type_23 : decode cX6_type 23 = .ok (.dup, 1) := by decide +kernel
theorem dX6_type_24 : decode cX6_type 24 = .ok (.getfield 126, 3) := by decide +kernel
theorem dX6_type_27 : decode cX6_type 27 = .ok (.iconst 1, 1) := by decide +kernel
theorem dX6_type_28 : decode cX6_type 28 = .ok (.iadd, 1) := by decide +kernel
theorem dX6_type_29 : decode cX6_type 29 = .ok (.putfield 126, 3) := by decide +kernel
theorem dX6_type_32 : decode cX6_type 32 = .ok (.aload_n 0, 1) := by decide +kernel
theorem dX6_type_33 : decode cX6_type 33 = .ok (.getfield 126, 3) := by decide +kernel
theorem dX6_type_36 : decode cX6_type 36 = .ok (.ireturn, 1) := by decide +kernel
theorem dX6_clearText_0 : decode cX6_clearText 0 = .ok (.aload_n 0, 1) := by decide +kernel
theorem dX6_clearText_1 : decode cX6_clearText 1 = .ok (.getfield 126, 3) := by decide +kernel
theorem dX6_clearText_4 : decode cX6_clearText 4 = .ok (.istore_n 1, 1) := by decide +kernel
theorem dX6_clearText_5 : decode cX6_clearText 5 = .ok (.aload_n 0, 1) := by decide +kernel
theorem dX6_clearText_6 : decode cX6_clearText 6 = .ok (.iconst 0, 1) := by decide +kernel
theorem dX6_clearText_7 : decode cX6_clearText 7 = .ok (.putfield 126, 3) := by decide +kernel
theorem dX6_clearText_10 : decode cX6_clearText 10 = .ok (.iload_n 1, 1) := by decide +kernel
theorem dX6_clearText_11 : decode cX6_clearText 11 = .ok (.ireturn, 1) := by decide +kernel
theorem dX6_ballots_0 : decode cX6_ballots 0 = .ok (.aload_n 0, 1) := by decide +kernel
theorem dX6_ballots_1 : decode cX6_ballots 1 = .ok (.iconst 0, 1) := by decide +kernel
theorem dX6_ballots_2 : decode cX6_ballots 2 = .ok (.putfield 129, 3) := by decide +kernel
theorem dX6_ballots_5 : decode cX6_ballots 5 = .ok (.iconst 0, 1) := by decide +kernel
theorem dX6_ballots_6 : decode cX6_ballots 6 = .ok (.istore_n 2, 1) := by decide +kernel
theorem dX6_ballots_7 : decode cX6_ballots 7 = .ok (.iconst 1, 1) := by decide +kernel
theorem dX6_ballots_8 : decode cX6_ballots 8 = .ok (.istore_n 3, 1) := by decide +kernel
theorem dX6_ballots_9 : decode cX6_ballots 9 = .ok (.iload_n 3, 1) := by decide +kernel
theorem dX6_ballots_10 : decode cX6_ballots 10 = .ok (.ifCond .eq 168, 3) := by decide +kernel
theorem dX6_ballots_13 : decode cX6_ballots 13 = .ok (.aload_n 0, 1) := by decide +kernel
theorem dX6_ballots_14 : decode cX6_ballots 14 = .ok (.getfield 129, 3) := by decide +kernel
theorem dX6_ballots_17 : decode cX6_ballots 17 = .ok (.istore 4, 2) := by decide +kernel
theorem dX6_ballots_19 : decode cX6_ballots 19 = .ok (.iconst 0, 1) := by decide +kernel
theorem dX6_ballots_20 : decode cX6_ballots 20 = .ok (.istore 5, 2) := by decide +kernel
theorem dX6_ballots_22 : decode cX6_ballots 22 = .ok (.iload 5, 2) := by decide +kernel
theorem dX6_ballots_24 : decode cX6_ballots 24 = .ok (.aload_n 0, 1) := by decide +kernel
theorem dX6_ballots_25 : decode cX6_ballots 25 = .ok (.getfield 7, 3) := by decide +kernel
theorem dX6_ballots_28 : decode cX6_ballots 28 = .ok (.iconst 0, 1) := by decide +kernel
theorem dX6_ballots_29 : decode cX6_ballots 29 = .ok (.iaload, 1) := by decide +kernel
theorem dX6_ballots_30 : decode cX6_ballots 30 = .ok (.if_icmp .ge 75, 3) := by decide +kernel
theorem dX6_ballots_33 : decode cX6_ballots 33 = .ok (.aload_n 0, 1) := by decide +kernel
theorem dX6_ballots_34 : decode cX6_ballots 34 = .ok (.getfield 129, 3) := by decide +kernel
theorem dX6_ballots_37 : decode cX6_ballots 37 = .ok (.aload_n 0, 1) := by decide +kernel
theorem dX6_ballots_38 : decode cX6_ballots 38 = .ok (.getfield 126, 3) := by decide +kernel
theorem dX6_ballots_41 : decode cX6_ballots 41 = .ok (.if_icmp .eq 45, 3) := by decide +kernel
theorem dX6_ballots_44 : decode cX6_ballots 44 = .ok (.aload_n 0, 1) := by decide +kernel
theorem dX6_ballots_45 : decode cX6_ballots 45 = .ok (.getfield 19, 3) := by decide +kernel
theorem dX6_ballots_48 : decode cX6_ballots 48 = .ok (.aload_n 0, 1) := by decide +kernel
theorem dX6_ballots_49 : decode cX6_ballots 49 = .ok (.getfield 129, 3) := by decide +kernel
theorem dX6_ballots_52 : decode cX6_ballots 52 = .ok (.caload, 1) := by decide +kernel
theorem dX6_ballots_53 : decode cX6_ballots 53 = .ok (.bipush 43, 2) := by decide +kernel
theorem dX6_ballots_55 : decode cX6_ballots 55 = .ok (.if_icmp .eq 34, 3) := by decide +kernel
theorem dX6_ballots_58 : decode cX6_ballots 58 = .ok (.aload_n 0, 1) := by decide +kernel
theorem dX6_ballots_59 : decode cX6_ballots 59 = .ok (.getfield 19, 3) := by decide +kernel
theorem dX6_ballots_62 : decode cX6_ballots 62 = .ok (.aload_n 0, 1) := by decide +kernel
theorem dX6_ballots_63 : decode cX6_ballots 63 = .ok (.getfield 129, 3) := by decide +kernel
theorem dX6_ballots_66 : decode cX6_ballots 66 = .ok (.caload, 1) := by decide +kernel
theorem dX6_ballots_67 : decode cX6_ballots 67 = .ok (.bipush 45, 2) := by decide +kernel
theorem dX6_ballots_69 : decode cX6_ballots 69 = .ok (.if_icmp .eq 20, 3) := by decide +kernel
theorem dX6_ballots_72 : decode cX6_ballots 72 = .ok (.aload_n 0, 1) := by decide +kernel
theorem dX6_ballots_73 : decode cX6_ballots 73 = .ok (.getfield 19, 3) := by decide +kernel
theorem dX6_ballots_76 : decode cX6_ballots 76 = .ok (.aload_n 0, 1) := by decide +kernel
theorem dX6_ballots_77 : decode cX6_ballots 77 = .ok (.getfield 129, 3) := by decide +kernel
theorem dX6_ballots_80 : decode cX6_ballots 80 = .ok (.caload, 1) := by decide +kernel
theorem dX6_ballots_81 : decode cX6_ballots 81 = .ok (.bipush 48, 2) := by decide +kernel
theorem dX6_ballots_83 : decode cX6_ballots 83 = .ok (.if_icmp .eq 6, 3) := by decide +kernel
theorem dX6_ballots_86 : decode cX6_ballots 86 = .ok (.bipush (-5), 2) := by decide +kernel
theorem dX6_ballots_88 : decode cX6_ballots 88 = .ok (.ireturn, 1) := by decide +kernel
theorem dX6_ballots_89 : decode cX6_ballots 89 = .ok (.aload_n 0, 1) := by decide +kernel
theorem dX6_ballots_90 : decode cX6_ballots 90 = .ok (.dup, 1) := by decide +kernel
theorem dX6_ballots_91 : decode cX6_ballots 91 = .ok (.getfield 129, 3) := by decide +kernel
theorem dX6_ballots_94 : decode cX6_ballots 94 = .ok (.iconst 1, 1) := by decide +kernel
theorem dX6_ballots_95 : decode cX6_ballots 95 = .ok (.iadd, 1) := by decide +kernel
theorem dX6_ballots_96 : decode cX6_ballots 96 = .ok (.putfield 129, 3) := by decide +kernel
theorem dX6_ballots_99 : decode cX6_ballots 99 = .ok (.iinc 5 1, 3) := by decide +kernel
theorem dX6_ballots_102 : decode cX6_ballots 102 = .ok (.goto (-80), 3) := by decide +kernel
theorem dX6_ballots_105 : decode cX6_ballots 105 = .ok (.iload_n 2, 1) := by decide +kernel
theorem dX6_ballots_106 : decode cX6_ballots 106 = .ok (.iload_n 1, 1) := by decide +kernel
theorem dX6_ballots_107 : decode cX6_ballots 107 = .ok (.ifCond .eq 16, 3) := by decide +kernel
theorem dX6_ballots_110 : decode cX6_ballots 110 = .ok (.aload_n 0, 1) := by decide +kernel
theorem dX6_ballots_111 : decode cX6_ballots 111 = .ok (.iload 4, 2) := by decide +kernel
theorem dX6_ballots_113 : decode cX6_ballots 113 = .ok (.invokevirtual 132, 3) := by decide +kernel
theorem dX6_ballots_116 : decode cX6_ballots 116 = .ok (.ifCond .eq 7, 3) := by decide +kernel
theorem dX6_ballots_119 : decode cX6_ballots 119 = .ok (.iconst 1, 1) := by decide +kernel
theorem dX6_ballots_120 : decode cX6_ballots 120 = .ok (.goto 4, 3) := by decide +kernel
theorem dX6_ballots_123 : decode cX6_ballots 123 = .ok (.iconst 0, 1) := by decide +kernel
theorem dX6_ballots_124 : decode cX6_ballots 124 = .ok (.iadd, 1) := by decide +kernel
theorem dX6_ballots_125 : decode cX6_ballots 125 = .ok (.istore_n 2, 1) := by decide +kernel
theorem dX6_ballots_126 : decode cX6_ballots 126 = .ok (.aload_n 0, 1) := by decide +kernel
theorem dX6_ballots_127 : decode cX6_ballots 127 = .ok (.getfield 129, 3) := by decide +kernel
theorem dX6_ballots_130 : decode cX6_ballots 130 = .ok (.aload_n 0, 1) := by decide +kernel
theorem dX6_ballots_131 : decode cX6_ballots 131 = .ok (.getfield 126, 3) := by decide +kernel
theorem dX6_ballots_134 : decode cX6_ballots 134 = .ok (.if_icmp .ge 21, 3) := by decide +kernel
theorem dX6_ballots_137 : decode cX6_ballots 137 = .ok (.aload_n 0, 1) := by decide +kernel
theorem dX6_ballots_138 : decode cX6_ballots 138 = .ok (.getfield 19, 3) := by decide +kernel
theorem dX6_ballots_141 : decode cX6_ballots 141 = .ok (.aload_n 0, 1) := by decide +kernel
theorem dX6_ballots_142 : decode cX6_ballots 142 = .ok (.getfield 129, 3) := by decide +kernel
theorem dX6_ballots_145 : decode cX6_ballots 145 = .ok (.caload, 1) := by decide +kernel
theorem dX6_ballots_146 : decode cX6_ballots 146 = .ok (.bipush 44, 2) := by decide +kernel
theorem dX6_ballots_148 : decode cX6_ballots 148 = .ok (.if_icmp .ne 7, 3) := by decide +kernel
theorem dX6_ballots_151 : decode cX6_ballots 151 = .ok (.iconst 1, 1) := by decide +kernel
theorem dX6_ballots_152 : decode cX6_ballots 152 = .ok (.goto 4, 3) := by decide +kernel
theorem dX6_ballots_155 : decode cX6_ballots 155 = .ok (.iconst 0, 1) := by decide +kernel
theorem dX6_ballots_156 : decode cX6_ballots 156 = .ok (.istore_n 3, 1) := by decide +kernel
theorem dX6_ballots_157 : decode cX6_ballots 157 = .ok (.aload_n 0, 1) := by decide +kernel
theorem dX6_ballots_158 : decode cX6_ballots 158 = .ok (.dup, 1) := by decide +kernel
theorem dX6_ballots_159 : decode cX6_ballots 159 = .ok (.getfield 129, 3) := by decide +kernel
theorem dX6_ballots_162 : decode cX6_ballots 162 = .ok (.iload_n 3, 1) := by decide +kernel
theorem dX6_ballots_163 : decode cX6_ballots 163 = .ok (.ifCond .eq 7, 3) := by decide +kernel
theorem dX6_ballots_166 : decode cX6_ballots 166 = .ok (.iconst 1, 1) := by decide +kernel
theorem dX6_ballots_167 : decode cX6_ballots 167 = .ok (.goto 4, 3) := by decide +kernel
theorem dX6_ballots_170 : decode cX6_ballots 170 = .ok (.iconst 0, 1) := by decide +kernel
theorem dX6_ballots_171 : decode cX6_ballots 171 = .ok (.iadd, 1) := by decide +kernel
theorem dX6_ballots_172 : decode cX6_ballots 172 = .ok (.putfield 129, 3) := by decide +kernel
theorem dX6_ballots_175 : decode cX6_ballots 175 = .ok (.goto (-166), 3) := by decide +kernel
theorem dX6_ballots_178 : decode cX6_ballots 178 = .ok (.aload_n 0, 1) := by decide +kernel
theorem dX6_ballots_179 : decode cX6_ballots 179 = .ok (.getfield 129, 3) := by decide +kernel
theorem dX6_ballots_182 : decode cX6_ballots 182 = .ok (.aload_n 0, 1) := by decide +kernel
theorem dX6_ballots_183 : decode cX6_ballots 183 = .ok (.getfield 126, 3) := by decide +kernel
theorem dX6_ballots_186 : decode cX6_ballots 186 = .ok (.if_icmp .ge 8, 3) := by decide +kernel
theorem dX6_ballots_189 : decode cX6_ballots 189 = .ok (.bipush (-5), 2) := by decide +kernel
theorem dX6_ballots_191 : decode cX6_ballots 191 = .ok (.goto 4, 3) := by decide +kernel
theorem dX6_ballots_194 : decode cX6_ballots 194 = .ok (.iload_n 2, 1) := by decide +kernel
theorem dX6_ballots_195 : decode cX6_ballots 195 = .ok (.ireturn, 1) := by decide +kernel
theorem dX6_leader_0 : decode cX6_leader 0 = .ok (.aload_n 0, 1) := by decide +kernel
theorem dX6_leader_1 : decode cX6_leader 1 = .ok (.getfield 7, 3) := by decide +kernel
theorem dX6_leader_4 : decode cX6_leader 4 = .ok (.bipush 49, 2) := by decide +kernel
theorem dX6_leader_6 : decode cX6_leader 6 = .ok (.iload_n 1, 1) := by decide +kernel
theorem dX6_leader_7 : decode cX6_leader 7 = .ok (.iadd, 1) := by decide +kernel
theorem dX6_leader_8 : decode cX6_leader 8 = .ok (.iaload, 1) := by decide +kernel
theorem dX6_leader_9 : decode cX6_leader 9 = .ok (.istore_n 2, 1) := by decide +kernel
theorem dX6_leader_10 : decode cX6_leader 10 = .ok (.iconst 0, 1) := by decide +kernel
theorem dX6_leader_11 : decode cX6_leader 11 = .ok (.istore_n 3, 1) := by decide +kernel
theorem dX6_leader_12 : decode cX6_leader 12 = .ok (.iload_n 3, 1) := by decide +kernel
theorem dX6_leader_13 : decode cX6_leader 13 = .ok (.aload_n 0, 1) := by decide +kernel
theorem dX6_leader_14 : decode cX6_leader 14 = .ok (.getfield 7, 3) := by decide +kernel
theorem dX6_leader_17 : decode cX6_leader 17 = .ok (.iconst 0, 1) := by decide +kernel
theorem dX6_leader_18 : decode cX6_leader 18 = .ok (.iaload, 1) := by decide +kernel
theorem dX6_leader_19 : decode cX6_leader 19 = .ok (.if_icmp .ge 57, 3) := by decide +kernel
theorem dX6_leader_22 : decode cX6_leader 22 = .ok (.aload_n 0, 1) := by decide +kernel
theorem dX6_leader_23 : decode cX6_leader 23 = .ok (.getfield 7, 3) := by decide +kernel
theorem dX6_leader_26 : decode cX6_leader 26 = .ok (.bipush 49, 2) := by decide +kernel
theorem dX6_leader_28 : decode cX6_leader 28 = .ok (.iload_n 3, 1) := by decide +kernel
theorem dX6_leader_29 : decode cX6_leader 29 = .ok (.iadd, 1) := by decide +kernel
theorem dX6_leader_30 : decode cX6_leader 30 = .ok (.iaload, 1) := by decide +kernel
theorem dX6_leader_31 : decode cX6_leader 31 = .ok (.aload_n 0, 1) := by decide +kernel
theorem dX6_leader_32 : decode cX6_leader 32 = .ok (.getfield 7, 3) := by decide +kernel
theorem dX6_leader_35 : decode cX6_leader 35 = .ok (.bipush 49, 2) := by decide +kernel
theorem dX6_leader_37 : decode cX6_leader 37 = .ok (.iload_n 1, 1) := by decide +kernel
theorem dX6_leader_38 : decode cX6_leader 38 = .ok (.iadd, 1) := by decide +kernel
theorem dX6_leader_39 : decode cX6_leader 39 = .ok (.iaload, 1) := by decide +kernel
theorem dX6_leader_40 : decode cX6_leader 40 = .ok (.if_icmp .ne 28, 3) := by decide +kernel
theorem dX6_leader_43 : decode cX6_leader 43 = .ok (.aload_n 0, 1) := by decide +kernel
theorem dX6_leader_44 : decode cX6_leader 44 = .ok (.getfield 7, 3) := by decide +kernel
theorem dX6_leader_47 : decode cX6_leader 47 = .ok (.bipush 29, 2) := by decide +kernel
theorem dX6_leader_49 : decode cX6_leader 49 = .ok (.iload_n 3, 1) := by decide +kernel
theorem dX6_leader_50 : decode cX6_leader 50 = .ok (.iadd, 1) := by decide +kernel
theorem dX6_leader_51 : decode cX6_leader 51 = .ok (.iaload, 1) := by decide +kernel
theorem dX6_leader_52 : decode cX6_leader 52 = .ok (.aload_n 0, 1) := by decide +kernel
theorem dX6_leader_53 : decode cX6_leader 53 = .ok (.getfield 7, 3) := by decide +kernel
theorem dX6_leader_56 : decode cX6_leader 56 = .ok (.bipush 29, 2) := by decide +kernel
theorem dX6_leader_58 : decode cX6_leader 58 = .ok (.iload_n 2, 1) := by decide +kernel
theorem dX6_leader_59 : decode cX6_leader 59 = .ok (.iadd, 1) := by decide +kernel
theorem dX6_leader_60 : decode cX6_leader 60 = .ok (.iaload, 1) := by decide +kernel
theorem dX6_leader_61 : decode cX6_leader 61 = .ok (.if_icmp .le 7, 3) := by decide +kernel
theorem dX6_leader_64 : decode cX6_leader 64 = .ok (.iload_n 3, 1) := by decide +kernel
theorem dX6_leader_65 : decode cX6_leader 65 = .ok (.goto 4, 3) := by decide +kernel
theorem dX6_leader_68 : decode cX6_leader 68 = .ok (.iload_n 2, 1) := by decide +kernel
theorem dX6_leader_69 : decode cX6_leader 69 = .ok (.istore_n 2, 1) := by decide +kernel
theorem dX6_leader_70 : decode cX6_leader 70 = .ok (.iinc 3 1, 3) := by decide +kernel
theorem dX6_leader_73 : decode cX6_leader 73 = .ok (.goto (-61), 3) := by decide +kernel
theorem dX6_leader_76 : decode cX6_leader 76 = .ok (.iload_n 2, 1) := by decide +kernel
theorem dX6_leader_77 : decode cX6_leader 77 = .ok (.ireturn, 1) := by decide +kernel
theorem dX6_holdBallot_0 : decode cX6_holdBallot 0 = .ok (.aload_n 0, 1) := by decide +kernel
theorem dX6_holdBallot_1 : decode cX6_holdBallot 1 = .ok (.invokevirtual 93, 3) := by decide +kernel
theorem dX6_holdBallot_4 : decode cX6_holdBallot 4 = .ok (.iconst 0, 1) := by decide +kernel
theorem dX6_holdBallot_5 : decode cX6_holdBallot 5 = .ok (.istore_n 2, 1) := by decide +kernel
theorem dX6_holdBallot_6 : decode cX6_holdBallot 6 = .ok (.iconst 0, 1) := by decide +kernel
theorem dX6_holdBallot_7 : decode cX6_holdBallot 7 = .ok (.istore_n 3, 1) := by decide +kernel
theorem dX6_holdBallot_8 : decode cX6_holdBallot 8 = .ok (.iconst 0, 1) := by decide +kernel
theorem dX6_holdBallot_9 : decode cX6_holdBallot 9 = .ok (.istore 4, 2) := by decide +kernel
theorem dX6_holdBallot_11 : decode cX6_holdBallot 11 = .ok (.iload 4, 2) := by decide +kernel
theorem dX6_holdBallot_13 : decode cX6_holdBallot 13 = .ok (.aload_n 0, 1) := by decide +kernel
theorem dX6_holdBallot_14 : decode cX6_holdBallot 14 = .ok (.getfield 7, 3) := by decide +kernel
theorem dX6_holdBallot_17 : decode cX6_holdBallot 17 = .ok (.iconst 0, 1) := by decide +kernel
theorem dX6_holdBallot_18 : decode cX6_holdBallot 18 = .ok (.iaload, 1) := by decide +kernel
theorem dX6_holdBallot_19 : decode cX6_holdBallot 19 = .ok (.if_icmp .ge 68, 3) := by decide +kernel
theorem dX6_holdBallot_22 : decode cX6_holdBallot 22 = .ok (.aload_n 0, 1) := by decide +kernel
theorem dX6_holdBallot_23 : decode cX6_holdBallot 23 = .ok (.getfield 19, 3) := by decide +kernel
theorem dX6_holdBallot_26 : decode cX6_holdBallot 26 = .ok (.iload_n 1, 1) := by decide +kernel
theorem dX6_holdBallot_27 : decode cX6_holdBallot 27 = .ok (.aload_n 0, 1) := by decide +kernel
theorem dX6_holdBallot_28 : decode cX6_holdBallot 28 = .ok (.iload 4, 2) := by decide +kernel
theorem dX6_holdBallot_30 : decode cX6_holdBallot 30 = .ok (.invokevirtual 135, 3) := by decide +kernel
theorem dX6_holdBallot_33 : decode cX6_holdBallot 33 = .ok (.iadd, 1) := by decide +kernel
theorem dX6_holdBallot_34 : decode cX6_holdBallot 34 = .ok (.caload, 1) := by decide +kernel
theorem dX6_holdBallot_35 : decode cX6_holdBallot 35 = .ok (.istore 5, 2) := by decide +kernel
theorem dX6_holdBallot_37 : decode cX6_holdBallot 37 = .ok (.iload_n 2, 1) := by decide +kernel
theorem dX6_holdBallot_38 : decode cX6_holdBallot 38 = .ok (.iload 5, 2) := by decide +kernel
theorem dX6_holdBallot_40 : decode cX6_holdBallot 40 = .ok (.bipush 43, 2) := by decide +kernel
theorem dX6_holdBallot_42 : decode cX6_holdBallot 42 = .ok (.if_icmp .ne 14, 3) := by decide +kernel
theorem dX6_holdBallot_45 : decode cX6_holdBallot 45 = .ok (.iconst 1, 1) := by decide +kernel
theorem dX6_holdBallot_46 : decode cX6_holdBallot 46 = .ok (.aload_n 0, 1) := by decide +kernel
theorem dX6_holdBallot_47 : decode cX6_holdBallot 47 = .ok (.iload 4, 2) := by decide +kernel
theorem dX6_holdBallot_49 : decode cX6_holdBallot 49 = .ok (.invokevirtual 83, 3) := by decide +kernel
theorem dX6_holdBallot_52 : decode cX6_holdBallot 52 = .ok (.ishl, 1) := by decide +kernel
theorem dX6_holdBallot_53 : decode cX6_holdBallot 53 = .ok (.goto 4, 3) := by decide +kernel
theorem dX6_holdBallot_56 : decode cX6_holdBallot 56 = .ok (.iconst 0, 1) := by decide +kernel
theorem dX6_holdBallot_57 : decode cX6_holdBallot 57 = .ok (.ior, 1) := by decide +kernel
theorem dX6_holdBallot_58 : decode cX6_holdBallot 58 = .ok (.istore_n 2, 1) := by decide +kernel
theorem dX6_holdBallot_59 : decode cX6_holdBallot 59 = .ok (.iload_n 3, 1) := by decide +kernel
theorem dX6_holdBallot_60 : decode cX6_holdBallot 60 = .ok (.aload_n 0, 1) := by decide +kernel
theorem dX6_holdBallot_61 : decode cX6_holdBallot 61 = .ok (.getfield 19, 3) := by decide +kernel
theorem dX6_holdBallot_64 : decode cX6_holdBallot 64 = .ok (.iload_n 1, 1) := by decide +kernel
theorem dX6_holdBallot_65 : decode cX6_holdBallot 65 = .ok (.iload 4, 2) := by decide +kernel
theorem dX6_holdBallot_67 : decode cX6_holdBallot 67 = .ok (.iadd, 1) := by decide +kernel
theorem dX6_holdBallot_68 : decode cX6_holdBallot 68 = .ok (.caload, 1) := by decide +kernel
theorem dX6_holdBallot_69 : decode cX6_holdBallot 69 = .ok (.iload 5, 2) := by decide +kernel
theorem dX6_holdBallot_71 : decode cX6_holdBallot 71 = .ok (.if_icmp .ne 7, 3) := by decide +kernel
theorem dX6_holdBallot_74 : decode cX6_holdBallot 74 = .ok (.iconst 0, 1) := by decide +kernel
theorem dX6_holdBallot_75 : decode cX6_holdBallot 75 = .ok (.goto 4, 3) := by decide +kernel
theorem dX6_holdBallot_78 : decode cX6_holdBallot 78 = .ok (.iconst 1, 1) := by decide +kernel
theorem dX6_holdBallot_79 : decode cX6_holdBallot 79 = .ok (.iadd, 1) := by decide +kernel
theorem dX6_holdBallot_80 : decode cX6_holdBallot 80 = .ok (.istore_n 3, 1) := by decide +kernel
theorem dX6_holdBallot_81 : decode cX6_holdBallot 81 = .ok (.iinc 4 1, 3) := by decide +kernel
theorem dX6_holdBallot_84 : decode cX6_holdBallot 84 = .ok (.goto (-73), 3) := by decide +kernel
theorem dX6_holdBallot_87 : decode cX6_holdBallot 87 = .ok (.aload_n 0, 1) := by decide +kernel
theorem dX6_holdBallot_88 : decode cX6_holdBallot 88 = .ok (.iload_n 2, 1) := by decide +kernel
theorem dX6_holdBallot_89 : decode cX6_holdBallot 89 = .ok (.aload_n 0, 1) := by decide +kernel
theorem dX6_holdBallot_90 : decode cX6_holdBallot 90 = .ok (.getfield 7, 3) := by decide +kernel
theorem dX6_holdBallot_93 : decode cX6_holdBallot 93 = .ok (.iconst 1, 1) := by decide +kernel
theorem dX6_holdBallot_94 : decode cX6_holdBallot 94 = .ok (.iaload, 1) := by decide +kernel
theorem dX6_holdBallot_95 : decode cX6_holdBallot 95 = .ok (.invokevirtual 96, 3) := by decide +kernel
theorem dX6_holdBallot_98 : decode cX6_holdBallot 98 = .ok (.istore 4, 2) := by decide +kernel
theorem dX6_holdBallot_100 : decode cX6_holdBallot 100 = .ok (.iconst 0, 1) := by decide +kernel
theorem dX6_holdBallot_101 : decode cX6_holdBallot 101 = .ok (.istore 5, 2) := by decide +kernel
theorem dX6_holdBallot_103 : decode cX6_holdBallot 103 = .ok (.iload 5, 2) := by decide +kernel
theorem dX6_holdBallot_105 : decode cX6_holdBallot 105 = .ok (.aload_n 0, 1) := by decide +kernel
theorem dX6_holdBallot_106 : decode cX6_holdBallot 106 = .ok (.getfield 7, 3) := by decide +kernel
theorem dX6_holdBallot_109 : decode cX6_holdBallot 109 = .ok (.iconst 0, 1) := by decide +kernel
theorem dX6_holdBallot_110 : decode cX6_holdBallot 110 = .ok (.iaload, 1) := by decide +kernel
theorem dX6_holdBallot_111 : decode cX6_holdBallot 111 = .ok (.if_icmp .ge 73, 3) := by decide +kernel
theorem dX6_holdBallot_114 : decode cX6_holdBallot 114 = .ok (.iconst 1, 1) := by decide +kernel
theorem dX6_holdBallot_115 : decode cX6_holdBallot 115 = .ok (.aload_n 0, 1) := by decide +kernel
theorem dX6_holdBallot_116 : decode cX6_holdBallot 116 = .ok (.iload 5, 2) := by decide +kernel
theorem dX6_holdBallot_118 : decode cX6_holdBallot 118 = .ok (.invokevirtual 83, 3) := by decide +kernel
