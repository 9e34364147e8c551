theorem dX3_hold_51 : decode cX3_hold 51 = .ok (.invokevirtual 73, 3) := by decide +kernel
theorem dX3_hold_54 : decode cX3_hold 54 = .ok (.iload 6, 2) := by decide +kernel
theorem dX3_hold_56 : decode cX3_hold 56 = .ok (.if_icmp .eq 6, 3) := by decide +kernel
theorem dX3_hold_59 : decode cX3_hold 59 = .ok (.iinc 4 1, 3) := by decide +kernel
theorem dX3_hold_62 : decode cX3_hold 62 = .ok (.iinc 5 1, 3) := by decide +kernel
theorem dX3_hold_65 : decode cX3_hold 65 = .ok (.goto (-57), 3) := by decide +kernel
theorem dX3_hold_68 : decode cX3_hold 68 = .ok (.aload_n 0, 1) := by decide +kernel
theorem dX3_hold_69 : decode cX3_hold 69 = .ok (.iload_n 3, 1) := by decide +kernel
theorem dX3_hold_70 : decode cX3_hold 70 = .ok (.invokevirtual 79, 3) := by decide +kernel
theorem dX3_hold_73 : decode cX3_hold 73 = .ok (.istore 5, 2) := by decide +kernel
theorem dX3_hold_75 : decode cX3_hold 75 = .ok (.aload_n 0, 1) := by decide +kernel
theorem dX3_hold_76 : decode cX3_hold 76 = .ok (.iload_n 3, 1) := by decide +kernel
theorem dX3_hold_77 : decode cX3_hold 77 = .ok (.iload 5, 2) := by decide +kernel
theorem dX3_hold_79 : decode cX3_hold 79 = .ok (.invokevirtual 82, 3) := by decide +kernel
theorem dX3_hold_82 : decode cX3_hold 82 = .ok (.aload_n 0, 1) := by decide +kernel
theorem dX3_hold_83 : decode cX3_hold 83 = .ok (.getfield 28, 3) := by decide +kernel
theorem dX3_hold_86 : decode cX3_hold 86 = .ok (.iload 5, 2) := by decide +kernel
theorem dX3_hold_88 : decode cX3_hold 88 = .ok (.aload_n 0, 1) := by decide +kernel
theorem dX3_hold_89 : decode cX3_hold 89 = .ok (.iload_n 3, 1) := by decide +kernel
theorem dX3_hold_90 : decode cX3_hold 90 = .ok (.invokevirtual 67, 3) := by decide +kernel
theorem dX3_hold_93 : decode cX3_hold 93 = .ok (.iload 4, 2) := by decide +kernel
theorem dX3_hold_95 : decode cX3_hold 95 = .ok (.invokevirtual 86, 3) := by decide +kernel
theorem dX3_hold_98 : decode cX3_hold 98 = .ok (.return_, 1) := by decide +kernel
theorem dX3_tellSwings_0 : decode cX3_tellSwings 0 = .ok (.iconst 0, 1) := by decide +kernel
theorem dX3_tellSwings_1 : decode cX3_tellSwings 1 = .ok (.istore_n 3, 1) := by decide +kernel
theorem dX3_tellSwings_2 : decode cX3_tellSwings 2 = .ok (.iload_n 3, 1) := by decide +kernel
theorem dX3_tellSwings_3 : decode cX3_tellSwings 3 = .ok (.aload_n 0, 1) := by decide +kernel
theorem dX3_tellSwings_4 : decode cX3_tellSwings 4 = .ok (.getfield 32, 3) := by decide +kernel
theorem dX3_tellSwings_7 : decode cX3_tellSwings 7 = .ok (.if_icmp .ge 35, 3) := by decide +kernel
theorem dX3_tellSwings_10 : decode cX3_tellSwings 10 = .ok (.aload_n 0, 1) := by decide +kernel
theorem dX3_tellSwings_11 : decode cX3_tellSwings 11 = .ok (.iload_n 1, 1) := by decide +kernel
theorem dX3_tellSwings_12 : decode cX3_tellSwings 12 = .ok (.aload_n 0, 1) := by decide +kernel
theorem dX3_tellSwings_13 : decode cX3_tellSwings 13 = .ok (.getfield 19, 3) := by decide +kernel
theorem dX3_tellSwings_16 : decode cX3_tellSwings 16 = .ok (.iload_n 3, 1) := by decide +kernel
theorem dX3_tellSwings_17 : decode cX3_tellSwings 17 = .ok (.iaload, 1) := by decide +kernel
theorem dX3_tellSwings_18 : decode cX3_tellSwings 18 = .ok (.ixor, 1) := by decide +kernel
theorem dX3_tellSwings_19 : decode cX3_tellSwings 19 = .ok (.invokevirtual 79, 3) := by decide +kernel
theorem dX3_tellSwings_22 : decode cX3_tellSwings 22 = .ok (.iload_n 2, 1) := by decide +kernel
theorem dX3_tellSwings_23 : decode cX3_tellSwings 23 = .ok (.if_icmp .eq 13, 3) := by decide +kernel
theorem dX3_tellSwings_26 : decode cX3_tellSwings 26 = .ok (.aload_n 0, 1) := by decide +kernel
theorem dX3_tellSwings_27 : decode cX3_tellSwings 27 = .ok (.getfield 22, 3) := by decide +kernel
theorem dX3_tellSwings_30 : decode cX3_tellSwings 30 = .ok (.iload_n 3, 1) := by decide +kernel
theorem dX3_tellSwings_31 : decode cX3_tellSwings 31 = .ok (.dup2, 1) := by decide +kernel
theorem dX3_tellSwings_32 : decode cX3_tellSwings 32 = .ok (.iaload, 1) := by decide +kernel
theorem dX3_tellSwings_33 : decode cX3_tellSwings 33 = .ok (.iconst 1, 1) := by decide +kernel
theorem dX3_tellSwings_34 : decode cX3_tellSwings 34 = .ok (.iadd, 1) := by decide +kernel
theorem dX3_tellSwings_35 : decode cX3_tellSwings 35 = .ok (.iastore, 1) := by decide +kernel
theorem dX3_tellSwings_36 : decode cX3_tellSwings 36 = .ok (.iinc 3 1, 3) := by decide +kernel
theorem dX3_tellSwings_39 : decode cX3_tellSwings 39 = .ok (.goto (-37), 3) := by decide +kernel
theorem dX3_tellSwings_42 : decode cX3_tellSwings 42 = .ok (.return_, 1) := by decide +kernel
theorem dX4_init_0 : decode cX4_init 0 = .ok (.aload_n 0, 1) := by decide +kernel
theorem dX4_init_1 : decode cX4_init 1 = .ok (.invokespecial 3, 3) := by decide +kernel
theorem dX4_init_4 : decode cX4_init 4 = .ok (.aload_n 0, 1) := by decide +kernel
theorem dX4_init_5 : decode cX4_init 5 = .ok (.bipush 60, 2) := by decide +kernel
theorem dX4_init_7 : decode cX4_init 7 = .ok (.newarray .char, 2) := by decide +kernel
theorem dX4_init_9 : decode cX4_init 9 = .ok (.putfield 9, 3) := by decide +kernel
theorem dX4_init_12 : decode cX4_init 12 = .ok (.return_, 1) := by decide +kernel
theorem dX4_append_0 : decode cX4_append 0 = .ok (.aload_n 0, 1) := by decide +kernel
theorem dX4_append_1 : decode cX4_append 1 = .ok (.getfield 15, 3) := by decide +kernel
theorem dX4_append_4 : decode cX4_append 4 = .ok (.bipush 60, 2) := by decide +kernel
theorem dX4_append_6 : decode cX4_append 6 = .ok (.if_icmp .ge 23, 3) := by decide +kernel
theorem dX4_append_9 : decode cX4_append 9 = .ok (.aload_n 0, 1) := by decide +kernel
theorem dX4_append_10 : decode cX4_append 10 = .ok (.getfield 9, 3) := by decide +kernel
theorem dX4_append_13 : decode cX4_append 13 = .ok (.aload_n 0, 1) := by decide +kernel
theorem dX4_append_14 : decode cX4_append 14 = .ok (.getfield 15, 3) := by decide +kernel
theorem dX4_append_17 : decode cX4_append 17 = .ok (.iload_n 1, 1) := by decide +kernel
theorem dX4_append_18 : decode cX4_append 18 = .ok (.castore, 1) := by decide +kernel
theorem dX4_append_19 : decode cX4_append 19 = .ok (.aload_n 0, 1) := by decide +kernel
theorem dX4_append_20 : decode cX4_append 20 = .ok (.dup, 1) := by decide +kernel
theorem dX4_append_21 : decode cX4_append 21 = .ok (.getfield 15, 3) := by decide +kernel
theorem dX4_append_24 : decode cX4_append 24 = .ok (.iconst 1, 1) := by decide +kernel
theorem dX4_append_25 : decode cX4_append 25 = .ok (.iadd, 1) := by decide +kernel
theorem dX4_append_26 : decode cX4_append 26 = .ok (.putfield 15, 3) := by decide +kernel
theorem dX4_append_29 : decode cX4_append 29 = .ok (.return_, 1) := by decide +kernel
theorem dX4_at_0 : decode cX4_at 0 = .ok (.iload_n 1, 1) := by decide +kernel
theorem dX4_at_1 : decode cX4_at 1 = .ok (.ifCond .lt 20, 3) := by decide +kernel
theorem dX4_at_4 : decode cX4_at 4 = .ok (.iload_n 1, 1) := by decide +kernel
theorem dX4_at_5 : decode cX4_at 5 = .ok (.aload_n 0, 1) := by decide +kernel
theorem dX4_at_6 : decode cX4_at 6 = .ok (.getfield 15, 3) := by decide +kernel
theorem dX4_at_9 : decode cX4_at 9 = .ok (.if_icmp .ge 12, 3) := by decide +kernel
theorem dX4_at_12 : decode cX4_at 12 = .ok (.aload_n 0, 1) := by decide +kernel
theorem dX4_at_13 : decode cX4_at 13 = .ok (.getfield 9, 3) := by decide +kernel
theorem dX4_at_16 : decode cX4_at 16 = .ok (.iload_n 1, 1) := by decide +kernel
theorem dX4_at_17 : decode cX4_at 17 = .ok (.caload, 1) := by decide +kernel
theorem dX4_at_18 : decode cX4_at 18 = .ok (.goto 5, 3) := by decide +kernel
theorem dX4_at_21 : decode cX4_at 21 = .ok (.bipush 48, 2) := by decide +kernel
theorem dX4_at_23 : decode cX4_at 23 = .ok (.ireturn, 1) := by decide +kernel
theorem dX4_fault_0 : decode cX4_fault 0 = .ok (.iload_n 1, 1) := by decide +kernel
theorem dX4_fault_1 : decode cX4_fault 1 = .ok (.ifCond .ne 5, 3) := by decide +kernel
theorem dX4_fault_4 : decode cX4_fault 4 = .ok (.iconst 0, 1) := by decide +kernel
theorem dX4_fault_5 : decode cX4_fault 5 = .ok (.ireturn, 1) := by decide +kernel
theorem dX4_fault_6 : decode cX4_fault 6 = .ok (.iconst 0, 1) := by decide +kernel
theorem dX4_fault_7 : decode cX4_fault 7 = .ok (.istore_n 2, 1) := by decide +kernel
theorem dX4_fault_8 : decode cX4_fault 8 = .ok (.iconst 0, 1) := by decide +kernel
theorem dX4_fault_9 : decode cX4_fault 9 = .ok (.istore_n 3, 1) := by decide +kernel
theorem dX4_fault_10 : decode cX4_fault 10 = .ok (.iload_n 3, 1) := by decide +kernel
theorem dX4_fault_11 : decode cX4_fault 11 = .ok (.aload_n 0, 1) := by decide +kernel
theorem dX4_fault_12 : decode cX4_fault 12 = .ok (.getfield 15, 3) := by decide +kernel
theorem dX4_fault_15 : decode cX4_fault 15 = .ok (.if_icmp .ge 67, 3) := by decide +kernel
theorem dX4_fault_18 : decode cX4_fault 18 = .ok (.iload_n 2, 1) := by decide +kernel
theorem dX4_fault_19 : decode cX4_fault 19 = .ok (.iload_n 1, 1) := by decide +kernel
theorem dX4_fault_20 : decode cX4_fault 20 = .ok (.if_icmp .ne 7, 3) := by decide +kernel
theorem dX4_fault_23 : decode cX4_fault 23 = .ok (.iconst 1, 1) := by decide +kernel
theorem dX4_fault_24 : decode cX4_fault 24 = .ok (.goto 4, 3) := by decide +kernel
theorem dX4_fault_27 : decode cX4_fault 27 = .ok (.iconst 0, 1) := by decide +kernel
theorem dX4_fault_28 : decode cX4_fault 28 = .ok (.istore 4, 2) := by decide +kernel
theorem dX4_fault_30 : decode cX4_fault 30 = .ok (.iload 4, 2) := by decide +kernel
theorem dX4_fault_32 : decode cX4_fault 32 = .ok (.ifCond .eq 17, 3) := by decide +kernel
theorem dX4_fault_35 : decode cX4_fault 35 = .ok (.aload_n 0, 1) := by decide +kernel
theorem dX4_fault_36 : decode cX4_fault 36 = .ok (.getfield 9, 3) := by decide +kernel
theorem dX4_fault_39 : decode cX4_fault 39 = .ok (.iload_n 3, 1) := by decide +kernel
theorem dX4_fault_40 : decode cX4_fault 40 = .ok (.caload, 1) := by decide +kernel
theorem dX4_fault_41 : decode cX4_fault 41 = .ok (.bipush 44, 2) := by decide +kernel
theorem dX4_fault_43 : decode cX4_fault 43 = .ok (.if_icmp .eq 20, 3) := by decide +kernel
theorem dX4_fault_46 : decode cX4_fault 46 = .ok (.goto 15, 3) := by decide +kernel
theorem dX4_fault_49 : decode cX4_fault 49 = .ok (.aload_n 0, 1) := by decide +kernel
theorem dX4_fault_50 : decode cX4_fault 50 = .ok (.getfield 9, 3) := by decide +kernel
theorem dX4_fault_53 : decode cX4_fault 53 = .ok (.iload_n 3, 1) := by decide +kernel
theorem dX4_fault_54 : decode cX4_fault 54 = .ok (.caload, 1) := by decide +kernel
theorem dX4_fault_55 : decode cX4_fault 55 = .ok (.invokestatic 19, 3) := by decide +kernel
theorem dX4_fault_58 : decode cX4_fault 58 = .ok (.ifCond .ne 5, 3) := by decide +kernel
theorem dX4_fault_61 : decode cX4_fault 61 = .ok (.iload_n 3, 1) := by decide +kernel
theorem dX4_fault_62 : decode cX4_fault 62 = .ok (.ireturn, 1) := by decide +kernel
theorem dX4_fault_63 : decode cX4_fault 63 = .ok (.iload 4, 2) := by decide +kernel
theorem dX4_fault_65 : decode cX4_fault 65 = .ok (.ifCond .eq 7, 3) := by decide +kernel
theorem dX4_fault_68 : decode cX4_fault 68 = .ok (.iconst 0, 1) := by decide +kernel
theorem dX4_fault_69 : decode cX4_fault 69 = .ok (.goto 6, 3) := by decide +kernel
theorem dX4_fault_72 : decode cX4_fault 72 = .ok (.iload_n 2, 1) := by decide +kernel
theorem dX4_fault_73 : decode cX4_fault 73 = .ok (.iconst 1, 1) := by decide +kernel
theorem dX4_fault_74 : decode cX4_fault 74 = .ok (.iadd, 1) := by decide +kernel
theorem dX4_fault_75 : decode cX4_fault 75 = .ok (.istore_n 2, 1) := by decide +kernel
theorem dX4_fault_76 : decode cX4_fault 76 = .ok (.iinc 3 1, 3) := by decide +kernel
theorem dX4_fault_79 : decode cX4_fault 79 = .ok (.goto (-69), 3) := by decide +kernel
theorem dX4_fault_82 : decode cX4_fault 82 = .ok (.iload_n 2, 1) := by decide +kernel
theorem dX4_fault_83 : decode cX4_fault 83 = .ok (.iload_n 1, 1) := by decide +kernel
theorem dX4_fault_84 : decode cX4_fault 84 = .ok (.if_icmp .ne 7, 3) := by decide +kernel
theorem dX4_fault_87 : decode cX4_fault 87 = .ok (.iconst (-1), 1) := by decide +kernel
theorem dX4_fault_88 : decode cX4_fault 88 = .ok (.goto 7, 3) := by decide +kernel
theorem dX4_fault_91 : decode cX4_fault 91 = .ok (.aload_n 0, 1) := by decide +kernel
theorem dX4_fault_92 : decode cX4_fault 92 = .ok (.getfield 15, 3) := by decide +kernel
theorem dX4_fault_95 : decode cX4_fault 95 = .ok (.ireturn, 1) := by decide +kernel
theorem dX4_isSign_0 : decode cX4_isSign 0 = .ok (.iload_n 0, 1) := by decide +kernel
theorem dX4_isSign_1 : decode cX4_isSign 1 = .ok (.bipush 43, 2) := by decide +kernel
theorem dX4_isSign_3 : decode cX4_isSign 3 = .ok (.if_icmp .eq 15, 3) := by decide +kernel
theorem dX4_isSign_6 : decode cX4_isSign 6 = .ok (.iload_n 0, 1) := by decide +kernel
theorem dX4_isSign_7 : decode cX4_isSign 7 = .ok (.bipush 45, 2) := by decide +kernel
theorem dX4_isSign_9 : decode cX4_isSign 9 = .ok (.if_icmp .eq 9, 3) := by decide +kernel
theorem dX4_isSign_12 : decode cX4_isSign 12 = .ok (.iload_n 0, 1) := by decide +kernel
theorem dX4_isSign_13 : decode cX4_isSign 13 = .ok (.bipush 48, 2) := by decide +kernel
theorem dX4_isSign_15 : decode cX4_isSign 15 = .ok (.if_icmp .ne 7, 3) := by decide +kernel
theorem dX4_isSign_18 : decode cX4_isSign 18 = .ok (.iconst 1, 1) := by decide +kernel
theorem dX4_isSign_19 : decode cX4_isSign 19 = .ok (.goto 4, 3) := by decide +kernel
theorem dX4_isSign_22 : decode cX4_isSign 22 = .ok (.iconst 0, 1) := by decide +kernel
theorem dX4_isSign_23 : decode cX4_isSign 23 = .ok (.ireturn, 1) := by decide +kernel
theorem dX5_init_0 : decode cX5_init 0 = .ok (.aload_n 0, 1) := by decide +kernel
theorem dX5_init_1 : decode cX5_init 1 = .ok (.invokespecial 1, 3) := by decide +kernel
theorem dX5_init_4 : decode cX5_init 4 = .ok (.aload_n 0, 1) := by decide +kernel
theorem dX5_init_5 : decode cX5_init 5 = .ok (.new 7, 3) := by decide +kernel
theorem dX5_init_8 : decode cX5_init 8 = .ok (.dup, 1) := by decide +kernel
theorem dX5_init_9 : decode cX5_init 9 = .ok (.invokespecial 9, 3) := by decide +kernel
theorem dX5_init_12 : decode cX5_init 12 = .ok (.putfield 10, 3) := by decide +kernel
theorem dX5_init_15 : decode cX5_init 15 = .ok (.aload_n 0, 1) := by decide +kernel
theorem dX5_init_16 : decode cX5_init 16 = .ok (.new 7, 3) := by decide +kernel
theorem dX5_init_19 : decode cX5_init 19 = .ok (.dup, 1) := by decide +kernel
theorem dX5_init_20 : decode cX5_init 20 = .ok (.invokespecial 9, 3) := by decide +kernel
theorem dX5_init_23 : decode cX5_init 23 = .ok (.putfield 16, 3) := by decide +kernel
theorem dX5_init_26 : decode cX5_init 26 = .ok (.aload_n 0, 1) := by decide +kernel
theorem dX5_init_27 : decode cX5_init 27 = .ok (.new 19, 3) := by decide +kernel
theorem dX5_init_30 : decode cX5_init 30 = .ok (.dup, 1) := by decide +kernel
theorem dX5_init_31 : decode cX5_init 31 = .ok (.invokespecial 21, 3) := by decide +kernel
theorem dX5_init_34 : decode cX5_init 34 = .ok (.putfield 22, 3) := by decide +kernel
theorem dX5_init_37 : decode cX5_init 37 = .ok (.aload_n 0, 1) := by decide +kernel
theorem dX5_init_38 : decode cX5_init 38 = .ok (.new 26, 3) := by decide +kernel
theorem dX5_init_41 : decode cX5_init 41 = .ok (.dup, 1) := by decide +kernel
theorem dX5_init_42 : decode cX5_init 42 = .ok (.invokespecial 28, 3) := by decide +kernel
theorem dX5_init_45 : decode cX5_init 45 = .ok (.putfield 29, 3) := by decide +kernel
theorem dX5_init_48 : decode cX5_init 48 = .ok (.aload_n 0, 1) := by decide +kernel
theorem dX5_init_49 : decode cX5_init 49 = .ok (.new 33, 3) := by decide +kernel
theorem dX5_init_52 : decode cX5_init 52 = .ok (.dup, 1) := by decide +kernel
theorem dX5_init_53 : decode cX5_init 53 = .ok (.invokespecial 35, 3) := by decide +kernel
theorem dX5_init_56 : decode cX5_init 56 = .ok (.putfield 36, 3) := by decide +kernel
theorem dX5_init_59 : decode cX5_init 59 = .ok (.return_, 1) := by decide +kernel
theorem dX5_addMember_0 : decode cX5_addMember 0 = .ok (.iload_n 1, 1) := by decide +kernel
theorem dX5_addMember_1 : decode cX5_addMember 1 = .ok (.invokestatic 40, 3) := by decide +kernel
theorem dX5_addMember_4 : decode cX5_addMember 4 = .ok (.ifCond .ne 6, 3) := by decide +kernel
theorem dX5_addMember_7 : decode cX5_addMember 7 = .ok (.bipush (-2), 2) := by decide +kernel
theorem dX5_addMember_9 : decode cX5_addMember 9 = .ok (.ireturn, 1) := by decide +kernel
theorem dX5_addMember_10 : decode cX5_addMember 10 = .ok (.aload_n 0, 1) := by decide +kernel
theorem dX5_addMember_11 : decode cX5_addMember 11 = .ok (.getfield 10, 3) := by decide +kernel
theorem dX5_addMember_14 : decode cX5_addMember 14 = .ok (.getfield 44, 3) := by decide +kernel
theorem dX5_addMember_17 : decode cX5_addMember 17 = .ok (.bipush 10, 2) := by decide +kernel
theorem dX5_addMember_19 : decode cX5_addMember 19 = .ok (.if_icmp .lt 6, 3) := by decide +kernel
theorem dX5_addMember_22 : decode cX5_addMember 22 = .ok (.bipush (-3), 2) := by decide +kernel
theorem dX5_addMember_24 : decode cX5_addMember 24 = .ok (.ireturn, 1) := by decide +kernel
theorem dX5_addMember_25 : decode cX5_addMember 25 = .ok (.aload_n 0, 1) := by decide +kernel
theorem dX5_addMember_26 : decode cX5_addMember 26 = .ok (.invokevirtual 48, 3) := by decide +kernel
theorem dX5_addMember_29 : decode cX5_addMember 29 = .ok (.aload_n 0, 1) := by decide +kernel
theorem dX5_addMember_30 : decode cX5_addMember 30 = .ok (.getfield 10, 3) := by decide +kernel
theorem dX5_addMember_33 : decode cX5_addMember 33 = .ok (.iload_n 1, 1) := by decide +kernel
theorem dX5_addMember_34 : decode cX5_addMember 34 = .ok (.invokevirtual 51, 3) := by decide +kernel
theorem dX5_addMember_37 : decode cX5_addMember 37 = .ok (.ireturn, 1) := by decide +kernel
theorem dX5_removeMember_0 : decode cX5_removeMember 0 = .ok (.aload_n 0, 1) := by decide +kernel
theorem dX5_removeMember_1 : decode cX5_removeMember 1 = .ok (.getfield 10, 3) := by decide +kernel
theorem dX5_removeMember_4 : decode cX5_removeMember 4 = .ok (.iload_n 1, 1) := by decide +kernel
theorem dX5_removeMember_5 : decode cX5_removeMember 5 = .ok (.invokevirtual 55, 3) := by decide +kernel
theorem dX5_removeMember_8 : decode cX5_removeMember 8 = .ok (.ifCond .ne 5, 3) := by decide +kernel
theorem dX5_removeMember_11 : decode cX5_removeMember 11 = .ok (.iconst (-1), 1) := by decide +kernel
theorem dX5_removeMember_12 : decode cX5_removeMember 12 = .ok (.ireturn, 1) := by decide +kernel
theorem dX5_removeMember_13 : decode cX5_removeMember 13 = .ok (.aload_n 0, 1) := by decide +kernel
theorem dX5_removeMember_14 : decode cX5_removeMember 14 = .ok (.invokevirtual 48, 3) := by decide +kernel
theorem dX5_removeMember_17 : decode cX5_removeMember 17 = .ok (.aload_n 0, 1) := by decide +kernel
theorem dX5_removeMember_18 : decode cX5_removeMember 18 = .ok (.getfield 10, 3) := by decide +kernel
theorem dX5_removeMember_21 : decode cX5_removeMember 21 = .ok (.iload_n 1, 1) := by decide +kernel
theorem dX5_removeMember_22 : decode cX5_removeMember 22 = .ok (.invokevirtual 58, 3) := by decide +kernel
theorem dX5_removeMember_25 : decode cX5_removeMember 25 = .ok (.aload_n 0, 1) := by decide +kernel
theorem dX5_removeMember_26 : decode cX5_removeMember 26 = .ok (.getfield 10, 3) := by decide +kernel
theorem dX5_removeMember_29 : decode cX5_removeMember 29 = .ok (.getfield 44, 3) := by decide +kernel
theorem dX5_removeMember_32 : decode cX5_removeMember 32 = .ok (.ireturn, 1) := by decide +kernel
theorem dX5_setWeight_0 : decode cX5_setWeight 0 = .ok (.aload_n 0, 1) := by decide +kernel
theorem dX5_setWeight_1 : decode cX5_setWeight 1 = .ok (.getfield 10, 3) := by decide +kernel
theorem dX5_setWeight_4 : decode cX5_setWeight 4 = .ok (.iload_n 1, 1) := by decide +kernel
theorem dX5_setWeight_5 : decode cX5_setWeight 5 = .ok (.invokevirtual 55, 3) := by decide +kernel
theorem dX5_setWeight_8 : decode cX5_setWeight 8 = .ok (.ifCond .ne 5, 3) := by decide +kernel
theorem dX5_setWeight_11 : decode cX5_setWeight 11 = .ok (.iconst (-1), 1) := by decide +kernel
theorem dX5_setWeight_12 : decode cX5_setWeight 12 = .ok (.ireturn, 1) := by decide +kernel
theorem dX5_setWeight_13 : decode cX5_setWeight 13 = .ok (.iload_n 2, 1) := by decide +kernel
theorem dX5_setWeight_14 : decode cX5_setWeight 14 = .ok (.invokestatic 40, 3) := by decide +kernel
theorem dX5_setWeight_17 : decode cX5_setWeight 17 = .ok (.ifCond .ne 6, 3) := by decide +kernel
theorem dX5_setWeight_20 : decode cX5_setWeight 20 = .ok (.bipush (-2), 2) := by decide +kernel
theorem dX5_setWeight_22 : decode cX5_setWeight 22 = .ok (.ireturn, 1) := by decide +kernel
theorem dX5_setWeight_23 : decode cX5_setWeight 23 = .ok (.aload_n 0, 1) := by decide +kernel
theorem dX5_setWeight_24 : decode cX5_setWeight 24 = .ok (.getfield 10, 3) := by decide +kernel
theorem dX5_setWeight_27 : decode cX5_setWeight 27 = .ok (.getfield 62, 3) := by decide +kernel
theorem dX5_setWeight_30 : decode cX5_setWeight 30 = .ok (.iload_n 1, 1) := by decide +kernel
theorem dX5_setWeight_31 : decode cX5_setWeight 31 = .ok (.iaload, 1) := by decide +kernel
theorem dX5_setWeight_32 : decode cX5_setWeight 32 = .ok (.istore_n 3, 1) := by decide +kernel
theorem dX5_setWeight_33 : decode cX5_setWeight 33 = .ok (.iload_n 3, 1) := by decide +kernel
theorem dX5_setWeight_34 : decode cX5_setWeight 34 = .ok (.iload_n 2, 1) := by decide +kernel
theorem dX5_setWeight_35 : decode cX5_setWeight 35 = .ok (.if_icmp .ne 6, 3) := by decide +kernel
theorem dX5_setWeight_38 : decode cX5_setWeight 38 = .ok (.bipush (-5), 2) := by decide +kernel
theorem dX5_setWeight_40 : decode cX5_setWeight 40 = .ok (.ireturn, 1) := by decide +kernel
theorem dX5_setWeight_41 : decode cX5_setWeight 41 = .ok (.aload_n 0, 1) := by decide +kernel
theorem dX5_setWeight_42 : decode cX5_setWeight 42 = .ok (.invokevirtual 48, 3) := by decide +kernel
theorem dX5_setWeight_45 : decode cX5_setWeight 45 = .ok (.aload_n 0, 1) := by decide +kernel
theorem dX5_setWeight_46 : decode cX5_setWeight 46 = .ok (.getfield 10, 3) := by decide +kernel
theorem dX5_setWeight_49 : decode cX5_setWeight 49 = .ok (.getfield 62, 3) := by decide +kernel
theorem dX5_setWeight_52 : decode cX5_setWeight 52 = .ok (.iload_n 1, 1) := by decide +kernel
theorem dX5_setWeight_53 : decode cX5_setWeight 53 = .ok (.iload_n 2, 1) := by decide +kernel
theorem dX5_setWeight_54 : decode cX5_setWeight 54 = .ok (.iastore, 1) := by decide +kernel
theorem dX5_setWeight_55 : decode cX5_setWeight 55 = .ok (.iload_n 3, 1) := by decide +kernel
theorem dX5_setWeight_56 : decode cX5_setWeight 56 = .ok (.ireturn, 1) := by decide +kernel
theorem dX5_setVeto_0 : decode cX5_setVeto 0 = .ok (.aload_n 0, 1) := by decide +kernel
theorem dX5_setVeto_1 : decode cX5_setVeto 1 = .ok (.getfield 10, 3) := by decide +kernel
theorem dX5_setVeto_4 : decode cX5_setVeto 4 = .ok (.iload_n 1, 1) := by decide +kernel
theorem dX5_setVeto_5 : decode cX5_setVeto 5 = .ok (.invokevirtual 55, 3) := by decide +kernel
theorem dX5_setVeto_8 : decode cX5_setVeto 8 = .ok (.ifCond .ne 5, 3) := by decide +kernel
theorem dX5_setVeto_11 : decode cX5_setVeto 11 = .ok (.iconst (-1), 1) := by decide +kernel
theorem dX5_setVeto_12 : decode cX5_setVeto 12 = .ok (.ireturn, 1) := by decide +kernel
theorem dX5_setVeto_13 : decode cX5_setVeto 13 = .ok (.iload_n 2, 1) := by decide +kernel
theorem dX5_setVeto_14 : decode cX5_setVeto 14 = .ok (.ifCond .eq 18, 3) := by decide +kernel
theorem dX5_setVeto_17 : decode cX5_setVeto 17 = .ok (.aload_n 0, 1) := by decide +kernel
theorem dX5_setVeto_18 : decode cX5_setVeto 18 = .ok (.getfield 10, 3) := by decide +kernel
theorem dX5_setVeto_21 : decode cX5_setVeto 21 = .ok (.getfield 66, 3) := by decide +kernel
theorem dX5_setVeto_24 : decode cX5_setVeto 24 = .ok (.iload_n 1, 1) := by decide +kernel
theorem dX5_setVeto_25 : decode cX5_setVeto 25 = .ok (.invokestatic 69, 3) := by decide +kernel
theorem dX5_setVeto_28 : decode cX5_setVeto 28 = .ok (.ior, 1) := by decide +kernel
theorem dX5_setVeto_29 : decode cX5_setVeto 29 = .ok (.goto 17, 3) := by decide +kernel
theorem dX5_setVeto_32 : decode cX5_setVeto 32 = .ok (.aload_n 0, 1) := by decide +kernel
theorem dX5_setVeto_33 : decode cX5_setVeto 33 = .ok (.getfield 10, 3) := by decide +kernel
theorem dX5_setVeto_36 : decode cX5_setVeto 36 = .ok (.getfield 66, 3) := by decide +kernel
theorem dX5_setVeto_39 : decode cX5_setVeto 39 = .ok (.iload_n 1, 1) := by decide +kernel
theorem dX5_setVeto_40 : decode cX5_setVeto 40 = .ok (.invokestatic 69, 3) := by decide +kernel
theorem dX5_setVeto_43 : decode cX5_setVeto 43 = .ok (.iconst (-1), 1) := by decide +kernel
theorem dX5_setVeto_44 : decode cX5_setVeto 44 = .ok (.ixor, 1) := by decide +kernel
theorem dX5_setVeto_45 : decode cX5_setVeto 45 = .ok (.iand, 1) := by decide +kernel
theorem dX5_setVeto_46 : decode cX5_setVeto 46 = .ok (.istore_n 3, 1) := by decide +kernel
theorem dX5_setVeto_47 : decode cX5_setVeto 47 = .ok (.iload_n 3, 1) := by decide +kernel
theorem dX5_setVeto_48 : decode cX5_setVeto 48 = .ok (.aload_n 0, 1) := by decide +kernel
theorem dX5_setVeto_49 : decode cX5_setVeto 49 = .ok (.getfield 10, 3) := by decide +kernel
theorem dX5_setVeto_52 : decode cX5_setVeto 52 = .ok (.getfield 66, 3) := by decide +kernel
theorem dX5_setVeto_55 : decode cX5_setVeto 55 = .ok (.if_icmp .ne 6, 3) := by decide +kernel
theorem dX5_setVeto_58 : decode cX5_setVeto 58 = .ok (.bipush (-5), 2) := by decide +kernel
theorem dX5_setVeto_60 : decode cX5_setVeto 60 = .ok (.ireturn, 1) := by decide +kernel
theorem dX5_setVeto_61 : decode cX5_setVeto 61 = .ok (.aload_n 0, 1) := by decide +kernel
theorem dX5_setVeto_62 : decode cX5_setVeto 62 = .ok (.invokevirtual 48, 3) := by decide +kernel
theorem dX5_setVeto_65 : decode cX5_setVeto 65 = .ok (.aload_n 0, 1) := by decide +kernel
theorem dX5_setVeto_66 : decode cX5_setVeto 66 = .ok (.getfield 10, 3) := by decide +kernel
theorem dX5_setVeto_69 : decode cX5_setVeto 69 = .ok (.iload_n 3, 1) := by decide +kernel
theorem dX5_setVeto_70 : decode cX5_setVeto 70 = .ok (.putfield 66, 3) := by decide +kernel
theorem dX5_setVeto_73 : decode cX5_setVeto 73 = .ok (.iload_n 3, 1) := by decide +kernel
theorem dX5_setVeto_74 : decode cX5_setVeto 74 = .ok (.invokestatic 72, 3) := by decide +kernel
theorem dX5_setVeto_77 : decode cX5_setVeto 77 = .ok (.ireturn, 1) := by decide +kernel
theorem dX5_setQuota_0 : decode cX5_setQuota 0 = .ok (.iload_n 1, 1) := by decide +kernel
theorem dX5_setQuota_1 : decode cX5_setQuota 1 = .ok (.invokestatic 77, 3) := by decide +kernel
theorem dX5_setQuota_4 : decode cX5_setQuota 4 = .ok (.ifCond .ne 6, 3) := by decide +kernel
theorem dX5_setQuota_7 : decode cX5_setQuota 7 = .ok (.bipush (-2), 2) := by decide +kernel
theorem dX5_setQuota_9 : decode cX5_setQuota 9 = .ok (.ireturn, 1) := by decide +kernel
theorem dX5_setQuota_10 : decode cX5_setQuota 10 = .ok (.aload_n 0, 1) := by decide +kernel
theorem dX5_setQuota_11 : decode cX5_setQuota 11 = .ok (.getfield 10, 3) := by decide +kernel
theorem dX5_setQuota_14 : decode cX5_setQuota 14 = .ok (.getfield 80, 3) := by decide +kernel
theorem dX5_setQuota_17 : decode cX5_setQuota 17 = .ok (.istore_n 2, 1) := by decide +kernel
theorem dX5_setQuota_18 : decode cX5_setQuota 18 = .ok (.iload_n 2, 1) := by decide +kernel
theorem dX5_setQuota_19 : decode cX5_setQuota 19 = .ok (.iload_n 1, 1) := by decide +kernel
theorem dX5_setQuota_20 : decode cX5_setQuota 20 = .ok (.if_icmp .ne 6, 3) := by decide +kernel
theorem dX5_setQuota_23 : decode cX5_setQuota 23 = .ok (.bipush (-5), 2) := by decide +kernel
theorem dX5_setQuota_25 : decode cX5_setQuota 25 = .ok (.ireturn, 1) := by decide +kernel
theorem dX5_setQuota_26 : decode cX5_setQuota 26 = .ok (.aload_n 0, 1) := by decide +kernel
theorem dX5_setQuota_27 : decode cX5_setQuota 27 = .ok (.invokevirtual 48, 3) := by decide +kernel
theorem dX5_setQuota_30 : decode cX5_setQuota 30 = .ok (.aload_n 0, 1) := by decide +kernel
theorem dX5_setQuota_31 : decode cX5_setQuota 31 = .ok (.getfield 10, 3) := by decide +kernel
theorem dX5_setQuota_34 : decode cX5_setQuota 34 = .ok (.iload_n 1, 1) := by decide +kernel
theorem dX5_setQuota_35 : decode cX5_setQuota 35 = .ok (.putfield 80, 3) := by decide +kernel
theorem dX5_setQuota_38 : decode cX5_setQuota 38 = .ok (.iload_n 2, 1) := by decide +kernel
theorem dX5_setQuota_39 : decode cX5_setQuota 39 = .ok (.ireturn, 1) := by decide +kernel
theorem dX5_join_0 : decode cX5_join 0 = .ok (.aload_n 0, 1) := by decide +kernel
theorem dX5_join_1 : decode cX5_join 1 = .ok (.getfield 10, 3) := by decide +kernel
theorem dX5_join_4 : decode cX5_join 4 = .ok (.iload_n 1, 1) := by decide +kernel
theorem dX5_join_5 : decode cX5_join 5 = .ok (.invokevirtual 55, 3) := by decide +kernel
theorem dX5_join_8 : decode cX5_join 8 = .ok (.ifCond .eq 14, 3) := by decide +kernel
theorem dX5_join_11 : decode cX5_join 11 = .ok (.aload_n 0, 1) := by decide +kernel
theorem dX5_join_12 : decode cX5_join 12 = .ok (.getfield 10, 3) := by decide +kernel
theorem dX5_join_15 : decode cX5_join 15 = .ok (.iload_n 2, 1) := by decide +kernel
theorem dX5_join_16 : decode cX5_join 16 = .ok (.invokevirtual 55, 3) := by decide +kernel
theorem dX5_join_19 : decode cX5_join 19 = .ok (.ifCond .ne 5, 3) := by decide +kernel
theorem dX5_join_22 : decode cX5_join 22 = .ok (.iconst (-1), 1) := by decide +kernel
theorem dX5_join_23 : decode cX5_join 23 = .ok (.ireturn, 1) := by decide +kernel
theorem dX5_join_24 : decode cX5_join 24 = .ok (.aload_n 0, 1) := by decide +kernel
theorem dX5_join_25 : decode cX5_join 25 = .ok (.getfield 10, 3) := by decide +kernel
theorem dX5_join_28 : decode cX5_join 28 = .ok (.getfield 83, 3) := by decide +kernel
theorem dX5_join_31 : decode cX5_join 31 = .ok (.iload_n 1, 1) := by decide +kernel
theorem dX5_join_32 : decode cX5_join 32 = .ok (.iaload, 1) := by decide +kernel
theorem dX5_join_33 : decode cX5_join 33 = .ok (.iload_n 2, 1) := by decide +kernel
theorem dX5_join_34 : decode cX5_join 34 = .ok (.invokestatic 86, 3) := by decide +kernel
theorem dX5_join_37 : decode cX5_join 37 = .ok (.ifCond .eq 6, 3) := by decide +kernel
theorem dX5_join_40 : decode cX5_join 40 = .ok (.bipush (-5), 2) := by decide +kernel
theorem dX5_join_42 : decode cX5_join 42 = .ok (.ireturn, 1) := by decide +kernel
theorem dX5_join_43 : decode cX5_join 43 = .ok (.aload_n 0, 1) := by decide +kernel
theorem dX5_join_44 : decode cX5_join 44 = .ok (.invokevirtual 48, 3) := by decide +kernel
theorem dX5_join_47 : decode cX5_join 47 = .ok (.aload_n 0, 1) := by decide +kernel
theorem dX5_join_48 : decode cX5_join 48 = .ok (.getfield 10, 3) := by decide +kernel
theorem dX5_join_51 : decode cX5_join 51 = .ok (.getfield 83, 3) := by decide +kernel
theorem dX5_join_54 : decode cX5_join 54 = .ok (.iload_n 1, 1) := by decide +kernel
theorem dX5_join_55 : decode cX5_join 55 = .ok (.iaload, 1) := by decide +kernel
theorem dX5_join_56 : decode cX5_join 56 = .ok (.aload_n 0, 1) := by decide +kernel
theorem dX5_join_57 : decode cX5_join 57 = .ok (.getfield 10, 3) := by decide +kernel
theorem dX5_join_60 : decode cX5_join 60 = .ok (.getfield 83, 3) := by decide +kernel
theorem dX5_join_63 : decode cX5_join 63 = .ok (.iload_n 2, 1) := by decide +kernel
theorem dX5_join_64 : decode cX5_join 64 = .ok (.iaload, 1) := by decide +kernel
theorem dX5_join_65 : decode cX5_join 65 = .ok (.ior, 1) := by decide +kernel
theorem dX5_join_66 : decode cX5_join 66 = .ok (.istore_n 3, 1) := by decide +kernel
theorem dX5_join_67 : decode cX5_join 67 = .ok (.aload_n 0, 1) := by decide +kernel
theorem dX5_join_68 : decode cX5_join 68 = .ok (.getfield 10, 3) := by decide +kernel
theorem dX5_join_71 : decode cX5_join 71 = .ok (.iload_n 3, 1) := by decide +kernel
theorem dX5_join_72 : decode cX5_join 72 = .ok (.invokevirtual 90, 3) := by decide +kernel
theorem dX5_join_75 : decode cX5_join 75 = .ok (.iload_n 3, 1) := by decide +kernel
theorem dX5_join_76 : decode cX5_join 76 = .ok (.invokestatic 72, 3) := by decide +kernel
theorem dX5_join_79 : decode cX5_join 79 = .ok (.ireturn, 1) := by decide +kernel
theorem dX5_leave_0 : decode cX5_leave 0 = .ok (.aload_n 0, 1) := by decide +kernel
theorem dX5_leave_1 : decode cX5_leave 1 = .ok (.getfield 10, 3) := by decide +kernel
theorem dX5_leave_4 : decode cX5_leave 4 = .ok (.iload_n 1, 1) := by decide +kernel
theorem dX5_leave_5 : decode cX5_leave 5 = .ok (.invokevirtual 55, 3) := by decide +kernel
theorem dX5_leave_8 : decode cX5_leave 8 = .ok (.ifCond .ne 5, 3) := by decide +kernel
theorem dX5_leave_11 : decode cX5_leave 11 = .ok (.iconst (-1), 1) := by decide +kernel
theorem dX5_leave_12 : decode cX5_leave 12 = .ok (.ireturn, 1) := by decide +kernel
theorem dX5_leave_13 : decode cX5_leave 13 = .ok (.aload_n 0, 1) := by decide +kernel
theorem dX5_leave_14 : decode cX5_leave 14 = .ok (.getfield 10, 3) := by decide +kernel
theorem dX5_leave_17 : decode cX5_leave 17 = .ok (.getfield 83, 3) := by decide +kernel
theorem dX5_leave_20 : decode cX5_leave 20 = .ok (.iload_n 1, 1) := by decide +kernel
theorem dX5_leave_21 : decode cX5_leave 21 = .ok (.iaload, 1) := by decide +kernel
theorem dX5_leave_22 : decode cX5_leave 22 = .ok (.iload_n 1, 1) := by decide +kernel
theorem dX5_leave_23 : decode cX5_leave 23 = .ok (.invokestatic 69, 3) := by decide +kernel
theorem dX5_leave_26 : decode cX5_leave 26 = .ok (.iconst (-1), 1) := by decide +kernel
theorem dX5_leave_27 : decode cX5_leave 27 = .ok (.ixor, 1) := by decide +kernel
theorem dX5_leave_28 : decode cX5_leave 28 = .ok (.iand, 1) := by decide +kernel
theorem dX5_leave_29 : decode cX5_leave 29 = .ok (.istore_n 2, 1) := by decide +kernel
theorem dX5_leave_30 : decode cX5_leave 30 = .ok (.iload_n 2, 1) := by decide +kernel
theorem dX5_leave_31 : decode cX5_leave 31 = .ok (.ifCond .ne 6, 3) := by decide +kernel
theorem dX5_leave_34 : decode cX5_leave 34 = .ok (.bipush (-5), 2) := by decide +kernel
theorem dX5_leave_36 : decode cX5_leave 36 = .ok (.ireturn, 1) := by decide +kernel
theorem dX5_leave_37 : decode cX5_leave 37 = .ok (.aload_n 0, 1) := by decide +kernel
theorem dX5_leave_38 : decode cX5_leave 38 = .ok (.invokevirtual 48, 3) := by decide +kernel
theorem dX5_leave_41 : decode cX5_leave 41 = .ok (.aload_n 0, 1) := by decide +kernel
theorem dX5_leave_42 : decode cX5_leave 42 = .ok (.getfield 10, 3) := by decide +kernel
theorem dX5_leave_45 : decode cX5_leave 45 = .ok (.iload_n 2, 1) := by decide +kernel
theorem dX5_leave_46 : decode cX5_leave 46 = .ok (.invokevirtual 90, 3) := by decide +kernel
theorem dX5_leave_49 : decode cX5_leave 49 = .ok (.aload_n 0, 1) := by decide +kernel
theorem dX5_leave_50 : decode cX5_leave 50 = .ok (.getfield 10, 3) := by decide +kernel
theorem dX5_leave_53 : decode cX5_leave 53 = .ok (.iload_n 1, 1) := by decide +kernel
theorem dX5_leave_54 : decode cX5_leave 54 = .ok (.invokestatic 69, 3) := by decide +kernel
theorem dX5_leave_57 : decode cX5_leave 57 = .ok (.invokevirtual 90, 3) := by decide +kernel
theorem dX5_leave_60 : decode cX5_leave 60 = .ok (.iload_n 2, 1) := by decide +kernel
theorem dX5_leave_61 : decode cX5_leave 61 = .ok (.invokestatic 72, 3) := by decide +kernel
theorem dX5_leave_64 : decode cX5_leave 64 = .ok (.ireturn, 1) := by decide +kernel
theorem dX5_type_0 : decode cX5_type 0 = .ok (.aload_n 0, 1) := by decide +kernel
theorem dX5_type_1 : decode cX5_type 1 = .ok (.getfield 29, 3) := by decide +kernel
theorem dX5_type_4 : decode cX5_type 4 = .ok (.getfield 93, 3) := by decide +kernel
theorem dX5_type_7 : decode cX5_type 7 = .ok (.bipush 60, 2) := by decide +kernel
theorem dX5_type_9 : decode cX5_type 9 = .ok (.if_icmp .lt 6, 3) := by decide +kernel
theorem dX5_type_12 : decode cX5_type 12 = .ok (.bipush (-3), 2) := by decide +kernel
theorem dX5_type_14 : decode cX5_type 14 = .ok (.ireturn, 1) := by decide +kernel
theorem dX5_type_15 : decode cX5_type 15 = .ok (.aload_n 0, 1) := by decide +kernel
theorem dX5_type_16 : decode cX5_type 16 = .ok (.getfield 29, 3) := by decide +kernel
theorem dX5_type_19 : decode cX5_type 19 = .ok (.iload_n 1, 1) := by decide +kernel
theorem dX5_type_20 : decode cX5_type 20 = .ok (.invokevirtual 96, 3) := by decide +kernel
theorem dX5_type_23 : decode cX5_type 23 = .ok (.aload_n 0, 1) := by decide +kernel
theorem dX5_type_24 : decode cX5_type 24 = .ok (.getfield 29, 3) := by decide +kernel
theorem dX5_type_27 : decode cX5_type 27 = .ok (.getfield 93, 3) := by decide +kernel
theorem dX5_type_30 : decode cX5_type 30 = .ok (.ireturn, 1) := by decide +kernel
theorem dX5_clearText_0 : decode cX5_clearText 0 = .ok (.aload_n 0, 1) := by decide +kernel
theorem dX5_clearText_1 : decode cX5_clearText 1 = .ok (.getfield 29, 3) := by decide +kernel
theorem dX5_clearText_4 : decode cX5_clearText 4 = .ok (.getfield 93, 3) := by decide +kernel
theorem dX5_clearText_7 : decode cX5_clearText 7 = .ok (.istore_n 1, 1) := by decide +kernel
theorem dX5_clearText_8 : decode cX5_clearText 8 = .ok (.aload_n 0, 1) := by decide +kernel
theorem dX5_clearText_9 : decode cX5_clearText 9 = .ok (.getfield 29, 3) := by decide +kernel
theorem dX5_clearText_12 : decode cX5_clearText 12 = .ok (.iconst 0, 1) := by decide +kernel
theorem dX5_clearText_13 : decode cX5_clearText 13 = .ok (.putfield 93, 3) := by decide +kernel
theorem dX5_clearText_16 : decode cX5_clearText 16 = .ok (.iload_n 1, 1) := by decide +kernel
theorem dX5_clearText_17 : decode cX5_clearText 17 = .ok (.ireturn, 1) := by decide +kernel
theorem dX5_vote_0 : decode cX5_vote 0 = .ok (.aload_n 0, 1) := by decide +kernel
theorem dX5_vote_1 : decode cX5_vote 1 = .ok (.getfield 29, 3) := by decide +kernel
theorem dX5_vote_4 : decode cX5_vote 4 = .ok (.aload_n 0, 1) := by decide +kernel
theorem dX5_vote_5 : decode cX5_vote 5 = .ok (.getfield 10, 3) := by decide +kernel
theorem dX5_vote_8 : decode cX5_vote 8 = .ok (.getfield 44, 3) := by decide +kernel
theorem dX5_vote_11 : decode cX5_vote 11 = .ok (.invokevirtual 99, 3) := by decide +kernel
theorem dX5_vote_14 : decode cX5_vote 14 = .ok (.istore_n 1, 1) := by decide +kernel
theorem dX5_vote_15 : decode cX5_vote 15 = .ok (.iload_n 1, 1) := by decide +kernel
theorem dX5_vote_16 : decode cX5_vote 16 = .ok (.iconst (-1), 1) := by decide +kernel
theorem dX5_vote_17 : decode cX5_vote 17 = .ok (.if_icmp .eq 8, 3) := by decide +kernel
theorem dX5_vote_20 : decode cX5_vote 20 = .ok (.bipush (-100), 2) := by decide +kernel
theorem dX5_vote_22 : decode cX5_vote 22 = .ok (.iload_n 1, 1) := by decide +kernel
theorem dX5_vote_23 : decode cX5_vote 23 = .ok (.isub, 1) := by decide +kernel
theorem dX5_vote_24 : decode cX5_vote 24 = .ok (.ireturn, 1) := by decide +kernel
theorem dX5_vote_25 : decode cX5_vote 25 = .ok (.aload_n 0, 1) := by decide +kernel
theorem dX5_vote_26 : decode cX5_vote 26 = .ok (.invokevirtual 48, 3) := by decide +kernel
theorem dX5_vote_29 : decode cX5_vote 29 = .ok (.aload_n 0, 1) := by decide +kernel
theorem dX5_vote_30 : decode cX5_vote 30 = .ok (.getfield 10, 3) := by decide +kernel
theorem dX5_vote_33 : decode cX5_vote 33 = .ok (.getfield 102, 3) := by decide +kernel
theorem dX5_vote_36 : decode cX5_vote 36 = .ok (.getfield 106, 3) := by decide +kernel
theorem dX5_vote_39 : decode cX5_vote 39 = .ok (.istore_n 2, 1) := by decide +kernel
theorem dX5_vote_40 : decode cX5_vote 40 = .ok (.iconst 0, 1) := by decide +kernel
theorem dX5_vote_41 : decode cX5_vote 41 = .ok (.istore_n 3, 1) := by decide +kernel
theorem dX5_vote_42 : decode cX5_vote 42 = .ok (.iload_n 3, 1) := by decide +kernel
theorem dX5_vote_43 : decode cX5_vote 43 = .ok (.aload_n 0, 1) := by decide +kernel
theorem dX5_vote_44 : decode cX5_vote 44 = .ok (.getfield 29, 3) := by decide +kernel
theorem dX5_vote_47 : decode cX5_vote 47 = .ok (.getfield 93, 3) := by decide +kernel
theorem dX5_vote_50 : decode cX5_vote 50 = .ok (.if_icmp .ge 30, 3) := by decide +kernel
theorem dX5_vote_53 : decode cX5_vote 53 = .ok (.aload_n 0, 1) := by decide +kernel
theorem dX5_vote_54 : decode cX5_vote 54 = .ok (.getfield 10, 3) := by decide +kernel
theorem dX5_vote_57 : decode cX5_vote 57 = .ok (.aload_n 0, 1) := by decide +kernel
theorem dX5_vote_58 : decode cX5_vote 58 = .ok (.getfield 29, 3) := by decide +kernel
theorem dX5_vote_61 : decode cX5_vote 61 = .ok (.iload_n 3, 1) := by decide +kernel
theorem dX5_vote_62 : decode cX5_vote 62 = .ok (.invokevirtual 111, 3) := by decide +kernel
theorem dX5_vote_65 : decode cX5_vote 65 = .ok (.iload_n 3, 1) := by decide +kernel
theorem dX5_vote_66 : decode cX5_vote 66 = .ok (.aload_n 0, 1) := by decide +kernel
theorem dX5_vote_67 : decode cX5_vote 67 = .ok (.getfield 10, 3) := by decide +kernel
theorem dX5_vote_70 : decode cX5_vote 70 = .ok (.getfield 44, 3) := by decide +kernel
theorem dX5_vote_73 : decode cX5_vote 73 = .ok (.iconst 1, 1) := by decide +kernel
theorem dX5_vote_74 : decode cX5_vote 74 = .ok (.iadd, 1) := by decide +kernel
theorem dX5_vote_75 : decode cX5_vote 75 = .ok (.iadd, 1) := by decide +kernel
theorem dX5_vote_76 : decode cX5_vote 76 = .ok (.istore_n 3, 1) := by decide +kernel
theorem dX5_vote_77 : decode cX5_vote 77 = .ok (.goto (-35), 3) := by decide +kernel
theorem dX5_vote_80 : decode cX5_vote 80 = .ok (.aload_n 0, 1) := by decide +kernel
theorem dX5_vote_81 : decode cX5_vote 81 = .ok (.getfield 10, 3) := by decide +kernel
theorem dX5_vote_84 : decode cX5_vote 84 = .ok (.getfield 102, 3) := by decide +kernel
theorem dX5_vote_87 : decode cX5_vote 87 = .ok (.getfield 106, 3) := by decide +kernel
theorem dX5_vote_90 : decode cX5_vote 90 = .ok (.iload_n 2, 1) := by decide +kernel
theorem dX5_vote_91 : decode cX5_vote 91 = .ok (.isub, 1) := by decide +kernel
theorem dX5_vote_92 : decode cX5_vote 92 = .ok (.ireturn, 1) := by decide +kernel
theorem dX5_undo_0 : decode cX5_undo 0 = .ok (.aload_n 0, 1) := by decide +kernel
theorem dX5_undo_1 : decode cX5_undo 1 = .ok (.getfield 22, 3) := by decide +kernel
theorem dX5_undo_4 : decode cX5_undo 4 = .ok (.getfield 115, 3) := by decide +kernel
theorem dX5_undo_7 : decode cX5_undo 7 = .ok (.ifCond .ne 6, 3) := by decide +kernel
theorem dX5_undo_10 : decode cX5_undo 10 = .ok (.bipush (-5), 2) := by decide +kernel
theorem dX5_undo_12 : decode cX5_undo 12 = .ok (.ireturn, 1) := by decide +kernel
theorem dX5_undo_13 : decode cX5_undo 13 = .ok (.aload_n 0, 1) := by decide +kernel
theorem dX5_undo_14 : decode cX5_undo 14 = .ok (.getfield 22, 3) := by decide +kernel
theorem dX5_undo_17 : decode cX5_undo 17 = .ok (.aload_n 0, 1) := by decide +kernel
theorem dX5_undo_18 : decode cX5_undo 18 = .ok (.getfield 10, 3) := by decide +kernel
theorem dX5_undo_21 : decode cX5_undo 21 = .ok (.invokevirtual 118, 3) := by decide +kernel
theorem dX5_undo_24 : decode cX5_undo 24 = .ok (.aload_n 0, 1) := by decide +kernel
theorem dX5_undo_25 : decode cX5_undo 25 = .ok (.iconst 0, 1) := by decide +kernel
theorem dX5_undo_26 : decode cX5_undo 26 = .ok (.putfield 122, 3) := by decide +kernel
theorem dX5_undo_29 : decode cX5_undo 29 = .ok (.aload_n 0, 1) := by decide +kernel
theorem dX5_undo_30 : decode cX5_undo 30 = .ok (.getfield 22, 3) := by decide +kernel
theorem dX5_undo_33 : decode cX5_undo 33 = .ok (.getfield 115, 3) := by decide +kernel
theorem dX5_undo_36 : decode cX5_undo 36 = .ok (.ireturn, 1) := by decide +kernel
theorem dX5_keep_0 : decode cX5_keep 0 = .ok (.aload_n 0, 1) := by decide +kernel
theorem dX5_keep_1 : decode cX5_keep 1 = .ok (.getfield 16, 3) := by decide +kernel
theorem dX5_keep_4 : decode cX5_keep 4 = .ok (.aload_n 0, 1) := by decide +kernel
theorem dX5_keep_5 : decode cX5_keep 5 = .ok (.getfield 10, 3) := by decide +kernel
theorem dX5_keep_8 : decode cX5_keep 8 = .ok (.invokevirtual 126, 3) := by decide +kernel
theorem dX5_keep_11 : decode cX5_keep 11 = .ok (.aload_n 0, 1) := by decide +kernel
theorem dX5_keep_12 : decode cX5_keep 12 = .ok (.iconst 1, 1) := by decide +kernel
theorem dX5_keep_13 : decode cX5_keep 13 = .ok (.putfield 129, 3) := by decide +kernel
theorem dX5_keep_16 : decode cX5_keep 16 = .ok (.aload_n 0, 1) := by decide +kernel
theorem dX5_keep_17 : decode cX5_keep 17 = .ok (.getfield 10, 3) := by decide +kernel
theorem dX5_keep_20 : decode cX5_keep 20 = .ok (.getfield 44, 3) := by decide +kernel
theorem dX5_keep_23 : decode cX5_keep 23 = .ok (.ireturn, 1) := by decide +kernel
theorem dX5_restore_0 : decode cX5_restore 0 = .ok (.aload_n 0, 1) := by decide +kernel
theorem dX5_restore_1 : decode cX5_restore 1 = .ok (.getfield 129, 3) := by decide +kernel
theorem dX5_restore_4 : decode cX5_restore 4 = .ok (.ifCond .ne 6, 3) := by decide +kernel
theorem dX5_restore_7 : decode cX5_restore 7 = .ok (.bipush (-5), 2) := by decide +kernel
theorem dX5_restore_9 : decode cX5_restore 9 = .ok (.ireturn, 1) := by decide +kernel
theorem dX5_restore_10 : decode cX5_restore 10 = .ok (.aload_n 0, 1) := by decide +kernel
theorem dX5_restore_11 : decode cX5_restore 11 = .ok (.invokevirtual 48, 3) := by decide +kernel
theorem dX5_restore_14 : decode cX5_restore 14 = .ok (.aload_n 0, 1) := by decide +kernel
theorem dX5_restore_15 : decode cX5_restore 15 = .ok (.getfield 10, 3) := by decide +kernel
theorem dX5_restore_18 : decode cX5_restore 18 = .ok (.aload_n 0, 1) := by decide +kernel
theorem dX5_restore_19 : decode cX5_restore 19 = .ok (.getfield 16, 3) := by decide +kernel
theorem dX5_restore_22 : decode cX5_restore 22 = .ok (.invokevirtual 126, 3) := by decide +kernel
theorem dX5_restore_25 : decode cX5_restore 25 = .ok (.aload_n 0, 1) := by decide +kernel
theorem dX5_restore_26 : decode cX5_restore 26 = .ok (.getfield 10, 3) := by decide +kernel
theorem dX5_restore_29 : decode cX5_restore 29 = .ok (.getfield 44, 3) := by decide +kernel
theorem dX5_restore_32 : decode cX5_restore 32 = .ok (.ireturn, 1) := by decide +kernel
theorem dX5_member_0 : decode cX5_member 0 = .ok (.aload_n 0, 1) := by decide +kernel
theorem dX5_member_1 : decode cX5_member 1 = .ok (.getfield 10, 3) := by decide +kernel
theorem dX5_member_4 : decode cX5_member 4 = .ok (.iload_n 1, 1) := by decide +kernel
theorem dX5_member_5 : decode cX5_member 5 = .ok (.invokevirtual 55, 3) := by decide +kernel
theorem dX5_member_8 : decode cX5_member 8 = .ok (.ifCond .ne 5, 3) := by decide +kernel
theorem dX5_member_11 : decode cX5_member 11 = .ok (.iconst (-1), 1) := by decide +kernel
theorem dX5_member_12 : decode cX5_member 12 = .ok (.ireturn, 1) := by decide +kernel
theorem dX5_member_13 : decode cX5_member 13 = .ok (.iload_n 2, 1) := by decide +kernel
theorem dX5_member_14 : decode cX5_member 14 = .ok (.tableswitch 217 0 11 #[62, 72, 87, 96, 113, 122, 138, 147, 166, 185, 197, 207], 62) := by decide +kernel
theorem dX5_member_76 : decode cX5_member 76 = .ok (.aload_n 0, 1) := by decide +kernel
theorem dX5_member_77 : decode cX5_member 77 = .ok (.getfield 10, 3) := by decide +kernel
theorem dX5_member_80 : decode cX5_member 80 = .ok (.getfield 62, 3) := by decide +kernel
theorem dX5_member_83 : decode cX5_member 83 = .ok (.iload_n 1, 1) := by decide +kernel
theorem dX5_member_84 : decode cX5_member 84 = .ok (.iaload, 1) := by decide +kernel
theorem dX5_member_85 : decode cX5_member 85 = .ok (.ireturn, 1) := by decide +kernel
theorem dX5_member_86 : decode cX5_member 86 = .ok (.aload_n 0, 1) := by decide +kernel
theorem dX5_member_87 : decode cX5_member 87 = .ok (.getfield 10, 3) := by decide +kernel
theorem dX5_member_90 : decode cX5_member 90 = .ok (.getfield 66, 3) := by decide +kernel
theorem dX5_member_93 : decode cX5_member 93 = .ok (.iload_n 1, 1) := by decide +kernel
theorem dX5_member_94 : decode cX5_member 94 = .ok (.invokestatic 86, 3) := by decide +kernel
theorem dX5_member_97 : decode cX5_member 97 = .ok (.invokestatic 132, 3) := by decide +kernel
theorem dX5_member_100 : decode cX5_member 100 = .ok (.ireturn, 1) := by decide +kernel
theorem dX5_member_101 : decode cX5_member 101 = .ok (.aload_n 0, 1) := by decide +kernel
theorem dX5_member_102 : decode cX5_member 102 = .ok (.getfield 10, 3) := by decide +kernel
theorem dX5_member_105 : decode cX5_member 105 = .ok (.iload_n 1, 1) := by decide +kernel
theorem dX5_member_106 : decode cX5_member 106 = .ok (.invokevirtual 136, 3) := by decide +kernel
theorem dX5_member_109 : decode cX5_member 109 = .ok (.ireturn, 1) := by decide +kernel
theorem dX5_member_110 : decode cX5_member 110 = .ok (.aload_n 0, 1) := by decide +kernel
theorem dX5_member_111 : decode cX5_member 111 = .ok (.getfield 10, 3) := by decide +kernel
theorem dX5_member_114 : decode cX5_member 114 = .ok (.aload_n 0, 1) := by decide +kernel
theorem dX5_member_115 : decode cX5_member 115 = .ok (.getfield 10, 3) := by decide +kernel
theorem dX5_member_118 : decode cX5_member 118 = .ok (.getfield 83, 3) := by decide +kernel
theorem dX5_member_121 : decode cX5_member 121 = .ok (.iload_n 1, 1) := by decide +kernel
theorem dX5_member_122 : decode cX5_member 122 = .ok (.iaload, 1) := by decide +kernel
theorem dX5_member_123 : decode cX5_member 123 = .ok (.invokevirtual 139, 3) := by decide +kernel
theorem dX5_member_126 : decode cX5_member 126 = .ok (.ireturn, 1) := by decide +kernel
theorem dX5_member_127 : decode cX5_member 127 = .ok (.aload_n 0, 1) := by decide +kernel
theorem dX5_member_128 : decode cX5_member 128 = .ok (.getfield 10, 3) := by decide +kernel
theorem dX5_member_131 : decode cX5_member 131 = .ok (.iload_n 1, 1) := by decide +kernel
theorem dX5_member_132 : decode cX5_member 132 = .ok (.invokevirtual 142, 3) := by decide +kernel
theorem dX5_member_135 : decode cX5_member 135 = .ok (.ireturn, 1) := by decide +kernel
theorem dX5_member_136 : decode cX5_member 136 = .ok (.aload_n 0, 1) := by decide +kernel
theorem dX5_member_137 : decode cX5_member 137 = .ok (.invokevirtual 145, 3) := by decide +kernel
theorem dX5_member_140 : decode cX5_member 140 = .ok (.iload_n 1, 1) := by decide +kernel
theorem dX5_member_141 : decode cX5_member 141 = .ok (.aload_n 0, 1) := by decide +kernel
theorem dX5_member_142 : decode cX5_member 142 = .ok (.getfield 10, 3) := by decide +kernel
theorem dX5_member_145 : decode cX5_member 145 = .ok (.getfield 80, 3) := by decide +kernel
theorem dX5_member_148 : decode cX5_member 148 = .ok (.invokevirtual 149, 3) := by decide +kernel
theorem dX5_member_151 : decode cX5_member 151 = .ok (.ireturn, 1) := by decide +kernel
theorem dX5_member_152 : decode cX5_member 152 = .ok (.aload_n 0, 1) := by decide +kernel
theorem dX5_member_153 : decode cX5_member 153 = .ok (.invokevirtual 145, 3) := by decide +kernel
theorem dX5_member_156 : decode cX5_member 156 = .ok (.iload_n 1, 1) := by decide +kernel
theorem dX5_member_157 : decode cX5_member 157 = .ok (.invokevirtual 153, 3) := by decide +kernel
theorem dX5_member_160 : decode cX5_member 160 = .ok (.ireturn, 1) := by decide +kernel
theorem dX5_member_161 : decode cX5_member 161 = .ok (.aload_n 0, 1) := by decide +kernel
theorem dX5_member_162 : decode cX5_member 162 = .ok (.invokevirtual 145, 3) := by decide +kernel
theorem dX5_member_165 : decode cX5_member 165 = .ok (.iload_n 1, 1) := by decide +kernel
theorem dX5_member_166 : decode cX5_member 166 = .ok (.aload_n 0, 1) := by decide +kernel
theorem dX5_member_167 : decode cX5_member 167 = .ok (.getfield 10, 3) := by decide +kernel
theorem dX5_member_170 : decode cX5_member 170 = .ok (.getfield 80, 3) := by decide +kernel
theorem dX5_member_173 : decode cX5_member 173 = .ok (.invokevirtual 156, 3) := by decide +kernel
theorem dX5_member_176 : decode cX5_member 176 = .ok (.invokestatic 132, 3) := by decide +kernel
theorem dX5_member_179 : decode cX5_member 179 = .ok (.ireturn, 1) := by decide +kernel
theorem dX5_member_180 : decode cX5_member 180 = .ok (.aload_n 0, 1) := by decide +kernel
theorem dX5_member_181 : decode cX5_member 181 = .ok (.invokevirtual 145, 3) := by decide +kernel
theorem dX5_member_184 : decode cX5_member 184 = .ok (.iload_n 1, 1) := by decide +kernel
theorem dX5_member_185 : decode cX5_member 185 = .ok (.aload_n 0, 1) := by decide +kernel
theorem dX5_member_186 : decode cX5_member 186 = .ok (.getfield 10, 3) := by decide +kernel
theorem dX5_member_189 : decode cX5_member 189 = .ok (.getfield 80, 3) := by decide +kernel
theorem dX5_member_192 : decode cX5_member 192 = .ok (.invokevirtual 159, 3) := by decide +kernel
theorem dX5_member_195 : decode cX5_member 195 = .ok (.invokestatic 132, 3) := by decide +kernel
theorem dX5_member_198 : decode cX5_member 198 = .ok (.ireturn, 1) := by decide +kernel
theorem dX5_member_199 : decode cX5_member 199 = .ok (.aload_n 0, 1) := by decide +kernel
theorem dX5_member_200 : decode cX5_member 200 = .ok (.invokevirtual 145, 3) := by decide +kernel
theorem dX5_member_203 : decode cX5_member 203 = .ok (.iload_n 1, 1) := by decide +kernel
theorem dX5_member_204 : decode cX5_member 204 = .ok (.invokevirtual 162, 3) := by decide +kernel
theorem dX5_member_207 : decode cX5_member 207 = .ok (.invokestatic 132, 3) := by decide +kernel
theorem dX5_member_210 : decode cX5_member 210 = .ok (.ireturn, 1) := by decide +kernel
theorem dX5_member_211 : decode cX5_member 211 = .ok (.aload_n 0, 1) := by decide +kernel
theorem dX5_member_212 : decode cX5_member 212 = .ok (.iload_n 1, 1) := by decide +kernel
theorem dX5_member_213 : decode cX5_member 213 = .ok (.aload_n 0, 1) := by decide +kernel
theorem dX5_member_214 : decode cX5_member 214 = .ok (.invokevirtual 145, 3) := by decide +kernel
theorem dX5_member_217 : decode cX5_member 217 = .ok (.invokevirtual 165, 3) := by decide +kernel
theorem dX5_member_220 : decode cX5_member 220 = .ok (.ireturn, 1) := by decide +kernel
theorem dX5_member_221 : decode cX5_member 221 = .ok (.aload_n 0, 1) := by decide +kernel
theorem dX5_member_222 : decode cX5_member 222 = .ok (.getfield 10, 3) := by decide +kernel
theorem dX5_member_225 : decode cX5_member 225 = .ok (.getfield 169, 3) := by decide +kernel
theorem dX5_member_228 : decode cX5_member 228 = .ok (.iload_n 1, 1) := by decide +kernel
theorem dX5_member_229 : decode cX5_member 229 = .ok (.iaload, 1) := by decide +kernel
theorem dX5_member_230 : decode cX5_member 230 = .ok (.ireturn, 1) := by decide +kernel
theorem dX5_member_231 : decode cX5_member 231 = .ok (.bipush (-2), 2) := by decide +kernel
theorem dX5_member_233 : decode cX5_member 233 = .ok (.ireturn, 1) := by decide +kernel
theorem dX5_share_0 : decode cX5_share 0 = .ok (.aload_n 0, 1) := by decide +kernel
theorem dX5_share_1 : decode cX5_share 1 = .ok (.getfield 10, 3) := by decide +kernel
theorem dX5_share_4 : decode cX5_share 4 = .ok (.iload_n 1, 1) := by decide +kernel
theorem dX5_share_5 : decode cX5_share 5 = .ok (.invokevirtual 55, 3) := by decide +kernel
theorem dX5_share_8 : decode cX5_share 8 = .ok (.ifCond .ne 5, 3) := by decide +kernel
theorem dX5_share_11 : decode cX5_share 11 = .ok (.iconst (-1), 1) := by decide +kernel
theorem dX5_share_12 : decode cX5_share 12 = .ok (.ireturn, 1) := by decide +kernel
theorem dX5_share_13 : decode cX5_share 13 = .ok (.iload_n 2, 1) := by decide +kernel
theorem dX5_share_14 : decode cX5_share 14 = .ok (.ifCond .lt 8, 3) := by decide +kernel
theorem dX5_share_17 : decode cX5_share 17 = .ok (.iload_n 2, 1) := by decide +kernel
theorem dX5_share_18 : decode cX5_share 18 = .ok (.iconst 3, 1) := by decide +kernel
theorem dX5_share_19 : decode cX5_share 19 = .ok (.if_icmp .le 6, 3) := by decide +kernel
theorem dX5_share_22 : decode cX5_share 22 = .ok (.bipush (-2), 2) := by decide +kernel
theorem dX5_share_24 : decode cX5_share 24 = .ok (.ireturn, 1) := by decide +kernel
theorem dX5_share_25 : decode cX5_share 25 = .ok (.aload_n 0, 1) := by decide +kernel
theorem dX5_share_26 : decode cX5_share 26 = .ok (.invokevirtual 145, 3) := by decide +kernel
theorem dX5_share_29 : decode cX5_share 29 = .ok (.astore_n 3, 1) := by decide +kernel
theorem dX5_share_30 : decode cX5_share 30 = .ok (.aload_n 3, 1) := by decide +kernel
theorem dX5_share_31 : decode cX5_share 31 = .ok (.aload_n 0, 1) := by decide +kernel
theorem dX5_share_32 : decode cX5_share 32 = .ok (.getfield 10, 3) := by decide +kernel
theorem dX5_share_35 : decode cX5_share 35 = .ok (.getfield 80, 3) := by decide +kernel
theorem dX5_share_38 : decode cX5_share 38 = .ok (.invokevirtual 172, 3) := by decide +kernel
theorem dX5_share_41 : decode cX5_share 41 = .ok (.ifCond .ne 6, 3) := by decide +kernel
theorem dX5_share_44 : decode cX5_share 44 = .ok (.bipush (-5), 2) := by decide +kernel
theorem dX5_share_46 : decode cX5_share 46 = .ok (.ireturn, 1) := by decide +kernel
theorem dX5_share_47 : decode cX5_share 47 = .ok (.iload_n 2, 1) := by decide +kernel
theorem dX5_share_48 : decode cX5_share 48 = .ok (.iconst 2, 1) := by decide +kernel
theorem dX5_share_49 : decode cX5_share 49 = .ok (.if_icmp .ge 7, 3) := by decide +kernel
theorem dX5_share_52 : decode cX5_share 52 = .ok (.iconst 1, 1) := by decide +kernel
theorem dX5_share_53 : decode cX5_share 53 = .ok (.goto 4, 3) := by decide +kernel
theorem dX5_share_56 : decode cX5_share 56 = .ok (.iconst 0, 1) := by decide +kernel
theorem dX5_share_57 : decode cX5_share 57 = .ok (.istore 4, 2) := by decide +kernel
theorem dX5_share_59 : decode cX5_share 59 = .ok (.iload 4, 2) := by decide +kernel
theorem dX5_share_61 : decode cX5_share 61 = .ok (.ifCond .eq 18, 3) := by decide +kernel
theorem dX5_share_64 : decode cX5_share 64 = .ok (.aload_n 3, 1) := by decide +kernel
theorem dX5_share_65 : decode cX5_share 65 = .ok (.iload_n 1, 1) := by decide +kernel
theorem dX5_share_66 : decode cX5_share 66 = .ok (.aload_n 0, 1) := by decide +kernel
theorem dX5_share_67 : decode cX5_share 67 = .ok (.getfield 10, 3) := by decide +kernel
theorem dX5_share_70 : decode cX5_share 70 = .ok (.getfield 80, 3) := by decide +kernel
theorem dX5_share_73 : decode cX5_share 73 = .ok (.invokevirtual 149, 3) := by decide +kernel
theorem dX5_share_76 : decode cX5_share 76 = .ok (.goto 8, 3) := by decide +kernel
theorem dX5_share_79 : decode cX5_share 79 = .ok (.aload_n 3, 1) := by decide +kernel
theorem dX5_share_80 : decode cX5_share 80 = .ok (.iload_n 1, 1) := by decide +kernel
theorem dX5_share_81 : decode cX5_share 81 = .ok (.invokevirtual 153, 3) := by decide +kernel
theorem dX5_share_84 : decode cX5_share 84 = .ok (.istore 5, 2) := by decide +kernel
theorem dX5_share_86 : decode cX5_share 86 = .ok (.iload 4, 2) := by decide +kernel
theorem dX5_share_88 : decode cX5_share 88 = .ok (.ifCond .eq 17, 3) := by decide +kernel
theorem dX5_share_91 : decode cX5_share 91 = .ok (.aload_n 3, 1) := by decide +kernel
theorem dX5_share_92 : decode cX5_share 92 = .ok (.aload_n 0, 1) := by decide +kernel
theorem dX5_share_93 : decode cX5_share 93 = .ok (.getfield 10, 3) := by decide +kernel
theorem dX5_share_96 : decode cX5_share 96 = .ok (.getfield 80, 3) := by decide +kernel
theorem dX5_share_99 : decode cX5_share 99 = .ok (.invokevirtual 175, 3) := by decide +kernel
theorem dX5_share_102 : decode cX5_share 102 = .ok (.goto 13, 3) := by decide +kernel
theorem dX5_share_105 : decode cX5_share 105 = .ok (.aload_n 0, 1) := by decide +kernel
theorem dX5_share_106 : decode cX5_share 106 = .ok (.getfield 10, 3) := by decide +kernel
theorem dX5_share_109 : decode cX5_share 109 = .ok (.invokevirtual 178, 3) := by decide +kernel
theorem dX5_share_112 : decode cX5_share 112 = .ok (.invokestatic 182, 3) := by decide +kernel
theorem dX5_share_115 : decode cX5_share 115 = .ok (.istore 6, 2) := by decide +kernel
theorem dX5_share_117 : decode cX5_share 117 = .ok (.iload_n 2, 1) := by decide +kernel
theorem dX5_share_118 : decode cX5_share 118 = .ok (.ifCond .eq 8, 3) := by decide +kernel
theorem dX5_share_121 : decode cX5_share 121 = .ok (.iload_n 2, 1) := by decide +kernel
theorem dX5_share_122 : decode cX5_share 122 = .ok (.iconst 2, 1) := by decide +kernel
theorem dX5_share_123 : decode cX5_share 123 = .ok (.if_icmp .ne 8, 3) := by decide +kernel
theorem dX5_share_126 : decode cX5_share 126 = .ok (.iload 5, 2) := by decide +kernel
theorem dX5_share_128 : decode cX5_share 128 = .ok (.goto 5, 3) := by decide +kernel
theorem dX5_share_131 : decode cX5_share 131 = .ok (.iload 6, 2) := by decide +kernel
theorem dX5_share_133 : decode cX5_share 133 = .ok (.istore 7, 2) := by decide +kernel
theorem dX5_share_135 : decode cX5_share 135 = .ok (.iload 7, 2) := by decide +kernel
theorem dX5_share_137 : decode cX5_share 137 = .ok (.iload 5, 2) := by decide +kernel
theorem dX5_share_139 : decode cX5_share 139 = .ok (.iload 6, 2) := by decide +kernel
theorem dX5_share_141 : decode cX5_share 141 = .ok (.invokestatic 185, 3) := by decide +kernel
theorem dX5_share_144 : decode cX5_share 144 = .ok (.idiv, 1) := by decide +kernel
theorem dX5_share_145 : decode cX5_share 145 = .ok (.ireturn, 1) := by decide +kernel
theorem dX5_wins_0 : decode cX5_wins 0 = .ok (.iload_n 1, 1) := by decide +kernel
theorem dX5_wins_1 : decode cX5_wins 1 = .ok (.aload_n 0, 1) := by decide +kernel
theorem dX5_wins_2 : decode cX5_wins 2 = .ok (.getfield 10, 3) := by decide +kernel
theorem dX5_wins_5 : decode cX5_wins 5 = .ok (.invokevirtual 188, 3) := by decide +kernel
theorem dX5_wins_8 : decode cX5_wins 8 = .ok (.iconst (-1), 1) := by decide +kernel
theorem dX5_wins_9 : decode cX5_wins 9 = .ok (.ixor, 1) := by decide +kernel
theorem dX5_wins_10 : decode cX5_wins 10 = .ok (.iand, 1) := by decide +kernel
theorem dX5_wins_11 : decode cX5_wins 11 = .ok (.ifCond .eq 6, 3) := by decide +kernel
theorem dX5_wins_14 : decode cX5_wins 14 = .ok (.bipush (-2), 2) := by decide +kernel
theorem dX5_wins_16 : decode cX5_wins 16 = .ok (.ireturn, 1) := by decide +kernel
theorem dX5_wins_17 : decode cX5_wins 17 = .ok (.aload_n 0, 1) := by decide +kernel
theorem dX5_wins_18 : decode cX5_wins 18 = .ok (.getfield 10, 3) := by decide +kernel
theorem dX5_wins_21 : decode cX5_wins 21 = .ok (.aload_n 0, 1) := by decide +kernel
theorem dX5_wins_22 : decode cX5_wins 22 = .ok (.getfield 10, 3) := by decide +kernel
theorem dX5_wins_25 : decode cX5_wins 25 = .ok (.iload_n 1, 1) := by decide +kernel
theorem dX5_wins_26 : decode cX5_wins 26 = .ok (.invokevirtual 191, 3) := by decide +kernel
theorem dX5_wins_29 : decode cX5_wins 29 = .ok (.invokevirtual 194, 3) := by decide +kernel
theorem dX5_wins_32 : decode cX5_wins 32 = .ok (.invokestatic 132, 3) := by decide +kernel
theorem dX5_wins_35 : decode cX5_wins 35 = .ok (.ireturn, 1) := by decide +kernel
theorem dX5_leastCoalition_0 : decode cX5_leastCoalition 0 = .ok (.iload_n 1, 1) := by decide +kernel
theorem dX5_leastCoalition_1 : decode cX5_leastCoalition 1 = .ok (.ifCond .lt 12, 3) := by decide +kernel
theorem dX5_leastCoalition_4 : decode cX5_leastCoalition 4 = .ok (.iload_n 2, 1) := by decide +kernel
theorem dX5_leastCoalition_5 : decode cX5_leastCoalition 5 = .ok (.ifCond .lt 8, 3) := by decide +kernel
theorem dX5_leastCoalition_8 : decode cX5_leastCoalition 8 = .ok (.iload_n 2, 1) := by decide +kernel
theorem dX5_leastCoalition_9 : decode cX5_leastCoalition 9 = .ok (.iconst 2, 1) := by decide +kernel
theorem dX5_leastCoalition_10 : decode cX5_leastCoalition 10 = .ok (.if_icmp .le 6, 3) := by decide +kernel
theorem dX5_leastCoalition_13 : decode cX5_leastCoalition 13 = .ok (.bipush (-2), 2) := by decide +kernel
theorem dX5_leastCoalition_15 : decode cX5_leastCoalition 15 = .ok (.ireturn, 1) := by decide +kernel
theorem dX5_leastCoalition_16 : decode cX5_leastCoalition 16 = .ok (.aload_n 0, 1) := by decide +kernel
theorem dX5_leastCoalition_17 : decode cX5_leastCoalition 17 = .ok (.invokevirtual 145, 3) := by decide +kernel
theorem dX5_leastCoalition_20 : decode cX5_leastCoalition 20 = .ok (.astore_n 3, 1) := by decide +kernel
theorem dX5_leastCoalition_21 : decode cX5_leastCoalition 21 = .ok (.iload_n 1, 1) := by decide +kernel
theorem dX5_leastCoalition_22 : decode cX5_leastCoalition 22 = .ok (.aload_n 3, 1) := by decide +kernel
theorem dX5_leastCoalition_23 : decode cX5_leastCoalition 23 = .ok (.invokevirtual 197, 3) := by decide +kernel
theorem dX5_leastCoalition_26 : decode cX5_leastCoalition 26 = .ok (.if_icmp .ge 12, 3) := by decide +kernel
theorem dX5_leastCoalition_29 : decode cX5_leastCoalition 29 = .ok (.aload_n 3, 1) := by decide +kernel
theorem dX5_leastCoalition_30 : decode cX5_leastCoalition 30 = .ok (.iload_n 1, 1) := by decide +kernel
theorem dX5_leastCoalition_31 : decode cX5_leastCoalition 31 = .ok (.iload_n 2, 1) := by decide +kernel
theorem dX5_leastCoalition_32 : decode cX5_leastCoalition 32 = .ok (.invokevirtual 200, 3) := by decide +kernel
theorem dX5_leastCoalition_35 : decode cX5_leastCoalition 35 = .ok (.goto 5, 3) := by decide +kernel
theorem dX5_leastCoalition_38 : decode cX5_leastCoalition 38 = .ok (.bipush (-5), 2) := by decide +kernel
theorem dX5_leastCoalition_40 : decode cX5_leastCoalition 40 = .ok (.ireturn, 1) := by decide +kernel
theorem dX5_ranked_0 : decode cX5_ranked 0 = .ok (.iload_n 1, 1) := by decide +kernel
theorem dX5_ranked_1 : decode cX5_ranked 1 = .ok (.ifCond .ge 6, 3) := by decide +kernel
theorem dX5_ranked_4 : decode cX5_ranked 4 = .ok (.bipush (-2), 2) := by decide +kernel
theorem dX5_ranked_6 : decode cX5_ranked 6 = .ok (.ireturn, 1) := by decide +kernel
theorem dX5_ranked_7 : decode cX5_ranked 7 = .ok (.aload_n 0, 1) := by decide +kernel
theorem dX5_ranked_8 : decode cX5_ranked 8 = .ok (.invokevirtual 145, 3) := by decide +kernel
theorem dX5_ranked_11 : decode cX5_ranked 11 = .ok (.astore_n 2, 1) := by decide +kernel
theorem dX5_ranked_12 : decode cX5_ranked 12 = .ok (.iconst 0, 1) := by decide +kernel
theorem dX5_ranked_13 : decode cX5_ranked 13 = .ok (.istore_n 3, 1) := by decide +kernel
theorem dX5_ranked_14 : decode cX5_ranked 14 = .ok (.iload_n 3, 1) := by decide +kernel
theorem dX5_ranked_15 : decode cX5_ranked 15 = .ok (.aload_n 0, 1) := by decide +kernel
theorem dX5_ranked_16 : decode cX5_ranked 16 = .ok (.getfield 10, 3) := by decide +kernel
theorem dX5_ranked_19 : decode cX5_ranked 19 = .ok (.getfield 44, 3) := by decide +kernel
theorem dX5_ranked_22 : decode cX5_ranked 22 = .ok (.if_icmp .ge 21, 3) := by decide +kernel
theorem dX5_ranked_25 : decode cX5_ranked 25 = .ok (.aload_n 0, 1) := by decide +kernel
theorem dX5_ranked_26 : decode cX5_ranked 26 = .ok (.iload_n 3, 1) := by decide +kernel
theorem dX5_ranked_27 : decode cX5_ranked 27 = .ok (.aload_n 2, 1) := by decide +kernel
theorem dX5_ranked_28 : decode cX5_ranked 28 = .ok (.invokevirtual 165, 3) := by decide +kernel
theorem dX5_ranked_31 : decode cX5_ranked 31 = .ok (.iload_n 1, 1) := by decide +kernel
theorem dX5_ranked_32 : decode cX5_ranked 32 = .ok (.if_icmp .ne 5, 3) := by decide +kernel
theorem dX5_ranked_35 : decode cX5_ranked 35 = .ok (.iload_n 3, 1) := by decide +kernel
theorem dX5_ranked_36 : decode cX5_ranked 36 = .ok (.ireturn, 1) := by decide +kernel
theorem dX5_ranked_37 : decode cX5_ranked 37 = .ok (.iinc 3 1, 3) := by decide +kernel
theorem dX5_ranked_40 : decode cX5_ranked 40 = .ok (.goto (-26), 3) := by decide +kernel
theorem dX5_ranked_43 : decode cX5_ranked 43 = .ok (.bipush (-5), 2) := by decide +kernel
theorem dX5_ranked_45 : decode cX5_ranked 45 = .ok (.ireturn, 1) := by decide +kernel
theorem dX5_withQuota_0 : decode cX5_withQuota 0 = .ok (.iload_n 1, 1) := by decide +kernel
theorem dX5_withQuota_1 : decode cX5_withQuota 1 = .ok (.invokestatic 77, 3) := by decide +kernel
theorem dX5_withQuota_4 : decode cX5_withQuota 4 = .ok (.ifCond .ne 6, 3) := by decide +kernel
theorem dX5_withQuota_7 : decode cX5_withQuota 7 = .ok (.bipush (-2), 2) := by decide +kernel
theorem dX5_withQuota_9 : decode cX5_withQuota 9 = .ok (.ireturn, 1) := by decide +kernel
theorem dX5_withQuota_10 : decode cX5_withQuota 10 = .ok (.iload_n 2, 1) := by decide +kernel
theorem dX5_withQuota_11 : decode cX5_withQuota 11 = .ok (.tableswitch 65 0 3 #[29, 38, 47, 56], 29) := by decide +kernel
theorem dX5_withQuota_40 : decode cX5_withQuota 40 = .ok (.aload_n 0, 1) := by decide +kernel
theorem dX5_withQuota_41 : decode cX5_withQuota 41 = .ok (.invokevirtual 145, 3) := by decide +kernel
theorem dX5_withQuota_44 : decode cX5_withQuota 44 = .ok (.iload_n 1, 1) := by decide +kernel
theorem dX5_withQuota_45 : decode cX5_withQuota 45 = .ok (.invokevirtual 203, 3) := by decide +kernel
theorem dX5_withQuota_48 : decode cX5_withQuota 48 = .ok (.ireturn, 1) := by decide +kernel
theorem dX5_withQuota_49 : decode cX5_withQuota 49 = .ok (.aload_n 0, 1) := by decide +kernel
theorem dX5_withQuota_50 : decode cX5_withQuota 50 = .ok (.invokevirtual 145, 3) := by decide +kernel
theorem dX5_withQuota_53 : decode cX5_withQuota 53 = .ok (.iload_n 1, 1) := by decide +kernel
theorem dX5_withQuota_54 : decode cX5_withQuota 54 = .ok (.invokevirtual 206, 3) := by decide +kernel
theorem dX5_withQuota_57 : decode cX5_withQuota 57 = .ok (.ireturn, 1) := by decide +kernel
theorem dX5_withQuota_58 : decode cX5_withQuota 58 = .ok (.aload_n 0, 1) := by decide +kernel
theorem dX5_withQuota_59 : decode cX5_withQuota 59 = .ok (.invokevirtual 145, 3) := by decide +kernel
theorem dX5_withQuota_62 : decode cX5_withQuota 62 = .ok (.iload_n 1, 1) := by decide +kernel
theorem dX5_withQuota_63 : decode cX5_withQuota 63 = .ok (.invokevirtual 175, 3) := by decide +kernel
theorem dX5_withQuota_66 : decode cX5_withQuota 66 = .ok (.ireturn, 1) := by decide +kernel
theorem dX5_withQuota_67 : decode cX5_withQuota 67 = .ok (.aload_n 0, 1) := by decide +kernel
theorem dX5_withQuota_68 : decode cX5_withQuota 68 = .ok (.invokevirtual 145, 3) := by decide +kernel
theorem dX5_withQuota_71 : decode cX5_withQuota 71 = .ok (.iload_n 1, 1) := by decide +kernel
theorem dX5_withQuota_72 : decode cX5_withQuota 72 = .ok (.invokevirtual 172, 3) := by decide +kernel
theorem dX5_withQuota_75 : decode cX5_withQuota 75 = .ok (.ireturn, 1) := by decide +kernel
theorem dX5_withQuota_76 : decode cX5_withQuota 76 = .ok (.bipush (-2), 2) := by decide +kernel
theorem dX5_withQuota_78 : decode cX5_withQuota 78 = .ok (.ireturn, 1) := by decide +kernel
theorem dX5_leavesOut_0 : decode cX5_leavesOut 0 = .ok (.aload_n 0, 1) := by decide +kernel
theorem dX5_leavesOut_1 : decode cX5_leavesOut 1 = .ok (.getfield 10, 3) := by decide +kernel
theorem dX5_leavesOut_4 : decode cX5_leavesOut 4 = .ok (.iload_n 1, 1) := by decide +kernel
theorem dX5_leavesOut_5 : decode cX5_leavesOut 5 = .ok (.invokevirtual 55, 3) := by decide +kernel
theorem dX5_leavesOut_8 : decode cX5_leavesOut 8 = .ok (.ifCond .ne 5, 3) := by decide +kernel
theorem dX5_leavesOut_11 : decode cX5_leavesOut 11 = .ok (.iconst (-1), 1) := by decide +kernel
theorem dX5_leavesOut_12 : decode cX5_leavesOut 12 = .ok (.ireturn, 1) := by decide +kernel
theorem dX5_leavesOut_13 : decode cX5_leavesOut 13 = .ok (.iload_n 2, 1) := by decide +kernel
theorem dX5_leavesOut_14 : decode cX5_leavesOut 14 = .ok (.invokestatic 77, 3) := by decide +kernel
theorem dX5_leavesOut_17 : decode cX5_leavesOut 17 = .ok (.ifCond .ne 6, 3) := by decide +kernel
theorem dX5_leavesOut_20 : decode cX5_leavesOut 20 = .ok (.bipush (-2), 2) := by decide +kernel
theorem dX5_leavesOut_22 : decode cX5_leavesOut 22 = .ok (.ireturn, 1) := by decide +kernel
theorem dX5_leavesOut_23 : decode cX5_leavesOut 23 = .ok (.aload_n 0, 1) := by decide +kernel
theorem dX5_leavesOut_24 : decode cX5_leavesOut 24 = .ok (.invokevirtual 145, 3) := by decide +kernel
theorem dX5_leavesOut_27 : decode cX5_leavesOut 27 = .ok (.astore_n 3, 1) := by decide +kernel
theorem dX5_leavesOut_28 : decode cX5_leavesOut 28 = .ok (.aload_n 0, 1) := by decide +kernel
theorem dX5_leavesOut_29 : decode cX5_leavesOut 29 = .ok (.getfield 10, 3) := by decide +kernel
theorem dX5_leavesOut_32 : decode cX5_leavesOut 32 = .ok (.aload_n 0, 1) := by decide +kernel
theorem dX5_leavesOut_33 : decode cX5_leavesOut 33 = .ok (.getfield 10, 3) := by decide +kernel
theorem dX5_leavesOut_36 : decode cX5_leavesOut 36 = .ok (.invokevirtual 188, 3) := by decide +kernel
theorem dX5_leavesOut_39 : decode cX5_leavesOut 39 = .ok (.invokevirtual 139, 3) := by decide +kernel
theorem dX5_leavesOut_42 : decode cX5_leavesOut 42 = .ok (.istore 4, 2) := by decide +kernel
theorem dX5_leavesOut_44 : decode cX5_leavesOut 44 = .ok (.iload_n 2, 1) := by decide +kernel
theorem dX5_leavesOut_45 : decode cX5_leavesOut 45 = .ok (.istore 5, 2) := by decide +kernel
theorem dX5_leavesOut_47 : decode cX5_leavesOut 47 = .ok (.iload 5, 2) := by decide +kernel
theorem dX5_leavesOut_49 : decode cX5_leavesOut 49 = .ok (.iload 4, 2) := by decide +kernel
theorem dX5_leavesOut_51 : decode cX5_leavesOut 51 = .ok (.if_icmp .gt 22, 3) := by decide +kernel
theorem dX5_leavesOut_54 : decode cX5_leavesOut 54 = .ok (.aload_n 3, 1) := by decide +kernel
theorem dX5_leavesOut_55 : decode cX5_leavesOut 55 = .ok (.iload_n 1, 1) := by decide +kernel
theorem dX5_leavesOut_56 : decode cX5_leavesOut 56 = .ok (.iload 5, 2) := by decide +kernel
theorem dX5_leavesOut_58 : decode cX5_leavesOut 58 = .ok (.invokevirtual 156, 3) := by decide +kernel
theorem dX5_leavesOut_61 : decode cX5_leavesOut 61 = .ok (.ifCond .eq 6, 3) := by decide +kernel
theorem dX5_leavesOut_64 : decode cX5_leavesOut 64 = .ok (.iload 5, 2) := by decide +kernel
theorem dX5_leavesOut_66 : decode cX5_leavesOut 66 = .ok (.ireturn, 1) := by decide +kernel
theorem dX5_leavesOut_67 : decode cX5_leavesOut 67 = .ok (.iinc 5 1, 3) := by decide +kernel
theorem dX5_leavesOut_70 : decode cX5_leavesOut 70 = .ok (.goto (-23), 3) := by decide +kernel
theorem dX5_leavesOut_73 : decode cX5_leavesOut 73 = .ok (.bipush (-5), 2) := by decide +kernel
theorem dX5_leavesOut_75 : decode cX5_leavesOut 75 = .ok (.ireturn, 1) := by decide +kernel
theorem dX5_fairest_0 : decode cX5_fairest 0 = .ok (.aload_n 0, 1) := by decide +kernel
theorem dX5_fairest_1 : decode cX5_fairest 1 = .ok (.getfield 10, 3) := by decide +kernel
theorem dX5_fairest_4 : decode cX5_fairest 4 = .ok (.aload_n 0, 1) := by decide +kernel
theorem dX5_fairest_5 : decode cX5_fairest 5 = .ok (.getfield 10, 3) := by decide +kernel
theorem dX5_fairest_8 : decode cX5_fairest 8 = .ok (.invokevirtual 188, 3) := by decide +kernel
theorem dX5_fairest_11 : decode cX5_fairest 11 = .ok (.invokevirtual 139, 3) := by decide +kernel
theorem dX5_fairest_14 : decode cX5_fairest 14 = .ok (.istore_n 1, 1) := by decide +kernel
theorem dX5_fairest_15 : decode cX5_fairest 15 = .ok (.iload_n 1, 1) := by decide +kernel
theorem dX5_fairest_16 : decode cX5_fairest 16 = .ok (.ifCond .ne 6, 3) := by decide +kernel
theorem dX5_fairest_19 : decode cX5_fairest 19 = .ok (.bipush (-5), 2) := by decide +kernel
theorem dX5_fairest_21 : decode cX5_fairest 21 = .ok (.ireturn, 1) := by decide +kernel
theorem dX5_fairest_22 : decode cX5_fairest 22 = .ok (.aload_n 0, 1) := by decide +kernel
theorem dX5_fairest_23 : decode cX5_fairest 23 = .ok (.invokevirtual 145, 3) := by decide +kernel
theorem dX5_fairest_26 : decode cX5_fairest 26 = .ok (.astore_n 2, 1) := by decide +kernel
theorem dX5_fairest_27 : decode cX5_fairest 27 = .ok (.iconst 1, 1) := by decide +kernel
theorem dX5_fairest_28 : decode cX5_fairest 28 = .ok (.istore_n 3, 1) := by decide +kernel
theorem dX5_fairest_29 : decode cX5_fairest 29 = .ok (.aload_n 2, 1) := by decide +kernel
theorem dX5_fairest_30 : decode cX5_fairest 30 = .ok (.iload_n 3, 1) := by decide +kernel
theorem dX5_fairest_31 : decode cX5_fairest 31 = .ok (.invokevirtual 209, 3) := by decide +kernel
theorem dX5_fairest_34 : decode cX5_fairest 34 = .ok (.lstore 4, 2) := by decide +kernel
theorem dX5_fairest_36 : decode cX5_fairest 36 = .ok (.aload_n 2, 1) := by decide +kernel
theorem dX5_fairest_37 : decode cX5_fairest 37 = .ok (.iload_n 3, 1) := by decide +kernel
theorem dX5_fairest_38 : decode cX5_fairest 38 = .ok (.invokevirtual 175, 3) := by decide +kernel
theorem dX5_fairest_41 : decode cX5_fairest 41 = .ok (.i2l, 1) := by decide +kernel
theorem dX5_fairest_42 : decode cX5_fairest 42 = .ok (.lstore 6, 2) := by decide +kernel
theorem dX5_fairest_44 : decode cX5_fairest 44 = .ok (.iconst 2, 1) := by decide +kernel
theorem dX5_fairest_45 : decode cX5_fairest 45 = .ok (.istore 8, 2) := by decide +kernel
theorem dX5_fairest_47 : decode cX5_fairest 47 = .ok (.iload 8, 2) := by decide +kernel
theorem dX5_fairest_49 : decode cX5_fairest 49 = .ok (.iload_n 1, 1) := by decide +kernel
theorem dX5_fairest_50 : decode cX5_fairest 50 = .ok (.if_icmp .gt 51, 3) := by decide +kernel
theorem dX5_fairest_53 : decode cX5_fairest 53 = .ok (.aload_n 2, 1) := by decide +kernel
theorem dX5_fairest_54 : decode cX5_fairest 54 = .ok (.iload 8, 2) := by decide +kernel
theorem dX5_fairest_56 : decode cX5_fairest 56 = .ok (.invokevirtual 209, 3) := by decide +kernel
theorem dX5_fairest_59 : decode cX5_fairest 59 = .ok (.lstore 9, 2) := by decide +kernel
theorem dX5_fairest_61 : decode cX5_fairest 61 = .ok (.aload_n 2, 1) := by decide +kernel
theorem dX5_fairest_62 : decode cX5_fairest 62 = .ok (.iload 8, 2) := by decide +kernel
theorem dX5_fairest_64 : decode cX5_fairest 64 = .ok (.invokevirtual 175, 3) := by decide +kernel
theorem dX5_fairest_67 : decode cX5_fairest 67 = .ok (.i2l, 1) := by decide +kernel
theorem dX5_fairest_68 : decode cX5_fairest 68 = .ok (.lstore 11, 2) := by decide +kernel
theorem dX5_fairest_70 : decode cX5_fairest 70 = .ok (.lload 9, 2) := by decide +kernel
theorem dX5_fairest_72 : decode cX5_fairest 72 = .ok (.lload 6, 2) := by decide +kernel
theorem dX5_fairest_74 : decode cX5_fairest 74 = .ok (.lmul, 1) := by decide +kernel
theorem dX5_fairest_75 : decode cX5_fairest 75 = .ok (.lload 4, 2) := by decide +kernel
theorem dX5_fairest_77 : decode cX5_fairest 77 = .ok (.lload 11, 2) := by decide +kernel
theorem dX5_fairest_79 : decode cX5_fairest 79 = .ok (.lmul, 1) := by decide +kernel
theorem dX5_fairest_80 : decode cX5_fairest 80 = .ok (.lcmp, 1) := by decide +kernel
theorem dX5_fairest_81 : decode cX5_fairest 81 = .ok (.ifCond .ge 14, 3) := by decide +kernel
theorem dX5_fairest_84 : decode cX5_fairest 84 = .ok (.iload 8, 2) := by decide +kernel
theorem dX5_fairest_86 : decode cX5_fairest 86 = .ok (.istore_n 3, 1) := by decide +kernel
theorem dX5_fairest_87 : decode cX5_fairest 87 = .ok (.lload 9, 2) := by decide +kernel
theorem dX5_fairest_89 : decode cX5_fairest 89 = .ok (.lstore 4, 2) := by decide +kernel
theorem dX5_fairest_91 : decode cX5_fairest 91 = .ok (.lload 11, 2) := by decide +kernel
theorem dX5_fairest_93 : decode cX5_fairest 93 = .ok (.lstore 6, 2) := by decide +kernel
theorem dX5_fairest_95 : decode cX5_fairest 95 = .ok (.iinc 8 1, 3) := by decide +kernel
theorem dX5_fairest_98 : decode cX5_fairest 98 = .ok (.goto (-51), 3) := by decide +kernel
theorem dX5_fairest_101 : decode cX5_fairest 101 = .ok (.iload_n 3, 1) := by decide +kernel
theorem dX5_fairest_102 : decode cX5_fairest 102 = .ok (.ireturn, 1) := by decide +kernel
theorem dX5_ballot_0 : decode cX5_ballot 0 = .ok (.iload_n 1, 1) := by decide +kernel
theorem dX5_ballot_1 : decode cX5_ballot 1 = .ok (.ifCond .lt 12, 3) := by decide +kernel
theorem dX5_ballot_4 : decode cX5_ballot 4 = .ok (.iload_n 2, 1) := by decide +kernel
theorem dX5_ballot_5 : decode cX5_ballot 5 = .ok (.ifCond .lt 8, 3) := by decide +kernel
theorem dX5_ballot_8 : decode cX5_ballot 8 = .ok (.iload_n 2, 1) := by decide +kernel
theorem dX5_ballot_9 : decode cX5_ballot 9 = .ok (.iconst 2, 1) := by decide +kernel
theorem dX5_ballot_10 : decode cX5_ballot 10 = .ok (.if_icmp .le 6, 3) := by decide +kernel
theorem dX5_ballot_13 : decode cX5_ballot 13 = .ok (.bipush (-2), 2) := by decide +kernel
theorem dX5_ballot_15 : decode cX5_ballot 15 = .ok (.ireturn, 1) := by decide +kernel
theorem dX5_ballot_16 : decode cX5_ballot 16 = .ok (.iload_n 1, 1) := by decide +kernel
theorem dX5_ballot_17 : decode cX5_ballot 17 = .ok (.bipush 8, 2) := by decide +kernel
theorem dX5_ballot_19 : decode cX5_ballot 19 = .ok (.if_icmp .ge 17, 3) := by decide +kernel
theorem dX5_ballot_22 : decode cX5_ballot 22 = .ok (.iload_n 1, 1) := by decide +kernel
theorem dX5_ballot_23 : decode cX5_ballot 23 = .ok (.aload_n 0, 1) := by decide +kernel
theorem dX5_ballot_24 : decode cX5_ballot 24 = .ok (.getfield 10, 3) := by decide +kernel
theorem dX5_ballot_27 : decode cX5_ballot 27 = .ok (.getfield 102, 3) := by decide +kernel
theorem dX5_ballot_30 : decode cX5_ballot 30 = .ok (.getfield 213, 3) := by decide +kernel
theorem dX5_ballot_33 : decode cX5_ballot 33 = .ok (.if_icmp .lt 6, 3) := by decide +kernel
theorem dX5_ballot_36 : decode cX5_ballot 36 = .ok (.bipush (-5), 2) := by decide +kernel
theorem dX5_ballot_38 : decode cX5_ballot 38 = .ok (.ireturn, 1) := by decide +kernel
theorem dX5_ballot_39 : decode cX5_ballot 39 = .ok (.iload_n 2, 1) := by decide +kernel
theorem dX5_ballot_40 : decode cX5_ballot 40 = .ok (.lookupswitch 54 #[(0, 28), (1, 41)], 28) := by decide +kernel
theorem dX5_ballot_68 : decode cX5_ballot 68 = .ok (.aload_n 0, 1) := by decide +kernel
theorem dX5_ballot_69 : decode cX5_ballot 69 = .ok (.getfield 10, 3) := by decide +kernel
theorem dX5_ballot_72 : decode cX5_ballot 72 = .ok (.getfield 102, 3) := by decide +kernel
theorem dX5_ballot_75 : decode cX5_ballot 75 = .ok (.getfield 216, 3) := by decide +kernel
theorem dX5_ballot_78 : decode cX5_ballot 78 = .ok (.iload_n 1, 1) := by decide +kernel
theorem dX5_ballot_79 : decode cX5_ballot 79 = .ok (.iaload, 1) := by decide +kernel
theorem dX5_ballot_80 : decode cX5_ballot 80 = .ok (.ireturn, 1) := by decide +kernel
theorem dX5_ballot_81 : decode cX5_ballot 81 = .ok (.aload_n 0, 1) := by decide +kernel
theorem dX5_ballot_82 : decode cX5_ballot 82 = .ok (.getfield 10, 3) := by decide +kernel
theorem dX5_ballot_85 : decode cX5_ballot 85 = .ok (.getfield 102, 3) := by decide +kernel
theorem dX5_ballot_88 : decode cX5_ballot 88 = .ok (.getfield 219, 3) := by decide +kernel
theorem dX5_ballot_91 : decode cX5_ballot 91 = .ok (.iload_n 1, 1) := by decide +kernel
theorem dX5_ballot_92 : decode cX5_ballot 92 = .ok (.iaload, 1) := by decide +kernel
theorem dX5_ballot_93 : decode cX5_ballot 93 = .ok (.ireturn, 1) := by decide +kernel
theorem dX5_ballot_94 : decode cX5_ballot 94 = .ok (.aload_n 0, 1) := by decide +kernel
theorem dX5_ballot_95 : decode cX5_ballot 95 = .ok (.getfield 10, 3) := by decide +kernel
theorem dX5_ballot_98 : decode cX5_ballot 98 = .ok (.getfield 102, 3) := by decide +kernel
theorem dX5_ballot_101 : decode cX5_ballot 101 = .ok (.getfield 222, 3) := by decide +kernel
theorem dX5_ballot_104 : decode cX5_ballot 104 = .ok (.iload_n 1, 1) := by decide +kernel
theorem dX5_ballot_105 : decode cX5_ballot 105 = .ok (.iaload, 1) := by decide +kernel
theorem dX5_ballot_106 : decode cX5_ballot 106 = .ok (.ireturn, 1) := by decide +kernel
theorem dX5_count_0 : decode cX5_count 0 = .ok (.iload_n 1, 1) := by decide +kernel
theorem dX5_count_1 : decode cX5_count 1 = .ok (.tableswitch 208 0 12 #[67, 75, 83, 91, 106, 121, 129, 144, 159, 170, 181, 192, 200], 67) := by decide +kernel
theorem dX5_count_68 : decode cX5_count 68 = .ok (.aload_n 0, 1) := by decide +kernel
theorem dX5_count_69 : decode cX5_count 69 = .ok (.getfield 10, 3) := by decide +kernel
theorem dX5_count_72 : decode cX5_count 72 = .ok (.getfield 44, 3) := by decide +kernel
theorem dX5_count_75 : decode cX5_count 75 = .ok (.ireturn, 1) := by decide +kernel
theorem dX5_count_76 : decode cX5_count 76 = .ok (.aload_n 0, 1) := by decide +kernel
theorem dX5_count_77 : decode cX5_count 77 = .ok (.getfield 10, 3) := by decide +kernel
theorem dX5_count_80 : decode cX5_count 80 = .ok (.invokevirtual 178, 3) := by decide +kernel
theorem dX5_count_83 : decode cX5_count 83 = .ok (.ireturn, 1) := by decide +kernel
theorem dX5_count_84 : decode cX5_count 84 = .ok (.aload_n 0, 1) := by decide +kernel
theorem dX5_count_85 : decode cX5_count 85 = .ok (.getfield 10, 3) := by decide +kernel
theorem dX5_count_88 : decode cX5_count 88 = .ok (.getfield 80, 3) := by decide +kernel
theorem dX5_count_91 : decode cX5_count 91 = .ok (.ireturn, 1) := by decide +kernel
theorem dX5_count_92 : decode cX5_count 92 = .ok (.aload_n 0, 1) := by decide +kernel
theorem dX5_count_93 : decode cX5_count 93 = .ok (.getfield 10, 3) := by decide +kernel
theorem dX5_count_96 : decode cX5_count 96 = .ok (.aload_n 0, 1) := by decide +kernel
theorem dX5_count_97 : decode cX5_count 97 = .ok (.getfield 10, 3) := by decide +kernel
theorem dX5_count_100 : decode cX5_count 100 = .ok (.invokevirtual 188, 3) := by decide +kernel
theorem dX5_count_103 : decode cX5_count 103 = .ok (.invokevirtual 139, 3) := by decide +kernel
theorem dX5_count_106 : decode cX5_count 106 = .ok (.ireturn, 1) := by decide +kernel
theorem dX5_count_107 : decode cX5_count 107 = .ok (.aload_n 0, 1) := by decide +kernel
theorem dX5_count_108 : decode cX5_count 108 = .ok (.invokevirtual 145, 3) := by decide +kernel
theorem dX5_count_111 : decode cX5_count 111 = .ok (.aload_n 0, 1) := by decide +kernel
theorem dX5_count_112 : decode cX5_count 112 = .ok (.getfield 10, 3) := by decide +kernel
theorem dX5_count_115 : decode cX5_count 115 = .ok (.getfield 80, 3) := by decide +kernel
theorem dX5_count_118 : decode cX5_count 118 = .ok (.invokevirtual 172, 3) := by decide +kernel
theorem dX5_count_121 : decode cX5_count 121 = .ok (.ireturn, 1) := by decide +kernel
theorem dX5_count_122 : decode cX5_count 122 = .ok (.aload_n 0, 1) := by decide +kernel
theorem dX5_count_123 : decode cX5_count 123 = .ok (.invokevirtual 145, 3) := by decide +kernel
theorem dX5_count_126 : decode cX5_count 126 = .ok (.invokevirtual 197, 3) := by decide +kernel
theorem dX5_count_129 : decode cX5_count 129 = .ok (.ireturn, 1) := by decide +kernel
theorem dX5_count_130 : decode cX5_count 130 = .ok (.aload_n 0, 1) := by decide +kernel
theorem dX5_count_131 : decode cX5_count 131 = .ok (.invokevirtual 145, 3) := by decide +kernel
theorem dX5_count_134 : decode cX5_count 134 = .ok (.aload_n 0, 1) := by decide +kernel
theorem dX5_count_135 : decode cX5_count 135 = .ok (.getfield 10, 3) := by decide +kernel
theorem dX5_count_138 : decode cX5_count 138 = .ok (.getfield 80, 3) := by decide +kernel
theorem dX5_count_141 : decode cX5_count 141 = .ok (.invokevirtual 175, 3) := by decide +kernel
theorem dX5_count_144 : decode cX5_count 144 = .ok (.ireturn, 1) := by decide +kernel
theorem dX5_count_145 : decode cX5_count 145 = .ok (.aload_n 0, 1) := by decide +kernel
theorem dX5_count_146 : decode cX5_count 146 = .ok (.invokevirtual 145, 3) := by decide +kernel
theorem dX5_count_149 : decode cX5_count 149 = .ok (.aload_n 0, 1) := by decide +kernel
theorem dX5_count_150 : decode cX5_count 150 = .ok (.getfield 10, 3) := by decide +kernel
theorem dX5_count_153 : decode cX5_count 153 = .ok (.getfield 80, 3) := by decide +kernel
theorem dX5_count_156 : decode cX5_count 156 = .ok (.invokevirtual 203, 3) := by decide +kernel
theorem dX5_count_159 : decode cX5_count 159 = .ok (.ireturn, 1) := by decide +kernel
theorem dX5_count_160 : decode cX5_count 160 = .ok (.aload_n 0, 1) := by decide +kernel
theorem dX5_count_161 : decode cX5_count 161 = .ok (.getfield 10, 3) := by decide +kernel
theorem dX5_count_164 : decode cX5_count 164 = .ok (.getfield 66, 3) := by decide +kernel
theorem dX5_count_167 : decode cX5_count 167 = .ok (.invokestatic 72, 3) := by decide +kernel
theorem dX5_count_170 : decode cX5_count 170 = .ok (.ireturn, 1) := by decide +kernel
theorem dX5_count_171 : decode cX5_count 171 = .ok (.aload_n 0, 1) := by decide +kernel
theorem dX5_count_172 : decode cX5_count 172 = .ok (.getfield 10, 3) := by decide +kernel
theorem dX5_count_175 : decode cX5_count 175 = .ok (.getfield 102, 3) := by decide +kernel
theorem dX5_count_178 : decode cX5_count 178 = .ok (.getfield 213, 3) := by decide +kernel
theorem dX5_count_181 : decode cX5_count 181 = .ok (.ireturn, 1) := by decide +kernel
theorem dX5_count_182 : decode cX5_count 182 = .ok (.aload_n 0, 1) := by decide +kernel
theorem dX5_count_183 : decode cX5_count 183 = .ok (.getfield 10, 3) := by decide +kernel
theorem dX5_count_186 : decode cX5_count 186 = .ok (.getfield 102, 3) := by decide +kernel
theorem dX5_count_189 : decode cX5_count 189 = .ok (.getfield 106, 3) := by decide +kernel
theorem dX5_count_192 : decode cX5_count 192 = .ok (.ireturn, 1) := by decide +kernel
theorem dX5_count_193 : decode cX5_count 193 = .ok (.aload_n 0, 1) := by decide +kernel
theorem dX5_count_194 : decode cX5_count 194 = .ok (.getfield 22, 3) := by decide +kernel
theorem dX5_count_197 : decode cX5_count 197 = .ok (.getfield 115, 3) := by decide +kernel
theorem dX5_count_200 : decode cX5_count 200 = .ok (.ireturn, 1) := by decide +kernel
theorem dX5_count_201 : decode cX5_count 201 = .ok (.aload_n 0, 1) := by decide +kernel
theorem dX5_count_202 : decode cX5_count 202 = .ok (.getfield 29, 3) := by decide +kernel
theorem dX5_count_205 : decode cX5_count 205 = .ok (.getfield 93, 3) := by decide +kernel
theorem dX5_count_208 : decode cX5_count 208 = .ok (.ireturn, 1) := by decide +kernel
theorem dX5_count_209 : decode cX5_count 209 = .ok (.bipush (-2), 2) := by decide +kernel
theorem dX5_count_211 : decode cX5_count 211 = .ok (.ireturn, 1) := by decide +kernel
theorem dX5_beginAct_0 : decode cX5_beginAct 0 = .ok (.aload_n 0, 1) := by decide +kernel
theorem dX5_beginAct_1 : decode cX5_beginAct 1 = .ok (.getfield 22, 3) := by decide +kernel
theorem dX5_beginAct_4 : decode cX5_beginAct 4 = .ok (.aload_n 0, 1) := by decide +kernel
theorem dX5_beginAct_5 : decode cX5_beginAct 5 = .ok (.getfield 10, 3) := by decide +kernel
theorem dX5_beginAct_8 : decode cX5_beginAct 8 = .ok (.invokevirtual 225, 3) := by decide +kernel
theorem dX5_beginAct_11 : decode cX5_beginAct 11 = .ok (.aload_n 0, 1) := by decide +kernel
theorem dX5_beginAct_12 : decode cX5_beginAct 12 = .ok (.iconst 0, 1) := by decide +kernel
theorem dX5_beginAct_13 : decode cX5_beginAct 13 = .ok (.putfield 122, 3) := by decide +kernel
theorem dX5_beginAct_16 : decode cX5_beginAct 16 = .ok (.return_, 1) := by decide +kernel
theorem dX5_currentPower_0 : decode cX5_currentPower 0 = .ok (.aload_n 0, 1) := by decide +kernel
theorem dX5_currentPower_1 : decode cX5_currentPower 1 = .ok (.getfield 122, 3) := by decide +kernel
theorem dX5_currentPower_4 : decode cX5_currentPower 4 = .ok (.ifCond .ne 19, 3) := by decide +kernel
theorem dX5_currentPower_7 : decode cX5_currentPower 7 = .ok (.aload_n 0, 1) := by decide +kernel
theorem dX5_currentPower_8 : decode cX5_currentPower 8 = .ok (.getfield 36, 3) := by decide +kernel
theorem dX5_currentPower_11 : decode cX5_currentPower 11 = .ok (.aload_n 0, 1) := by decide +kernel
theorem dX5_currentPower_12 : decode cX5_currentPower 12 = .ok (.getfield 10, 3) := by decide +kernel
theorem dX5_currentPower_15 : decode cX5_currentPower 15 = .ok (.invokevirtual 228, 3) := by decide +kernel
theorem dX5_currentPower_18 : decode cX5_currentPower 18 = .ok (.aload_n 0, 1) := by decide +kernel
theorem dX5_currentPower_19 : decode cX5_currentPower 19 = .ok (.iconst 1, 1) := by decide +kernel
theorem dX5_currentPower_20 : decode cX5_currentPower 20 = .ok (.putfield 122, 3) := by decide +kernel
theorem dX5_currentPower_23 : decode cX5_currentPower 23 = .ok (.aload_n 0, 1) := by decide +kernel
theorem dX5_currentPower_24 : decode cX5_currentPower 24 = .ok (.getfield 36, 3) := by decide +kernel
theorem dX5_currentPower_27 : decode cX5_currentPower 27 = .ok (.areturn, 1) := by decide +kernel
theorem dX5_rankOf_0 : decode cX5_rankOf 0 = .ok (.iconst 0, 1) := by decide +kernel
theorem dX5_rankOf_1 : decode cX5_rankOf 1 = .ok (.istore_n 3, 1) := by decide +kernel
theorem dX5_rankOf_2 : decode cX5_rankOf 2 = .ok (.iconst 0, 1) := by decide +kernel
theorem dX5_rankOf_3 : decode cX5_rankOf 3 = .ok (.istore 4, 2) := by decide +kernel
theorem dX5_rankOf_5 : decode cX5_rankOf 5 = .ok (.iload 4, 2) := by decide +kernel
theorem dX5_rankOf_7 : decode cX5_rankOf 7 = .ok (.aload_n 0, 1) := by decide +kernel
theorem dX5_rankOf_8 : decode cX5_rankOf 8 = .ok (.getfield 10, 3) := by decide +kernel
theorem dX5_rankOf_11 : decode cX5_rankOf 11 = .ok (.getfield 44, 3) := by decide +kernel
theorem dX5_rankOf_14 : decode cX5_rankOf 14 = .ok (.if_icmp .ge 23, 3) := by decide +kernel
theorem dX5_rankOf_17 : decode cX5_rankOf 17 = .ok (.aload_n 0, 1) := by decide +kernel
theorem dX5_rankOf_18 : decode cX5_rankOf 18 = .ok (.iload 4, 2) := by decide +kernel
theorem dX5_rankOf_20 : decode cX5_rankOf 20 = .ok (.iload_n 1, 1) := by decide +kernel
theorem dX5_rankOf_21 : decode cX5_rankOf 21 = .ok (.aload_n 2, 1) := by decide +kernel
theorem dX5_rankOf_22 : decode cX5_rankOf 22 = .ok (.invokevirtual 231, 3) := by decide +kernel
theorem dX5_rankOf_25 : decode cX5_rankOf 25 = .ok (.ifCond .eq 6, 3) := by decide +kernel
theorem dX5_rankOf_28 : decode cX5_rankOf 28 = .ok (.iinc 3 1, 3) := by decide +kernel
theorem dX5_rankOf_31 : decode cX5_rankOf 31 = .ok (.iinc 4 1, 3) := by decide +kernel
theorem dX5_rankOf_34 : decode cX5_rankOf 34 = .ok (.goto (-29), 3) := by decide +kernel
theorem dX5_rankOf_37 : decode cX5_rankOf 37 = .ok (.iload_n 3, 1) := by decide +kernel
theorem dX5_rankOf_38 : decode cX5_rankOf 38 = .ok (.ireturn, 1) := by decide +kernel
theorem dX5_isAhead_0 : decode cX5_isAhead 0 = .ok (.aload_n 3, 1) := by decide +kernel
theorem dX5_isAhead_1 : decode cX5_isAhead 1 = .ok (.iload_n 1, 1) := by decide +kernel
theorem dX5_isAhead_2 : decode cX5_isAhead 2 = .ok (.aload_n 0, 1) := by decide +kernel
theorem dX5_isAhead_3 : decode cX5_isAhead 3 = .ok (.getfield 10, 3) := by decide +kernel
theorem dX5_isAhead_6 : decode cX5_isAhead 6 = .ok (.getfield 80, 3) := by decide +kernel
theorem dX5_isAhead_9 : decode cX5_isAhead 9 = .ok (.invokevirtual 149, 3) := by decide +kernel
theorem dX5_isAhead_12 : decode cX5_isAhead 12 = .ok (.aload_n 3, 1) := by decide +kernel
theorem dX5_isAhead_13 : decode cX5_isAhead 13 = .ok (.iload_n 2, 1) := by decide +kernel
theorem dX5_isAhead_14 : decode cX5_isAhead 14 = .ok (.aload_n 0, 1) := by decide +kernel
theorem dX5_isAhead_15 : decode cX5_isAhead 15 = .ok (.getfield 10, 3) := by decide +kernel
theorem dX5_isAhead_18 : decode cX5_isAhead 18 = .ok (.getfield 80, 3) := by decide +kernel
theorem dX5_isAhead_21 : decode cX5_isAhead 21 = .ok (.invokevirtual 149, 3) := by decide +kernel
theorem dX5_isAhead_24 : decode cX5_isAhead 24 = .ok (.invokestatic 235, 3) := by decide +kernel
theorem dX5_isAhead_27 : decode cX5_isAhead 27 = .ok (.istore 4, 2) := by decide +kernel
theorem dX5_isAhead_29 : decode cX5_isAhead 29 = .ok (.iload 4, 2) := by decide +kernel
theorem dX5_isAhead_31 : decode cX5_isAhead 31 = .ok (.ifCond .eq 14, 3) := by decide +kernel
theorem dX5_isAhead_34 : decode cX5_isAhead 34 = .ok (.iload 4, 2) := by decide +kernel
theorem dX5_isAhead_36 : decode cX5_isAhead 36 = .ok (.ifCond .le 7, 3) := by decide +kernel
theorem dX5_isAhead_39 : decode cX5_isAhead 39 = .ok (.iconst 1, 1) := by decide +kernel
theorem dX5_isAhead_40 : decode cX5_isAhead 40 = .ok (.goto 4, 3) := by decide +kernel
theorem dX5_isAhead_43 : decode cX5_isAhead 43 = .ok (.iconst 0, 1) := by decide +kernel
theorem dX5_isAhead_44 : decode cX5_isAhead 44 = .ok (.ireturn, 1) := by decide +kernel
theorem dX5_isAhead_45 : decode cX5_isAhead 45 = .ok (.aload_n 0, 1) := by decide +kernel
theorem dX5_isAhead_46 : decode cX5_isAhead 46 = .ok (.getfield 10, 3) := by decide +kernel
theorem dX5_isAhead_49 : decode cX5_isAhead 49 = .ok (.getfield 62, 3) := by decide +kernel
theorem dX5_isAhead_52 : decode cX5_isAhead 52 = .ok (.iload_n 1, 1) := by decide +kernel
theorem dX5_isAhead_53 : decode cX5_isAhead 53 = .ok (.iaload, 1) := by decide +kernel
theorem dX5_isAhead_54 : decode cX5_isAhead 54 = .ok (.aload_n 0, 1) := by decide +kernel
theorem dX5_isAhead_55 : decode cX5_isAhead 55 = .ok (.getfield 10, 3) := by decide +kernel
theorem dX5_isAhead_58 : decode cX5_isAhead 58 = .ok (.getfield 62, 3) := by decide +kernel
theorem dX5_isAhead_61 : decode cX5_isAhead 61 = .ok (.iload_n 2, 1) := by decide +kernel
theorem dX5_isAhead_62 : decode cX5_isAhead 62 = .ok (.iaload, 1) := by decide +kernel
theorem dX5_isAhead_63 : decode cX5_isAhead 63 = .ok (.invokestatic 235, 3) := by decide +kernel
theorem dX5_isAhead_66 : decode cX5_isAhead 66 = .ok (.istore 5, 2) := by decide +kernel
theorem dX5_isAhead_68 : decode cX5_isAhead 68 = .ok (.iload 5, 2) := by decide +kernel
theorem dX5_isAhead_70 : decode cX5_isAhead 70 = .ok (.ifCond .eq 16, 3) := by decide +kernel
theorem dX5_isAhead_73 : decode cX5_isAhead 73 = .ok (.iload 5, 2) := by decide +kernel
theorem dX5_isAhead_75 : decode cX5_isAhead 75 = .ok (.ifCond .le 7, 3) := by decide +kernel
theorem dX5_isAhead_78 : decode cX5_isAhead 78 = .ok (.iconst 1, 1) := by decide +kernel
theorem dX5_isAhead_79 : decode cX5_isAhead 79 = .ok (.goto 17, 3) := by decide +kernel
theorem dX5_isAhead_82 : decode cX5_isAhead 82 = .ok (.iconst 0, 1) := by decide +kernel
theorem dX5_isAhead_83 : decode cX5_isAhead 83 = .ok (.goto 13, 3) := by decide +kernel
theorem dX5_isAhead_86 : decode cX5_isAhead 86 = .ok (.iload_n 1, 1) := by decide +kernel
theorem dX5_isAhead_87 : decode cX5_isAhead 87 = .ok (.iload_n 2, 1) := by decide +kernel
theorem dX5_isAhead_88 : decode cX5_isAhead 88 = .ok (.if_icmp .ge 7, 3) := by decide +kernel
theorem dX5_isAhead_91 : decode cX5_isAhead 91 = .ok (.iconst 1, 1) := by decide +kernel
theorem dX5_isAhead_92 : decode cX5_isAhead 92 = .ok (.goto 4, 3) := by decide +kernel
theorem dX5_isAhead_95 : decode cX5_isAhead 95 = .ok (.iconst 0, 1) := by decide +kernel
theorem dX5_isAhead_96 : decode cX5_isAhead 96 = .ok (.ireturn, 1) := by decide +kernel
theorem dX5_isWeight_0 : decode cX5_isWeight 0 = .ok (.iload_n 0, 1) := by decide +kernel
theorem dX5_isWeight_1 : decode cX5_isWeight 1 = .ok (.ifCond .lt 13, 3) := by decide +kernel
theorem dX5_isWeight_4 : decode cX5_isWeight 4 = .ok (.iload_n 0, 1) := by decide +kernel
theorem dX5_isWeight_5 : decode cX5_isWeight 5 = .ok (.bipush 50, 2) := by decide +kernel
theorem dX5_isWeight_7 : decode cX5_isWeight 7 = .ok (.if_icmp .gt 7, 3) := by decide +kernel
theorem dX5_isWeight_10 : decode cX5_isWeight 10 = .ok (.iconst 1, 1) := by decide +kernel
theorem dX5_isWeight_11 : decode cX5_isWeight 11 = .ok (.goto 4, 3) := by decide +kernel
theorem dX5_isWeight_14 : decode cX5_isWeight 14 = .ok (.iconst 0, 1) := by decide +kernel
theorem dX5_isWeight_15 : decode cX5_isWeight 15 = .ok (.ireturn, 1) := by decide +kernel
theorem dX5_isQuota_0 : decode cX5_isQuota 0 = .ok (.iload_n 0, 1) := by decide +kernel
theorem dX5_isQuota_1 : decode cX5_isQuota 1 = .ok (.iconst 1, 1) := by decide +kernel
theorem dX5_isQuota_2 : decode cX5_isQuota 2 = .ok (.if_icmp .lt 14, 3) := by decide +kernel
theorem dX5_isQuota_5 : decode cX5_isQuota 5 = .ok (.iload_n 0, 1) := by decide +kernel
theorem dX5_isQuota_6 : decode cX5_isQuota 6 = .ok (.sipush 500, 3) := by decide +kernel
theorem dX5_isQuota_9 : decode cX5_isQuota 9 = .ok (.if_icmp .gt 7, 3) := by decide +kernel
theorem dX5_isQuota_12 : decode cX5_isQuota 12 = .ok (.iconst 1, 1) := by decide +kernel
theorem dX5_isQuota_13 : decode cX5_isQuota 13 = .ok (.goto 4, 3) := by decide +kernel
theorem dX5_isQuota_16 : decode cX5_isQuota 16 = .ok (.iconst 0, 1) := by decide +kernel
theorem dX5_isQuota_17 : decode cX5_isQuota 17 = .ok (.ireturn, 1) := by decide +kernel
theorem dX5_oneIf_0 : decode cX5_oneIf 0 = .ok (.iload_n 0, 1) := by decide +kernel
theorem dX5_oneIf_1 : decode cX5_oneIf 1 = .ok (.ifCond .eq 7, 3) := by decide +kernel
theorem dX5_oneIf_4 : decode cX5_oneIf 4 = .ok (.iconst 1, 1) := by decide +kernel
theorem dX5_oneIf_5 : decode cX5_oneIf 5 = .ok (.goto 4, 3) := by decide +kernel
theorem dX5_oneIf_8 : decode cX5_oneIf 8 = .ok (.iconst 0, 1) := by decide +kernel
theorem dX5_oneIf_9 : decode cX5_oneIf 9 = .ok (.ireturn, 1) := by decide +kernel
theorem dX5_bit_0 : decode cX5_bit 0 = .ok (.iconst 1, 1) := by decide +kernel
theorem dX5_bit_1 : decode cX5_bit 1 = .ok (.iload_n 0, 1) := by decide +kernel
theorem dX5_bit_2 : decode cX5_bit 2 = .ok (.ishl, 1) := by decide +kernel
theorem dX5_bit_3 : decode cX5_bit 3 = .ok (.ireturn, 1) := by decide +kernel
theorem dX5_holds_0 : decode cX5_holds 0 = .ok (.iload_n 0, 1) := by decide +kernel
theorem dX5_holds_1 : decode cX5_holds 1 = .ok (.iload_n 1, 1) := by decide +kernel
theorem dX5_holds_2 : decode cX5_holds 2 = .ok (.invokestatic 69, 3) := by decide +kernel
theorem dX5_holds_5 : decode cX5_holds 5 = .ok (.iand, 1) := by decide +kernel
theorem dX5_holds_6 : decode cX5_holds 6 = .ok (.ifCond .eq 7, 3) := by decide +kernel
theorem dX5_holds_9 : decode cX5_holds 9 = .ok (.iconst 1, 1) := by decide +kernel
theorem dX5_holds_10 : decode cX5_holds 10 = .ok (.goto 4, 3) := by decide +kernel
theorem dX5_holds_13 : decode cX5_holds 13 = .ok (.iconst 0, 1) := by decide +kernel
theorem dX5_holds_14 : decode cX5_holds 14 = .ok (.ireturn, 1) := by decide +kernel
theorem dX5_factorial_0 : decode cX5_factorial 0 = .ok (.iload_n 0, 1) := by decide +kernel
theorem dX5_factorial_1 : decode cX5_factorial 1 = .ok (.ifCond .lt 19, 3) := by decide +kernel
theorem dX5_factorial_4 : decode cX5_factorial 4 = .ok (.iload_n 0, 1) := by decide +kernel
theorem dX5_factorial_5 : decode cX5_factorial 5 = .ok (.getstatic 238, 3) := by decide +kernel
theorem dX5_factorial_8 : decode cX5_factorial 8 = .ok (.arraylength, 1) := by decide +kernel
theorem dX5_factorial_9 : decode cX5_factorial 9 = .ok (.if_icmp .ge 11, 3) := by decide +kernel
theorem dX5_factorial_12 : decode cX5_factorial 12 = .ok (.getstatic 238, 3) := by decide +kernel
theorem dX5_factorial_15 : decode cX5_factorial 15 = .ok (.iload_n 0, 1) := by decide +kernel
theorem dX5_factorial_16 : decode cX5_factorial 16 = .ok (.iaload, 1) := by decide +kernel
theorem dX5_factorial_17 : decode cX5_factorial 17 = .ok (.goto 4, 3) := by decide +kernel
theorem dX5_factorial_20 : decode cX5_factorial 20 = .ok (.iconst 0, 1) := by decide +kernel
theorem dX5_factorial_21 : decode cX5_factorial 21 = .ok (.ireturn, 1) := by decide +kernel
theorem dX5_greatestDivisor_0 : decode cX5_greatestDivisor 0 = .ok (.iload_n 0, 1) := by decide +kernel
theorem dX5_greatestDivisor_1 : decode cX5_greatestDivisor 1 = .ok (.istore_n 2, 1) := by decide +kernel
theorem dX5_greatestDivisor_2 : decode cX5_greatestDivisor 2 = .ok (.iload_n 1, 1) := by decide +kernel
theorem dX5_greatestDivisor_3 : decode cX5_greatestDivisor 3 = .ok (.istore_n 3, 1) := by decide +kernel
theorem dX5_greatestDivisor_4 : decode cX5_greatestDivisor 4 = .ok (.iconst 0, 1) := by decide +kernel
theorem dX5_greatestDivisor_5 : decode cX5_greatestDivisor 5 = .ok (.istore 4, 2) := by decide +kernel
theorem dX5_greatestDivisor_7 : decode cX5_greatestDivisor 7 = .ok (.iload 4, 2) := by decide +kernel
theorem dX5_greatestDivisor_9 : decode cX5_greatestDivisor 9 = .ok (.bipush 64, 2) := by decide +kernel
theorem dX5_greatestDivisor_11 : decode cX5_greatestDivisor 11 = .ok (.if_icmp .ge 23, 3) := by decide +kernel
theorem dX5_greatestDivisor_14 : decode cX5_greatestDivisor 14 = .ok (.iload_n 3, 1) := by decide +kernel
theorem dX5_greatestDivisor_15 : decode cX5_greatestDivisor 15 = .ok (.ifCond .eq 19, 3) := by decide +kernel
theorem dX5_greatestDivisor_18 : decode cX5_greatestDivisor 18 = .ok (.iload_n 2, 1) := by decide +kernel
theorem dX5_greatestDivisor_19 : decode cX5_greatestDivisor 19 = .ok (.iload_n 3, 1) := by decide +kernel
theorem dX5_greatestDivisor_20 : decode cX5_greatestDivisor 20 = .ok (.irem, 1) := by decide +kernel
theorem dX5_greatestDivisor_21 : decode cX5_greatestDivisor 21 = .ok (.istore 5, 2) := by decide +kernel
theorem dX5_greatestDivisor_23 : decode cX5_greatestDivisor 23 = .ok (.iload_n 3, 1) := by decide +kernel
theorem dX5_greatestDivisor_24 : decode cX5_greatestDivisor 24 = .ok (.istore_n 2, 1) := by decide +kernel
theorem dX5_greatestDivisor_25 : decode cX5_greatestDivisor 25 = .ok (.iload 5, 2) := by decide +kernel
theorem dX5_greatestDivisor_27 : decode cX5_greatestDivisor 27 = .ok (.istore_n 3, 1) := by decide +kernel
theorem dX5_greatestDivisor_28 : decode cX5_greatestDivisor 28 = .ok (.iinc 4 1, 3) := by decide +kernel
theorem dX5_greatestDivisor_31 : decode cX5_greatestDivisor 31 = .ok (.goto (-24), 3) := by decide +kernel
theorem dX5_greatestDivisor_34 : decode cX5_greatestDivisor 34 = .ok (.iload_n 2, 1) := by decide +kernel
theorem dX5_greatestDivisor_35 : decode cX5_greatestDivisor 35 = .ok (.iconst 1, 1) := by decide +kernel
theorem dX5_greatestDivisor_36 : decode cX5_greatestDivisor 36 = .ok (.invokestatic 241, 3) := by decide +kernel
theorem dX5_greatestDivisor_39 : decode cX5_greatestDivisor 39 = .ok (.ireturn, 1) := by decide +kernel
theorem dX6_init_0 : decode cX6_init 0 = .ok (.aload_n 0, 1) := by decide +kernel
theorem dX6_init_1 : decode cX6_init 1 = .ok (.invokespecial 1, 3) := by decide +kernel
theorem dX6_init_4 : decode cX6_init 4 = .ok (.aload_n 0, 1) := by decide +kernel
theorem dX6_init_5 : decode cX6_init 5 = .ok (.bipush 69, 2) := by decide +kernel
theorem dX6_init_7 : decode cX6_init 7 = .ok (.newarray .int, 2) := by decide +kernel
theorem dX6_init_9 : decode cX6_init 9 = .ok (.putfield 7, 3) := by decide +kernel
theorem dX6_init_12 : decode cX6_init 12 = .ok (.aload_n 0, 1) := by decide +kernel
theorem dX6_init_13 : decode cX6_init 13 = .ok (.sipush 276, 3) := by decide +kernel
theorem dX6_init_16 : decode cX6_init 16 = .ok (.newarray .int, 2) := by decide +kernel
theorem dX6_init_18 : decode cX6_init 18 = .ok (.putfield 13, 3) := by decide +kernel
theorem dX6_init_21 : decode cX6_init 21 = .ok (.aload_n 0, 1) := by decide +kernel
theorem dX6_init_22 : decode cX6_init 22 = .ok (.bipush 69, 2) := by decide +kernel
theorem dX6_init_24 : decode cX6_init 24 = .ok (.newarray .int, 2) := by decide +kernel
theorem dX6_init_26 : decode cX6_init 26 = .ok (.putfield 16, 3) := by decide +kernel
theorem dX6_init_29 : decode cX6_init 29 = .ok (.aload_n 0, 1) := by decide +kernel
theorem dX6_init_30 : decode cX6_init 30 = .ok (.bipush 60, 2) := by decide +kernel
theorem dX6_init_32 : decode cX6_init 32 = .ok (.newarray .char, 2) := by decide +kernel
theorem dX6_init_34 : decode cX6_init 34 = .ok (.putfield 19, 3) := by decide +kernel
theorem dX6_init_37 : decode cX6_init 37 = .ok (.aload_n 0, 1) := by decide +kernel
theorem dX6_init_38 : decode cX6_init 38 = .ok (.bipush 10, 2) := by decide +kernel
theorem dX6_init_40 : decode cX6_init 40 = .ok (.newarray .int, 2) := by decide +kernel
theorem dX6_init_42 : decode cX6_init 42 = .ok (.putfield 23, 3) := by decide +kernel
theorem dX6_init_45 : decode cX6_init 45 = .ok (.aload_n 0, 1) := by decide +kernel
theorem dX6_init_46 : decode cX6_init 46 = .ok (.bipush 10, 2) := by decide +kernel
theorem dX6_init_48 : decode cX6_init 48 = .ok (.newarray .int, 2) := by decide +kernel
theorem dX6_init_50 : decode cX6_init 50 = .ok (.putfield 26, 3) := by decide +kernel
theorem dX6_init_53 : decode cX6_init 53 = .ok (.aload_n 0, 1) := by decide +kernel
theorem dX6_init_54 : decode cX6_init 54 = .ok (.bipush 10, 2) := by decide +kernel
theorem dX6_init_56 : decode cX6_init 56 = .ok (.newarray .int, 2) := by decide +kernel
theorem dX6_init_58 : decode cX6_init 58 = .ok (.putfield 29, 3) := by decide +kernel
theorem dX6_init_61 : decode cX6_init 61 = .ok (.aload_n 0, 1) := by decide +kernel
theorem dX6_init_62 : decode cX6_init 62 = .ok (.sipush 1024, 3) := by decide +kernel
theorem dX6_init_65 : decode cX6_init 65 = .ok (.newarray .boolean, 2) := by decide +kernel
theorem dX6_init_67 : decode cX6_init 67 = .ok (.putfield 32, 3) := by decide +kernel
theorem dX6_init_70 : decode cX6_init 70 = .ok (.aload_n 0, 1) := by decide +kernel
theorem dX6_init_71 : decode cX6_init 71 = .ok (.bipush 10, 2) := by decide +kernel
theorem dX6_init_73 : decode cX6_init 73 = .ok (.newarray .int, 2) := by decide +kernel
theorem dX6_init_75 : decode cX6_init 75 = .ok (.putfield 36, 3) := by decide +kernel
theorem dX6_init_78 : decode cX6_init 78 = .ok (.aload_n 0, 1) := by decide +kernel
theorem dX6_init_79 : decode cX6_init 79 = .ok (.sipush 1024, 3) := by decide +kernel
theorem dX6_init_82 : decode cX6_init 82 = .ok (.newarray .int, 2) := by decide +kernel
theorem dX6_init_84 : decode cX6_init 84 = .ok (.putfield 39, 3) := by decide +kernel
theorem dX6_init_87 : decode cX6_init 87 = .ok (.aload_n 0, 1) := by decide +kernel
theorem dX6_init_88 : decode cX6_init 88 = .ok (.getfield 7, 3) := by decide +kernel
theorem dX6_init_91 : decode cX6_init 91 = .ok (.iconst 1, 1) := by decide +kernel
theorem dX6_init_92 : decode cX6_init 92 = .ok (.iconst 1, 1) := by decide +kernel
theorem dX6_init_93 : decode cX6_init 93 = .ok (.iastore, 1) := by decide +kernel
theorem dX6_init_94 : decode cX6_init 94 = .ok (.return_, 1) := by decide +kernel
theorem dX6_in_0 : decode cX6_in 0 = .ok (.iload_n 0, 1) := by decide +kernel
theorem dX6_in_1 : decode cX6_in 1 = .ok (.iload_n 1, 1) := by decide +kernel
theorem dX6_in_2 : decode cX6_in 2 = .ok (.if_icmp .lt 12, 3) := by decide +kernel
theorem dX6_in_5 : decode cX6_in 5 = .ok (.iload_n 0, 1) := by decide +kernel
theorem dX6_in_6 : decode cX6_in 6 = .ok (.iload_n 2, 1) := by decide +kernel
theorem dX6_in_7 : decode cX6_in 7 = .ok (.if_icmp .gt 7, 3) := by decide +kernel
theorem dX6_in_10 : decode cX6_in 10 = .ok (.iconst 1, 1) := by decide +kernel
theorem dX6_in_11 : decode cX6_in 11 = .ok (.goto 4, 3) := by decide +kernel
theorem dX6_in_14 : decode cX6_in 14 = .ok (.iconst 0, 1) := by decide +kernel
theorem dX6_in_15 : decode cX6_in 15 = .ok (.ireturn, 1) := by decide +kernel
theorem dX6_isIn_0 : decode cX6_isIn 0 = .ok (.iload_n 0, 1) := by decide +kernel
theorem dX6_isIn_1 : decode cX6_isIn 1 = .ok (.iload_n 1, 1) := by decide +kernel
theorem dX6_isIn_2 : decode cX6_isIn 2 = .ok (.ishr, 1) := by decide +kernel
theorem dX6_isIn_3 : decode cX6_isIn 3 = .ok (.iconst 1, 1) := by decide +kernel
theorem dX6_isIn_4 : decode cX6_isIn 4 = .ok (.iand, 1) := by decide +kernel
theorem dX6_isIn_5 : decode cX6_isIn 5 = .ok (.iconst 1, 1) := by decide +kernel
theorem dX6_isIn_6 : decode cX6_isIn 6 = .ok (.if_icmp .ne 7, 3) := by decide +kernel
theorem dX6_isIn_9 : decode cX6_isIn 9 = .ok (.iconst 1, 1) := by decide +kernel
theorem dX6_isIn_10 : decode cX6_isIn 10 = .ok (.goto 4, 3) := by decide +kernel
theorem dX6_isIn_13 : decode cX6_isIn 13 = .ok (.iconst 0, 1) := by decide +kernel
theorem dX6_isIn_14 : decode cX6_isIn 14 = .ok (.ireturn, 1) := by decide +kernel
theorem dX6_many_0 : decode cX6_many 0 = .ok (.iconst 0, 1) := by decide +kernel
theorem dX6_many_1 : decode cX6_many 1 = .ok (.istore_n 1, 1) := by decide +kernel
theorem dX6_many_2 : decode cX6_many 2 = .ok (.iconst 0, 1) := by decide +kernel
theorem dX6_many_3 : decode cX6_many 3 = .ok (.istore_n 2, 1) := by decide +kernel
theorem dX6_many_4 : decode cX6_many 4 = .ok (.iload_n 2, 1) := by decide +kernel
theorem dX6_many_5 : decode cX6_many 5 = .ok (.bipush 10, 2) := by decide +kernel
theorem dX6_many_7 : decode cX6_many 7 = .ok (.if_icmp .ge 17, 3) := by decide +kernel
theorem dX6_many_10 : decode cX6_many 10 = .ok (.iload_n 1, 1) := by decide +kernel
theorem dX6_many_11 : decode cX6_many 11 = .ok (.iload_n 0, 1) := by decide +kernel
theorem dX6_many_12 : decode cX6_many 12 = .ok (.iload_n 2, 1) := by decide +kernel
theorem dX6_many_13 : decode cX6_many 13 = .ok (.ishr, 1) := by decide +kernel
theorem dX6_many_14 : decode cX6_many 14 = .ok (.iconst 1, 1) := by decide +kernel
theorem dX6_many_15 : decode cX6_many 15 = .ok (.iand, 1) := by decide +kernel
theorem dX6_many_16 : decode cX6_many 16 = .ok (.iadd, 1) := by decide +kernel
theorem dX6_many_17 : decode cX6_many 17 = .ok (.istore_n 1, 1) := by decide +kernel
theorem dX6_many_18 : decode cX6_many 18 = .ok (.iinc 2 1, 3) := by decide +kernel
theorem dX6_many_21 : decode cX6_many 21 = .ok (.goto (-17), 3) := by decide +kernel
theorem dX6_many_24 : decode cX6_many 24 = .ok (.iload_n 1, 1) := by decide +kernel
theorem dX6_many_25 : decode cX6_many 25 = .ok (.ireturn, 1) := by decide +kernel
theorem dX6_record_0 : decode cX6_record 0 = .ok (.aload_n 0, 1) := by decide +kernel
theorem dX6_record_1 : decode cX6_record 1 = .ok (.getfield 42, 3) := by decide +kernel
theorem dX6_record_4 : decode cX6_record 4 = .ok (.iconst 4, 1) := by decide +kernel
theorem dX6_record_5 : decode cX6_record 5 = .ok (.if_icmp .ne 43, 3) := by decide +kernel
theorem dX6_record_8 : decode cX6_record 8 = .ok (.iconst 0, 1) := by decide +kernel
theorem dX6_record_9 : decode cX6_record 9 = .ok (.istore_n 1, 1) := by decide +kernel
theorem dX6_record_10 : decode cX6_record 10 = .ok (.iload_n 1, 1) := by decide +kernel
theorem dX6_record_11 : decode cX6_record 11 = .ok (.sipush 207, 3) := by decide +kernel
theorem dX6_record_14 : decode cX6_record 14 = .ok (.if_icmp .ge 24, 3) := by decide +kernel
theorem dX6_record_17 : decode cX6_record 17 = .ok (.aload_n 0, 1) := by decide +kernel
theorem dX6_record_18 : decode cX6_record 18 = .ok (.getfield 13, 3) := by decide +kernel
theorem dX6_record_21 : decode cX6_record 21 = .ok (.iload_n 1, 1) := by decide +kernel
theorem dX6_record_22 : decode cX6_record 22 = .ok (.aload_n 0, 1) := by decide +kernel
theorem dX6_record_23 : decode cX6_record 23 = .ok (.getfield 13, 3) := by decide +kernel
theorem dX6_record_26 : decode cX6_record 26 = .ok (.bipush 69, 2) := by decide +kernel
theorem dX6_record_28 : decode cX6_record 28 = .ok (.iload_n 1, 1) := by decide +kernel
theorem dX6_record_29 : decode cX6_record 29 = .ok (.iadd, 1) := by decide +kernel
theorem dX6_record_30 : decode cX6_record 30 = .ok (.iaload, 1) := by decide +kernel
theorem dX6_record_31 : decode cX6_record 31 = .ok (.iastore, 1) := by decide +kernel
theorem dX6_record_32 : decode cX6_record 32 = .ok (.iinc 1 1, 3) := by decide +kernel
theorem dX6_record_35 : decode cX6_record 35 = .ok (.goto (-25), 3) := by decide +kernel
theorem dX6_record_38 : decode cX6_record 38 = .ok (.aload_n 0, 1) := by decide +kernel
theorem dX6_record_39 : decode cX6_record 39 = .ok (.dup, 1) := by decide +kernel
theorem dX6_record_40 : decode cX6_record 40 = .ok (.getfield 42, 3) := by decide +kernel
theorem dX6_record_43 : decode cX6_record 43 = .ok (.iconst 1, 1) := by decide +kernel
theorem dX6_record_44 : decode cX6_record 44 = .ok (.isub, 1) := by decide +kernel
theorem dX6_record_45 : decode cX6_record 45 = .ok (.putfield 42, 3) := by decide +kernel
theorem dX6_record_48 : decode cX6_record 48 = .ok (.iconst 0, 1) := by decide +kernel
theorem dX6_record_49 : decode cX6_record 49 = .ok (.istore_n 1, 1) := by decide +kernel
theorem dX6_record_50 : decode cX6_record 50 = .ok (.iload_n 1, 1) := by decide +kernel
theorem dX6_record_51 : decode cX6_record 51 = .ok (.bipush 69, 2) := by decide +kernel
theorem dX6_record_53 : decode cX6_record 53 = .ok (.if_icmp .ge 29, 3) := by decide +kernel
theorem dX6_record_56 : decode cX6_record 56 = .ok (.aload_n 0, 1) := by decide +kernel
theorem dX6_record_57 : decode cX6_record 57 = .ok (.getfield 13, 3) := by decide +kernel
theorem dX6_record_60 : decode cX6_record 60 = .ok (.bipush 69, 2) := by decide +kernel
theorem dX6_record_62 : decode cX6_record 62 = .ok (.aload_n 0, 1) := by decide +kernel
theorem dX6_record_63 : decode cX6_record 63 = .ok (.getfield 42, 3) := by decide +kernel
theorem dX6_record_66 : decode cX6_record 66 = .ok (.imul, 1) := by decide +kernel
theorem dX6_record_67 : decode cX6_record 67 = .ok (.iload_n 1, 1) := by decide +kernel
theorem dX6_record_68 : decode cX6_record 68 = .ok (.iadd, 1) := by decide +kernel
theorem dX6_record_69 : decode cX6_record 69 = .ok (.aload_n 0, 1) := by decide +kernel
theorem dX6_record_70 : decode cX6_record 70 = .ok (.getfield 7, 3) := by decide +kernel
theorem dX6_record_73 : decode cX6_record 73 = .ok (.iload_n 1, 1) := by decide +kernel
theorem dX6_record_74 : decode cX6_record 74 = .ok (.iaload, 1) := by decide +kernel
theorem dX6_record_75 : decode cX6_record 75 = .ok (.iastore, 1) := by decide +kernel
theorem dX6_record_76 : decode cX6_record 76 = .ok (.iinc 1 1, 3) := by decide +kernel
theorem dX6_record_79 : decode cX6_record 79 = .ok (.goto (-29), 3) := by decide +kernel
theorem dX6_record_82 : decode cX6_record 82 = .ok (.aload_n 0, 1) := by decide +kernel
theorem dX6_record_83 : decode cX6_record 83 = .ok (.dup, 1) := by decide +kernel
theorem dX6_record_84 : decode cX6_record 84 = .ok (.getfield 42, 3) := by decide +kernel
theorem dX6_record_87 : decode cX6_record 87 = .ok (.iconst 1, 1) := by decide +kernel
theorem dX6_record_88 : decode cX6_record 88 = .ok (.iadd, 1) := by decide +kernel
theorem dX6_record_89 : decode cX6_record 89 = .ok (.putfield 42, 3) := by decide +kernel
theorem dX6_record_92 : decode cX6_record 92 = .ok (.return_, 1) := by decide +kernel
theorem dX6_undo_0 : decode cX6_undo 0 = .ok (.aload_n 0, 1) := by decide +kernel
theorem dX6_undo_1 : decode cX6_undo 1 = .ok (.getfield 42, 3) := by decide +kernel
theorem dX6_undo_4 : decode cX6_undo 4 = .ok (.ifCond .ne 6, 3) := by decide +kernel
theorem dX6_undo_7 : decode cX6_undo 7 = .ok (.bipush (-5), 2) := by decide +kernel
theorem dX6_undo_9 : decode cX6_undo 9 = .ok (.ireturn, 1) := by decide +kernel
theorem dX6_undo_10 : decode cX6_undo 10 = .ok (.aload_n 0, 1) := by decide +kernel
theorem dX6_undo_11 : decode cX6_undo 11 = .ok (.dup, 1) := by decide +kernel
theorem dX6_undo_12 : decode cX6_undo 12 = .ok (.getfield 42, 3) := by decide +kernel
theorem dX6_undo_15 : decode cX6_undo 15 = .ok (.iconst 1, 1) := by decide +kernel
theorem dX6_undo_16 : decode cX6_undo 16 = .ok (.isub, 1) := by decide +kernel
theorem dX6_undo_17 : decode cX6_undo 17 = .ok (.putfield 42, 3) := by decide +kernel
theorem dX6_undo_20 : decode cX6_undo 20 = .ok (.iconst 0, 1) := by decide +kernel
theorem dX6_undo_21 : decode cX6_undo 21 = .ok (.istore_n 1, 1) := by decide +kernel
theorem dX6_undo_22 : decode cX6_undo 22 = .ok (.iload_n 1, 1) := by decide +kernel
theorem dX6_undo_23 : decode cX6_undo 23 = .ok (.bipush 69, 2) := by decide +kernel
theorem dX6_undo_25 : decode cX6_undo 25 = .ok (.if_icmp .ge 29, 3) := by decide +kernel
theorem dX6_undo_28 : decode cX6_undo 28 = .ok (.aload_n 0, 1) := by decide +kernel
theorem dX6_undo_29 : decode cX6_undo 29 = .ok (.getfield 7, 3) := by decide +kernel
theorem dX6_undo_32 : decode cX6_undo 32 = .ok (.iload_n 1, 1) := by decide +kernel
theorem dX6_undo_33 : decode cX6_undo 33 = .ok (.aload_n 0, 1) := by decide +kernel
theorem dX6_undo_34 : decode cX6_undo 34 = .ok (.getfield 13, 3) := by decide +kernel
theorem dX6_undo_37 : decode cX6_undo 37 = .ok (.bipush 69, 2) := by decide +kernel
theorem dX6_undo_39 : decode cX6_undo 39 = .ok (.aload_n 0, 1) := by decide +kernel
theorem dX6_undo_40 : decode cX6_undo 40 = .ok (.getfield 42, 3) := by decide +kernel
theorem dX6_undo_43 : decode cX6_undo 43 = .ok (.imul, 1) := by decide +kernel
theorem dX6_undo_44 : decode cX6_undo 44 = .ok (.iload_n 1, 1) := by decide +kernel
theorem dX6_undo_45 : decode cX6_undo 45 = .ok (.iadd, 1) := by decide +kernel
theorem dX6_undo_46 : decode cX6_undo 46 = .ok (.iaload, 1) := by decide +kernel
theorem dX6_undo_47 : decode cX6_undo 47 = .ok (.iastore, 1) := by decide +kernel
theorem dX6_undo_48 : decode cX6_undo 48 = .ok (.iinc 1 1, 3) := by decide +kernel
theorem dX6_undo_51 : decode cX6_undo 51 = .ok (.goto (-29), 3) := by decide +kernel
theorem dX6_undo_54 : decode cX6_undo 54 = .ok (.aload_n 0, 1) := by decide +kernel
theorem dX6_undo_55 : decode cX6_undo 55 = .ok (.getfield 42, 3) := by decide +kernel
theorem dX6_undo_58 : decode cX6_undo 58 = .ok (.ireturn, 1) := by decide +kernel
theorem dX6_keep_0 : decode cX6_keep 0 = .ok (.iconst 0, 1) := by decide +kernel
theorem dX6_keep_1 : decode cX6_keep 1 = .ok (.istore_n 1, 1) := by decide +kernel
theorem dX6_keep_2 : decode cX6_keep 2 = .ok (.iload_n 1, 1) := by decide +kernel
theorem dX6_keep_3 : decode cX6_keep 3 = .ok (.bipush 69, 2) := by decide +kernel
theorem dX6_keep_5 : decode cX6_keep 5 = .ok (.if_icmp .ge 21, 3) := by decide +kernel
theorem dX6_keep_8 : decode cX6_keep 8 = .ok (.aload_n 0, 1) := by decide +kernel
theorem dX6_keep_9 : decode cX6_keep 9 = .ok (.getfield 16, 3) := by decide +kernel
