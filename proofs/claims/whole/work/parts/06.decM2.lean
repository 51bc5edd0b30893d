theorem dX12_comeIn_59 : decode cX12_comeIn 59 = .ok (.iload_n 2, 1) := by decide +kernel
theorem dX12_comeIn_60 : decode cX12_comeIn 60 = .ok (.iadd, 1) := by decide +kernel
theorem dX12_comeIn_61 : decode cX12_comeIn 61 = .ok (.iload_n 1, 1) := by decide +kernel
theorem dX12_comeIn_62 : decode cX12_comeIn 62 = .ok (.iastore, 1) := by decide +kernel
theorem dX12_comeIn_63 : decode cX12_comeIn 63 = .ok (.iload_n 2, 1) := by decide +kernel
theorem dX12_comeIn_64 : decode cX12_comeIn 64 = .ok (.ireturn, 1) := by decide +kernel
theorem dX12_draws_0 : decode cX12_draws 0 = .ok (.aload_n 0, 1) := by decide +kernel
theorem dX12_draws_1 : decode cX12_draws 1 = .ok (.aload_n 0, 1) := by decide +kernel
theorem dX12_draws_2 : decode cX12_draws 2 = .ok (.getfield 174, 3) := by decide +kernel
theorem dX12_draws_5 : decode cX12_draws 5 = .ok (.i2l, 1) := by decide +kernel
theorem dX12_draws_6 : decode cX12_draws 6 = .ok (.ldc2_w 177, 3) := by decide +kernel
theorem dX12_draws_9 : decode cX12_draws 9 = .ok (.lmul, 1) := by decide +kernel
theorem dX12_draws_10 : decode cX12_draws 10 = .ok (.ldc2_w 179, 3) := by decide +kernel
theorem dX12_draws_13 : decode cX12_draws 13 = .ok (.ladd, 1) := by decide +kernel
theorem dX12_draws_14 : decode cX12_draws 14 = .ok (.ldc2_w 181, 3) := by decide +kernel
theorem dX12_draws_17 : decode cX12_draws 17 = .ok (.lrem, 1) := by decide +kernel
theorem dX12_draws_18 : decode cX12_draws 18 = .ok (.l2i, 1) := by decide +kernel
theorem dX12_draws_19 : decode cX12_draws 19 = .ok (.putfield 174, 3) := by decide +kernel
theorem dX12_draws_22 : decode cX12_draws 22 = .ok (.aload_n 0, 1) := by decide +kernel
theorem dX12_draws_23 : decode cX12_draws 23 = .ok (.getfield 174, 3) := by decide +kernel
theorem dX12_draws_26 : decode cX12_draws 26 = .ok (.ldc 183, 2) := by decide +kernel
theorem dX12_draws_28 : decode cX12_draws 28 = .ok (.idiv, 1) := by decide +kernel
theorem dX12_draws_29 : decode cX12_draws 29 = .ok (.iload_n 1, 1) := by decide +kernel
theorem dX12_draws_30 : decode cX12_draws 30 = .ok (.irem, 1) := by decide +kernel
theorem dX12_draws_31 : decode cX12_draws 31 = .ok (.ireturn, 1) := by decide +kernel
theorem dX12_drift_0 : decode cX12_drift 0 = .ok (.iload_n 1, 1) := by decide +kernel
theorem dX12_drift_1 : decode cX12_drift 1 = .ok (.i2l, 1) := by decide +kernel
theorem dX12_drift_2 : decode cX12_drift 2 = .ok (.lconst 1, 1) := by decide +kernel
theorem dX12_drift_3 : decode cX12_drift 3 = .ok (.ldc2_w 169, 3) := by decide +kernel
theorem dX12_drift_6 : decode cX12_drift 6 = .ok (.invokestatic 67, 3) := by decide +kernel
theorem dX12_drift_9 : decode cX12_drift 9 = .ok (.ifCond .ne 6, 3) := by decide +kernel
theorem dX12_drift_12 : decode cX12_drift 12 = .ok (.ldc 71, 2) := by decide +kernel
theorem dX12_drift_14 : decode cX12_drift 14 = .ok (.ireturn, 1) := by decide +kernel
theorem dX12_drift_15 : decode cX12_drift 15 = .ok (.aload_n 0, 1) := by decide +kernel
theorem dX12_drift_16 : decode cX12_drift 16 = .ok (.invokevirtual 160, 3) := by decide +kernel
theorem dX12_drift_19 : decode cX12_drift 19 = .ok (.ifCond .ge 8, 3) := by decide +kernel
theorem dX12_drift_22 : decode cX12_drift 22 = .ok (.aload_n 0, 1) := by decide +kernel
theorem dX12_drift_23 : decode cX12_drift 23 = .ok (.invokevirtual 160, 3) := by decide +kernel
theorem dX12_drift_26 : decode cX12_drift 26 = .ok (.ireturn, 1) := by decide +kernel
theorem dX12_drift_27 : decode cX12_drift 27 = .ok (.iconst 0, 1) := by decide +kernel
theorem dX12_drift_28 : decode cX12_drift 28 = .ok (.istore_n 2, 1) := by decide +kernel
theorem dX12_drift_29 : decode cX12_drift 29 = .ok (.iload_n 2, 1) := by decide +kernel
theorem dX12_drift_30 : decode cX12_drift 30 = .ok (.iload_n 1, 1) := by decide +kernel
theorem dX12_drift_31 : decode cX12_drift 31 = .ok (.if_icmp .ge 37, 3) := by decide +kernel
theorem dX12_drift_34 : decode cX12_drift 34 = .ok (.aload_n 0, 1) := by decide +kernel
theorem dX12_drift_35 : decode cX12_drift 35 = .ok (.invokevirtual 163, 3) := by decide +kernel
theorem dX12_drift_38 : decode cX12_drift 38 = .ok (.aload_n 0, 1) := by decide +kernel
theorem dX12_drift_39 : decode cX12_drift 39 = .ok (.bipush 6, 2) := by decide +kernel
theorem dX12_drift_41 : decode cX12_drift 41 = .ok (.invokevirtual 184, 3) := by decide +kernel
theorem dX12_drift_44 : decode cX12_drift 44 = .ok (.istore_n 3, 1) := by decide +kernel
theorem dX12_drift_45 : decode cX12_drift 45 = .ok (.aload_n 0, 1) := by decide +kernel
theorem dX12_drift_46 : decode cX12_drift 46 = .ok (.iload_n 3, 1) := by decide +kernel
theorem dX12_drift_47 : decode cX12_drift 47 = .ok (.iconst 4, 1) := by decide +kernel
theorem dX12_drift_48 : decode cX12_drift 48 = .ok (.if_icmp .ge 7, 3) := by decide +kernel
theorem dX12_drift_51 : decode cX12_drift 51 = .ok (.iload_n 3, 1) := by decide +kernel
theorem dX12_drift_52 : decode cX12_drift 52 = .ok (.goto 7, 3) := by decide +kernel
theorem dX12_drift_55 : decode cX12_drift 55 = .ok (.aload_n 0, 1) := by decide +kernel
theorem dX12_drift_56 : decode cX12_drift 56 = .ok (.invokevirtual 171, 3) := by decide +kernel
theorem dX12_drift_59 : decode cX12_drift 59 = .ok (.invokevirtual 166, 3) := by decide +kernel
theorem dX12_drift_62 : decode cX12_drift 62 = .ok (.iinc 2 1, 3) := by decide +kernel
theorem dX12_drift_65 : decode cX12_drift 65 = .ok (.goto (-36), 3) := by decide +kernel
theorem dX12_drift_68 : decode cX12_drift 68 = .ok (.aload_n 0, 1) := by decide +kernel
theorem dX12_drift_69 : decode cX12_drift 69 = .ok (.invokevirtual 145, 3) := by decide +kernel
theorem dX12_drift_72 : decode cX12_drift 72 = .ok (.ireturn, 1) := by decide +kernel
theorem dX12_undo_0 : decode cX12_undo 0 = .ok (.iload_n 1, 1) := by decide +kernel
theorem dX12_undo_1 : decode cX12_undo 1 = .ok (.i2l, 1) := by decide +kernel
theorem dX12_undo_2 : decode cX12_undo 2 = .ok (.lconst 1, 1) := by decide +kernel
theorem dX12_undo_3 : decode cX12_undo 3 = .ok (.ldc2_w 187, 3) := by decide +kernel
theorem dX12_undo_6 : decode cX12_undo 6 = .ok (.invokestatic 67, 3) := by decide +kernel
theorem dX12_undo_9 : decode cX12_undo 9 = .ok (.ifCond .ne 6, 3) := by decide +kernel
theorem dX12_undo_12 : decode cX12_undo 12 = .ok (.ldc 71, 2) := by decide +kernel
theorem dX12_undo_14 : decode cX12_undo 14 = .ok (.ireturn, 1) := by decide +kernel
theorem dX12_undo_15 : decode cX12_undo 15 = .ok (.iload_n 1, 1) := by decide +kernel
theorem dX12_undo_16 : decode cX12_undo 16 = .ok (.aload_n 0, 1) := by decide +kernel
theorem dX12_undo_17 : decode cX12_undo 17 = .ok (.getfield 119, 3) := by decide +kernel
theorem dX12_undo_20 : decode cX12_undo 20 = .ok (.if_icmp .le 6, 3) := by decide +kernel
theorem dX12_undo_23 : decode cX12_undo 23 = .ok (.ldc 158, 2) := by decide +kernel
theorem dX12_undo_25 : decode cX12_undo 25 = .ok (.ireturn, 1) := by decide +kernel
theorem dX12_undo_26 : decode cX12_undo 26 = .ok (.aload_n 0, 1) := by decide +kernel
theorem dX12_undo_27 : decode cX12_undo 27 = .ok (.dup, 1) := by decide +kernel
theorem dX12_undo_28 : decode cX12_undo 28 = .ok (.getfield 119, 3) := by decide +kernel
theorem dX12_undo_31 : decode cX12_undo 31 = .ok (.iload_n 1, 1) := by decide +kernel
theorem dX12_undo_32 : decode cX12_undo 32 = .ok (.isub, 1) := by decide +kernel
theorem dX12_undo_33 : decode cX12_undo 33 = .ok (.putfield 119, 3) := by decide +kernel
theorem dX12_undo_36 : decode cX12_undo 36 = .ok (.iconst 0, 1) := by decide +kernel
theorem dX12_undo_37 : decode cX12_undo 37 = .ok (.istore_n 2, 1) := by decide +kernel
theorem dX12_undo_38 : decode cX12_undo 38 = .ok (.iload_n 2, 1) := by decide +kernel
theorem dX12_undo_39 : decode cX12_undo 39 = .ok (.bipush 13, 2) := by decide +kernel
theorem dX12_undo_41 : decode cX12_undo 41 = .ok (.if_icmp .ge 29, 3) := by decide +kernel
theorem dX12_undo_44 : decode cX12_undo 44 = .ok (.aload_n 0, 1) := by decide +kernel
theorem dX12_undo_45 : decode cX12_undo 45 = .ok (.getfield 19, 3) := by decide +kernel
theorem dX12_undo_48 : decode cX12_undo 48 = .ok (.iload_n 2, 1) := by decide +kernel
theorem dX12_undo_49 : decode cX12_undo 49 = .ok (.aload_n 0, 1) := by decide +kernel
theorem dX12_undo_50 : decode cX12_undo 50 = .ok (.getfield 25, 3) := by decide +kernel
theorem dX12_undo_53 : decode cX12_undo 53 = .ok (.bipush 13, 2) := by decide +kernel
theorem dX12_undo_55 : decode cX12_undo 55 = .ok (.aload_n 0, 1) := by decide +kernel
theorem dX12_undo_56 : decode cX12_undo 56 = .ok (.getfield 119, 3) := by decide +kernel
theorem dX12_undo_59 : decode cX12_undo 59 = .ok (.imul, 1) := by decide +kernel
theorem dX12_undo_60 : decode cX12_undo 60 = .ok (.iload_n 2, 1) := by decide +kernel
theorem dX12_undo_61 : decode cX12_undo 61 = .ok (.iadd, 1) := by decide +kernel
theorem dX12_undo_62 : decode cX12_undo 62 = .ok (.iaload, 1) := by decide +kernel
theorem dX12_undo_63 : decode cX12_undo 63 = .ok (.iastore, 1) := by decide +kernel
theorem dX12_undo_64 : decode cX12_undo 64 = .ok (.iinc 2 1, 3) := by decide +kernel
theorem dX12_undo_67 : decode cX12_undo 67 = .ok (.goto (-29), 3) := by decide +kernel
theorem dX12_undo_70 : decode cX12_undo 70 = .ok (.aload_n 0, 1) := by decide +kernel
theorem dX12_undo_71 : decode cX12_undo 71 = .ok (.getfield 19, 3) := by decide +kernel
theorem dX12_undo_74 : decode cX12_undo 74 = .ok (.iconst 0, 1) := by decide +kernel
theorem dX12_undo_75 : decode cX12_undo 75 = .ok (.iaload, 1) := by decide +kernel
theorem dX12_undo_76 : decode cX12_undo 76 = .ok (.ireturn, 1) := by decide +kernel
theorem dX12_asides_0 : decode cX12_asides 0 = .ok (.iconst 0, 1) := by decide +kernel
theorem dX12_asides_1 : decode cX12_asides 1 = .ok (.istore_n 1, 1) := by decide +kernel
theorem dX12_asides_2 : decode cX12_asides 2 = .ok (.iload_n 1, 1) := by decide +kernel
theorem dX12_asides_3 : decode cX12_asides 3 = .ok (.bipush 13, 2) := by decide +kernel
theorem dX12_asides_5 : decode cX12_asides 5 = .ok (.if_icmp .ge 21, 3) := by decide +kernel
theorem dX12_asides_8 : decode cX12_asides 8 = .ok (.aload_n 0, 1) := by decide +kernel
theorem dX12_asides_9 : decode cX12_asides 9 = .ok (.getfield 28, 3) := by decide +kernel
theorem dX12_asides_12 : decode cX12_asides 12 = .ok (.iload_n 1, 1) := by decide +kernel
theorem dX12_asides_13 : decode cX12_asides 13 = .ok (.aload_n 0, 1) := by decide +kernel
theorem dX12_asides_14 : decode cX12_asides 14 = .ok (.getfield 19, 3) := by decide +kernel
theorem dX12_asides_17 : decode cX12_asides 17 = .ok (.iload_n 1, 1) := by decide +kernel
theorem dX12_asides_18 : decode cX12_asides 18 = .ok (.iaload, 1) := by decide +kernel
theorem dX12_asides_19 : decode cX12_asides 19 = .ok (.iastore, 1) := by decide +kernel
theorem dX12_asides_20 : decode cX12_asides 20 = .ok (.iinc 1 1, 3) := by decide +kernel
theorem dX12_asides_23 : decode cX12_asides 23 = .ok (.goto (-21), 3) := by decide +kernel
theorem dX12_asides_26 : decode cX12_asides 26 = .ok (.return_, 1) := by decide +kernel
theorem dX12_backs_0 : decode cX12_backs 0 = .ok (.iconst 0, 1) := by decide +kernel
theorem dX12_backs_1 : decode cX12_backs 1 = .ok (.istore_n 1, 1) := by decide +kernel
theorem dX12_backs_2 : decode cX12_backs 2 = .ok (.iload_n 1, 1) := by decide +kernel
theorem dX12_backs_3 : decode cX12_backs 3 = .ok (.bipush 13, 2) := by decide +kernel
theorem dX12_backs_5 : decode cX12_backs 5 = .ok (.if_icmp .ge 21, 3) := by decide +kernel
theorem dX12_backs_8 : decode cX12_backs 8 = .ok (.aload_n 0, 1) := by decide +kernel
theorem dX12_backs_9 : decode cX12_backs 9 = .ok (.getfield 19, 3) := by decide +kernel
theorem dX12_backs_12 : decode cX12_backs 12 = .ok (.iload_n 1, 1) := by decide +kernel
theorem dX12_backs_13 : decode cX12_backs 13 = .ok (.aload_n 0, 1) := by decide +kernel
theorem dX12_backs_14 : decode cX12_backs 14 = .ok (.getfield 28, 3) := by decide +kernel
theorem dX12_backs_17 : decode cX12_backs 17 = .ok (.iload_n 1, 1) := by decide +kernel
theorem dX12_backs_18 : decode cX12_backs 18 = .ok (.iaload, 1) := by decide +kernel
theorem dX12_backs_19 : decode cX12_backs 19 = .ok (.iastore, 1) := by decide +kernel
theorem dX12_backs_20 : decode cX12_backs 20 = .ok (.iinc 1 1, 3) := by decide +kernel
theorem dX12_backs_23 : decode cX12_backs 23 = .ok (.goto (-21), 3) := by decide +kernel
theorem dX12_backs_26 : decode cX12_backs 26 = .ok (.return_, 1) := by decide +kernel
theorem dX12_least_0 : decode cX12_least 0 = .ok (.iconst 0, 1) := by decide +kernel
theorem dX12_least_1 : decode cX12_least 1 = .ok (.istore_n 1, 1) := by decide +kernel
theorem dX12_least_2 : decode cX12_least 2 = .ok (.iload_n 0, 1) := by decide +kernel
theorem dX12_least_3 : decode cX12_least 3 = .ok (.iload_n 1, 1) := by decide +kernel
theorem dX12_least_4 : decode cX12_least 4 = .ok (.ishr, 1) := by decide +kernel
theorem dX12_least_5 : decode cX12_least 5 = .ok (.iconst 1, 1) := by decide +kernel
theorem dX12_least_6 : decode cX12_least 6 = .ok (.iand, 1) := by decide +kernel
theorem dX12_least_7 : decode cX12_least 7 = .ok (.ifCond .ne 9, 3) := by decide +kernel
theorem dX12_least_10 : decode cX12_least 10 = .ok (.iinc 1 1, 3) := by decide +kernel
theorem dX12_least_13 : decode cX12_least 13 = .ok (.goto (-11), 3) := by decide +kernel
theorem dX12_least_16 : decode cX12_least 16 = .ok (.iload_n 1, 1) := by decide +kernel
theorem dX12_least_17 : decode cX12_least 17 = .ok (.ireturn, 1) := by decide +kernel
theorem dX12_firstAwake_0 : decode cX12_firstAwake 0 = .ok (.iload_n 1, 1) := by decide +kernel
theorem dX12_firstAwake_1 : decode cX12_firstAwake 1 = .ok (.i2l, 1) := by decide +kernel
theorem dX12_firstAwake_2 : decode cX12_firstAwake 2 = .ok (.lconst 0, 1) := by decide +kernel
theorem dX12_firstAwake_3 : decode cX12_firstAwake 3 = .ok (.lconst 1, 1) := by decide +kernel
theorem dX12_firstAwake_4 : decode cX12_firstAwake 4 = .ok (.invokestatic 67, 3) := by decide +kernel
theorem dX12_firstAwake_7 : decode cX12_firstAwake 7 = .ok (.ifCond .ne 6, 3) := by decide +kernel
theorem dX12_firstAwake_10 : decode cX12_firstAwake 10 = .ok (.ldc 71, 2) := by decide +kernel
theorem dX12_firstAwake_12 : decode cX12_firstAwake 12 = .ok (.ireturn, 1) := by decide +kernel
theorem dX12_firstAwake_13 : decode cX12_firstAwake 13 = .ok (.aload_n 0, 1) := by decide +kernel
theorem dX12_firstAwake_14 : decode cX12_firstAwake 14 = .ok (.invokevirtual 189, 3) := by decide +kernel
theorem dX12_firstAwake_17 : decode cX12_firstAwake 17 = .ok (.iconst (-1), 1) := by decide +kernel
theorem dX12_firstAwake_18 : decode cX12_firstAwake 18 = .ok (.istore_n 2, 1) := by decide +kernel
theorem dX12_firstAwake_19 : decode cX12_firstAwake 19 = .ok (.iconst 0, 1) := by decide +kernel
theorem dX12_firstAwake_20 : decode cX12_firstAwake 20 = .ok (.istore_n 3, 1) := by decide +kernel
theorem dX12_firstAwake_21 : decode cX12_firstAwake 21 = .ok (.iload_n 3, 1) := by decide +kernel
theorem dX12_firstAwake_22 : decode cX12_firstAwake 22 = .ok (.bipush 100, 2) := by decide +kernel
theorem dX12_firstAwake_24 : decode cX12_firstAwake 24 = .ok (.if_icmp .ge 56, 3) := by decide +kernel
theorem dX12_firstAwake_27 : decode cX12_firstAwake 27 = .ok (.iload_n 2, 1) := by decide +kernel
theorem dX12_firstAwake_28 : decode cX12_firstAwake 28 = .ok (.iconst (-1), 1) := by decide +kernel
theorem dX12_firstAwake_29 : decode cX12_firstAwake 29 = .ok (.if_icmp .ne 51, 3) := by decide +kernel
theorem dX12_firstAwake_32 : decode cX12_firstAwake 32 = .ok (.aload_n 0, 1) := by decide +kernel
theorem dX12_firstAwake_33 : decode cX12_firstAwake 33 = .ok (.invokevirtual 122, 3) := by decide +kernel
theorem dX12_firstAwake_36 : decode cX12_firstAwake 36 = .ok (.ifCond .eq 44, 3) := by decide +kernel
theorem dX12_firstAwake_39 : decode cX12_firstAwake 39 = .ok (.aload_n 0, 1) := by decide +kernel
theorem dX12_firstAwake_40 : decode cX12_firstAwake 40 = .ok (.invokevirtual 142, 3) := by decide +kernel
theorem dX12_firstAwake_43 : decode cX12_firstAwake 43 = .ok (.ifCond .ne 7, 3) := by decide +kernel
theorem dX12_firstAwake_46 : decode cX12_firstAwake 46 = .ok (.iconst (-1), 1) := by decide +kernel
theorem dX12_firstAwake_47 : decode cX12_firstAwake 47 = .ok (.goto 18, 3) := by decide +kernel
theorem dX12_firstAwake_50 : decode cX12_firstAwake 50 = .ok (.iload_n 1, 1) := by decide +kernel
theorem dX12_firstAwake_51 : decode cX12_firstAwake 51 = .ok (.ifCond .ne 7, 3) := by decide +kernel
theorem dX12_firstAwake_54 : decode cX12_firstAwake 54 = .ok (.iload_n 3, 1) := by decide +kernel
theorem dX12_firstAwake_55 : decode cX12_firstAwake 55 = .ok (.goto 10, 3) := by decide +kernel
theorem dX12_firstAwake_58 : decode cX12_firstAwake 58 = .ok (.aload_n 0, 1) := by decide +kernel
theorem dX12_firstAwake_59 : decode cX12_firstAwake 59 = .ok (.invokevirtual 142, 3) := by decide +kernel
theorem dX12_firstAwake_62 : decode cX12_firstAwake 62 = .ok (.invokestatic 192, 3) := by decide +kernel
theorem dX12_firstAwake_65 : decode cX12_firstAwake 65 = .ok (.istore_n 2, 1) := by decide +kernel
theorem dX12_firstAwake_66 : decode cX12_firstAwake 66 = .ok (.aload_n 0, 1) := by decide +kernel
theorem dX12_firstAwake_67 : decode cX12_firstAwake 67 = .ok (.aload_n 0, 1) := by decide +kernel
theorem dX12_firstAwake_68 : decode cX12_firstAwake 68 = .ok (.invokevirtual 171, 3) := by decide +kernel
theorem dX12_firstAwake_71 : decode cX12_firstAwake 71 = .ok (.invokevirtual 166, 3) := by decide +kernel
theorem dX12_firstAwake_74 : decode cX12_firstAwake 74 = .ok (.iinc 3 1, 3) := by decide +kernel
theorem dX12_firstAwake_77 : decode cX12_firstAwake 77 = .ok (.goto (-56), 3) := by decide +kernel
theorem dX12_firstAwake_80 : decode cX12_firstAwake 80 = .ok (.aload_n 0, 1) := by decide +kernel
theorem dX12_firstAwake_81 : decode cX12_firstAwake 81 = .ok (.invokevirtual 195, 3) := by decide +kernel
theorem dX12_firstAwake_84 : decode cX12_firstAwake 84 = .ok (.iload_n 2, 1) := by decide +kernel
theorem dX12_firstAwake_85 : decode cX12_firstAwake 85 = .ok (.ireturn, 1) := by decide +kernel
theorem dX12_power_0 : decode cX12_power 0 = .ok (.iconst 1, 1) := by decide +kernel
theorem dX12_power_1 : decode cX12_power 1 = .ok (.iconst 2, 1) := by decide +kernel
theorem dX12_power_2 : decode cX12_power 2 = .ok (.iload_n 0, 1) := by decide +kernel
theorem dX12_power_3 : decode cX12_power 3 = .ok (.imul, 1) := by decide +kernel
theorem dX12_power_4 : decode cX12_power 4 = .ok (.ishl, 1) := by decide +kernel
theorem dX12_power_5 : decode cX12_power 5 = .ok (.ireturn, 1) := by decide +kernel
theorem dX12_word_0 : decode cX12_word 0 = .ok (.iload_n 0, 1) := by decide +kernel
theorem dX12_word_1 : decode cX12_word 1 = .ok (.iconst 2, 1) := by decide +kernel
theorem dX12_word_2 : decode cX12_word 2 = .ok (.iload_n 1, 1) := by decide +kernel
theorem dX12_word_3 : decode cX12_word 3 = .ok (.iconst 1, 1) := by decide +kernel
theorem dX12_word_4 : decode cX12_word 4 = .ok (.isub, 1) := by decide +kernel
theorem dX12_word_5 : decode cX12_word 5 = .ok (.iload_n 2, 1) := by decide +kernel
theorem dX12_word_6 : decode cX12_word 6 = .ok (.isub, 1) := by decide +kernel
theorem dX12_word_7 : decode cX12_word 7 = .ok (.imul, 1) := by decide +kernel
theorem dX12_word_8 : decode cX12_word 8 = .ok (.ishr, 1) := by decide +kernel
theorem dX12_word_9 : decode cX12_word 9 = .ok (.iconst 3, 1) := by decide +kernel
theorem dX12_word_10 : decode cX12_word 10 = .ok (.iand, 1) := by decide +kernel
theorem dX12_word_11 : decode cX12_word 11 = .ok (.ireturn, 1) := by decide +kernel
theorem dX12_sleeps_0 : decode cX12_sleeps 0 = .ok (.iconst 1, 1) := by decide +kernel
theorem dX12_sleeps_1 : decode cX12_sleeps 1 = .ok (.istore 4, 2) := by decide +kernel
theorem dX12_sleeps_3 : decode cX12_sleeps 3 = .ok (.iconst 0, 1) := by decide +kernel
theorem dX12_sleeps_4 : decode cX12_sleeps 4 = .ok (.istore 5, 2) := by decide +kernel
theorem dX12_sleeps_6 : decode cX12_sleeps 6 = .ok (.iload 5, 2) := by decide +kernel
theorem dX12_sleeps_8 : decode cX12_sleeps 8 = .ok (.iload_n 3, 1) := by decide +kernel
theorem dX12_sleeps_9 : decode cX12_sleeps 9 = .ok (.if_icmp .ge 41, 3) := by decide +kernel
theorem dX12_sleeps_12 : decode cX12_sleeps 12 = .ok (.iload 4, 2) := by decide +kernel
theorem dX12_sleeps_14 : decode cX12_sleeps 14 = .ok (.ifCond .eq 36, 3) := by decide +kernel
theorem dX12_sleeps_17 : decode cX12_sleeps 17 = .ok (.aload_n 0, 1) := by decide +kernel
theorem dX12_sleeps_18 : decode cX12_sleeps 18 = .ok (.iload_n 1, 1) := by decide +kernel
theorem dX12_sleeps_19 : decode cX12_sleeps 19 = .ok (.iload_n 2, 1) := by decide +kernel
theorem dX12_sleeps_20 : decode cX12_sleeps 20 = .ok (.iload 5, 2) := by decide +kernel
theorem dX12_sleeps_22 : decode cX12_sleeps 22 = .ok (.iload_n 2, 1) := by decide +kernel
theorem dX12_sleeps_23 : decode cX12_sleeps 23 = .ok (.irem, 1) := by decide +kernel
theorem dX12_sleeps_24 : decode cX12_sleeps 24 = .ok (.invokestatic 198, 3) := by decide +kernel
theorem dX12_sleeps_27 : decode cX12_sleeps 27 = .ok (.invokevirtual 166, 3) := by decide +kernel
theorem dX12_sleeps_30 : decode cX12_sleeps 30 = .ok (.aload_n 0, 1) := by decide +kernel
theorem dX12_sleeps_31 : decode cX12_sleeps 31 = .ok (.invokevirtual 142, 3) := by decide +kernel
theorem dX12_sleeps_34 : decode cX12_sleeps 34 = .ok (.ifCond .ne 7, 3) := by decide +kernel
theorem dX12_sleeps_37 : decode cX12_sleeps 37 = .ok (.iconst 1, 1) := by decide +kernel
theorem dX12_sleeps_38 : decode cX12_sleeps 38 = .ok (.goto 4, 3) := by decide +kernel
theorem dX12_sleeps_41 : decode cX12_sleeps 41 = .ok (.iconst 0, 1) := by decide +kernel
theorem dX12_sleeps_42 : decode cX12_sleeps 42 = .ok (.istore 4, 2) := by decide +kernel
theorem dX12_sleeps_44 : decode cX12_sleeps 44 = .ok (.iinc 5 1, 3) := by decide +kernel
theorem dX12_sleeps_47 : decode cX12_sleeps 47 = .ok (.goto (-41), 3) := by decide +kernel
theorem dX12_sleeps_50 : decode cX12_sleeps 50 = .ok (.iload 4, 2) := by decide +kernel
theorem dX12_sleeps_52 : decode cX12_sleeps 52 = .ok (.ireturn, 1) := by decide +kernel
theorem dX12_turnsFor_0 : decode cX12_turnsFor 0 = .ok (.iload_n 1, 1) := by decide +kernel
theorem dX12_turnsFor_1 : decode cX12_turnsFor 1 = .ok (.i2l, 1) := by decide +kernel
theorem dX12_turnsFor_2 : decode cX12_turnsFor 2 = .ok (.lconst 1, 1) := by decide +kernel
theorem dX12_turnsFor_3 : decode cX12_turnsFor 3 = .ok (.ldc2_w 202, 3) := by decide +kernel
theorem dX12_turnsFor_6 : decode cX12_turnsFor 6 = .ok (.invokestatic 67, 3) := by decide +kernel
theorem dX12_turnsFor_9 : decode cX12_turnsFor 9 = .ok (.ifCond .ne 6, 3) := by decide +kernel
theorem dX12_turnsFor_12 : decode cX12_turnsFor 12 = .ok (.ldc 71, 2) := by decide +kernel
theorem dX12_turnsFor_14 : decode cX12_turnsFor 14 = .ok (.ireturn, 1) := by decide +kernel
theorem dX12_turnsFor_15 : decode cX12_turnsFor 15 = .ok (.aload_n 0, 1) := by decide +kernel
theorem dX12_turnsFor_16 : decode cX12_turnsFor 16 = .ok (.invokevirtual 122, 3) := by decide +kernel
theorem dX12_turnsFor_19 : decode cX12_turnsFor 19 = .ok (.ifCond .ne 6, 3) := by decide +kernel
theorem dX12_turnsFor_22 : decode cX12_turnsFor 22 = .ok (.ldc 158, 2) := by decide +kernel
theorem dX12_turnsFor_24 : decode cX12_turnsFor 24 = .ok (.ireturn, 1) := by decide +kernel
theorem dX12_turnsFor_25 : decode cX12_turnsFor 25 = .ok (.aload_n 0, 1) := by decide +kernel
theorem dX12_turnsFor_26 : decode cX12_turnsFor 26 = .ok (.invokevirtual 189, 3) := by decide +kernel
theorem dX12_turnsFor_29 : decode cX12_turnsFor 29 = .ok (.iconst (-1), 1) := by decide +kernel
theorem dX12_turnsFor_30 : decode cX12_turnsFor 30 = .ok (.istore_n 3, 1) := by decide +kernel
theorem dX12_turnsFor_31 : decode cX12_turnsFor 31 = .ok (.iconst (-1), 1) := by decide +kernel
theorem dX12_turnsFor_32 : decode cX12_turnsFor 32 = .ok (.istore 4, 2) := by decide +kernel
theorem dX12_turnsFor_34 : decode cX12_turnsFor 34 = .ok (.iconst 0, 1) := by decide +kernel
theorem dX12_turnsFor_35 : decode cX12_turnsFor 35 = .ok (.istore 5, 2) := by decide +kernel
theorem dX12_turnsFor_37 : decode cX12_turnsFor 37 = .ok (.iconst 0, 1) := by decide +kernel
theorem dX12_turnsFor_38 : decode cX12_turnsFor 38 = .ok (.istore 6, 2) := by decide +kernel
theorem dX12_turnsFor_40 : decode cX12_turnsFor 40 = .ok (.iload 6, 2) := by decide +kernel
theorem dX12_turnsFor_42 : decode cX12_turnsFor 42 = .ok (.iload_n 1, 1) := by decide +kernel
theorem dX12_turnsFor_43 : decode cX12_turnsFor 43 = .ok (.invokestatic 204, 3) := by decide +kernel
theorem dX12_turnsFor_46 : decode cX12_turnsFor 46 = .ok (.if_icmp .ge 105, 3) := by decide +kernel
theorem dX12_turnsFor_49 : decode cX12_turnsFor 49 = .ok (.aload_n 0, 1) := by decide +kernel
theorem dX12_turnsFor_50 : decode cX12_turnsFor 50 = .ok (.iload 6, 2) := by decide +kernel
theorem dX12_turnsFor_52 : decode cX12_turnsFor 52 = .ok (.iload_n 1, 1) := by decide +kernel
theorem dX12_turnsFor_53 : decode cX12_turnsFor 53 = .ok (.iload_n 1, 1) := by decide +kernel
theorem dX12_turnsFor_54 : decode cX12_turnsFor 54 = .ok (.invokevirtual 207, 3) := by decide +kernel
theorem dX12_turnsFor_57 : decode cX12_turnsFor 57 = .ok (.istore 7, 2) := by decide +kernel
theorem dX12_turnsFor_59 : decode cX12_turnsFor 59 = .ok (.aload_n 0, 1) := by decide +kernel
theorem dX12_turnsFor_60 : decode cX12_turnsFor 60 = .ok (.invokevirtual 145, 3) := by decide +kernel
theorem dX12_turnsFor_63 : decode cX12_turnsFor 63 = .ok (.istore 8, 2) := by decide +kernel
theorem dX12_turnsFor_65 : decode cX12_turnsFor 65 = .ok (.iconst 0, 1) := by decide +kernel
theorem dX12_turnsFor_66 : decode cX12_turnsFor 66 = .ok (.istore 9, 2) := by decide +kernel
theorem dX12_turnsFor_68 : decode cX12_turnsFor 68 = .ok (.iconst 0, 1) := by decide +kernel
theorem dX12_turnsFor_69 : decode cX12_turnsFor 69 = .ok (.istore 10, 2) := by decide +kernel
theorem dX12_turnsFor_71 : decode cX12_turnsFor 71 = .ok (.iload 10, 2) := by decide +kernel
theorem dX12_turnsFor_73 : decode cX12_turnsFor 73 = .ok (.iload_n 1, 1) := by decide +kernel
theorem dX12_turnsFor_74 : decode cX12_turnsFor 74 = .ok (.if_icmp .ge 30, 3) := by decide +kernel
theorem dX12_turnsFor_77 : decode cX12_turnsFor 77 = .ok (.iload 9, 2) := by decide +kernel
theorem dX12_turnsFor_79 : decode cX12_turnsFor 79 = .ok (.iload 6, 2) := by decide +kernel
theorem dX12_turnsFor_81 : decode cX12_turnsFor 81 = .ok (.iload_n 1, 1) := by decide +kernel
theorem dX12_turnsFor_82 : decode cX12_turnsFor 82 = .ok (.iload 10, 2) := by decide +kernel
theorem dX12_turnsFor_84 : decode cX12_turnsFor 84 = .ok (.invokestatic 198, 3) := by decide +kernel
theorem dX12_turnsFor_87 : decode cX12_turnsFor 87 = .ok (.ifCond .ne 7, 3) := by decide +kernel
theorem dX12_turnsFor_90 : decode cX12_turnsFor 90 = .ok (.iconst 0, 1) := by decide +kernel
theorem dX12_turnsFor_91 : decode cX12_turnsFor 91 = .ok (.goto 4, 3) := by decide +kernel
theorem dX12_turnsFor_94 : decode cX12_turnsFor 94 = .ok (.iconst 1, 1) := by decide +kernel
theorem dX12_turnsFor_95 : decode cX12_turnsFor 95 = .ok (.iadd, 1) := by decide +kernel
theorem dX12_turnsFor_96 : decode cX12_turnsFor 96 = .ok (.istore 9, 2) := by decide +kernel
theorem dX12_turnsFor_98 : decode cX12_turnsFor 98 = .ok (.iinc 10 1, 3) := by decide +kernel
theorem dX12_turnsFor_101 : decode cX12_turnsFor 101 = .ok (.goto (-30), 3) := by decide +kernel
theorem dX12_turnsFor_104 : decode cX12_turnsFor 104 = .ok (.aload_n 0, 1) := by decide +kernel
theorem dX12_turnsFor_105 : decode cX12_turnsFor 105 = .ok (.invokevirtual 195, 3) := by decide +kernel
theorem dX12_turnsFor_108 : decode cX12_turnsFor 108 = .ok (.iload 7, 2) := by decide +kernel
theorem dX12_turnsFor_110 : decode cX12_turnsFor 110 = .ok (.ifCond .eq 35, 3) := by decide +kernel
theorem dX12_turnsFor_113 : decode cX12_turnsFor 113 = .ok (.iload 8, 2) := by decide +kernel
theorem dX12_turnsFor_115 : decode cX12_turnsFor 115 = .ok (.iload 4, 2) := by decide +kernel
theorem dX12_turnsFor_117 : decode cX12_turnsFor 117 = .ok (.if_icmp .gt 17, 3) := by decide +kernel
theorem dX12_turnsFor_120 : decode cX12_turnsFor 120 = .ok (.iload 8, 2) := by decide +kernel
theorem dX12_turnsFor_122 : decode cX12_turnsFor 122 = .ok (.iload 4, 2) := by decide +kernel
theorem dX12_turnsFor_124 : decode cX12_turnsFor 124 = .ok (.if_icmp .ne 21, 3) := by decide +kernel
theorem dX12_turnsFor_127 : decode cX12_turnsFor 127 = .ok (.iload 9, 2) := by decide +kernel
theorem dX12_turnsFor_129 : decode cX12_turnsFor 129 = .ok (.iload 5, 2) := by decide +kernel
theorem dX12_turnsFor_131 : decode cX12_turnsFor 131 = .ok (.if_icmp .ge 14, 3) := by decide +kernel
theorem dX12_turnsFor_134 : decode cX12_turnsFor 134 = .ok (.iload 6, 2) := by decide +kernel
theorem dX12_turnsFor_136 : decode cX12_turnsFor 136 = .ok (.istore_n 3, 1) := by decide +kernel
theorem dX12_turnsFor_137 : decode cX12_turnsFor 137 = .ok (.iload 8, 2) := by decide +kernel
theorem dX12_turnsFor_139 : decode cX12_turnsFor 139 = .ok (.istore 4, 2) := by decide +kernel
theorem dX12_turnsFor_141 : decode cX12_turnsFor 141 = .ok (.iload 9, 2) := by decide +kernel
theorem dX12_turnsFor_143 : decode cX12_turnsFor 143 = .ok (.istore 5, 2) := by decide +kernel
theorem dX12_turnsFor_145 : decode cX12_turnsFor 145 = .ok (.iinc 6 1, 3) := by decide +kernel
theorem dX12_turnsFor_148 : decode cX12_turnsFor 148 = .ok (.goto (-108), 3) := by decide +kernel
theorem dX12_turnsFor_151 : decode cX12_turnsFor 151 = .ok (.iload_n 3, 1) := by decide +kernel
theorem dX12_turnsFor_152 : decode cX12_turnsFor 152 = .ok (.iconst (-1), 1) := by decide +kernel
theorem dX12_turnsFor_153 : decode cX12_turnsFor 153 = .ok (.if_icmp .ne 7, 3) := by decide +kernel
theorem dX12_turnsFor_156 : decode cX12_turnsFor 156 = .ok (.iconst (-1), 1) := by decide +kernel
theorem dX12_turnsFor_157 : decode cX12_turnsFor 157 = .ok (.goto 36, 3) := by decide +kernel
theorem dX12_turnsFor_160 : decode cX12_turnsFor 160 = .ok (.iload_n 2, 1) := by decide +kernel
theorem dX12_turnsFor_161 : decode cX12_turnsFor 161 = .ok (.iconst (-1), 1) := by decide +kernel
theorem dX12_turnsFor_162 : decode cX12_turnsFor 162 = .ok (.if_icmp .ne 8, 3) := by decide +kernel
theorem dX12_turnsFor_165 : decode cX12_turnsFor 165 = .ok (.iload 4, 2) := by decide +kernel
theorem dX12_turnsFor_167 : decode cX12_turnsFor 167 = .ok (.goto 26, 3) := by decide +kernel
theorem dX12_turnsFor_170 : decode cX12_turnsFor 170 = .ok (.iload_n 2, 1) := by decide +kernel
theorem dX12_turnsFor_171 : decode cX12_turnsFor 171 = .ok (.i2l, 1) := by decide +kernel
theorem dX12_turnsFor_172 : decode cX12_turnsFor 172 = .ok (.lconst 0, 1) := by decide +kernel
theorem dX12_turnsFor_173 : decode cX12_turnsFor 173 = .ok (.iload_n 1, 1) := by decide +kernel
theorem dX12_turnsFor_174 : decode cX12_turnsFor 174 = .ok (.iconst 1, 1) := by decide +kernel
theorem dX12_turnsFor_175 : decode cX12_turnsFor 175 = .ok (.isub, 1) := by decide +kernel
theorem dX12_turnsFor_176 : decode cX12_turnsFor 176 = .ok (.i2l, 1) := by decide +kernel
theorem dX12_turnsFor_177 : decode cX12_turnsFor 177 = .ok (.invokestatic 67, 3) := by decide +kernel
theorem dX12_turnsFor_180 : decode cX12_turnsFor 180 = .ok (.ifCond .eq 12, 3) := by decide +kernel
theorem dX12_turnsFor_183 : decode cX12_turnsFor 183 = .ok (.iload_n 3, 1) := by decide +kernel
theorem dX12_turnsFor_184 : decode cX12_turnsFor 184 = .ok (.iload_n 1, 1) := by decide +kernel
theorem dX12_turnsFor_185 : decode cX12_turnsFor 185 = .ok (.iload_n 2, 1) := by decide +kernel
theorem dX12_turnsFor_186 : decode cX12_turnsFor 186 = .ok (.invokestatic 198, 3) := by decide +kernel
theorem dX12_turnsFor_189 : decode cX12_turnsFor 189 = .ok (.goto 4, 3) := by decide +kernel
theorem dX12_turnsFor_192 : decode cX12_turnsFor 192 = .ok (.iconst (-1), 1) := by decide +kernel
theorem dX12_turnsFor_193 : decode cX12_turnsFor 193 = .ok (.ireturn, 1) := by decide +kernel
theorem dX12_rhyme_0 : decode cX12_rhyme 0 = .ok (.iload_n 1, 1) := by decide +kernel
theorem dX12_rhyme_1 : decode cX12_rhyme 1 = .ok (.i2l, 1) := by decide +kernel
theorem dX12_rhyme_2 : decode cX12_rhyme 2 = .ok (.lconst 1, 1) := by decide +kernel
theorem dX12_rhyme_3 : decode cX12_rhyme 3 = .ok (.ldc2_w 187, 3) := by decide +kernel
theorem dX12_rhyme_6 : decode cX12_rhyme 6 = .ok (.invokestatic 67, 3) := by decide +kernel
theorem dX12_rhyme_9 : decode cX12_rhyme 9 = .ok (.ifCond .ne 6, 3) := by decide +kernel
theorem dX12_rhyme_12 : decode cX12_rhyme 12 = .ok (.ldc 71, 2) := by decide +kernel
theorem dX12_rhyme_14 : decode cX12_rhyme 14 = .ok (.ireturn, 1) := by decide +kernel
theorem dX12_rhyme_15 : decode cX12_rhyme 15 = .ok (.aload_n 0, 1) := by decide +kernel
theorem dX12_rhyme_16 : decode cX12_rhyme 16 = .ok (.invokevirtual 122, 3) := by decide +kernel
theorem dX12_rhyme_19 : decode cX12_rhyme 19 = .ok (.ifCond .ne 6, 3) := by decide +kernel
theorem dX12_rhyme_22 : decode cX12_rhyme 22 = .ok (.ldc 158, 2) := by decide +kernel
theorem dX12_rhyme_24 : decode cX12_rhyme 24 = .ok (.ireturn, 1) := by decide +kernel
theorem dX12_rhyme_25 : decode cX12_rhyme 25 = .ok (.aload_n 0, 1) := by decide +kernel
theorem dX12_rhyme_26 : decode cX12_rhyme 26 = .ok (.invokevirtual 189, 3) := by decide +kernel
theorem dX12_rhyme_29 : decode cX12_rhyme 29 = .ok (.iconst 1, 1) := by decide +kernel
theorem dX12_rhyme_30 : decode cX12_rhyme 30 = .ok (.istore_n 3, 1) := by decide +kernel
theorem dX12_rhyme_31 : decode cX12_rhyme 31 = .ok (.iload_n 3, 1) := by decide +kernel
theorem dX12_rhyme_32 : decode cX12_rhyme 32 = .ok (.iconst 5, 1) := by decide +kernel
theorem dX12_rhyme_33 : decode cX12_rhyme 33 = .ok (.if_icmp .ge 80, 3) := by decide +kernel
theorem dX12_rhyme_36 : decode cX12_rhyme 36 = .ok (.iconst 0, 1) := by decide +kernel
theorem dX12_rhyme_37 : decode cX12_rhyme 37 = .ok (.istore 4, 2) := by decide +kernel
theorem dX12_rhyme_39 : decode cX12_rhyme 39 = .ok (.iload 4, 2) := by decide +kernel
theorem dX12_rhyme_41 : decode cX12_rhyme 41 = .ok (.iload_n 3, 1) := by decide +kernel
theorem dX12_rhyme_42 : decode cX12_rhyme 42 = .ok (.invokestatic 204, 3) := by decide +kernel
theorem dX12_rhyme_45 : decode cX12_rhyme 45 = .ok (.if_icmp .ge 62, 3) := by decide +kernel
theorem dX12_rhyme_48 : decode cX12_rhyme 48 = .ok (.aload_n 0, 1) := by decide +kernel
theorem dX12_rhyme_49 : decode cX12_rhyme 49 = .ok (.iload 4, 2) := by decide +kernel
theorem dX12_rhyme_51 : decode cX12_rhyme 51 = .ok (.iload_n 3, 1) := by decide +kernel
theorem dX12_rhyme_52 : decode cX12_rhyme 52 = .ok (.iload_n 1, 1) := by decide +kernel
theorem dX12_rhyme_53 : decode cX12_rhyme 53 = .ok (.invokevirtual 207, 3) := by decide +kernel
theorem dX12_rhyme_56 : decode cX12_rhyme 56 = .ok (.istore 5, 2) := by decide +kernel
theorem dX12_rhyme_58 : decode cX12_rhyme 58 = .ok (.aload_n 0, 1) := by decide +kernel
theorem dX12_rhyme_59 : decode cX12_rhyme 59 = .ok (.invokevirtual 195, 3) := by decide +kernel
theorem dX12_rhyme_62 : decode cX12_rhyme 62 = .ok (.iload 5, 2) := by decide +kernel
theorem dX12_rhyme_64 : decode cX12_rhyme 64 = .ok (.ifCond .eq 37, 3) := by decide +kernel
theorem dX12_rhyme_67 : decode cX12_rhyme 67 = .ok (.iload_n 2, 1) := by decide +kernel
theorem dX12_rhyme_68 : decode cX12_rhyme 68 = .ok (.iconst (-1), 1) := by decide +kernel
theorem dX12_rhyme_69 : decode cX12_rhyme 69 = .ok (.if_icmp .ne 7, 3) := by decide +kernel
theorem dX12_rhyme_72 : decode cX12_rhyme 72 = .ok (.iload_n 3, 1) := by decide +kernel
theorem dX12_rhyme_73 : decode cX12_rhyme 73 = .ok (.goto 27, 3) := by decide +kernel
theorem dX12_rhyme_76 : decode cX12_rhyme 76 = .ok (.iload_n 2, 1) := by decide +kernel
theorem dX12_rhyme_77 : decode cX12_rhyme 77 = .ok (.i2l, 1) := by decide +kernel
theorem dX12_rhyme_78 : decode cX12_rhyme 78 = .ok (.lconst 0, 1) := by decide +kernel
theorem dX12_rhyme_79 : decode cX12_rhyme 79 = .ok (.iload_n 3, 1) := by decide +kernel
theorem dX12_rhyme_80 : decode cX12_rhyme 80 = .ok (.iconst 1, 1) := by decide +kernel
theorem dX12_rhyme_81 : decode cX12_rhyme 81 = .ok (.isub, 1) := by decide +kernel
theorem dX12_rhyme_82 : decode cX12_rhyme 82 = .ok (.i2l, 1) := by decide +kernel
theorem dX12_rhyme_83 : decode cX12_rhyme 83 = .ok (.invokestatic 67, 3) := by decide +kernel
theorem dX12_rhyme_86 : decode cX12_rhyme 86 = .ok (.ifCond .eq 13, 3) := by decide +kernel
theorem dX12_rhyme_89 : decode cX12_rhyme 89 = .ok (.iload 4, 2) := by decide +kernel
theorem dX12_rhyme_91 : decode cX12_rhyme 91 = .ok (.iload_n 3, 1) := by decide +kernel
theorem dX12_rhyme_92 : decode cX12_rhyme 92 = .ok (.iload_n 2, 1) := by decide +kernel
theorem dX12_rhyme_93 : decode cX12_rhyme 93 = .ok (.invokestatic 198, 3) := by decide +kernel
theorem dX12_rhyme_96 : decode cX12_rhyme 96 = .ok (.goto 4, 3) := by decide +kernel
theorem dX12_rhyme_99 : decode cX12_rhyme 99 = .ok (.iconst (-1), 1) := by decide +kernel
theorem dX12_rhyme_100 : decode cX12_rhyme 100 = .ok (.ireturn, 1) := by decide +kernel
theorem dX12_rhyme_101 : decode cX12_rhyme 101 = .ok (.iinc 4 1, 3) := by decide +kernel
theorem dX12_rhyme_104 : decode cX12_rhyme 104 = .ok (.goto (-65), 3) := by decide +kernel
theorem dX12_rhyme_107 : decode cX12_rhyme 107 = .ok (.iinc 3 1, 3) := by decide +kernel
theorem dX12_rhyme_110 : decode cX12_rhyme 110 = .ok (.goto (-79), 3) := by decide +kernel
theorem dX12_rhyme_113 : decode cX12_rhyme 113 = .ok (.iconst (-1), 1) := by decide +kernel
theorem dX12_rhyme_114 : decode cX12_rhyme 114 = .ok (.ireturn, 1) := by decide +kernel
theorem dX12_laid_0 : decode cX12_laid 0 = .ok (.iload_n 1, 1) := by decide +kernel
theorem dX12_laid_1 : decode cX12_laid 1 = .ok (.i2l, 1) := by decide +kernel
theorem dX12_laid_2 : decode cX12_laid 2 = .ok (.lconst 1, 1) := by decide +kernel
theorem dX12_laid_3 : decode cX12_laid 3 = .ok (.ldc2_w 211, 3) := by decide +kernel
theorem dX12_laid_6 : decode cX12_laid 6 = .ok (.invokestatic 67, 3) := by decide +kernel
theorem dX12_laid_9 : decode cX12_laid 9 = .ok (.ifCond .ne 6, 3) := by decide +kernel
theorem dX12_laid_12 : decode cX12_laid 12 = .ok (.ldc 71, 2) := by decide +kernel
theorem dX12_laid_14 : decode cX12_laid 14 = .ok (.ireturn, 1) := by decide +kernel
theorem dX12_laid_15 : decode cX12_laid 15 = .ok (.iconst 0, 1) := by decide +kernel
theorem dX12_laid_16 : decode cX12_laid 16 = .ok (.istore_n 3, 1) := by decide +kernel
theorem dX12_laid_17 : decode cX12_laid 17 = .ok (.iconst 0, 1) := by decide +kernel
theorem dX12_laid_18 : decode cX12_laid 18 = .ok (.istore 4, 2) := by decide +kernel
theorem dX12_laid_20 : decode cX12_laid 20 = .ok (.iload 4, 2) := by decide +kernel
theorem dX12_laid_22 : decode cX12_laid 22 = .ok (.aload_n 0, 1) := by decide +kernel
theorem dX12_laid_23 : decode cX12_laid 23 = .ok (.getfield 13, 3) := by decide +kernel
theorem dX12_laid_26 : decode cX12_laid 26 = .ok (.iconst 0, 1) := by decide +kernel
theorem dX12_laid_27 : decode cX12_laid 27 = .ok (.iaload, 1) := by decide +kernel
theorem dX12_laid_28 : decode cX12_laid 28 = .ok (.if_icmp .ge 33, 3) := by decide +kernel
theorem dX12_laid_31 : decode cX12_laid 31 = .ok (.aload_n 0, 1) := by decide +kernel
theorem dX12_laid_32 : decode cX12_laid 32 = .ok (.getfield 19, 3) := by decide +kernel
theorem dX12_laid_35 : decode cX12_laid 35 = .ok (.iconst 1, 1) := by decide +kernel
theorem dX12_laid_36 : decode cX12_laid 36 = .ok (.iload 4, 2) := by decide +kernel
theorem dX12_laid_38 : decode cX12_laid 38 = .ok (.iadd, 1) := by decide +kernel
theorem dX12_laid_39 : decode cX12_laid 39 = .ok (.iaload, 1) := by decide +kernel
theorem dX12_laid_40 : decode cX12_laid 40 = .ok (.iconst (-1), 1) := by decide +kernel
theorem dX12_laid_41 : decode cX12_laid 41 = .ok (.if_icmp .eq 14, 3) := by decide +kernel
theorem dX12_laid_44 : decode cX12_laid 44 = .ok (.aload_n 0, 1) := by decide +kernel
theorem dX12_laid_45 : decode cX12_laid 45 = .ok (.getfield 31, 3) := by decide +kernel
theorem dX12_laid_48 : decode cX12_laid 48 = .ok (.iload_n 3, 1) := by decide +kernel
theorem dX12_laid_49 : decode cX12_laid 49 = .ok (.iload 4, 2) := by decide +kernel
theorem dX12_laid_51 : decode cX12_laid 51 = .ok (.iastore, 1) := by decide +kernel
theorem dX12_laid_52 : decode cX12_laid 52 = .ok (.iinc 3 1, 3) := by decide +kernel
theorem dX12_laid_55 : decode cX12_laid 55 = .ok (.iinc 4 1, 3) := by decide +kernel
theorem dX12_laid_58 : decode cX12_laid 58 = .ok (.goto (-38), 3) := by decide +kernel
theorem dX12_laid_61 : decode cX12_laid 61 = .ok (.iload_n 3, 1) := by decide +kernel
theorem dX12_laid_62 : decode cX12_laid 62 = .ok (.ifCond .ne 5, 3) := by decide +kernel
theorem dX12_laid_65 : decode cX12_laid 65 = .ok (.iconst (-1), 1) := by decide +kernel
theorem dX12_laid_66 : decode cX12_laid 66 = .ok (.ireturn, 1) := by decide +kernel
theorem dX12_laid_67 : decode cX12_laid 67 = .ok (.aload_n 0, 1) := by decide +kernel
theorem dX12_laid_68 : decode cX12_laid 68 = .ok (.invokevirtual 189, 3) := by decide +kernel
theorem dX12_laid_71 : decode cX12_laid 71 = .ok (.aload_n 0, 1) := by decide +kernel
theorem dX12_laid_72 : decode cX12_laid 72 = .ok (.invokevirtual 122, 3) := by decide +kernel
theorem dX12_laid_75 : decode cX12_laid 75 = .ok (.istore 4, 2) := by decide +kernel
theorem dX12_laid_77 : decode cX12_laid 77 = .ok (.iconst 1, 1) := by decide +kernel
theorem dX12_laid_78 : decode cX12_laid 78 = .ok (.istore 5, 2) := by decide +kernel
theorem dX12_laid_80 : decode cX12_laid 80 = .ok (.iconst 0, 1) := by decide +kernel
theorem dX12_laid_81 : decode cX12_laid 81 = .ok (.istore 6, 2) := by decide +kernel
theorem dX12_laid_83 : decode cX12_laid 83 = .ok (.iload 6, 2) := by decide +kernel
theorem dX12_laid_85 : decode cX12_laid 85 = .ok (.iload_n 3, 1) := by decide +kernel
theorem dX12_laid_86 : decode cX12_laid 86 = .ok (.if_icmp .ge 16, 3) := by decide +kernel
theorem dX12_laid_89 : decode cX12_laid 89 = .ok (.iload 5, 2) := by decide +kernel
theorem dX12_laid_91 : decode cX12_laid 91 = .ok (.bipush 6, 2) := by decide +kernel
theorem dX12_laid_93 : decode cX12_laid 93 = .ok (.imul, 1) := by decide +kernel
theorem dX12_laid_94 : decode cX12_laid 94 = .ok (.istore 5, 2) := by decide +kernel
theorem dX12_laid_96 : decode cX12_laid 96 = .ok (.iinc 6 1, 3) := by decide +kernel
theorem dX12_laid_99 : decode cX12_laid 99 = .ok (.goto (-16), 3) := by decide +kernel
theorem dX12_laid_102 : decode cX12_laid 102 = .ok (.iconst (-1), 1) := by decide +kernel
theorem dX12_laid_103 : decode cX12_laid 103 = .ok (.istore 6, 2) := by decide +kernel
theorem dX12_laid_105 : decode cX12_laid 105 = .ok (.iconst 0, 1) := by decide +kernel
theorem dX12_laid_106 : decode cX12_laid 106 = .ok (.istore 7, 2) := by decide +kernel
theorem dX12_laid_108 : decode cX12_laid 108 = .ok (.iload 7, 2) := by decide +kernel
theorem dX12_laid_110 : decode cX12_laid 110 = .ok (.iload 5, 2) := by decide +kernel
theorem dX12_laid_112 : decode cX12_laid 112 = .ok (.if_icmp .ge 190, 3) := by decide +kernel
theorem dX12_laid_115 : decode cX12_laid 115 = .ok (.iconst 0, 1) := by decide +kernel
theorem dX12_laid_116 : decode cX12_laid 116 = .ok (.istore 8, 2) := by decide +kernel
theorem dX12_laid_118 : decode cX12_laid 118 = .ok (.iload 7, 2) := by decide +kernel
theorem dX12_laid_120 : decode cX12_laid 120 = .ok (.istore 9, 2) := by decide +kernel
theorem dX12_laid_122 : decode cX12_laid 122 = .ok (.iload_n 3, 1) := by decide +kernel
theorem dX12_laid_123 : decode cX12_laid 123 = .ok (.iconst 1, 1) := by decide +kernel
theorem dX12_laid_124 : decode cX12_laid 124 = .ok (.isub, 1) := by decide +kernel
theorem dX12_laid_125 : decode cX12_laid 125 = .ok (.istore 10, 2) := by decide +kernel
theorem dX12_laid_127 : decode cX12_laid 127 = .ok (.iload 10, 2) := by decide +kernel
theorem dX12_laid_129 : decode cX12_laid 129 = .ok (.ifCond .lt 42, 3) := by decide +kernel
theorem dX12_laid_132 : decode cX12_laid 132 = .ok (.aload_n 0, 1) := by decide +kernel
theorem dX12_laid_133 : decode cX12_laid 133 = .ok (.getfield 34, 3) := by decide +kernel
theorem dX12_laid_136 : decode cX12_laid 136 = .ok (.iload 10, 2) := by decide +kernel
theorem dX12_laid_138 : decode cX12_laid 138 = .ok (.iload 9, 2) := by decide +kernel
theorem dX12_laid_140 : decode cX12_laid 140 = .ok (.bipush 6, 2) := by decide +kernel
theorem dX12_laid_142 : decode cX12_laid 142 = .ok (.irem, 1) := by decide +kernel
theorem dX12_laid_143 : decode cX12_laid 143 = .ok (.iastore, 1) := by decide +kernel
theorem dX12_laid_144 : decode cX12_laid 144 = .ok (.iload 9, 2) := by decide +kernel
theorem dX12_laid_146 : decode cX12_laid 146 = .ok (.bipush 6, 2) := by decide +kernel
theorem dX12_laid_148 : decode cX12_laid 148 = .ok (.idiv, 1) := by decide +kernel
theorem dX12_laid_149 : decode cX12_laid 149 = .ok (.istore 9, 2) := by decide +kernel
theorem dX12_laid_151 : decode cX12_laid 151 = .ok (.iload 8, 2) := by decide +kernel
theorem dX12_laid_153 : decode cX12_laid 153 = .ok (.iconst 1, 1) := by decide +kernel
theorem dX12_laid_154 : decode cX12_laid 154 = .ok (.aload_n 0, 1) := by decide +kernel
theorem dX12_laid_155 : decode cX12_laid 155 = .ok (.getfield 34, 3) := by decide +kernel
theorem dX12_laid_158 : decode cX12_laid 158 = .ok (.iload 10, 2) := by decide +kernel
theorem dX12_laid_160 : decode cX12_laid 160 = .ok (.iaload, 1) := by decide +kernel
theorem dX12_laid_161 : decode cX12_laid 161 = .ok (.ishl, 1) := by decide +kernel
theorem dX12_laid_162 : decode cX12_laid 162 = .ok (.ior, 1) := by decide +kernel
theorem dX12_laid_163 : decode cX12_laid 163 = .ok (.istore 8, 2) := by decide +kernel
theorem dX12_laid_165 : decode cX12_laid 165 = .ok (.iinc 10 (-1), 3) := by decide +kernel
theorem dX12_laid_168 : decode cX12_laid 168 = .ok (.goto (-41), 3) := by decide +kernel
theorem dX12_laid_171 : decode cX12_laid 171 = .ok (.iload 8, 2) := by decide +kernel
theorem dX12_laid_173 : decode cX12_laid 173 = .ok (.iload 4, 2) := by decide +kernel
theorem dX12_laid_175 : decode cX12_laid 175 = .ok (.if_icmp .ne 121, 3) := by decide +kernel
theorem dX12_laid_178 : decode cX12_laid 178 = .ok (.iconst 0, 1) := by decide +kernel
theorem dX12_laid_179 : decode cX12_laid 179 = .ok (.istore 10, 2) := by decide +kernel
theorem dX12_laid_181 : decode cX12_laid 181 = .ok (.iload 10, 2) := by decide +kernel
theorem dX12_laid_183 : decode cX12_laid 183 = .ok (.iload_n 3, 1) := by decide +kernel
theorem dX12_laid_184 : decode cX12_laid 184 = .ok (.if_icmp .ge 30, 3) := by decide +kernel
theorem dX12_laid_187 : decode cX12_laid 187 = .ok (.aload_n 0, 1) := by decide +kernel
theorem dX12_laid_188 : decode cX12_laid 188 = .ok (.getfield 19, 3) := by decide +kernel
theorem dX12_laid_191 : decode cX12_laid 191 = .ok (.iconst 1, 1) := by decide +kernel
theorem dX12_laid_192 : decode cX12_laid 192 = .ok (.aload_n 0, 1) := by decide +kernel
theorem dX12_laid_193 : decode cX12_laid 193 = .ok (.getfield 31, 3) := by decide +kernel
theorem dX12_laid_196 : decode cX12_laid 196 = .ok (.iload 10, 2) := by decide +kernel
theorem dX12_laid_198 : decode cX12_laid 198 = .ok (.iaload, 1) := by decide +kernel
theorem dX12_laid_199 : decode cX12_laid 199 = .ok (.iadd, 1) := by decide +kernel
theorem dX12_laid_200 : decode cX12_laid 200 = .ok (.aload_n 0, 1) := by decide +kernel
theorem dX12_laid_201 : decode cX12_laid 201 = .ok (.getfield 34, 3) := by decide +kernel
theorem dX12_laid_204 : decode cX12_laid 204 = .ok (.iload 10, 2) := by decide +kernel
theorem dX12_laid_206 : decode cX12_laid 206 = .ok (.iaload, 1) := by decide +kernel
theorem dX12_laid_207 : decode cX12_laid 207 = .ok (.iastore, 1) := by decide +kernel
theorem dX12_laid_208 : decode cX12_laid 208 = .ok (.iinc 10 1, 3) := by decide +kernel
theorem dX12_laid_211 : decode cX12_laid 211 = .ok (.goto (-30), 3) := by decide +kernel
theorem dX12_laid_214 : decode cX12_laid 214 = .ok (.iconst 0, 1) := by decide +kernel
theorem dX12_laid_215 : decode cX12_laid 215 = .ok (.istore 10, 2) := by decide +kernel
theorem dX12_laid_217 : decode cX12_laid 217 = .ok (.iload 10, 2) := by decide +kernel
theorem dX12_laid_219 : decode cX12_laid 219 = .ok (.iload_n 1, 1) := by decide +kernel
theorem dX12_laid_220 : decode cX12_laid 220 = .ok (.if_icmp .ge 14, 3) := by decide +kernel
theorem dX12_laid_223 : decode cX12_laid 223 = .ok (.aload_n 0, 1) := by decide +kernel
theorem dX12_laid_224 : decode cX12_laid 224 = .ok (.iconst 0, 1) := by decide +kernel
theorem dX12_laid_225 : decode cX12_laid 225 = .ok (.invokevirtual 166, 3) := by decide +kernel
theorem dX12_laid_228 : decode cX12_laid 228 = .ok (.iinc 10 1, 3) := by decide +kernel
theorem dX12_laid_231 : decode cX12_laid 231 = .ok (.goto (-14), 3) := by decide +kernel
theorem dX12_laid_234 : decode cX12_laid 234 = .ok (.aload_n 0, 1) := by decide +kernel
theorem dX12_laid_235 : decode cX12_laid 235 = .ok (.invokevirtual 145, 3) := by decide +kernel
theorem dX12_laid_238 : decode cX12_laid 238 = .ok (.istore 10, 2) := by decide +kernel
theorem dX12_laid_240 : decode cX12_laid 240 = .ok (.iconst 0, 1) := by decide +kernel
theorem dX12_laid_241 : decode cX12_laid 241 = .ok (.istore 11, 2) := by decide +kernel
theorem dX12_laid_243 : decode cX12_laid 243 = .ok (.iload 11, 2) := by decide +kernel
theorem dX12_laid_245 : decode cX12_laid 245 = .ok (.iload_n 3, 1) := by decide +kernel
theorem dX12_laid_246 : decode cX12_laid 246 = .ok (.if_icmp .ge 30, 3) := by decide +kernel
theorem dX12_laid_249 : decode cX12_laid 249 = .ok (.iload 10, 2) := by decide +kernel
theorem dX12_laid_251 : decode cX12_laid 251 = .ok (.iload 6, 2) := by decide +kernel
theorem dX12_laid_253 : decode cX12_laid 253 = .ok (.if_icmp .le 23, 3) := by decide +kernel
theorem dX12_laid_256 : decode cX12_laid 256 = .ok (.aload_n 0, 1) := by decide +kernel
theorem dX12_laid_257 : decode cX12_laid 257 = .ok (.getfield 37, 3) := by decide +kernel
theorem dX12_laid_260 : decode cX12_laid 260 = .ok (.iload 11, 2) := by decide +kernel
theorem dX12_laid_262 : decode cX12_laid 262 = .ok (.aload_n 0, 1) := by decide +kernel
theorem dX12_laid_263 : decode cX12_laid 263 = .ok (.getfield 34, 3) := by decide +kernel
theorem dX12_laid_266 : decode cX12_laid 266 = .ok (.iload 11, 2) := by decide +kernel
theorem dX12_laid_268 : decode cX12_laid 268 = .ok (.iaload, 1) := by decide +kernel
theorem dX12_laid_269 : decode cX12_laid 269 = .ok (.iastore, 1) := by decide +kernel
theorem dX12_laid_270 : decode cX12_laid 270 = .ok (.iinc 11 1, 3) := by decide +kernel
theorem dX12_laid_273 : decode cX12_laid 273 = .ok (.goto (-30), 3) := by decide +kernel
theorem dX12_laid_276 : decode cX12_laid 276 = .ok (.iload 10, 2) := by decide +kernel
theorem dX12_laid_278 : decode cX12_laid 278 = .ok (.iload 6, 2) := by decide +kernel
theorem dX12_laid_280 : decode cX12_laid 280 = .ok (.if_icmp .le 8, 3) := by decide +kernel
theorem dX12_laid_283 : decode cX12_laid 283 = .ok (.iload 10, 2) := by decide +kernel
theorem dX12_laid_285 : decode cX12_laid 285 = .ok (.goto 5, 3) := by decide +kernel
theorem dX12_laid_288 : decode cX12_laid 288 = .ok (.iload 6, 2) := by decide +kernel
theorem dX12_laid_290 : decode cX12_laid 290 = .ok (.istore 6, 2) := by decide +kernel
theorem dX12_laid_292 : decode cX12_laid 292 = .ok (.aload_n 0, 1) := by decide +kernel
theorem dX12_laid_293 : decode cX12_laid 293 = .ok (.invokevirtual 195, 3) := by decide +kernel
theorem dX12_laid_296 : decode cX12_laid 296 = .ok (.iinc 7 1, 3) := by decide +kernel
theorem dX12_laid_299 : decode cX12_laid 299 = .ok (.goto (-191), 3) := by decide +kernel
theorem dX12_laid_302 : decode cX12_laid 302 = .ok (.iload_n 2, 1) := by decide +kernel
theorem dX12_laid_303 : decode cX12_laid 303 = .ok (.iconst (-1), 1) := by decide +kernel
theorem dX12_laid_304 : decode cX12_laid 304 = .ok (.if_icmp .ne 8, 3) := by decide +kernel
theorem dX12_laid_307 : decode cX12_laid 307 = .ok (.iload 6, 2) := by decide +kernel
theorem dX12_laid_309 : decode cX12_laid 309 = .ok (.goto 26, 3) := by decide +kernel
theorem dX12_laid_312 : decode cX12_laid 312 = .ok (.iload_n 2, 1) := by decide +kernel
theorem dX12_laid_313 : decode cX12_laid 313 = .ok (.i2l, 1) := by decide +kernel
theorem dX12_laid_314 : decode cX12_laid 314 = .ok (.lconst 0, 1) := by decide +kernel
theorem dX12_laid_315 : decode cX12_laid 315 = .ok (.iload_n 3, 1) := by decide +kernel
theorem dX12_laid_316 : decode cX12_laid 316 = .ok (.iconst 1, 1) := by decide +kernel
theorem dX12_laid_317 : decode cX12_laid 317 = .ok (.isub, 1) := by decide +kernel
theorem dX12_laid_318 : decode cX12_laid 318 = .ok (.i2l, 1) := by decide +kernel
theorem dX12_laid_319 : decode cX12_laid 319 = .ok (.invokestatic 67, 3) := by decide +kernel
theorem dX12_laid_322 : decode cX12_laid 322 = .ok (.ifCond .eq 12, 3) := by decide +kernel
theorem dX12_laid_325 : decode cX12_laid 325 = .ok (.aload_n 0, 1) := by decide +kernel
theorem dX12_laid_326 : decode cX12_laid 326 = .ok (.getfield 37, 3) := by decide +kernel
theorem dX12_laid_329 : decode cX12_laid 329 = .ok (.iload_n 2, 1) := by decide +kernel
theorem dX12_laid_330 : decode cX12_laid 330 = .ok (.iaload, 1) := by decide +kernel
theorem dX12_laid_331 : decode cX12_laid 331 = .ok (.goto 4, 3) := by decide +kernel
theorem dX12_laid_334 : decode cX12_laid 334 = .ok (.iconst (-1), 1) := by decide +kernel
theorem dX12_laid_335 : decode cX12_laid 335 = .ok (.ireturn, 1) := by decide +kernel
theorem dX12_change_0 : decode cX12_change 0 = .ok (.aload_n 0, 1) := by decide +kernel
theorem dX12_change_1 : decode cX12_change 1 = .ok (.invokevirtual 189, 3) := by decide +kernel
theorem dX12_change_4 : decode cX12_change 4 = .ok (.aload_n 0, 1) := by decide +kernel
theorem dX12_change_5 : decode cX12_change 5 = .ok (.iconst 0, 1) := by decide +kernel
theorem dX12_change_6 : decode cX12_change 6 = .ok (.invokevirtual 166, 3) := by decide +kernel
theorem dX12_change_9 : decode cX12_change 9 = .ok (.iconst 0, 1) := by decide +kernel
theorem dX12_change_10 : decode cX12_change 10 = .ok (.istore_n 2, 1) := by decide +kernel
theorem dX12_change_11 : decode cX12_change 11 = .ok (.iload_n 2, 1) := by decide +kernel
theorem dX12_change_12 : decode cX12_change 12 = .ok (.aload_n 0, 1) := by decide +kernel
theorem dX12_change_13 : decode cX12_change 13 = .ok (.getfield 13, 3) := by decide +kernel
theorem dX12_change_16 : decode cX12_change 16 = .ok (.iconst 2, 1) := by decide +kernel
theorem dX12_change_17 : decode cX12_change 17 = .ok (.iaload, 1) := by decide +kernel
theorem dX12_change_18 : decode cX12_change 18 = .ok (.if_icmp .ge 24, 3) := by decide +kernel
theorem dX12_change_21 : decode cX12_change 21 = .ok (.aload_n 0, 1) := by decide +kernel
theorem dX12_change_22 : decode cX12_change 22 = .ok (.getfield 34, 3) := by decide +kernel
theorem dX12_change_25 : decode cX12_change 25 = .ok (.iload_n 2, 1) := by decide +kernel
theorem dX12_change_26 : decode cX12_change 26 = .ok (.aload_n 0, 1) := by decide +kernel
theorem dX12_change_27 : decode cX12_change 27 = .ok (.getfield 19, 3) := by decide +kernel
theorem dX12_change_30 : decode cX12_change 30 = .ok (.bipush 7, 2) := by decide +kernel
theorem dX12_change_32 : decode cX12_change 32 = .ok (.iload_n 2, 1) := by decide +kernel
theorem dX12_change_33 : decode cX12_change 33 = .ok (.iadd, 1) := by decide +kernel
theorem dX12_change_34 : decode cX12_change 34 = .ok (.iaload, 1) := by decide +kernel
theorem dX12_change_35 : decode cX12_change 35 = .ok (.iastore, 1) := by decide +kernel
theorem dX12_change_36 : decode cX12_change 36 = .ok (.iinc 2 1, 3) := by decide +kernel
theorem dX12_change_39 : decode cX12_change 39 = .ok (.goto (-28), 3) := by decide +kernel
theorem dX12_change_42 : decode cX12_change 42 = .ok (.aload_n 0, 1) := by decide +kernel
theorem dX12_change_43 : decode cX12_change 43 = .ok (.invokevirtual 195, 3) := by decide +kernel
theorem dX12_change_46 : decode cX12_change 46 = .ok (.iconst 0, 1) := by decide +kernel
theorem dX12_change_47 : decode cX12_change 47 = .ok (.istore_n 2, 1) := by decide +kernel
theorem dX12_change_48 : decode cX12_change 48 = .ok (.iconst (-1), 1) := by decide +kernel
theorem dX12_change_49 : decode cX12_change 49 = .ok (.istore_n 3, 1) := by decide +kernel
theorem dX12_change_50 : decode cX12_change 50 = .ok (.iconst 0, 1) := by decide +kernel
theorem dX12_change_51 : decode cX12_change 51 = .ok (.istore 4, 2) := by decide +kernel
theorem dX12_change_53 : decode cX12_change 53 = .ok (.iload 4, 2) := by decide +kernel
theorem dX12_change_55 : decode cX12_change 55 = .ok (.aload_n 0, 1) := by decide +kernel
theorem dX12_change_56 : decode cX12_change 56 = .ok (.getfield 13, 3) := by decide +kernel
theorem dX12_change_59 : decode cX12_change 59 = .ok (.iconst 2, 1) := by decide +kernel
theorem dX12_change_60 : decode cX12_change 60 = .ok (.iaload, 1) := by decide +kernel
theorem dX12_change_61 : decode cX12_change 61 = .ok (.if_icmp .ge 174, 3) := by decide +kernel
theorem dX12_change_64 : decode cX12_change 64 = .ok (.iload 4, 2) := by decide +kernel
theorem dX12_change_66 : decode cX12_change 66 = .ok (.iconst 1, 1) := by decide +kernel
theorem dX12_change_67 : decode cX12_change 67 = .ok (.iadd, 1) := by decide +kernel
theorem dX12_change_68 : decode cX12_change 68 = .ok (.istore 5, 2) := by decide +kernel
theorem dX12_change_70 : decode cX12_change 70 = .ok (.iload 5, 2) := by decide +kernel
theorem dX12_change_72 : decode cX12_change 72 = .ok (.aload_n 0, 1) := by decide +kernel
theorem dX12_change_73 : decode cX12_change 73 = .ok (.getfield 13, 3) := by decide +kernel
theorem dX12_change_76 : decode cX12_change 76 = .ok (.iconst 2, 1) := by decide +kernel
theorem dX12_change_77 : decode cX12_change 77 = .ok (.iaload, 1) := by decide +kernel
theorem dX12_change_78 : decode cX12_change 78 = .ok (.if_icmp .ge 151, 3) := by decide +kernel
theorem dX12_change_81 : decode cX12_change 81 = .ok (.aload_n 0, 1) := by decide +kernel
theorem dX12_change_82 : decode cX12_change 82 = .ok (.iload 4, 2) := by decide +kernel
theorem dX12_change_84 : decode cX12_change 84 = .ok (.invokevirtual 133, 3) := by decide +kernel
theorem dX12_change_87 : decode cX12_change 87 = .ok (.istore 6, 2) := by decide +kernel
theorem dX12_change_89 : decode cX12_change 89 = .ok (.aload_n 0, 1) := by decide +kernel
theorem dX12_change_90 : decode cX12_change 90 = .ok (.iload 5, 2) := by decide +kernel
theorem dX12_change_92 : decode cX12_change 92 = .ok (.invokevirtual 133, 3) := by decide +kernel
theorem dX12_change_95 : decode cX12_change 95 = .ok (.istore 7, 2) := by decide +kernel
theorem dX12_change_97 : decode cX12_change 97 = .ok (.iload 6, 2) := by decide +kernel
theorem dX12_change_99 : decode cX12_change 99 = .ok (.iconst (-1), 1) := by decide +kernel
theorem dX12_change_100 : decode cX12_change 100 = .ok (.if_icmp .eq 123, 3) := by decide +kernel
theorem dX12_change_103 : decode cX12_change 103 = .ok (.iload 7, 2) := by decide +kernel
theorem dX12_change_105 : decode cX12_change 105 = .ok (.iconst (-1), 1) := by decide +kernel
theorem dX12_change_106 : decode cX12_change 106 = .ok (.if_icmp .eq 117, 3) := by decide +kernel
theorem dX12_change_109 : decode cX12_change 109 = .ok (.aload_n 0, 1) := by decide +kernel
theorem dX12_change_110 : decode cX12_change 110 = .ok (.getfield 19, 3) := by decide +kernel
theorem dX12_change_113 : decode cX12_change 113 = .ok (.iconst 1, 1) := by decide +kernel
theorem dX12_change_114 : decode cX12_change 114 = .ok (.iload 6, 2) := by decide +kernel
theorem dX12_change_116 : decode cX12_change 116 = .ok (.iadd, 1) := by decide +kernel
theorem dX12_change_117 : decode cX12_change 117 = .ok (.iload 5, 2) := by decide +kernel
theorem dX12_change_119 : decode cX12_change 119 = .ok (.iastore, 1) := by decide +kernel
theorem dX12_change_120 : decode cX12_change 120 = .ok (.aload_n 0, 1) := by decide +kernel
theorem dX12_change_121 : decode cX12_change 121 = .ok (.getfield 19, 3) := by decide +kernel
theorem dX12_change_124 : decode cX12_change 124 = .ok (.iconst 1, 1) := by decide +kernel
theorem dX12_change_125 : decode cX12_change 125 = .ok (.iload 7, 2) := by decide +kernel
theorem dX12_change_127 : decode cX12_change 127 = .ok (.iadd, 1) := by decide +kernel
theorem dX12_change_128 : decode cX12_change 128 = .ok (.iload 4, 2) := by decide +kernel
theorem dX12_change_130 : decode cX12_change 130 = .ok (.iastore, 1) := by decide +kernel
theorem dX12_change_131 : decode cX12_change 131 = .ok (.aload_n 0, 1) := by decide +kernel
theorem dX12_change_132 : decode cX12_change 132 = .ok (.iconst 0, 1) := by decide +kernel
theorem dX12_change_133 : decode cX12_change 133 = .ok (.invokevirtual 166, 3) := by decide +kernel
theorem dX12_change_136 : decode cX12_change 136 = .ok (.aload_n 0, 1) := by decide +kernel
theorem dX12_change_137 : decode cX12_change 137 = .ok (.getfield 19, 3) := by decide +kernel
theorem dX12_change_140 : decode cX12_change 140 = .ok (.bipush 7, 2) := by decide +kernel
theorem dX12_change_142 : decode cX12_change 142 = .ok (.iload 4, 2) := by decide +kernel
theorem dX12_change_144 : decode cX12_change 144 = .ok (.iadd, 1) := by decide +kernel
theorem dX12_change_145 : decode cX12_change 145 = .ok (.iaload, 1) := by decide +kernel
theorem dX12_change_146 : decode cX12_change 146 = .ok (.aload_n 0, 1) := by decide +kernel
theorem dX12_change_147 : decode cX12_change 147 = .ok (.getfield 34, 3) := by decide +kernel
theorem dX12_change_150 : decode cX12_change 150 = .ok (.iload 4, 2) := by decide +kernel
theorem dX12_change_152 : decode cX12_change 152 = .ok (.iaload, 1) := by decide +kernel
theorem dX12_change_153 : decode cX12_change 153 = .ok (.if_icmp .le 27, 3) := by decide +kernel
theorem dX12_change_156 : decode cX12_change 156 = .ok (.aload_n 0, 1) := by decide +kernel
theorem dX12_change_157 : decode cX12_change 157 = .ok (.getfield 19, 3) := by decide +kernel
theorem dX12_change_160 : decode cX12_change 160 = .ok (.bipush 7, 2) := by decide +kernel
theorem dX12_change_162 : decode cX12_change 162 = .ok (.iload 5, 2) := by decide +kernel
theorem dX12_change_164 : decode cX12_change 164 = .ok (.iadd, 1) := by decide +kernel
theorem dX12_change_165 : decode cX12_change 165 = .ok (.iaload, 1) := by decide +kernel
theorem dX12_change_166 : decode cX12_change 166 = .ok (.aload_n 0, 1) := by decide +kernel
theorem dX12_change_167 : decode cX12_change 167 = .ok (.getfield 34, 3) := by decide +kernel
theorem dX12_change_170 : decode cX12_change 170 = .ok (.iload 5, 2) := by decide +kernel
theorem dX12_change_172 : decode cX12_change 172 = .ok (.iaload, 1) := by decide +kernel
theorem dX12_change_173 : decode cX12_change 173 = .ok (.if_icmp .le 7, 3) := by decide +kernel
theorem dX12_change_176 : decode cX12_change 176 = .ok (.iconst 1, 1) := by decide +kernel
theorem dX12_change_177 : decode cX12_change 177 = .ok (.goto 4, 3) := by decide +kernel
theorem dX12_change_180 : decode cX12_change 180 = .ok (.iconst 0, 1) := by decide +kernel
theorem dX12_change_181 : decode cX12_change 181 = .ok (.istore 8, 2) := by decide +kernel
theorem dX12_change_183 : decode cX12_change 183 = .ok (.aload_n 0, 1) := by decide +kernel
theorem dX12_change_184 : decode cX12_change 184 = .ok (.invokevirtual 195, 3) := by decide +kernel
theorem dX12_change_187 : decode cX12_change 187 = .ok (.iload 8, 2) := by decide +kernel
theorem dX12_change_189 : decode cX12_change 189 = .ok (.ifCond .eq 19, 3) := by decide +kernel
theorem dX12_change_192 : decode cX12_change 192 = .ok (.iload_n 2, 1) := by decide +kernel
theorem dX12_change_193 : decode cX12_change 193 = .ok (.iload_n 1, 1) := by decide +kernel
theorem dX12_change_194 : decode cX12_change 194 = .ok (.if_icmp .ne 14, 3) := by decide +kernel
theorem dX12_change_197 : decode cX12_change 197 = .ok (.bipush 10, 2) := by decide +kernel
theorem dX12_change_199 : decode cX12_change 199 = .ok (.iload 4, 2) := by decide +kernel
theorem dX12_change_201 : decode cX12_change 201 = .ok (.imul, 1) := by decide +kernel
theorem dX12_change_202 : decode cX12_change 202 = .ok (.iload 5, 2) := by decide +kernel
theorem dX12_change_204 : decode cX12_change 204 = .ok (.iadd, 1) := by decide +kernel
theorem dX12_change_205 : decode cX12_change 205 = .ok (.goto 4, 3) := by decide +kernel
theorem dX12_change_208 : decode cX12_change 208 = .ok (.iload_n 3, 1) := by decide +kernel
theorem dX12_change_209 : decode cX12_change 209 = .ok (.istore_n 3, 1) := by decide +kernel
theorem dX12_change_210 : decode cX12_change 210 = .ok (.iload_n 2, 1) := by decide +kernel
theorem dX12_change_211 : decode cX12_change 211 = .ok (.iload 8, 2) := by decide +kernel
theorem dX12_change_213 : decode cX12_change 213 = .ok (.ifCond .eq 7, 3) := by decide +kernel
theorem dX12_change_216 : decode cX12_change 216 = .ok (.iconst 1, 1) := by decide +kernel
theorem dX12_change_217 : decode cX12_change 217 = .ok (.goto 4, 3) := by decide +kernel
theorem dX12_change_220 : decode cX12_change 220 = .ok (.iconst 0, 1) := by decide +kernel
theorem dX12_change_221 : decode cX12_change 221 = .ok (.iadd, 1) := by decide +kernel
theorem dX12_change_222 : decode cX12_change 222 = .ok (.istore_n 2, 1) := by decide +kernel
theorem dX12_change_223 : decode cX12_change 223 = .ok (.iinc 5 1, 3) := by decide +kernel
theorem dX12_change_226 : decode cX12_change 226 = .ok (.goto (-156), 3) := by decide +kernel
theorem dX12_change_229 : decode cX12_change 229 = .ok (.iinc 4 1, 3) := by decide +kernel
theorem dX12_change_232 : decode cX12_change 232 = .ok (.goto (-179), 3) := by decide +kernel
theorem dX12_change_235 : decode cX12_change 235 = .ok (.iload_n 1, 1) := by decide +kernel
theorem dX12_change_236 : decode cX12_change 236 = .ok (.iconst (-1), 1) := by decide +kernel
theorem dX12_change_237 : decode cX12_change 237 = .ok (.if_icmp .ne 7, 3) := by decide +kernel
theorem dX12_change_240 : decode cX12_change 240 = .ok (.iload_n 2, 1) := by decide +kernel
theorem dX12_change_241 : decode cX12_change 241 = .ok (.goto 4, 3) := by decide +kernel
theorem dX12_change_244 : decode cX12_change 244 = .ok (.iload_n 3, 1) := by decide +kernel
theorem dX12_change_245 : decode cX12_change 245 = .ok (.ireturn, 1) := by decide +kernel
theorem dX12_isState_0 : decode cX12_isState 0 = .ok (.iconst 1, 1) := by decide +kernel
theorem dX12_isState_1 : decode cX12_isState 1 = .ok (.istore_n 2, 1) := by decide +kernel
theorem dX12_isState_2 : decode cX12_isState 2 = .ok (.iconst 1, 1) := by decide +kernel
theorem dX12_isState_3 : decode cX12_isState 3 = .ok (.istore_n 3, 1) := by decide +kernel
theorem dX12_isState_4 : decode cX12_isState 4 = .ok (.iload_n 3, 1) := by decide +kernel
theorem dX12_isState_5 : decode cX12_isState 5 = .ok (.bipush 13, 2) := by decide +kernel
theorem dX12_isState_7 : decode cX12_isState 7 = .ok (.if_icmp .ge 41, 3) := by decide +kernel
theorem dX12_isState_10 : decode cX12_isState 10 = .ok (.iload_n 2, 1) := by decide +kernel
theorem dX12_isState_11 : decode cX12_isState 11 = .ok (.ifCond .eq 29, 3) := by decide +kernel
theorem dX12_isState_14 : decode cX12_isState 14 = .ok (.aload_n 0, 1) := by decide +kernel
theorem dX12_isState_15 : decode cX12_isState 15 = .ok (.getfield 40, 3) := by decide +kernel
theorem dX12_isState_18 : decode cX12_isState 18 = .ok (.bipush 12, 2) := by decide +kernel
theorem dX12_isState_20 : decode cX12_isState 20 = .ok (.iload_n 1, 1) := by decide +kernel
theorem dX12_isState_21 : decode cX12_isState 21 = .ok (.imul, 1) := by decide +kernel
theorem dX12_isState_22 : decode cX12_isState 22 = .ok (.iload_n 3, 1) := by decide +kernel
theorem dX12_isState_23 : decode cX12_isState 23 = .ok (.iadd, 1) := by decide +kernel
theorem dX12_isState_24 : decode cX12_isState 24 = .ok (.iconst 1, 1) := by decide +kernel
theorem dX12_isState_25 : decode cX12_isState 25 = .ok (.isub, 1) := by decide +kernel
theorem dX12_isState_26 : decode cX12_isState 26 = .ok (.iaload, 1) := by decide +kernel
theorem dX12_isState_27 : decode cX12_isState 27 = .ok (.aload_n 0, 1) := by decide +kernel
theorem dX12_isState_28 : decode cX12_isState 28 = .ok (.getfield 19, 3) := by decide +kernel
theorem dX12_isState_31 : decode cX12_isState 31 = .ok (.iload_n 3, 1) := by decide +kernel
theorem dX12_isState_32 : decode cX12_isState 32 = .ok (.iaload, 1) := by decide +kernel
theorem dX12_isState_33 : decode cX12_isState 33 = .ok (.if_icmp .ne 7, 3) := by decide +kernel
theorem dX12_isState_36 : decode cX12_isState 36 = .ok (.iconst 1, 1) := by decide +kernel
theorem dX12_isState_37 : decode cX12_isState 37 = .ok (.goto 4, 3) := by decide +kernel
theorem dX12_isState_40 : decode cX12_isState 40 = .ok (.iconst 0, 1) := by decide +kernel
theorem dX12_isState_41 : decode cX12_isState 41 = .ok (.istore_n 2, 1) := by decide +kernel
theorem dX12_isState_42 : decode cX12_isState 42 = .ok (.iinc 3 1, 3) := by decide +kernel
theorem dX12_isState_45 : decode cX12_isState 45 = .ok (.goto (-41), 3) := by decide +kernel
theorem dX12_isState_48 : decode cX12_isState 48 = .ok (.iload_n 2, 1) := by decide +kernel
theorem dX12_isState_49 : decode cX12_isState 49 = .ok (.ireturn, 1) := by decide +kernel
theorem dX12_hottest_0 : decode cX12_hottest 0 = .ok (.iconst 0, 1) := by decide +kernel
theorem dX12_hottest_1 : decode cX12_hottest 1 = .ok (.istore_n 1, 1) := by decide +kernel
theorem dX12_hottest_2 : decode cX12_hottest 2 = .ok (.iconst 1, 1) := by decide +kernel
theorem dX12_hottest_3 : decode cX12_hottest 3 = .ok (.istore_n 2, 1) := by decide +kernel
theorem dX12_hottest_4 : decode cX12_hottest 4 = .ok (.iload_n 2, 1) := by decide +kernel
theorem dX12_hottest_5 : decode cX12_hottest 5 = .ok (.aload_n 0, 1) := by decide +kernel
theorem dX12_hottest_6 : decode cX12_hottest 6 = .ok (.getfield 13, 3) := by decide +kernel
theorem dX12_hottest_9 : decode cX12_hottest 9 = .ok (.iconst 0, 1) := by decide +kernel
theorem dX12_hottest_10 : decode cX12_hottest 10 = .ok (.iaload, 1) := by decide +kernel
theorem dX12_hottest_11 : decode cX12_hottest 11 = .ok (.if_icmp .ge 36, 3) := by decide +kernel
theorem dX12_hottest_14 : decode cX12_hottest 14 = .ok (.aload_n 0, 1) := by decide +kernel
theorem dX12_hottest_15 : decode cX12_hottest 15 = .ok (.getfield 13, 3) := by decide +kernel
theorem dX12_hottest_18 : decode cX12_hottest 18 = .ok (.bipush 6, 2) := by decide +kernel
theorem dX12_hottest_20 : decode cX12_hottest 20 = .ok (.iload_n 2, 1) := by decide +kernel
theorem dX12_hottest_21 : decode cX12_hottest 21 = .ok (.iadd, 1) := by decide +kernel
theorem dX12_hottest_22 : decode cX12_hottest 22 = .ok (.iaload, 1) := by decide +kernel
theorem dX12_hottest_23 : decode cX12_hottest 23 = .ok (.aload_n 0, 1) := by decide +kernel
theorem dX12_hottest_24 : decode cX12_hottest 24 = .ok (.getfield 13, 3) := by decide +kernel
theorem dX12_hottest_27 : decode cX12_hottest 27 = .ok (.bipush 6, 2) := by decide +kernel
theorem dX12_hottest_29 : decode cX12_hottest 29 = .ok (.iload_n 1, 1) := by decide +kernel
theorem dX12_hottest_30 : decode cX12_hottest 30 = .ok (.iadd, 1) := by decide +kernel
theorem dX12_hottest_31 : decode cX12_hottest 31 = .ok (.iaload, 1) := by decide +kernel
theorem dX12_hottest_32 : decode cX12_hottest 32 = .ok (.if_icmp .le 7, 3) := by decide +kernel
theorem dX12_hottest_35 : decode cX12_hottest 35 = .ok (.iload_n 2, 1) := by decide +kernel
theorem dX12_hottest_36 : decode cX12_hottest 36 = .ok (.goto 4, 3) := by decide +kernel
theorem dX12_hottest_39 : decode cX12_hottest 39 = .ok (.iload_n 1, 1) := by decide +kernel
theorem dX12_hottest_40 : decode cX12_hottest 40 = .ok (.istore_n 1, 1) := by decide +kernel
theorem dX12_hottest_41 : decode cX12_hottest 41 = .ok (.iinc 2 1, 3) := by decide +kernel
theorem dX12_hottest_44 : decode cX12_hottest 44 = .ok (.goto (-40), 3) := by decide +kernel
theorem dX12_hottest_47 : decode cX12_hottest 47 = .ok (.iload_n 1, 1) := by decide +kernel
theorem dX12_hottest_48 : decode cX12_hottest 48 = .ok (.ireturn, 1) := by decide +kernel
theorem dX12_steady_0 : decode cX12_steady 0 = .ok (.iload_n 1, 1) := by decide +kernel
theorem dX12_steady_1 : decode cX12_steady 1 = .ok (.iconst (-1), 1) := by decide +kernel
theorem dX12_steady_2 : decode cX12_steady 2 = .ok (.if_icmp .eq 14, 3) := by decide +kernel
theorem dX12_steady_5 : decode cX12_steady 5 = .ok (.aload_n 0, 1) := by decide +kernel
theorem dX12_steady_6 : decode cX12_steady 6 = .ok (.iload_n 1, 1) := by decide +kernel
theorem dX12_steady_7 : decode cX12_steady 7 = .ok (.invokevirtual 153, 3) := by decide +kernel
theorem dX12_steady_10 : decode cX12_steady 10 = .ok (.ifCond .ne 6, 3) := by decide +kernel
theorem dX12_steady_13 : decode cX12_steady 13 = .ok (.ldc 152, 2) := by decide +kernel
theorem dX12_steady_15 : decode cX12_steady 15 = .ok (.ireturn, 1) := by decide +kernel
theorem dX12_steady_16 : decode cX12_steady 16 = .ok (.aload_n 0, 1) := by decide +kernel
theorem dX12_steady_17 : decode cX12_steady 17 = .ok (.getfield 13, 3) := by decide +kernel
theorem dX12_steady_20 : decode cX12_steady 20 = .ok (.iconst 0, 1) := by decide +kernel
theorem dX12_steady_21 : decode cX12_steady 21 = .ok (.iaload, 1) := by decide +kernel
theorem dX12_steady_22 : decode cX12_steady 22 = .ok (.ifCond .ne 6, 3) := by decide +kernel
theorem dX12_steady_25 : decode cX12_steady 25 = .ok (.ldc 158, 2) := by decide +kernel
theorem dX12_steady_27 : decode cX12_steady 27 = .ok (.ireturn, 1) := by decide +kernel
theorem dX12_steady_28 : decode cX12_steady 28 = .ok (.aload_n 0, 1) := by decide +kernel
theorem dX12_steady_29 : decode cX12_steady 29 = .ok (.invokevirtual 189, 3) := by decide +kernel
theorem dX12_steady_32 : decode cX12_steady 32 = .ok (.iconst (-1), 1) := by decide +kernel
theorem dX12_steady_33 : decode cX12_steady 33 = .ok (.istore_n 2, 1) := by decide +kernel
theorem dX12_steady_34 : decode cX12_steady 34 = .ok (.iconst 0, 1) := by decide +kernel
theorem dX12_steady_35 : decode cX12_steady 35 = .ok (.istore_n 3, 1) := by decide +kernel
theorem dX12_steady_36 : decode cX12_steady 36 = .ok (.iload_n 3, 1) := by decide +kernel
theorem dX12_steady_37 : decode cX12_steady 37 = .ok (.sipush 201, 3) := by decide +kernel
theorem dX12_steady_40 : decode cX12_steady 40 = .ok (.if_icmp .ge 123, 3) := by decide +kernel
theorem dX12_steady_43 : decode cX12_steady 43 = .ok (.iload_n 2, 1) := by decide +kernel
theorem dX12_steady_44 : decode cX12_steady 44 = .ok (.iconst (-1), 1) := by decide +kernel
theorem dX12_steady_45 : decode cX12_steady 45 = .ok (.if_icmp .ne 118, 3) := by decide +kernel
theorem dX12_steady_48 : decode cX12_steady 48 = .ok (.iload_n 3, 1) := by decide +kernel
theorem dX12_steady_49 : decode cX12_steady 49 = .ok (.iconst 1, 1) := by decide +kernel
theorem dX12_steady_50 : decode cX12_steady 50 = .ok (.isub, 1) := by decide +kernel
theorem dX12_steady_51 : decode cX12_steady 51 = .ok (.istore 4, 2) := by decide +kernel
theorem dX12_steady_53 : decode cX12_steady 53 = .ok (.iload 4, 2) := by decide +kernel
theorem dX12_steady_55 : decode cX12_steady 55 = .ok (.ifCond .lt 32, 3) := by decide +kernel
theorem dX12_steady_58 : decode cX12_steady 58 = .ok (.iload_n 2, 1) := by decide +kernel
theorem dX12_steady_59 : decode cX12_steady 59 = .ok (.iconst (-1), 1) := by decide +kernel
theorem dX12_steady_60 : decode cX12_steady 60 = .ok (.if_icmp .ne 27, 3) := by decide +kernel
theorem dX12_steady_63 : decode cX12_steady 63 = .ok (.aload_n 0, 1) := by decide +kernel
theorem dX12_steady_64 : decode cX12_steady 64 = .ok (.iload 4, 2) := by decide +kernel
theorem dX12_steady_66 : decode cX12_steady 66 = .ok (.invokevirtual 213, 3) := by decide +kernel
theorem dX12_steady_69 : decode cX12_steady 69 = .ok (.ifCond .eq 10, 3) := by decide +kernel
theorem dX12_steady_72 : decode cX12_steady 72 = .ok (.iload_n 3, 1) := by decide +kernel
theorem dX12_steady_73 : decode cX12_steady 73 = .ok (.iload 4, 2) := by decide +kernel
theorem dX12_steady_75 : decode cX12_steady 75 = .ok (.isub, 1) := by decide +kernel
theorem dX12_steady_76 : decode cX12_steady 76 = .ok (.goto 4, 3) := by decide +kernel
theorem dX12_steady_79 : decode cX12_steady 79 = .ok (.iconst (-1), 1) := by decide +kernel
theorem dX12_steady_80 : decode cX12_steady 80 = .ok (.istore_n 2, 1) := by decide +kernel
theorem dX12_steady_81 : decode cX12_steady 81 = .ok (.iinc 4 (-1), 3) := by decide +kernel
theorem dX12_steady_84 : decode cX12_steady 84 = .ok (.goto (-31), 3) := by decide +kernel
theorem dX12_steady_87 : decode cX12_steady 87 = .ok (.iconst 1, 1) := by decide +kernel
theorem dX12_steady_88 : decode cX12_steady 88 = .ok (.istore 4, 2) := by decide +kernel
theorem dX12_steady_90 : decode cX12_steady 90 = .ok (.iload 4, 2) := by decide +kernel
theorem dX12_steady_92 : decode cX12_steady 92 = .ok (.bipush 13, 2) := by decide +kernel
theorem dX12_steady_94 : decode cX12_steady 94 = .ok (.if_icmp .ge 30, 3) := by decide +kernel
theorem dX12_steady_97 : decode cX12_steady 97 = .ok (.aload_n 0, 1) := by decide +kernel
theorem dX12_steady_98 : decode cX12_steady 98 = .ok (.getfield 40, 3) := by decide +kernel
theorem dX12_steady_101 : decode cX12_steady 101 = .ok (.bipush 12, 2) := by decide +kernel
theorem dX12_steady_103 : decode cX12_steady 103 = .ok (.iload_n 3, 1) := by decide +kernel
theorem dX12_steady_104 : decode cX12_steady 104 = .ok (.imul, 1) := by decide +kernel
theorem dX12_steady_105 : decode cX12_steady 105 = .ok (.iload 4, 2) := by decide +kernel
theorem dX12_steady_107 : decode cX12_steady 107 = .ok (.iadd, 1) := by decide +kernel
theorem dX12_steady_108 : decode cX12_steady 108 = .ok (.iconst 1, 1) := by decide +kernel
theorem dX12_steady_109 : decode cX12_steady 109 = .ok (.isub, 1) := by decide +kernel
theorem dX12_steady_110 : decode cX12_steady 110 = .ok (.aload_n 0, 1) := by decide +kernel
theorem dX12_steady_111 : decode cX12_steady 111 = .ok (.getfield 19, 3) := by decide +kernel
theorem dX12_steady_114 : decode cX12_steady 114 = .ok (.iload 4, 2) := by decide +kernel
theorem dX12_steady_116 : decode cX12_steady 116 = .ok (.iaload, 1) := by decide +kernel
theorem dX12_steady_117 : decode cX12_steady 117 = .ok (.iastore, 1) := by decide +kernel
theorem dX12_steady_118 : decode cX12_steady 118 = .ok (.iinc 4 1, 3) := by decide +kernel
theorem dX12_steady_121 : decode cX12_steady 121 = .ok (.goto (-31), 3) := by decide +kernel
theorem dX12_steady_124 : decode cX12_steady 124 = .ok (.iconst 0, 1) := by decide +kernel
theorem dX12_steady_125 : decode cX12_steady 125 = .ok (.istore 4, 2) := by decide +kernel
theorem dX12_steady_127 : decode cX12_steady 127 = .ok (.iload 4, 2) := by decide +kernel
theorem dX12_steady_129 : decode cX12_steady 129 = .ok (.aload_n 0, 1) := by decide +kernel
theorem dX12_steady_130 : decode cX12_steady 130 = .ok (.getfield 13, 3) := by decide +kernel
theorem dX12_steady_133 : decode cX12_steady 133 = .ok (.iconst 3, 1) := by decide +kernel
theorem dX12_steady_134 : decode cX12_steady 134 = .ok (.iaload, 1) := by decide +kernel
theorem dX12_steady_135 : decode cX12_steady 135 = .ok (.if_icmp .ge 22, 3) := by decide +kernel
theorem dX12_steady_138 : decode cX12_steady 138 = .ok (.iload_n 2, 1) := by decide +kernel
theorem dX12_steady_139 : decode cX12_steady 139 = .ok (.iconst (-1), 1) := by decide +kernel
theorem dX12_steady_140 : decode cX12_steady 140 = .ok (.if_icmp .ne 17, 3) := by decide +kernel
theorem dX12_steady_143 : decode cX12_steady 143 = .ok (.aload_n 0, 1) := by decide +kernel
theorem dX12_steady_144 : decode cX12_steady 144 = .ok (.aload_n 0, 1) := by decide +kernel
theorem dX12_steady_145 : decode cX12_steady 145 = .ok (.invokevirtual 171, 3) := by decide +kernel
theorem dX12_steady_148 : decode cX12_steady 148 = .ok (.invokevirtual 166, 3) := by decide +kernel
theorem dX12_steady_151 : decode cX12_steady 151 = .ok (.iinc 4 1, 3) := by decide +kernel
theorem dX12_steady_154 : decode cX12_steady 154 = .ok (.goto (-27), 3) := by decide +kernel
theorem dX12_steady_157 : decode cX12_steady 157 = .ok (.iinc 3 1, 3) := by decide +kernel
theorem dX12_steady_160 : decode cX12_steady 160 = .ok (.goto (-124), 3) := by decide +kernel
theorem dX12_steady_163 : decode cX12_steady 163 = .ok (.iconst 0, 1) := by decide +kernel
theorem dX12_steady_164 : decode cX12_steady 164 = .ok (.istore_n 3, 1) := by decide +kernel
theorem dX12_steady_165 : decode cX12_steady 165 = .ok (.iconst 0, 1) := by decide +kernel
theorem dX12_steady_166 : decode cX12_steady 166 = .ok (.istore 4, 2) := by decide +kernel
theorem dX12_steady_168 : decode cX12_steady 168 = .ok (.iload 4, 2) := by decide +kernel
theorem dX12_steady_170 : decode cX12_steady 170 = .ok (.iload_n 2, 1) := by decide +kernel
theorem dX12_steady_171 : decode cX12_steady 171 = .ok (.aload_n 0, 1) := by decide +kernel
theorem dX12_steady_172 : decode cX12_steady 172 = .ok (.getfield 13, 3) := by decide +kernel
theorem dX12_steady_175 : decode cX12_steady 175 = .ok (.iconst 3, 1) := by decide +kernel
theorem dX12_steady_176 : decode cX12_steady 176 = .ok (.iaload, 1) := by decide +kernel
theorem dX12_steady_177 : decode cX12_steady 177 = .ok (.imul, 1) := by decide +kernel
theorem dX12_steady_178 : decode cX12_steady 178 = .ok (.if_icmp .ge 45, 3) := by decide +kernel
theorem dX12_steady_181 : decode cX12_steady 181 = .ok (.iload_n 1, 1) := by decide +kernel
theorem dX12_steady_182 : decode cX12_steady 182 = .ok (.iconst (-1), 1) := by decide +kernel
theorem dX12_steady_183 : decode cX12_steady 183 = .ok (.if_icmp .eq 40, 3) := by decide +kernel
theorem dX12_steady_186 : decode cX12_steady 186 = .ok (.aload_n 0, 1) := by decide +kernel
theorem dX12_steady_187 : decode cX12_steady 187 = .ok (.aload_n 0, 1) := by decide +kernel
theorem dX12_steady_188 : decode cX12_steady 188 = .ok (.invokevirtual 171, 3) := by decide +kernel
theorem dX12_steady_191 : decode cX12_steady 191 = .ok (.invokevirtual 166, 3) := by decide +kernel
theorem dX12_steady_194 : decode cX12_steady 194 = .ok (.iload_n 3, 1) := by decide +kernel
theorem dX12_steady_195 : decode cX12_steady 195 = .ok (.aload_n 0, 1) := by decide +kernel
theorem dX12_steady_196 : decode cX12_steady 196 = .ok (.getfield 19, 3) := by decide +kernel
theorem dX12_steady_199 : decode cX12_steady 199 = .ok (.iconst 1, 1) := by decide +kernel
theorem dX12_steady_200 : decode cX12_steady 200 = .ok (.aload_n 0, 1) := by decide +kernel
theorem dX12_steady_201 : decode cX12_steady 201 = .ok (.invokevirtual 216, 3) := by decide +kernel
theorem dX12_steady_204 : decode cX12_steady 204 = .ok (.iadd, 1) := by decide +kernel
theorem dX12_steady_205 : decode cX12_steady 205 = .ok (.iaload, 1) := by decide +kernel
theorem dX12_steady_206 : decode cX12_steady 206 = .ok (.iload_n 1, 1) := by decide +kernel
theorem dX12_steady_207 : decode cX12_steady 207 = .ok (.if_icmp .ne 7, 3) := by decide +kernel
theorem dX12_steady_210 : decode cX12_steady 210 = .ok (.iconst 1, 1) := by decide +kernel
theorem dX12_steady_211 : decode cX12_steady 211 = .ok (.goto 4, 3) := by decide +kernel
theorem dX12_steady_214 : decode cX12_steady 214 = .ok (.iconst 0, 1) := by decide +kernel
theorem dX12_steady_215 : decode cX12_steady 215 = .ok (.iadd, 1) := by decide +kernel
theorem dX12_steady_216 : decode cX12_steady 216 = .ok (.istore_n 3, 1) := by decide +kernel
theorem dX12_steady_217 : decode cX12_steady 217 = .ok (.iinc 4 1, 3) := by decide +kernel
theorem dX12_steady_220 : decode cX12_steady 220 = .ok (.goto (-52), 3) := by decide +kernel
theorem dX12_steady_223 : decode cX12_steady 223 = .ok (.aload_n 0, 1) := by decide +kernel
theorem dX12_steady_224 : decode cX12_steady 224 = .ok (.invokevirtual 195, 3) := by decide +kernel
theorem dX12_steady_227 : decode cX12_steady 227 = .ok (.iload_n 2, 1) := by decide +kernel
theorem dX12_steady_228 : decode cX12_steady 228 = .ok (.iconst (-1), 1) := by decide +kernel
theorem dX12_steady_229 : decode cX12_steady 229 = .ok (.if_icmp .ne 7, 3) := by decide +kernel
theorem dX12_steady_232 : decode cX12_steady 232 = .ok (.iconst (-1), 1) := by decide +kernel
theorem dX12_steady_233 : decode cX12_steady 233 = .ok (.goto 13, 3) := by decide +kernel
theorem dX12_steady_236 : decode cX12_steady 236 = .ok (.iload_n 1, 1) := by decide +kernel
theorem dX12_steady_237 : decode cX12_steady 237 = .ok (.iconst (-1), 1) := by decide +kernel
theorem dX12_steady_238 : decode cX12_steady 238 = .ok (.if_icmp .ne 7, 3) := by decide +kernel
theorem dX12_steady_241 : decode cX12_steady 241 = .ok (.iload_n 2, 1) := by decide +kernel
theorem dX12_steady_242 : decode cX12_steady 242 = .ok (.goto 4, 3) := by decide +kernel
theorem dX12_steady_245 : decode cX12_steady 245 = .ok (.iload_n 3, 1) := by decide +kernel
theorem dX12_steady_246 : decode cX12_steady 246 = .ok (.ireturn, 1) := by decide +kernel
theorem dX12_twoBeds_0 : decode cX12_twoBeds 0 = .ok (.iload_n 1, 1) := by decide +kernel
theorem dX12_twoBeds_1 : decode cX12_twoBeds 1 = .ok (.i2l, 1) := by decide +kernel
theorem dX12_twoBeds_2 : decode cX12_twoBeds 2 = .ok (.lconst 0, 1) := by decide +kernel
theorem dX12_twoBeds_3 : decode cX12_twoBeds 3 = .ok (.lconst 1, 1) := by decide +kernel
theorem dX12_twoBeds_4 : decode cX12_twoBeds 4 = .ok (.invokestatic 67, 3) := by decide +kernel
theorem dX12_twoBeds_7 : decode cX12_twoBeds 7 = .ok (.ifCond .ne 6, 3) := by decide +kernel
theorem dX12_twoBeds_10 : decode cX12_twoBeds 10 = .ok (.ldc 71, 2) := by decide +kernel
theorem dX12_twoBeds_12 : decode cX12_twoBeds 12 = .ok (.ireturn, 1) := by decide +kernel
theorem dX12_twoBeds_13 : decode cX12_twoBeds 13 = .ok (.aload_n 0, 1) := by decide +kernel
theorem dX12_twoBeds_14 : decode cX12_twoBeds 14 = .ok (.getfield 13, 3) := by decide +kernel
theorem dX12_twoBeds_17 : decode cX12_twoBeds 17 = .ok (.iconst 2, 1) := by decide +kernel
theorem dX12_twoBeds_18 : decode cX12_twoBeds 18 = .ok (.iaload, 1) := by decide +kernel
theorem dX12_twoBeds_19 : decode cX12_twoBeds 19 = .ok (.ifCond .ne 5, 3) := by decide +kernel
theorem dX12_twoBeds_22 : decode cX12_twoBeds 22 = .ok (.iconst (-1), 1) := by decide +kernel
theorem dX12_twoBeds_23 : decode cX12_twoBeds 23 = .ok (.ireturn, 1) := by decide +kernel
theorem dX12_twoBeds_24 : decode cX12_twoBeds 24 = .ok (.iconst (-1), 1) := by decide +kernel
theorem dX12_twoBeds_25 : decode cX12_twoBeds 25 = .ok (.istore_n 2, 1) := by decide +kernel
theorem dX12_twoBeds_26 : decode cX12_twoBeds 26 = .ok (.iconst 0, 1) := by decide +kernel
theorem dX12_twoBeds_27 : decode cX12_twoBeds 27 = .ok (.istore_n 3, 1) := by decide +kernel
theorem dX12_twoBeds_28 : decode cX12_twoBeds 28 = .ok (.iconst 1, 1) := by decide +kernel
theorem dX12_twoBeds_29 : decode cX12_twoBeds 29 = .ok (.istore 4, 2) := by decide +kernel
theorem dX12_twoBeds_31 : decode cX12_twoBeds 31 = .ok (.iload 4, 2) := by decide +kernel
theorem dX12_twoBeds_33 : decode cX12_twoBeds 33 = .ok (.iconst 1, 1) := by decide +kernel
theorem dX12_twoBeds_34 : decode cX12_twoBeds 34 = .ok (.aload_n 0, 1) := by decide +kernel
theorem dX12_twoBeds_35 : decode cX12_twoBeds 35 = .ok (.getfield 13, 3) := by decide +kernel
theorem dX12_twoBeds_38 : decode cX12_twoBeds 38 = .ok (.iconst 2, 1) := by decide +kernel
theorem dX12_twoBeds_39 : decode cX12_twoBeds 39 = .ok (.iaload, 1) := by decide +kernel
theorem dX12_twoBeds_40 : decode cX12_twoBeds 40 = .ok (.ishl, 1) := by decide +kernel
theorem dX12_twoBeds_41 : decode cX12_twoBeds 41 = .ok (.if_icmp .ge 121, 3) := by decide +kernel
theorem dX12_twoBeds_44 : decode cX12_twoBeds 44 = .ok (.iconst 0, 1) := by decide +kernel
theorem dX12_twoBeds_45 : decode cX12_twoBeds 45 = .ok (.istore 5, 2) := by decide +kernel
theorem dX12_twoBeds_47 : decode cX12_twoBeds 47 = .ok (.iconst 0, 1) := by decide +kernel
theorem dX12_twoBeds_48 : decode cX12_twoBeds 48 = .ok (.istore 6, 2) := by decide +kernel
theorem dX12_twoBeds_50 : decode cX12_twoBeds 50 = .ok (.iload 6, 2) := by decide +kernel
theorem dX12_twoBeds_52 : decode cX12_twoBeds 52 = .ok (.aload_n 0, 1) := by decide +kernel
theorem dX12_twoBeds_53 : decode cX12_twoBeds 53 = .ok (.getfield 13, 3) := by decide +kernel
theorem dX12_twoBeds_56 : decode cX12_twoBeds 56 = .ok (.iconst 2, 1) := by decide +kernel
theorem dX12_twoBeds_57 : decode cX12_twoBeds 57 = .ok (.iaload, 1) := by decide +kernel
theorem dX12_twoBeds_58 : decode cX12_twoBeds 58 = .ok (.if_icmp .ge 41, 3) := by decide +kernel
theorem dX12_twoBeds_61 : decode cX12_twoBeds 61 = .ok (.iload 5, 2) := by decide +kernel
theorem dX12_twoBeds_63 : decode cX12_twoBeds 63 = .ok (.iload 4, 2) := by decide +kernel
theorem dX12_twoBeds_65 : decode cX12_twoBeds 65 = .ok (.iload 6, 2) := by decide +kernel
theorem dX12_twoBeds_67 : decode cX12_twoBeds 67 = .ok (.ishr, 1) := by decide +kernel
theorem dX12_twoBeds_68 : decode cX12_twoBeds 68 = .ok (.iconst 1, 1) := by decide +kernel
theorem dX12_twoBeds_69 : decode cX12_twoBeds 69 = .ok (.iand, 1) := by decide +kernel
theorem dX12_twoBeds_70 : decode cX12_twoBeds 70 = .ok (.iconst 1, 1) := by decide +kernel
theorem dX12_twoBeds_71 : decode cX12_twoBeds 71 = .ok (.if_icmp .ne 12, 3) := by decide +kernel
theorem dX12_twoBeds_74 : decode cX12_twoBeds 74 = .ok (.aload_n 0, 1) := by decide +kernel
theorem dX12_twoBeds_75 : decode cX12_twoBeds 75 = .ok (.iload 6, 2) := by decide +kernel
theorem dX12_twoBeds_77 : decode cX12_twoBeds 77 = .ok (.invokevirtual 139, 3) := by decide +kernel
theorem dX12_twoBeds_80 : decode cX12_twoBeds 80 = .ok (.goto 10, 3) := by decide +kernel
theorem dX12_twoBeds_83 : decode cX12_twoBeds 83 = .ok (.aload_n 0, 1) := by decide +kernel
theorem dX12_twoBeds_84 : decode cX12_twoBeds 84 = .ok (.iload 6, 2) := by decide +kernel
theorem dX12_twoBeds_86 : decode cX12_twoBeds 86 = .ok (.invokevirtual 139, 3) := by decide +kernel
theorem dX12_twoBeds_89 : decode cX12_twoBeds 89 = .ok (.ineg, 1) := by decide +kernel
theorem dX12_twoBeds_90 : decode cX12_twoBeds 90 = .ok (.iadd, 1) := by decide +kernel
theorem dX12_twoBeds_91 : decode cX12_twoBeds 91 = .ok (.istore 5, 2) := by decide +kernel
theorem dX12_twoBeds_93 : decode cX12_twoBeds 93 = .ok (.iinc 6 1, 3) := by decide +kernel
theorem dX12_twoBeds_96 : decode cX12_twoBeds 96 = .ok (.goto (-46), 3) := by decide +kernel
theorem dX12_twoBeds_99 : decode cX12_twoBeds 99 = .ok (.iload 5, 2) := by decide +kernel
theorem dX12_twoBeds_101 : decode cX12_twoBeds 101 = .ok (.ifCond .ge 9, 3) := by decide +kernel
theorem dX12_twoBeds_104 : decode cX12_twoBeds 104 = .ok (.iload 5, 2) := by decide +kernel
theorem dX12_twoBeds_106 : decode cX12_twoBeds 106 = .ok (.ineg, 1) := by decide +kernel
theorem dX12_twoBeds_107 : decode cX12_twoBeds 107 = .ok (.goto 5, 3) := by decide +kernel
theorem dX12_twoBeds_110 : decode cX12_twoBeds 110 = .ok (.iload 5, 2) := by decide +kernel
theorem dX12_twoBeds_112 : decode cX12_twoBeds 112 = .ok (.istore 6, 2) := by decide +kernel
theorem dX12_twoBeds_114 : decode cX12_twoBeds 114 = .ok (.iload_n 2, 1) := by decide +kernel
theorem dX12_twoBeds_115 : decode cX12_twoBeds 115 = .ok (.iconst (-1), 1) := by decide +kernel
theorem dX12_twoBeds_116 : decode cX12_twoBeds 116 = .ok (.if_icmp .eq 9, 3) := by decide +kernel
theorem dX12_twoBeds_119 : decode cX12_twoBeds 119 = .ok (.iload 6, 2) := by decide +kernel
theorem dX12_twoBeds_121 : decode cX12_twoBeds 121 = .ok (.iload_n 3, 1) := by decide +kernel
theorem dX12_twoBeds_122 : decode cX12_twoBeds 122 = .ok (.if_icmp .ge 7, 3) := by decide +kernel
theorem dX12_twoBeds_125 : decode cX12_twoBeds 125 = .ok (.iconst 1, 1) := by decide +kernel
theorem dX12_twoBeds_126 : decode cX12_twoBeds 126 = .ok (.goto 4, 3) := by decide +kernel
theorem dX12_twoBeds_129 : decode cX12_twoBeds 129 = .ok (.iconst 0, 1) := by decide +kernel
theorem dX12_twoBeds_130 : decode cX12_twoBeds 130 = .ok (.istore 7, 2) := by decide +kernel
theorem dX12_twoBeds_132 : decode cX12_twoBeds 132 = .ok (.iload 7, 2) := by decide +kernel
theorem dX12_twoBeds_134 : decode cX12_twoBeds 134 = .ok (.ifCond .eq 8, 3) := by decide +kernel
theorem dX12_twoBeds_137 : decode cX12_twoBeds 137 = .ok (.iload 4, 2) := by decide +kernel
theorem dX12_twoBeds_139 : decode cX12_twoBeds 139 = .ok (.goto 4, 3) := by decide +kernel
theorem dX12_twoBeds_142 : decode cX12_twoBeds 142 = .ok (.iload_n 2, 1) := by decide +kernel
theorem dX12_twoBeds_143 : decode cX12_twoBeds 143 = .ok (.istore_n 2, 1) := by decide +kernel
theorem dX12_twoBeds_144 : decode cX12_twoBeds 144 = .ok (.iload 7, 2) := by decide +kernel
theorem dX12_twoBeds_146 : decode cX12_twoBeds 146 = .ok (.ifCond .eq 8, 3) := by decide +kernel
theorem dX12_twoBeds_149 : decode cX12_twoBeds 149 = .ok (.iload 6, 2) := by decide +kernel
theorem dX12_twoBeds_151 : decode cX12_twoBeds 151 = .ok (.goto 4, 3) := by decide +kernel
theorem dX12_twoBeds_154 : decode cX12_twoBeds 154 = .ok (.iload_n 3, 1) := by decide +kernel
theorem dX12_twoBeds_155 : decode cX12_twoBeds 155 = .ok (.istore_n 3, 1) := by decide +kernel
theorem dX12_twoBeds_156 : decode cX12_twoBeds 156 = .ok (.iinc 4 2, 3) := by decide +kernel
theorem dX12_twoBeds_159 : decode cX12_twoBeds 159 = .ok (.goto (-128), 3) := by decide +kernel
theorem dX12_twoBeds_162 : decode cX12_twoBeds 162 = .ok (.iload_n 1, 1) := by decide +kernel
theorem dX12_twoBeds_163 : decode cX12_twoBeds 163 = .ok (.ifCond .ne 7, 3) := by decide +kernel
theorem dX12_twoBeds_166 : decode cX12_twoBeds 166 = .ok (.iload_n 3, 1) := by decide +kernel
theorem dX12_twoBeds_167 : decode cX12_twoBeds 167 = .ok (.goto 4, 3) := by decide +kernel
theorem dX12_twoBeds_170 : decode cX12_twoBeds 170 = .ok (.iload_n 2, 1) := by decide +kernel
theorem dX12_twoBeds_171 : decode cX12_twoBeds 171 = .ok (.ireturn, 1) := by decide +kernel
theorem dX12_nobodyUp_0 : decode cX12_nobodyUp 0 = .ok (.iload_n 1, 1) := by decide +kernel
theorem dX12_nobodyUp_1 : decode cX12_nobodyUp 1 = .ok (.i2l, 1) := by decide +kernel
theorem dX12_nobodyUp_2 : decode cX12_nobodyUp 2 = .ok (.lconst 1, 1) := by decide +kernel
theorem dX12_nobodyUp_3 : decode cX12_nobodyUp 3 = .ok (.ldc2_w 219, 3) := by decide +kernel
theorem dX12_nobodyUp_6 : decode cX12_nobodyUp 6 = .ok (.invokestatic 67, 3) := by decide +kernel
theorem dX12_nobodyUp_9 : decode cX12_nobodyUp 9 = .ok (.ifCond .eq 15, 3) := by decide +kernel
theorem dX12_nobodyUp_12 : decode cX12_nobodyUp 12 = .ok (.iload_n 2, 1) := by decide +kernel
theorem dX12_nobodyUp_13 : decode cX12_nobodyUp 13 = .ok (.i2l, 1) := by decide +kernel
theorem dX12_nobodyUp_14 : decode cX12_nobodyUp 14 = .ok (.lconst 0, 1) := by decide +kernel
theorem dX12_nobodyUp_15 : decode cX12_nobodyUp 15 = .ok (.ldc2_w 221, 3) := by decide +kernel
theorem dX12_nobodyUp_18 : decode cX12_nobodyUp 18 = .ok (.invokestatic 67, 3) := by decide +kernel
theorem dX12_nobodyUp_21 : decode cX12_nobodyUp 21 = .ok (.ifCond .ne 6, 3) := by decide +kernel
theorem dX12_nobodyUp_24 : decode cX12_nobodyUp 24 = .ok (.ldc 71, 2) := by decide +kernel
theorem dX12_nobodyUp_26 : decode cX12_nobodyUp 26 = .ok (.ireturn, 1) := by decide +kernel
theorem dX12_nobodyUp_27 : decode cX12_nobodyUp 27 = .ok (.ldc2_w 223, 3) := by decide +kernel
theorem dX12_nobodyUp_30 : decode cX12_nobodyUp 30 = .ok (.lstore_n 3, 1) := by decide +kernel
theorem dX12_nobodyUp_31 : decode cX12_nobodyUp 31 = .ok (.iconst 0, 1) := by decide +kernel
theorem dX12_nobodyUp_32 : decode cX12_nobodyUp 32 = .ok (.istore 5, 2) := by decide +kernel
theorem dX12_nobodyUp_34 : decode cX12_nobodyUp 34 = .ok (.iload 5, 2) := by decide +kernel
theorem dX12_nobodyUp_36 : decode cX12_nobodyUp 36 = .ok (.aload_n 0, 1) := by decide +kernel
theorem dX12_nobodyUp_37 : decode cX12_nobodyUp 37 = .ok (.getfield 13, 3) := by decide +kernel
theorem dX12_nobodyUp_40 : decode cX12_nobodyUp 40 = .ok (.iconst 0, 1) := by decide +kernel
theorem dX12_nobodyUp_41 : decode cX12_nobodyUp 41 = .ok (.iaload, 1) := by decide +kernel
theorem dX12_nobodyUp_42 : decode cX12_nobodyUp 42 = .ok (.if_icmp .ge 50, 3) := by decide +kernel
theorem dX12_nobodyUp_45 : decode cX12_nobodyUp 45 = .ok (.iconst 0, 1) := by decide +kernel
theorem dX12_nobodyUp_46 : decode cX12_nobodyUp 46 = .ok (.istore 6, 2) := by decide +kernel
theorem dX12_nobodyUp_48 : decode cX12_nobodyUp 48 = .ok (.iload 6, 2) := by decide +kernel
theorem dX12_nobodyUp_50 : decode cX12_nobodyUp 50 = .ok (.iload_n 1, 1) := by decide +kernel
theorem dX12_nobodyUp_51 : decode cX12_nobodyUp 51 = .ok (.if_icmp .ge 35, 3) := by decide +kernel
theorem dX12_nobodyUp_54 : decode cX12_nobodyUp 54 = .ok (.aload_n 0, 1) := by decide +kernel
theorem dX12_nobodyUp_55 : decode cX12_nobodyUp 55 = .ok (.getfield 19, 3) := by decide +kernel
theorem dX12_nobodyUp_58 : decode cX12_nobodyUp 58 = .ok (.iconst 1, 1) := by decide +kernel
theorem dX12_nobodyUp_59 : decode cX12_nobodyUp 59 = .ok (.iload 5, 2) := by decide +kernel
theorem dX12_nobodyUp_61 : decode cX12_nobodyUp 61 = .ok (.iadd, 1) := by decide +kernel
theorem dX12_nobodyUp_62 : decode cX12_nobodyUp 62 = .ok (.iaload, 1) := by decide +kernel
theorem dX12_nobodyUp_63 : decode cX12_nobodyUp 63 = .ok (.iconst (-1), 1) := by decide +kernel
theorem dX12_nobodyUp_64 : decode cX12_nobodyUp 64 = .ok (.if_icmp .eq 22, 3) := by decide +kernel
theorem dX12_nobodyUp_67 : decode cX12_nobodyUp 67 = .ok (.lload_n 3, 1) := by decide +kernel
theorem dX12_nobodyUp_68 : decode cX12_nobodyUp 68 = .ok (.sipush 1000, 3) := by decide +kernel
theorem dX12_nobodyUp_71 : decode cX12_nobodyUp 71 = .ok (.iload_n 2, 1) := by decide +kernel
theorem dX12_nobodyUp_72 : decode cX12_nobodyUp 72 = .ok (.isub, 1) := by decide +kernel
theorem dX12_nobodyUp_73 : decode cX12_nobodyUp 73 = .ok (.i2l, 1) := by decide +kernel
theorem dX12_nobodyUp_74 : decode cX12_nobodyUp 74 = .ok (.lmul, 1) := by decide +kernel
theorem dX12_nobodyUp_75 : decode cX12_nobodyUp 75 = .ok (.ldc2_w 221, 3) := by decide +kernel
theorem dX12_nobodyUp_78 : decode cX12_nobodyUp 78 = .ok (.ldiv, 1) := by decide +kernel
theorem dX12_nobodyUp_79 : decode cX12_nobodyUp 79 = .ok (.lstore_n 3, 1) := by decide +kernel
theorem dX12_nobodyUp_80 : decode cX12_nobodyUp 80 = .ok (.iinc 6 1, 3) := by decide +kernel
theorem dX12_nobodyUp_83 : decode cX12_nobodyUp 83 = .ok (.goto (-35), 3) := by decide +kernel
theorem dX12_nobodyUp_86 : decode cX12_nobodyUp 86 = .ok (.iinc 5 1, 3) := by decide +kernel
theorem dX12_nobodyUp_89 : decode cX12_nobodyUp 89 = .ok (.goto (-55), 3) := by decide +kernel
theorem dX12_nobodyUp_92 : decode cX12_nobodyUp 92 = .ok (.lload_n 3, 1) := by decide +kernel
theorem dX12_nobodyUp_93 : decode cX12_nobodyUp 93 = .ok (.l2i, 1) := by decide +kernel
theorem dX12_nobodyUp_94 : decode cX12_nobodyUp 94 = .ok (.ireturn, 1) := by decide +kernel
theorem dX12_morning_0 : decode cX12_morning 0 = .ok (.aload_n 0, 1) := by decide +kernel
theorem dX12_morning_1 : decode cX12_morning 1 = .ok (.iload_n 1, 1) := by decide +kernel
theorem dX12_morning_2 : decode cX12_morning 2 = .ok (.invokevirtual 153, 3) := by decide +kernel
theorem dX12_morning_5 : decode cX12_morning 5 = .ok (.ifCond .eq 11, 3) := by decide +kernel
theorem dX12_morning_8 : decode cX12_morning 8 = .ok (.aload_n 0, 1) := by decide +kernel
theorem dX12_morning_9 : decode cX12_morning 9 = .ok (.iload_n 2, 1) := by decide +kernel
theorem dX12_morning_10 : decode cX12_morning 10 = .ok (.invokevirtual 148, 3) := by decide +kernel
theorem dX12_morning_13 : decode cX12_morning 13 = .ok (.ifCond .ne 6, 3) := by decide +kernel
theorem dX12_morning_16 : decode cX12_morning 16 = .ok (.ldc 152, 2) := by decide +kernel
theorem dX12_morning_18 : decode cX12_morning 18 = .ok (.ireturn, 1) := by decide +kernel
theorem dX12_morning_19 : decode cX12_morning 19 = .ok (.aload_n 0, 1) := by decide +kernel
theorem dX12_morning_20 : decode cX12_morning 20 = .ok (.getfield 113, 3) := by decide +kernel
theorem dX12_morning_23 : decode cX12_morning 23 = .ok (.bipush 6, 2) := by decide +kernel
theorem dX12_morning_25 : decode cX12_morning 25 = .ok (.if_icmp .ne 6, 3) := by decide +kernel
theorem dX12_morning_28 : decode cX12_morning 28 = .ok (.ldc 75, 2) := by decide +kernel
theorem dX12_morning_30 : decode cX12_morning 30 = .ok (.ireturn, 1) := by decide +kernel
theorem dX12_morning_31 : decode cX12_morning 31 = .ok (.aload_n 0, 1) := by decide +kernel
theorem dX12_morning_32 : decode cX12_morning 32 = .ok (.getfield 43, 3) := by decide +kernel
theorem dX12_morning_35 : decode cX12_morning 35 = .ok (.aload_n 0, 1) := by decide +kernel
theorem dX12_morning_36 : decode cX12_morning 36 = .ok (.getfield 113, 3) := by decide +kernel
theorem dX12_morning_39 : decode cX12_morning 39 = .ok (.iload_n 1, 1) := by decide +kernel
theorem dX12_morning_40 : decode cX12_morning 40 = .ok (.iastore, 1) := by decide +kernel
theorem dX12_morning_41 : decode cX12_morning 41 = .ok (.aload_n 0, 1) := by decide +kernel
theorem dX12_morning_42 : decode cX12_morning 42 = .ok (.getfield 46, 3) := by decide +kernel
theorem dX12_morning_45 : decode cX12_morning 45 = .ok (.aload_n 0, 1) := by decide +kernel
theorem dX12_morning_46 : decode cX12_morning 46 = .ok (.getfield 113, 3) := by decide +kernel
theorem dX12_morning_49 : decode cX12_morning 49 = .ok (.iload_n 2, 1) := by decide +kernel
theorem dX12_morning_50 : decode cX12_morning 50 = .ok (.iastore, 1) := by decide +kernel
theorem dX12_morning_51 : decode cX12_morning 51 = .ok (.aload_n 0, 1) := by decide +kernel
theorem dX12_morning_52 : decode cX12_morning 52 = .ok (.dup, 1) := by decide +kernel
theorem dX12_morning_53 : decode cX12_morning 53 = .ok (.getfield 113, 3) := by decide +kernel
theorem dX12_morning_56 : decode cX12_morning 56 = .ok (.iconst 1, 1) := by decide +kernel
theorem dX12_morning_57 : decode cX12_morning 57 = .ok (.iadd, 1) := by decide +kernel
theorem dX12_morning_58 : decode cX12_morning 58 = .ok (.putfield 113, 3) := by decide +kernel
theorem dX12_morning_61 : decode cX12_morning 61 = .ok (.aload_n 0, 1) := by decide +kernel
theorem dX12_morning_62 : decode cX12_morning 62 = .ok (.getfield 113, 3) := by decide +kernel
theorem dX12_morning_65 : decode cX12_morning 65 = .ok (.ireturn, 1) := by decide +kernel
theorem dX12_counts_0 : decode cX12_counts 0 = .ok (.aload_n 0, 1) := by decide +kernel
theorem dX12_counts_1 : decode cX12_counts 1 = .ok (.invokevirtual 189, 3) := by decide +kernel
theorem dX12_counts_4 : decode cX12_counts 4 = .ok (.aload_n 0, 1) := by decide +kernel
theorem dX12_counts_5 : decode cX12_counts 5 = .ok (.iconst 0, 1) := by decide +kernel
theorem dX12_counts_6 : decode cX12_counts 6 = .ok (.putfield 225, 3) := by decide +kernel
theorem dX12_counts_9 : decode cX12_counts 9 = .ok (.aload_n 0, 1) := by decide +kernel
theorem dX12_counts_10 : decode cX12_counts 10 = .ok (.iconst 0, 1) := by decide +kernel
theorem dX12_counts_11 : decode cX12_counts 11 = .ok (.putfield 228, 3) := by decide +kernel
theorem dX12_counts_14 : decode cX12_counts 14 = .ok (.aload_n 0, 1) := by decide +kernel
theorem dX12_counts_15 : decode cX12_counts 15 = .ok (.bipush 15, 2) := by decide +kernel
theorem dX12_counts_17 : decode cX12_counts 17 = .ok (.putfield 231, 3) := by decide +kernel
theorem dX12_counts_20 : decode cX12_counts 20 = .ok (.iconst 0, 1) := by decide +kernel
theorem dX12_counts_21 : decode cX12_counts 21 = .ok (.istore_n 2, 1) := by decide +kernel
theorem dX12_counts_22 : decode cX12_counts 22 = .ok (.iload_n 2, 1) := by decide +kernel
theorem dX12_counts_23 : decode cX12_counts 23 = .ok (.iload_n 1, 1) := by decide +kernel
theorem dX12_counts_24 : decode cX12_counts 24 = .ok (.invokestatic 204, 3) := by decide +kernel
theorem dX12_counts_27 : decode cX12_counts 27 = .ok (.if_icmp .ge 173, 3) := by decide +kernel
theorem dX12_counts_30 : decode cX12_counts 30 = .ok (.iconst 0, 1) := by decide +kernel
theorem dX12_counts_31 : decode cX12_counts 31 = .ok (.istore_n 3, 1) := by decide +kernel
theorem dX12_counts_32 : decode cX12_counts 32 = .ok (.iconst 0, 1) := by decide +kernel
theorem dX12_counts_33 : decode cX12_counts 33 = .ok (.istore 4, 2) := by decide +kernel
theorem dX12_counts_35 : decode cX12_counts 35 = .ok (.iload 4, 2) := by decide +kernel
theorem dX12_counts_37 : decode cX12_counts 37 = .ok (.iload_n 1, 1) := by decide +kernel
theorem dX12_counts_38 : decode cX12_counts 38 = .ok (.if_icmp .ge 32, 3) := by decide +kernel
theorem dX12_counts_41 : decode cX12_counts 41 = .ok (.aload_n 0, 1) := by decide +kernel
theorem dX12_counts_42 : decode cX12_counts 42 = .ok (.iload_n 2, 1) := by decide +kernel
theorem dX12_counts_43 : decode cX12_counts 43 = .ok (.iload_n 1, 1) := by decide +kernel
theorem dX12_counts_44 : decode cX12_counts 44 = .ok (.iload 4, 2) := by decide +kernel
theorem dX12_counts_46 : decode cX12_counts 46 = .ok (.invokestatic 198, 3) := by decide +kernel
theorem dX12_counts_49 : decode cX12_counts 49 = .ok (.invokevirtual 129, 3) := by decide +kernel
theorem dX12_counts_52 : decode cX12_counts 52 = .ok (.iload_n 3, 1) := by decide +kernel
theorem dX12_counts_53 : decode cX12_counts 53 = .ok (.iconst 1, 1) := by decide +kernel
theorem dX12_counts_54 : decode cX12_counts 54 = .ok (.iload_n 2, 1) := by decide +kernel
theorem dX12_counts_55 : decode cX12_counts 55 = .ok (.iload_n 1, 1) := by decide +kernel
theorem dX12_counts_56 : decode cX12_counts 56 = .ok (.iload 4, 2) := by decide +kernel
theorem dX12_counts_58 : decode cX12_counts 58 = .ok (.invokestatic 198, 3) := by decide +kernel
theorem dX12_counts_61 : decode cX12_counts 61 = .ok (.ishl, 1) := by decide +kernel
theorem dX12_counts_62 : decode cX12_counts 62 = .ok (.ior, 1) := by decide +kernel
theorem dX12_counts_63 : decode cX12_counts 63 = .ok (.istore_n 3, 1) := by decide +kernel
theorem dX12_counts_64 : decode cX12_counts 64 = .ok (.iinc 4 1, 3) := by decide +kernel
theorem dX12_counts_67 : decode cX12_counts 67 = .ok (.goto (-32), 3) := by decide +kernel
theorem dX12_counts_70 : decode cX12_counts 70 = .ok (.iconst 1, 1) := by decide +kernel
theorem dX12_counts_71 : decode cX12_counts 71 = .ok (.istore 4, 2) := by decide +kernel
theorem dX12_counts_73 : decode cX12_counts 73 = .ok (.iconst 0, 1) := by decide +kernel
theorem dX12_counts_74 : decode cX12_counts 74 = .ok (.istore 5, 2) := by decide +kernel
theorem dX12_counts_76 : decode cX12_counts 76 = .ok (.iload 5, 2) := by decide +kernel
theorem dX12_counts_78 : decode cX12_counts 78 = .ok (.aload_n 0, 1) := by decide +kernel
theorem dX12_counts_79 : decode cX12_counts 79 = .ok (.getfield 113, 3) := by decide +kernel
theorem dX12_counts_82 : decode cX12_counts 82 = .ok (.if_icmp .ge 45, 3) := by decide +kernel
theorem dX12_counts_85 : decode cX12_counts 85 = .ok (.iload 4, 2) := by decide +kernel
theorem dX12_counts_87 : decode cX12_counts 87 = .ok (.ifCond .eq 31, 3) := by decide +kernel
theorem dX12_counts_90 : decode cX12_counts 90 = .ok (.aload_n 0, 1) := by decide +kernel
theorem dX12_counts_91 : decode cX12_counts 91 = .ok (.getfield 19, 3) := by decide +kernel
theorem dX12_counts_94 : decode cX12_counts 94 = .ok (.iconst 1, 1) := by decide +kernel
theorem dX12_counts_95 : decode cX12_counts 95 = .ok (.aload_n 0, 1) := by decide +kernel
theorem dX12_counts_96 : decode cX12_counts 96 = .ok (.getfield 46, 3) := by decide +kernel
theorem dX12_counts_99 : decode cX12_counts 99 = .ok (.iload 5, 2) := by decide +kernel
theorem dX12_counts_101 : decode cX12_counts 101 = .ok (.iaload, 1) := by decide +kernel
theorem dX12_counts_102 : decode cX12_counts 102 = .ok (.iadd, 1) := by decide +kernel
theorem dX12_counts_103 : decode cX12_counts 103 = .ok (.iaload, 1) := by decide +kernel
theorem dX12_counts_104 : decode cX12_counts 104 = .ok (.aload_n 0, 1) := by decide +kernel
theorem dX12_counts_105 : decode cX12_counts 105 = .ok (.getfield 43, 3) := by decide +kernel
theorem dX12_counts_108 : decode cX12_counts 108 = .ok (.iload 5, 2) := by decide +kernel
theorem dX12_counts_110 : decode cX12_counts 110 = .ok (.iaload, 1) := by decide +kernel
theorem dX12_counts_111 : decode cX12_counts 111 = .ok (.if_icmp .ne 7, 3) := by decide +kernel
theorem dX12_counts_114 : decode cX12_counts 114 = .ok (.iconst 1, 1) := by decide +kernel
theorem dX12_counts_115 : decode cX12_counts 115 = .ok (.goto 4, 3) := by decide +kernel
theorem dX12_counts_118 : decode cX12_counts 118 = .ok (.iconst 0, 1) := by decide +kernel
theorem dX12_counts_119 : decode cX12_counts 119 = .ok (.istore 4, 2) := by decide +kernel
theorem dX12_counts_121 : decode cX12_counts 121 = .ok (.iinc 5 1, 3) := by decide +kernel
theorem dX12_counts_124 : decode cX12_counts 124 = .ok (.goto (-48), 3) := by decide +kernel
theorem dX12_counts_127 : decode cX12_counts 127 = .ok (.aload_n 0, 1) := by decide +kernel
theorem dX12_counts_128 : decode cX12_counts 128 = .ok (.invokevirtual 195, 3) := by decide +kernel
theorem dX12_counts_131 : decode cX12_counts 131 = .ok (.aload_n 0, 1) := by decide +kernel
theorem dX12_counts_132 : decode cX12_counts 132 = .ok (.iload 4, 2) := by decide +kernel
theorem dX12_counts_134 : decode cX12_counts 134 = .ok (.ifCond .eq 14, 3) := by decide +kernel
theorem dX12_counts_137 : decode cX12_counts 137 = .ok (.aload_n 0, 1) := by decide +kernel
theorem dX12_counts_138 : decode cX12_counts 138 = .ok (.getfield 225, 3) := by decide +kernel
theorem dX12_counts_141 : decode cX12_counts 141 = .ok (.ifCond .ne 7, 3) := by decide +kernel
theorem dX12_counts_144 : decode cX12_counts 144 = .ok (.iload_n 2, 1) := by decide +kernel
theorem dX12_counts_145 : decode cX12_counts 145 = .ok (.goto 7, 3) := by decide +kernel
theorem dX12_counts_148 : decode cX12_counts 148 = .ok (.aload_n 0, 1) := by decide +kernel
theorem dX12_counts_149 : decode cX12_counts 149 = .ok (.getfield 228, 3) := by decide +kernel
theorem dX12_counts_152 : decode cX12_counts 152 = .ok (.putfield 228, 3) := by decide +kernel
theorem dX12_counts_155 : decode cX12_counts 155 = .ok (.aload_n 0, 1) := by decide +kernel
theorem dX12_counts_156 : decode cX12_counts 156 = .ok (.dup, 1) := by decide +kernel
theorem dX12_counts_157 : decode cX12_counts 157 = .ok (.getfield 231, 3) := by decide +kernel
theorem dX12_counts_160 : decode cX12_counts 160 = .ok (.iload 4, 2) := by decide +kernel
theorem dX12_counts_162 : decode cX12_counts 162 = .ok (.ifCond .eq 7, 3) := by decide +kernel
theorem dX12_counts_165 : decode cX12_counts 165 = .ok (.iload_n 3, 1) := by decide +kernel
theorem dX12_counts_166 : decode cX12_counts 166 = .ok (.goto 5, 3) := by decide +kernel
theorem dX12_counts_169 : decode cX12_counts 169 = .ok (.bipush 15, 2) := by decide +kernel
theorem dX12_counts_171 : decode cX12_counts 171 = .ok (.iand, 1) := by decide +kernel
theorem dX12_counts_172 : decode cX12_counts 172 = .ok (.putfield 231, 3) := by decide +kernel
theorem dX12_counts_175 : decode cX12_counts 175 = .ok (.aload_n 0, 1) := by decide +kernel
theorem dX12_counts_176 : decode cX12_counts 176 = .ok (.dup, 1) := by decide +kernel
theorem dX12_counts_177 : decode cX12_counts 177 = .ok (.getfield 225, 3) := by decide +kernel
theorem dX12_counts_180 : decode cX12_counts 180 = .ok (.iload 4, 2) := by decide +kernel
theorem dX12_counts_182 : decode cX12_counts 182 = .ok (.ifCond .eq 7, 3) := by decide +kernel
theorem dX12_counts_185 : decode cX12_counts 185 = .ok (.iconst 1, 1) := by decide +kernel
theorem dX12_counts_186 : decode cX12_counts 186 = .ok (.goto 4, 3) := by decide +kernel
theorem dX12_counts_189 : decode cX12_counts 189 = .ok (.iconst 0, 1) := by decide +kernel
theorem dX12_counts_190 : decode cX12_counts 190 = .ok (.iadd, 1) := by decide +kernel
theorem dX12_counts_191 : decode cX12_counts 191 = .ok (.putfield 225, 3) := by decide +kernel
theorem dX12_counts_194 : decode cX12_counts 194 = .ok (.iinc 2 1, 3) := by decide +kernel
theorem dX12_counts_197 : decode cX12_counts 197 = .ok (.goto (-175), 3) := by decide +kernel
theorem dX12_counts_200 : decode cX12_counts 200 = .ok (.return_, 1) := by decide +kernel
theorem dX12_counted_0 : decode cX12_counted 0 = .ok (.iload_n 1, 1) := by decide +kernel
theorem dX12_counted_1 : decode cX12_counted 1 = .ok (.i2l, 1) := by decide +kernel
theorem dX12_counted_2 : decode cX12_counted 2 = .ok (.lconst 1, 1) := by decide +kernel
theorem dX12_counted_3 : decode cX12_counted 3 = .ok (.ldc2_w 202, 3) := by decide +kernel
theorem dX12_counted_6 : decode cX12_counted 6 = .ok (.invokestatic 67, 3) := by decide +kernel
theorem dX12_counted_9 : decode cX12_counted 9 = .ok (.ifCond .ne 6, 3) := by decide +kernel
theorem dX12_counted_12 : decode cX12_counted 12 = .ok (.ldc 71, 2) := by decide +kernel
theorem dX12_counted_14 : decode cX12_counted 14 = .ok (.ireturn, 1) := by decide +kernel
theorem dX12_counted_15 : decode cX12_counted 15 = .ok (.aload_n 0, 1) := by decide +kernel
theorem dX12_counted_16 : decode cX12_counted 16 = .ok (.getfield 13, 3) := by decide +kernel
theorem dX12_counted_19 : decode cX12_counted 19 = .ok (.iconst 0, 1) := by decide +kernel
theorem dX12_counted_20 : decode cX12_counted 20 = .ok (.iaload, 1) := by decide +kernel
theorem dX12_counted_21 : decode cX12_counted 21 = .ok (.ifCond .ne 6, 3) := by decide +kernel
theorem dX12_counted_24 : decode cX12_counted 24 = .ok (.ldc 158, 2) := by decide +kernel
theorem dX12_counted_26 : decode cX12_counted 26 = .ok (.ireturn, 1) := by decide +kernel
theorem dX12_counted_27 : decode cX12_counted 27 = .ok (.aload_n 0, 1) := by decide +kernel
theorem dX12_counted_28 : decode cX12_counted 28 = .ok (.iload_n 1, 1) := by decide +kernel
theorem dX12_counted_29 : decode cX12_counted 29 = .ok (.invokevirtual 234, 3) := by decide +kernel
theorem dX12_counted_32 : decode cX12_counted 32 = .ok (.iload_n 2, 1) := by decide +kernel
theorem dX12_counted_33 : decode cX12_counted 33 = .ok (.iconst (-1), 1) := by decide +kernel
theorem dX12_counted_34 : decode cX12_counted 34 = .ok (.if_icmp .ne 10, 3) := by decide +kernel
theorem dX12_counted_37 : decode cX12_counted 37 = .ok (.aload_n 0, 1) := by decide +kernel
theorem dX12_counted_38 : decode cX12_counted 38 = .ok (.getfield 225, 3) := by decide +kernel
theorem dX12_counted_41 : decode cX12_counted 41 = .ok (.goto 36, 3) := by decide +kernel
theorem dX12_counted_44 : decode cX12_counted 44 = .ok (.aload_n 0, 1) := by decide +kernel
theorem dX12_counted_45 : decode cX12_counted 45 = .ok (.getfield 225, 3) := by decide +kernel
theorem dX12_counted_48 : decode cX12_counted 48 = .ok (.ifCond .le 28, 3) := by decide +kernel
theorem dX12_counted_51 : decode cX12_counted 51 = .ok (.iload_n 2, 1) := by decide +kernel
theorem dX12_counted_52 : decode cX12_counted 52 = .ok (.i2l, 1) := by decide +kernel
theorem dX12_counted_53 : decode cX12_counted 53 = .ok (.lconst 0, 1) := by decide +kernel
theorem dX12_counted_54 : decode cX12_counted 54 = .ok (.iload_n 1, 1) := by decide +kernel
theorem dX12_counted_55 : decode cX12_counted 55 = .ok (.iconst 1, 1) := by decide +kernel
theorem dX12_counted_56 : decode cX12_counted 56 = .ok (.isub, 1) := by decide +kernel
theorem dX12_counted_57 : decode cX12_counted 57 = .ok (.i2l, 1) := by decide +kernel
theorem dX12_counted_58 : decode cX12_counted 58 = .ok (.invokestatic 67, 3) := by decide +kernel
theorem dX12_counted_61 : decode cX12_counted 61 = .ok (.ifCond .eq 15, 3) := by decide +kernel
theorem dX12_counted_64 : decode cX12_counted 64 = .ok (.aload_n 0, 1) := by decide +kernel
theorem dX12_counted_65 : decode cX12_counted 65 = .ok (.getfield 228, 3) := by decide +kernel
theorem dX12_counted_68 : decode cX12_counted 68 = .ok (.iload_n 1, 1) := by decide +kernel
theorem dX12_counted_69 : decode cX12_counted 69 = .ok (.iload_n 2, 1) := by decide +kernel
theorem dX12_counted_70 : decode cX12_counted 70 = .ok (.invokestatic 198, 3) := by decide +kernel
theorem dX12_counted_73 : decode cX12_counted 73 = .ok (.goto 4, 3) := by decide +kernel
theorem dX12_counted_76 : decode cX12_counted 76 = .ok (.iconst (-1), 1) := by decide +kernel
theorem dX12_counted_77 : decode cX12_counted 77 = .ok (.ireturn, 1) := by decide +kernel
theorem dX12_sure_0 : decode cX12_sure 0 = .ok (.iload_n 1, 1) := by decide +kernel
theorem dX12_sure_1 : decode cX12_sure 1 = .ok (.i2l, 1) := by decide +kernel
theorem dX12_sure_2 : decode cX12_sure 2 = .ok (.lconst 1, 1) := by decide +kernel
theorem dX12_sure_3 : decode cX12_sure 3 = .ok (.ldc2_w 202, 3) := by decide +kernel
theorem dX12_sure_6 : decode cX12_sure 6 = .ok (.invokestatic 67, 3) := by decide +kernel
theorem dX12_sure_9 : decode cX12_sure 9 = .ok (.ifCond .ne 6, 3) := by decide +kernel
theorem dX12_sure_12 : decode cX12_sure 12 = .ok (.ldc 71, 2) := by decide +kernel
theorem dX12_sure_14 : decode cX12_sure 14 = .ok (.ireturn, 1) := by decide +kernel
theorem dX12_sure_15 : decode cX12_sure 15 = .ok (.aload_n 0, 1) := by decide +kernel
theorem dX12_sure_16 : decode cX12_sure 16 = .ok (.getfield 13, 3) := by decide +kernel
theorem dX12_sure_19 : decode cX12_sure 19 = .ok (.iconst 0, 1) := by decide +kernel
theorem dX12_sure_20 : decode cX12_sure 20 = .ok (.iaload, 1) := by decide +kernel
theorem dX12_sure_21 : decode cX12_sure 21 = .ok (.ifCond .ne 6, 3) := by decide +kernel
theorem dX12_sure_24 : decode cX12_sure 24 = .ok (.ldc 158, 2) := by decide +kernel
theorem dX12_sure_26 : decode cX12_sure 26 = .ok (.ireturn, 1) := by decide +kernel
theorem dX12_sure_27 : decode cX12_sure 27 = .ok (.aload_n 0, 1) := by decide +kernel
theorem dX12_sure_28 : decode cX12_sure 28 = .ok (.iload_n 1, 1) := by decide +kernel
theorem dX12_sure_29 : decode cX12_sure 29 = .ok (.invokevirtual 234, 3) := by decide +kernel
theorem dX12_sure_32 : decode cX12_sure 32 = .ok (.aload_n 0, 1) := by decide +kernel
theorem dX12_sure_33 : decode cX12_sure 33 = .ok (.getfield 225, 3) := by decide +kernel
theorem dX12_sure_36 : decode cX12_sure 36 = .ok (.ifCond .le 10, 3) := by decide +kernel
theorem dX12_sure_39 : decode cX12_sure 39 = .ok (.aload_n 0, 1) := by decide +kernel
theorem dX12_sure_40 : decode cX12_sure 40 = .ok (.getfield 231, 3) := by decide +kernel
theorem dX12_sure_43 : decode cX12_sure 43 = .ok (.goto 4, 3) := by decide +kernel
theorem dX12_sure_46 : decode cX12_sure 46 = .ok (.iconst 0, 1) := by decide +kernel
theorem dX12_sure_47 : decode cX12_sure 47 = .ok (.ireturn, 1) := by decide +kernel
theorem dX12_write_0 : decode cX12_write 0 = .ok (.iload_n 1, 1) := by decide +kernel
theorem dX12_write_1 : decode cX12_write 1 = .ok (.i2l, 1) := by decide +kernel
theorem dX12_write_2 : decode cX12_write 2 = .ok (.lconst 0, 1) := by decide +kernel
theorem dX12_write_3 : decode cX12_write 3 = .ok (.ldc2_w 156, 3) := by decide +kernel
theorem dX12_write_6 : decode cX12_write 6 = .ok (.invokestatic 67, 3) := by decide +kernel
theorem dX12_write_9 : decode cX12_write 9 = .ok (.ifCond .ne 6, 3) := by decide +kernel
theorem dX12_write_12 : decode cX12_write 12 = .ok (.ldc 152, 2) := by decide +kernel
theorem dX12_write_14 : decode cX12_write 14 = .ok (.ireturn, 1) := by decide +kernel
theorem dX12_write_15 : decode cX12_write 15 = .ok (.aload_n 0, 1) := by decide +kernel
theorem dX12_write_16 : decode cX12_write 16 = .ok (.getfield 116, 3) := by decide +kernel
theorem dX12_write_19 : decode cX12_write 19 = .ok (.bipush 20, 2) := by decide +kernel
theorem dX12_write_21 : decode cX12_write 21 = .ok (.if_icmp .ne 6, 3) := by decide +kernel
theorem dX12_write_24 : decode cX12_write 24 = .ok (.ldc 75, 2) := by decide +kernel
theorem dX12_write_26 : decode cX12_write 26 = .ok (.ireturn, 1) := by decide +kernel
theorem dX12_write_27 : decode cX12_write 27 = .ok (.aload_n 0, 1) := by decide +kernel
theorem dX12_write_28 : decode cX12_write 28 = .ok (.getfield 49, 3) := by decide +kernel
theorem dX12_write_31 : decode cX12_write 31 = .ok (.aload_n 0, 1) := by decide +kernel
theorem dX12_write_32 : decode cX12_write 32 = .ok (.getfield 116, 3) := by decide +kernel
theorem dX12_write_35 : decode cX12_write 35 = .ok (.iload_n 1, 1) := by decide +kernel
theorem dX12_write_36 : decode cX12_write 36 = .ok (.iastore, 1) := by decide +kernel
theorem dX12_write_37 : decode cX12_write 37 = .ok (.aload_n 0, 1) := by decide +kernel
theorem dX12_write_38 : decode cX12_write 38 = .ok (.dup, 1) := by decide +kernel
theorem dX12_write_39 : decode cX12_write 39 = .ok (.getfield 116, 3) := by decide +kernel
theorem dX12_write_42 : decode cX12_write 42 = .ok (.iconst 1, 1) := by decide +kernel
theorem dX12_write_43 : decode cX12_write 43 = .ok (.iadd, 1) := by decide +kernel
theorem dX12_write_44 : decode cX12_write 44 = .ok (.putfield 116, 3) := by decide +kernel
theorem dX12_write_47 : decode cX12_write 47 = .ok (.aload_n 0, 1) := by decide +kernel
theorem dX12_write_48 : decode cX12_write 48 = .ok (.getfield 116, 3) := by decide +kernel
theorem dX12_write_51 : decode cX12_write 51 = .ok (.ireturn, 1) := by decide +kernel
theorem dX12_judge_0 : decode cX12_judge 0 = .ok (.iload_n 1, 1) := by decide +kernel
theorem dX12_judge_1 : decode cX12_judge 1 = .ok (.i2l, 1) := by decide +kernel
theorem dX12_judge_2 : decode cX12_judge 2 = .ok (.lconst 0, 1) := by decide +kernel
theorem dX12_judge_3 : decode cX12_judge 3 = .ok (.lconst 1, 1) := by decide +kernel
theorem dX12_judge_4 : decode cX12_judge 4 = .ok (.invokestatic 67, 3) := by decide +kernel
theorem dX12_judge_7 : decode cX12_judge 7 = .ok (.ifCond .ne 6, 3) := by decide +kernel
theorem dX12_judge_10 : decode cX12_judge 10 = .ok (.ldc 71, 2) := by decide +kernel
theorem dX12_judge_12 : decode cX12_judge 12 = .ok (.ireturn, 1) := by decide +kernel
theorem dX12_judge_13 : decode cX12_judge 13 = .ok (.aload_n 0, 1) := by decide +kernel
theorem dX12_judge_14 : decode cX12_judge 14 = .ok (.invokevirtual 122, 3) := by decide +kernel
theorem dX12_judge_17 : decode cX12_judge 17 = .ok (.ifCond .ne 6, 3) := by decide +kernel
theorem dX12_judge_20 : decode cX12_judge 20 = .ok (.ldc 158, 2) := by decide +kernel
theorem dX12_judge_22 : decode cX12_judge 22 = .ok (.ireturn, 1) := by decide +kernel
theorem dX12_judge_23 : decode cX12_judge 23 = .ok (.aload_n 0, 1) := by decide +kernel
theorem dX12_judge_24 : decode cX12_judge 24 = .ok (.invokevirtual 189, 3) := by decide +kernel
theorem dX12_judge_27 : decode cX12_judge 27 = .ok (.iconst (-1), 1) := by decide +kernel
theorem dX12_judge_28 : decode cX12_judge 28 = .ok (.istore_n 2, 1) := by decide +kernel
theorem dX12_judge_29 : decode cX12_judge 29 = .ok (.iconst 0, 1) := by decide +kernel
theorem dX12_judge_30 : decode cX12_judge 30 = .ok (.istore_n 3, 1) := by decide +kernel
theorem dX12_judge_31 : decode cX12_judge 31 = .ok (.iload_n 3, 1) := by decide +kernel
theorem dX12_judge_32 : decode cX12_judge 32 = .ok (.aload_n 0, 1) := by decide +kernel
theorem dX12_judge_33 : decode cX12_judge 33 = .ok (.getfield 116, 3) := by decide +kernel
theorem dX12_judge_36 : decode cX12_judge 36 = .ok (.if_icmp .ge 37, 3) := by decide +kernel
theorem dX12_judge_39 : decode cX12_judge 39 = .ok (.aload_n 0, 1) := by decide +kernel
theorem dX12_judge_40 : decode cX12_judge 40 = .ok (.aload_n 0, 1) := by decide +kernel
theorem dX12_judge_41 : decode cX12_judge 41 = .ok (.getfield 49, 3) := by decide +kernel
theorem dX12_judge_44 : decode cX12_judge 44 = .ok (.iload_n 3, 1) := by decide +kernel
theorem dX12_judge_45 : decode cX12_judge 45 = .ok (.iaload, 1) := by decide +kernel
theorem dX12_judge_46 : decode cX12_judge 46 = .ok (.invokevirtual 166, 3) := by decide +kernel
theorem dX12_judge_49 : decode cX12_judge 49 = .ok (.iload_n 2, 1) := by decide +kernel
theorem dX12_judge_50 : decode cX12_judge 50 = .ok (.iconst (-1), 1) := by decide +kernel
theorem dX12_judge_51 : decode cX12_judge 51 = .ok (.if_icmp .ne 14, 3) := by decide +kernel
theorem dX12_judge_54 : decode cX12_judge 54 = .ok (.aload_n 0, 1) := by decide +kernel
theorem dX12_judge_55 : decode cX12_judge 55 = .ok (.invokevirtual 142, 3) := by decide +kernel
theorem dX12_judge_58 : decode cX12_judge 58 = .ok (.ifCond .eq 7, 3) := by decide +kernel
theorem dX12_judge_61 : decode cX12_judge 61 = .ok (.iload_n 3, 1) := by decide +kernel
theorem dX12_judge_62 : decode cX12_judge 62 = .ok (.goto 4, 3) := by decide +kernel
theorem dX12_judge_65 : decode cX12_judge 65 = .ok (.iload_n 2, 1) := by decide +kernel
theorem dX12_judge_66 : decode cX12_judge 66 = .ok (.istore_n 2, 1) := by decide +kernel
theorem dX12_judge_67 : decode cX12_judge 67 = .ok (.iinc 3 1, 3) := by decide +kernel
theorem dX12_judge_70 : decode cX12_judge 70 = .ok (.goto (-39), 3) := by decide +kernel
theorem dX12_judge_73 : decode cX12_judge 73 = .ok (.aload_n 0, 1) := by decide +kernel
theorem dX12_judge_74 : decode cX12_judge 74 = .ok (.invokevirtual 145, 3) := by decide +kernel
theorem dX12_judge_77 : decode cX12_judge 77 = .ok (.istore_n 3, 1) := by decide +kernel
theorem dX12_judge_78 : decode cX12_judge 78 = .ok (.aload_n 0, 1) := by decide +kernel
theorem dX12_judge_79 : decode cX12_judge 79 = .ok (.invokevirtual 195, 3) := by decide +kernel
theorem dX12_judge_82 : decode cX12_judge 82 = .ok (.iload_n 1, 1) := by decide +kernel
theorem dX12_judge_83 : decode cX12_judge 83 = .ok (.ifCond .ne 7, 3) := by decide +kernel
theorem dX12_judge_86 : decode cX12_judge 86 = .ok (.iload_n 2, 1) := by decide +kernel
theorem dX12_judge_87 : decode cX12_judge 87 = .ok (.goto 4, 3) := by decide +kernel
theorem dX12_judge_90 : decode cX12_judge 90 = .ok (.iload_n 3, 1) := by decide +kernel
theorem dX12_judge_91 : decode cX12_judge 91 = .ok (.ireturn, 1) := by decide +kernel
theorem dX12_tear_0 : decode cX12_tear 0 = .ok (.aload_n 0, 1) := by decide +kernel
theorem dX12_tear_1 : decode cX12_tear 1 = .ok (.getfield 113, 3) := by decide +kernel
theorem dX12_tear_4 : decode cX12_tear 4 = .ok (.aload_n 0, 1) := by decide +kernel
theorem dX12_tear_5 : decode cX12_tear 5 = .ok (.getfield 116, 3) := by decide +kernel
theorem dX12_tear_8 : decode cX12_tear 8 = .ok (.iadd, 1) := by decide +kernel
theorem dX12_tear_9 : decode cX12_tear 9 = .ok (.istore_n 1, 1) := by decide +kernel
theorem dX12_tear_10 : decode cX12_tear 10 = .ok (.aload_n 0, 1) := by decide +kernel
theorem dX12_tear_11 : decode cX12_tear 11 = .ok (.iconst 0, 1) := by decide +kernel
theorem dX12_tear_12 : decode cX12_tear 12 = .ok (.putfield 113, 3) := by decide +kernel
theorem dX12_tear_15 : decode cX12_tear 15 = .ok (.aload_n 0, 1) := by decide +kernel
theorem dX12_tear_16 : decode cX12_tear 16 = .ok (.iconst 0, 1) := by decide +kernel
theorem dX12_tear_17 : decode cX12_tear 17 = .ok (.putfield 116, 3) := by decide +kernel
theorem dX12_tear_20 : decode cX12_tear 20 = .ok (.iload_n 1, 1) := by decide +kernel
theorem dX12_tear_21 : decode cX12_tear 21 = .ok (.ireturn, 1) := by decide +kernel
theorem dX12_seed_0 : decode cX12_seed 0 = .ok (.iload_n 1, 1) := by decide +kernel
theorem dX12_seed_1 : decode cX12_seed 1 = .ok (.ifCond .ge 6, 3) := by decide +kernel
theorem dX12_seed_4 : decode cX12_seed 4 = .ok (.ldc 71, 2) := by decide +kernel
theorem dX12_seed_6 : decode cX12_seed 6 = .ok (.ireturn, 1) := by decide +kernel
theorem dX12_seed_7 : decode cX12_seed 7 = .ok (.aload_n 0, 1) := by decide +kernel
theorem dX12_seed_8 : decode cX12_seed 8 = .ok (.getfield 174, 3) := by decide +kernel
theorem dX12_seed_11 : decode cX12_seed 11 = .ok (.istore_n 2, 1) := by decide +kernel
theorem dX12_seed_12 : decode cX12_seed 12 = .ok (.aload_n 0, 1) := by decide +kernel
theorem dX12_seed_13 : decode cX12_seed 13 = .ok (.iload_n 1, 1) := by decide +kernel
theorem dX12_seed_14 : decode cX12_seed 14 = .ok (.putfield 174, 3) := by decide +kernel
theorem dX12_seed_17 : decode cX12_seed 17 = .ok (.iload_n 2, 1) := by decide +kernel
theorem dX12_seed_18 : decode cX12_seed 18 = .ok (.ireturn, 1) := by decide +kernel
theorem dX12_keep_0 : decode cX12_keep 0 = .ok (.iload_n 1, 1) := by decide +kernel
theorem dX12_keep_1 : decode cX12_keep 1 = .ok (.i2l, 1) := by decide +kernel
theorem dX12_keep_2 : decode cX12_keep 2 = .ok (.lconst 0, 1) := by decide +kernel
theorem dX12_keep_3 : decode cX12_keep 3 = .ok (.lconst 1, 1) := by decide +kernel
theorem dX12_keep_4 : decode cX12_keep 4 = .ok (.invokestatic 67, 3) := by decide +kernel
theorem dX12_keep_7 : decode cX12_keep 7 = .ok (.ifCond .ne 6, 3) := by decide +kernel
theorem dX12_keep_10 : decode cX12_keep 10 = .ok (.ldc 152, 2) := by decide +kernel
theorem dX12_keep_12 : decode cX12_keep 12 = .ok (.ireturn, 1) := by decide +kernel
theorem dX12_keep_13 : decode cX12_keep 13 = .ok (.aload_n 0, 1) := by decide +kernel
theorem dX12_keep_14 : decode cX12_keep 14 = .ok (.getfield 52, 3) := by decide +kernel
theorem dX12_keep_17 : decode cX12_keep 17 = .ok (.bipush 15, 2) := by decide +kernel
theorem dX12_keep_19 : decode cX12_keep 19 = .ok (.iload_n 1, 1) := by decide +kernel
theorem dX12_keep_20 : decode cX12_keep 20 = .ok (.imul, 1) := by decide +kernel
theorem dX12_keep_21 : decode cX12_keep 21 = .ok (.iconst 1, 1) := by decide +kernel
theorem dX12_keep_22 : decode cX12_keep 22 = .ok (.iastore, 1) := by decide +kernel
theorem dX12_keep_23 : decode cX12_keep 23 = .ok (.aload_n 0, 1) := by decide +kernel
theorem dX12_keep_24 : decode cX12_keep 24 = .ok (.getfield 52, 3) := by decide +kernel
theorem dX12_keep_27 : decode cX12_keep 27 = .ok (.bipush 15, 2) := by decide +kernel
theorem dX12_keep_29 : decode cX12_keep 29 = .ok (.iload_n 1, 1) := by decide +kernel
theorem dX12_keep_30 : decode cX12_keep 30 = .ok (.imul, 1) := by decide +kernel
theorem dX12_keep_31 : decode cX12_keep 31 = .ok (.iconst 1, 1) := by decide +kernel
theorem dX12_keep_32 : decode cX12_keep 32 = .ok (.iadd, 1) := by decide +kernel
theorem dX12_keep_33 : decode cX12_keep 33 = .ok (.aload_n 0, 1) := by decide +kernel
theorem dX12_keep_34 : decode cX12_keep 34 = .ok (.getfield 174, 3) := by decide +kernel
theorem dX12_keep_37 : decode cX12_keep 37 = .ok (.iastore, 1) := by decide +kernel
theorem dX12_keep_38 : decode cX12_keep 38 = .ok (.iconst 0, 1) := by decide +kernel
theorem dX12_keep_39 : decode cX12_keep 39 = .ok (.istore_n 2, 1) := by decide +kernel
theorem dX12_keep_40 : decode cX12_keep 40 = .ok (.iload_n 2, 1) := by decide +kernel
theorem dX12_keep_41 : decode cX12_keep 41 = .ok (.bipush 13, 2) := by decide +kernel
theorem dX12_keep_43 : decode cX12_keep 43 = .ok (.if_icmp .ge 28, 3) := by decide +kernel
theorem dX12_keep_46 : decode cX12_keep 46 = .ok (.aload_n 0, 1) := by decide +kernel
theorem dX12_keep_47 : decode cX12_keep 47 = .ok (.getfield 52, 3) := by decide +kernel
theorem dX12_keep_50 : decode cX12_keep 50 = .ok (.bipush 15, 2) := by decide +kernel
theorem dX12_keep_52 : decode cX12_keep 52 = .ok (.iload_n 1, 1) := by decide +kernel
theorem dX12_keep_53 : decode cX12_keep 53 = .ok (.imul, 1) := by decide +kernel
theorem dX12_keep_54 : decode cX12_keep 54 = .ok (.iconst 2, 1) := by decide +kernel
theorem dX12_keep_55 : decode cX12_keep 55 = .ok (.iadd, 1) := by decide +kernel
theorem dX12_keep_56 : decode cX12_keep 56 = .ok (.iload_n 2, 1) := by decide +kernel
theorem dX12_keep_57 : decode cX12_keep 57 = .ok (.iadd, 1) := by decide +kernel
theorem dX12_keep_58 : decode cX12_keep 58 = .ok (.aload_n 0, 1) := by decide +kernel
theorem dX12_keep_59 : decode cX12_keep 59 = .ok (.getfield 19, 3) := by decide +kernel
theorem dX12_keep_62 : decode cX12_keep 62 = .ok (.iload_n 2, 1) := by decide +kernel
theorem dX12_keep_63 : decode cX12_keep 63 = .ok (.iaload, 1) := by decide +kernel
theorem dX12_keep_64 : decode cX12_keep 64 = .ok (.iastore, 1) := by decide +kernel
theorem dX12_keep_65 : decode cX12_keep 65 = .ok (.iinc 2 1, 3) := by decide +kernel
theorem dX12_keep_68 : decode cX12_keep 68 = .ok (.goto (-28), 3) := by decide +kernel
theorem dX12_keep_71 : decode cX12_keep 71 = .ok (.aload_n 0, 1) := by decide +kernel
theorem dX12_keep_72 : decode cX12_keep 72 = .ok (.iconst 0, 1) := by decide +kernel
theorem dX12_keep_73 : decode cX12_keep 73 = .ok (.putfield 119, 3) := by decide +kernel
theorem dX12_keep_76 : decode cX12_keep 76 = .ok (.iconst 1, 1) := by decide +kernel
theorem dX12_keep_77 : decode cX12_keep 77 = .ok (.ireturn, 1) := by decide +kernel
theorem dX12_goBack_0 : decode cX12_goBack 0 = .ok (.iload_n 1, 1) := by decide +kernel
theorem dX12_goBack_1 : decode cX12_goBack 1 = .ok (.i2l, 1) := by decide +kernel
theorem dX12_goBack_2 : decode cX12_goBack 2 = .ok (.lconst 0, 1) := by decide +kernel
theorem dX12_goBack_3 : decode cX12_goBack 3 = .ok (.lconst 1, 1) := by decide +kernel
theorem dX12_goBack_4 : decode cX12_goBack 4 = .ok (.invokestatic 67, 3) := by decide +kernel
theorem dX12_goBack_7 : decode cX12_goBack 7 = .ok (.ifCond .ne 6, 3) := by decide +kernel
theorem dX12_goBack_10 : decode cX12_goBack 10 = .ok (.ldc 152, 2) := by decide +kernel
theorem dX12_goBack_12 : decode cX12_goBack 12 = .ok (.ireturn, 1) := by decide +kernel
theorem dX12_goBack_13 : decode cX12_goBack 13 = .ok (.aload_n 0, 1) := by decide +kernel
theorem dX12_goBack_14 : decode cX12_goBack 14 = .ok (.getfield 52, 3) := by decide +kernel
theorem dX12_goBack_17 : decode cX12_goBack 17 = .ok (.bipush 15, 2) := by decide +kernel
theorem dX12_goBack_19 : decode cX12_goBack 19 = .ok (.iload_n 1, 1) := by decide +kernel
theorem dX12_goBack_20 : decode cX12_goBack 20 = .ok (.imul, 1) := by decide +kernel
theorem dX12_goBack_21 : decode cX12_goBack 21 = .ok (.iaload, 1) := by decide +kernel
theorem dX12_goBack_22 : decode cX12_goBack 22 = .ok (.ifCond .ne 6, 3) := by decide +kernel
theorem dX12_goBack_25 : decode cX12_goBack 25 = .ok (.ldc 158, 2) := by decide +kernel
theorem dX12_goBack_27 : decode cX12_goBack 27 = .ok (.ireturn, 1) := by decide +kernel
theorem dX12_goBack_28 : decode cX12_goBack 28 = .ok (.aload_n 0, 1) := by decide +kernel
theorem dX12_goBack_29 : decode cX12_goBack 29 = .ok (.aload_n 0, 1) := by decide +kernel
theorem dX12_goBack_30 : decode cX12_goBack 30 = .ok (.getfield 52, 3) := by decide +kernel
theorem dX12_goBack_33 : decode cX12_goBack 33 = .ok (.bipush 15, 2) := by decide +kernel
theorem dX12_goBack_35 : decode cX12_goBack 35 = .ok (.iload_n 1, 1) := by decide +kernel
theorem dX12_goBack_36 : decode cX12_goBack 36 = .ok (.imul, 1) := by decide +kernel
theorem dX12_goBack_37 : decode cX12_goBack 37 = .ok (.iconst 1, 1) := by decide +kernel
theorem dX12_goBack_38 : decode cX12_goBack 38 = .ok (.iadd, 1) := by decide +kernel
theorem dX12_goBack_39 : decode cX12_goBack 39 = .ok (.iaload, 1) := by decide +kernel
theorem dX12_goBack_40 : decode cX12_goBack 40 = .ok (.putfield 174, 3) := by decide +kernel
theorem dX12_goBack_43 : decode cX12_goBack 43 = .ok (.iconst 0, 1) := by decide +kernel
theorem dX12_goBack_44 : decode cX12_goBack 44 = .ok (.istore_n 2, 1) := by decide +kernel
theorem dX12_goBack_45 : decode cX12_goBack 45 = .ok (.iload_n 2, 1) := by decide +kernel
theorem dX12_goBack_46 : decode cX12_goBack 46 = .ok (.bipush 13, 2) := by decide +kernel
theorem dX12_goBack_48 : decode cX12_goBack 48 = .ok (.if_icmp .ge 28, 3) := by decide +kernel
theorem dX12_goBack_51 : decode cX12_goBack 51 = .ok (.aload_n 0, 1) := by decide +kernel
theorem dX12_goBack_52 : decode cX12_goBack 52 = .ok (.getfield 19, 3) := by decide +kernel
theorem dX12_goBack_55 : decode cX12_goBack 55 = .ok (.iload_n 2, 1) := by decide +kernel
theorem dX12_goBack_56 : decode cX12_goBack 56 = .ok (.aload_n 0, 1) := by decide +kernel
theorem dX12_goBack_57 : decode cX12_goBack 57 = .ok (.getfield 52, 3) := by decide +kernel
theorem dX12_goBack_60 : decode cX12_goBack 60 = .ok (.bipush 15, 2) := by decide +kernel
theorem dX12_goBack_62 : decode cX12_goBack 62 = .ok (.iload_n 1, 1) := by decide +kernel
theorem dX12_goBack_63 : decode cX12_goBack 63 = .ok (.imul, 1) := by decide +kernel
theorem dX12_goBack_64 : decode cX12_goBack 64 = .ok (.iconst 2, 1) := by decide +kernel
theorem dX12_goBack_65 : decode cX12_goBack 65 = .ok (.iadd, 1) := by decide +kernel
theorem dX12_goBack_66 : decode cX12_goBack 66 = .ok (.iload_n 2, 1) := by decide +kernel
theorem dX12_goBack_67 : decode cX12_goBack 67 = .ok (.iadd, 1) := by decide +kernel
theorem dX12_goBack_68 : decode cX12_goBack 68 = .ok (.iaload, 1) := by decide +kernel
theorem dX12_goBack_69 : decode cX12_goBack 69 = .ok (.iastore, 1) := by decide +kernel
theorem dX12_goBack_70 : decode cX12_goBack 70 = .ok (.iinc 2 1, 3) := by decide +kernel
theorem dX12_goBack_73 : decode cX12_goBack 73 = .ok (.goto (-28), 3) := by decide +kernel
theorem dX12_goBack_76 : decode cX12_goBack 76 = .ok (.aload_n 0, 1) := by decide +kernel
theorem dX12_goBack_77 : decode cX12_goBack 77 = .ok (.iconst 0, 1) := by decide +kernel
theorem dX12_goBack_78 : decode cX12_goBack 78 = .ok (.putfield 119, 3) := by decide +kernel
theorem dX12_goBack_81 : decode cX12_goBack 81 = .ok (.iconst 1, 1) := by decide +kernel
theorem dX12_goBack_82 : decode cX12_goBack 82 = .ok (.ireturn, 1) := by decide +kernel
