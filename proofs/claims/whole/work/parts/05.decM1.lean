theorem dX12_in_0 : decode cX12_in 0 = .ok (.lload_n 0, 1) := by decide +kernel
theorem dX12_in_1 : decode cX12_in 1 = .ok (.lload_n 2, 1) := by decide +kernel
theorem dX12_in_2 : decode cX12_in 2 = .ok (.lcmp, 1) := by decide +kernel
theorem dX12_in_3 : decode cX12_in 3 = .ok (.ifCond .lt 14, 3) := by decide +kernel
theorem dX12_in_6 : decode cX12_in 6 = .ok (.lload_n 0, 1) := by decide +kernel
theorem dX12_in_7 : decode cX12_in 7 = .ok (.lload 4, 2) := by decide +kernel
theorem dX12_in_9 : decode cX12_in 9 = .ok (.lcmp, 1) := by decide +kernel
theorem dX12_in_10 : decode cX12_in 10 = .ok (.ifCond .gt 7, 3) := by decide +kernel
theorem dX12_in_13 : decode cX12_in 13 = .ok (.iconst 1, 1) := by decide +kernel
theorem dX12_in_14 : decode cX12_in 14 = .ok (.goto 4, 3) := by decide +kernel
theorem dX12_in_17 : decode cX12_in 17 = .ok (.iconst 0, 1) := by decide +kernel
theorem dX12_in_18 : decode cX12_in 18 = .ok (.ireturn, 1) := by decide +kernel
theorem dX12_init_0 : decode cX12_init 0 = .ok (.aload_n 0, 1) := by decide +kernel
theorem dX12_init_1 : decode cX12_init 1 = .ok (.invokespecial 1, 3) := by decide +kernel
theorem dX12_init_4 : decode cX12_init 4 = .ok (.aload_n 0, 1) := by decide +kernel
theorem dX12_init_5 : decode cX12_init 5 = .ok (.bipush 44, 2) := by decide +kernel
theorem dX12_init_7 : decode cX12_init 7 = .ok (.newarray .int, 2) := by decide +kernel
theorem dX12_init_9 : decode cX12_init 9 = .ok (.putfield 7, 3) := by decide +kernel
theorem dX12_init_12 : decode cX12_init 12 = .ok (.aload_n 0, 1) := by decide +kernel
theorem dX12_init_13 : decode cX12_init 13 = .ok (.bipush 44, 2) := by decide +kernel
theorem dX12_init_15 : decode cX12_init 15 = .ok (.newarray .int, 2) := by decide +kernel
theorem dX12_init_17 : decode cX12_init 17 = .ok (.putfield 13, 3) := by decide +kernel
theorem dX12_init_20 : decode cX12_init 20 = .ok (.aload_n 0, 1) := by decide +kernel
theorem dX12_init_21 : decode cX12_init 21 = .ok (.sipush 200, 3) := by decide +kernel
theorem dX12_init_24 : decode cX12_init 24 = .ok (.newarray .int, 2) := by decide +kernel
theorem dX12_init_26 : decode cX12_init 26 = .ok (.putfield 16, 3) := by decide +kernel
theorem dX12_init_29 : decode cX12_init 29 = .ok (.aload_n 0, 1) := by decide +kernel
theorem dX12_init_30 : decode cX12_init 30 = .ok (.bipush 13, 2) := by decide +kernel
theorem dX12_init_32 : decode cX12_init 32 = .ok (.newarray .int, 2) := by decide +kernel
theorem dX12_init_34 : decode cX12_init 34 = .ok (.putfield 19, 3) := by decide +kernel
theorem dX12_init_37 : decode cX12_init 37 = .ok (.aload_n 0, 1) := by decide +kernel
theorem dX12_init_38 : decode cX12_init 38 = .ok (.bipush 6, 2) := by decide +kernel
theorem dX12_init_40 : decode cX12_init 40 = .ok (.newarray .int, 2) := by decide +kernel
theorem dX12_init_42 : decode cX12_init 42 = .ok (.putfield 22, 3) := by decide +kernel
theorem dX12_init_45 : decode cX12_init 45 = .ok (.aload_n 0, 1) := by decide +kernel
theorem dX12_init_46 : decode cX12_init 46 = .ok (.sipush 390, 3) := by decide +kernel
theorem dX12_init_49 : decode cX12_init 49 = .ok (.newarray .int, 2) := by decide +kernel
theorem dX12_init_51 : decode cX12_init 51 = .ok (.putfield 25, 3) := by decide +kernel
theorem dX12_init_54 : decode cX12_init 54 = .ok (.aload_n 0, 1) := by decide +kernel
theorem dX12_init_55 : decode cX12_init 55 = .ok (.bipush 13, 2) := by decide +kernel
theorem dX12_init_57 : decode cX12_init 57 = .ok (.newarray .int, 2) := by decide +kernel
theorem dX12_init_59 : decode cX12_init 59 = .ok (.putfield 28, 3) := by decide +kernel
theorem dX12_init_62 : decode cX12_init 62 = .ok (.aload_n 0, 1) := by decide +kernel
theorem dX12_init_63 : decode cX12_init 63 = .ok (.bipush 6, 2) := by decide +kernel
theorem dX12_init_65 : decode cX12_init 65 = .ok (.newarray .int, 2) := by decide +kernel
theorem dX12_init_67 : decode cX12_init 67 = .ok (.putfield 31, 3) := by decide +kernel
theorem dX12_init_70 : decode cX12_init 70 = .ok (.aload_n 0, 1) := by decide +kernel
theorem dX12_init_71 : decode cX12_init 71 = .ok (.bipush 6, 2) := by decide +kernel
theorem dX12_init_73 : decode cX12_init 73 = .ok (.newarray .int, 2) := by decide +kernel
theorem dX12_init_75 : decode cX12_init 75 = .ok (.putfield 34, 3) := by decide +kernel
theorem dX12_init_78 : decode cX12_init 78 = .ok (.aload_n 0, 1) := by decide +kernel
theorem dX12_init_79 : decode cX12_init 79 = .ok (.bipush 6, 2) := by decide +kernel
theorem dX12_init_81 : decode cX12_init 81 = .ok (.newarray .int, 2) := by decide +kernel
theorem dX12_init_83 : decode cX12_init 83 = .ok (.putfield 37, 3) := by decide +kernel
theorem dX12_init_86 : decode cX12_init 86 = .ok (.aload_n 0, 1) := by decide +kernel
theorem dX12_init_87 : decode cX12_init 87 = .ok (.sipush 2412, 3) := by decide +kernel
theorem dX12_init_90 : decode cX12_init 90 = .ok (.newarray .int, 2) := by decide +kernel
theorem dX12_init_92 : decode cX12_init 92 = .ok (.putfield 40, 3) := by decide +kernel
theorem dX12_init_95 : decode cX12_init 95 = .ok (.aload_n 0, 1) := by decide +kernel
theorem dX12_init_96 : decode cX12_init 96 = .ok (.bipush 6, 2) := by decide +kernel
theorem dX12_init_98 : decode cX12_init 98 = .ok (.newarray .int, 2) := by decide +kernel
theorem dX12_init_100 : decode cX12_init 100 = .ok (.putfield 43, 3) := by decide +kernel
theorem dX12_init_103 : decode cX12_init 103 = .ok (.aload_n 0, 1) := by decide +kernel
theorem dX12_init_104 : decode cX12_init 104 = .ok (.bipush 6, 2) := by decide +kernel
theorem dX12_init_106 : decode cX12_init 106 = .ok (.newarray .int, 2) := by decide +kernel
theorem dX12_init_108 : decode cX12_init 108 = .ok (.putfield 46, 3) := by decide +kernel
theorem dX12_init_111 : decode cX12_init 111 = .ok (.aload_n 0, 1) := by decide +kernel
theorem dX12_init_112 : decode cX12_init 112 = .ok (.bipush 20, 2) := by decide +kernel
theorem dX12_init_114 : decode cX12_init 114 = .ok (.newarray .int, 2) := by decide +kernel
theorem dX12_init_116 : decode cX12_init 116 = .ok (.putfield 49, 3) := by decide +kernel
theorem dX12_init_119 : decode cX12_init 119 = .ok (.aload_n 0, 1) := by decide +kernel
theorem dX12_init_120 : decode cX12_init 120 = .ok (.bipush 30, 2) := by decide +kernel
theorem dX12_init_122 : decode cX12_init 122 = .ok (.newarray .int, 2) := by decide +kernel
theorem dX12_init_124 : decode cX12_init 124 = .ok (.putfield 52, 3) := by decide +kernel
theorem dX12_init_127 : decode cX12_init 127 = .ok (.aload_n 0, 1) := by decide +kernel
theorem dX12_init_128 : decode cX12_init 128 = .ok (.iconst (-1), 1) := by decide +kernel
theorem dX12_init_129 : decode cX12_init 129 = .ok (.putfield 55, 3) := by decide +kernel
theorem dX12_init_132 : decode cX12_init 132 = .ok (.aload_n 0, 1) := by decide +kernel
theorem dX12_init_133 : decode cX12_init 133 = .ok (.invokevirtual 59, 3) := by decide +kernel
theorem dX12_init_136 : decode cX12_init 136 = .ok (.aload_n 0, 1) := by decide +kernel
theorem dX12_init_137 : decode cX12_init 137 = .ok (.invokevirtual 62, 3) := by decide +kernel
theorem dX12_init_140 : decode cX12_init 140 = .ok (.return_, 1) := by decide +kernel
theorem dX12_plain_0 : decode cX12_plain 0 = .ok (.iconst 0, 1) := by decide +kernel
theorem dX12_plain_1 : decode cX12_plain 1 = .ok (.istore_n 1, 1) := by decide +kernel
theorem dX12_plain_2 : decode cX12_plain 2 = .ok (.iload_n 1, 1) := by decide +kernel
theorem dX12_plain_3 : decode cX12_plain 3 = .ok (.bipush 44, 2) := by decide +kernel
theorem dX12_plain_5 : decode cX12_plain 5 = .ok (.if_icmp .ge 16, 3) := by decide +kernel
theorem dX12_plain_8 : decode cX12_plain 8 = .ok (.aload_n 0, 1) := by decide +kernel
theorem dX12_plain_9 : decode cX12_plain 9 = .ok (.getfield 7, 3) := by decide +kernel
theorem dX12_plain_12 : decode cX12_plain 12 = .ok (.iload_n 1, 1) := by decide +kernel
theorem dX12_plain_13 : decode cX12_plain 13 = .ok (.iconst 0, 1) := by decide +kernel
theorem dX12_plain_14 : decode cX12_plain 14 = .ok (.iastore, 1) := by decide +kernel
theorem dX12_plain_15 : decode cX12_plain 15 = .ok (.iinc 1 1, 3) := by decide +kernel
theorem dX12_plain_18 : decode cX12_plain 18 = .ok (.goto (-16), 3) := by decide +kernel
theorem dX12_plain_21 : decode cX12_plain 21 = .ok (.aload_n 0, 1) := by decide +kernel
theorem dX12_plain_22 : decode cX12_plain 22 = .ok (.getfield 7, 3) := by decide +kernel
theorem dX12_plain_25 : decode cX12_plain 25 = .ok (.iconst 3, 1) := by decide +kernel
theorem dX12_plain_26 : decode cX12_plain 26 = .ok (.iconst 1, 1) := by decide +kernel
theorem dX12_plain_27 : decode cX12_plain 27 = .ok (.iastore, 1) := by decide +kernel
theorem dX12_plain_28 : decode cX12_plain 28 = .ok (.return_, 1) := by decide +kernel
theorem dX12_feed_0 : decode cX12_feed 0 = .ok (.iload_n 1, 1) := by decide +kernel
theorem dX12_feed_1 : decode cX12_feed 1 = .ok (.i2l, 1) := by decide +kernel
theorem dX12_feed_2 : decode cX12_feed 2 = .ok (.lconst 0, 1) := by decide +kernel
theorem dX12_feed_3 : decode cX12_feed 3 = .ok (.ldc2_w 65, 3) := by decide +kernel
theorem dX12_feed_6 : decode cX12_feed 6 = .ok (.invokestatic 67, 3) := by decide +kernel
theorem dX12_feed_9 : decode cX12_feed 9 = .ok (.ifCond .ne 6, 3) := by decide +kernel
theorem dX12_feed_12 : decode cX12_feed 12 = .ok (.ldc 71, 2) := by decide +kernel
theorem dX12_feed_14 : decode cX12_feed 14 = .ok (.ireturn, 1) := by decide +kernel
theorem dX12_feed_15 : decode cX12_feed 15 = .ok (.aload_n 0, 1) := by decide +kernel
theorem dX12_feed_16 : decode cX12_feed 16 = .ok (.getfield 72, 3) := by decide +kernel
theorem dX12_feed_19 : decode cX12_feed 19 = .ok (.sipush 200, 3) := by decide +kernel
theorem dX12_feed_22 : decode cX12_feed 22 = .ok (.if_icmp .ne 6, 3) := by decide +kernel
theorem dX12_feed_25 : decode cX12_feed 25 = .ok (.ldc 75, 2) := by decide +kernel
theorem dX12_feed_27 : decode cX12_feed 27 = .ok (.ireturn, 1) := by decide +kernel
theorem dX12_feed_28 : decode cX12_feed 28 = .ok (.aload_n 0, 1) := by decide +kernel
theorem dX12_feed_29 : decode cX12_feed 29 = .ok (.getfield 16, 3) := by decide +kernel
theorem dX12_feed_32 : decode cX12_feed 32 = .ok (.aload_n 0, 1) := by decide +kernel
theorem dX12_feed_33 : decode cX12_feed 33 = .ok (.getfield 72, 3) := by decide +kernel
theorem dX12_feed_36 : decode cX12_feed 36 = .ok (.iload_n 1, 1) := by decide +kernel
theorem dX12_feed_37 : decode cX12_feed 37 = .ok (.iastore, 1) := by decide +kernel
theorem dX12_feed_38 : decode cX12_feed 38 = .ok (.aload_n 0, 1) := by decide +kernel
theorem dX12_feed_39 : decode cX12_feed 39 = .ok (.dup, 1) := by decide +kernel
theorem dX12_feed_40 : decode cX12_feed 40 = .ok (.getfield 72, 3) := by decide +kernel
theorem dX12_feed_43 : decode cX12_feed 43 = .ok (.iconst 1, 1) := by decide +kernel
theorem dX12_feed_44 : decode cX12_feed 44 = .ok (.iadd, 1) := by decide +kernel
theorem dX12_feed_45 : decode cX12_feed 45 = .ok (.putfield 72, 3) := by decide +kernel
theorem dX12_feed_48 : decode cX12_feed 48 = .ok (.aload_n 0, 1) := by decide +kernel
theorem dX12_feed_49 : decode cX12_feed 49 = .ok (.getfield 72, 3) := by decide +kernel
theorem dX12_feed_52 : decode cX12_feed 52 = .ok (.ireturn, 1) := by decide +kernel
theorem dX12_here_0 : decode cX12_here 0 = .ok (.aload_n 0, 1) := by decide +kernel
theorem dX12_here_1 : decode cX12_here 1 = .ok (.getfield 76, 3) := by decide +kernel
theorem dX12_here_4 : decode cX12_here 4 = .ok (.aload_n 0, 1) := by decide +kernel
theorem dX12_here_5 : decode cX12_here 5 = .ok (.getfield 72, 3) := by decide +kernel
theorem dX12_here_8 : decode cX12_here 8 = .ok (.if_icmp .ge 30, 3) := by decide +kernel
theorem dX12_here_11 : decode cX12_here 11 = .ok (.aload_n 0, 1) := by decide +kernel
theorem dX12_here_12 : decode cX12_here 12 = .ok (.getfield 16, 3) := by decide +kernel
theorem dX12_here_15 : decode cX12_here 15 = .ok (.aload_n 0, 1) := by decide +kernel
theorem dX12_here_16 : decode cX12_here 16 = .ok (.getfield 76, 3) := by decide +kernel
theorem dX12_here_19 : decode cX12_here 19 = .ok (.iaload, 1) := by decide +kernel
theorem dX12_here_20 : decode cX12_here 20 = .ok (.bipush 32, 2) := by decide +kernel
theorem dX12_here_22 : decode cX12_here 22 = .ok (.if_icmp .ne 16, 3) := by decide +kernel
theorem dX12_here_25 : decode cX12_here 25 = .ok (.aload_n 0, 1) := by decide +kernel
theorem dX12_here_26 : decode cX12_here 26 = .ok (.dup, 1) := by decide +kernel
theorem dX12_here_27 : decode cX12_here 27 = .ok (.getfield 76, 3) := by decide +kernel
theorem dX12_here_30 : decode cX12_here 30 = .ok (.iconst 1, 1) := by decide +kernel
theorem dX12_here_31 : decode cX12_here 31 = .ok (.iadd, 1) := by decide +kernel
theorem dX12_here_32 : decode cX12_here 32 = .ok (.putfield 76, 3) := by decide +kernel
theorem dX12_here_35 : decode cX12_here 35 = .ok (.goto (-35), 3) := by decide +kernel
theorem dX12_here_38 : decode cX12_here 38 = .ok (.aload_n 0, 1) := by decide +kernel
theorem dX12_here_39 : decode cX12_here 39 = .ok (.getfield 76, 3) := by decide +kernel
theorem dX12_here_42 : decode cX12_here 42 = .ok (.aload_n 0, 1) := by decide +kernel
theorem dX12_here_43 : decode cX12_here 43 = .ok (.getfield 72, 3) := by decide +kernel
theorem dX12_here_46 : decode cX12_here 46 = .ok (.if_icmp .ge 15, 3) := by decide +kernel
theorem dX12_here_49 : decode cX12_here 49 = .ok (.aload_n 0, 1) := by decide +kernel
theorem dX12_here_50 : decode cX12_here 50 = .ok (.getfield 16, 3) := by decide +kernel
theorem dX12_here_53 : decode cX12_here 53 = .ok (.aload_n 0, 1) := by decide +kernel
theorem dX12_here_54 : decode cX12_here 54 = .ok (.getfield 76, 3) := by decide +kernel
theorem dX12_here_57 : decode cX12_here 57 = .ok (.iaload, 1) := by decide +kernel
theorem dX12_here_58 : decode cX12_here 58 = .ok (.goto 4, 3) := by decide +kernel
theorem dX12_here_61 : decode cX12_here 61 = .ok (.iconst (-1), 1) := by decide +kernel
theorem dX12_here_62 : decode cX12_here 62 = .ok (.ireturn, 1) := by decide +kernel
theorem dX12_faults_0 : decode cX12_faults 0 = .ok (.aload_n 0, 1) := by decide +kernel
theorem dX12_faults_1 : decode cX12_faults 1 = .ok (.getfield 79, 3) := by decide +kernel
theorem dX12_faults_4 : decode cX12_faults 4 = .ok (.ifCond .ne 13, 3) := by decide +kernel
theorem dX12_faults_7 : decode cX12_faults 7 = .ok (.aload_n 0, 1) := by decide +kernel
theorem dX12_faults_8 : decode cX12_faults 8 = .ok (.iload_n 1, 1) := by decide +kernel
theorem dX12_faults_9 : decode cX12_faults 9 = .ok (.putfield 79, 3) := by decide +kernel
theorem dX12_faults_12 : decode cX12_faults 12 = .ok (.aload_n 0, 1) := by decide +kernel
theorem dX12_faults_13 : decode cX12_faults 13 = .ok (.iload_n 2, 1) := by decide +kernel
theorem dX12_faults_14 : decode cX12_faults 14 = .ok (.putfield 55, 3) := by decide +kernel
theorem dX12_faults_17 : decode cX12_faults 17 = .ok (.return_, 1) := by decide +kernel
theorem dX12_number_0 : decode cX12_number 0 = .ok (.aload_n 0, 1) := by decide +kernel
theorem dX12_number_1 : decode cX12_number 1 = .ok (.getfield 79, 3) := by decide +kernel
theorem dX12_number_4 : decode cX12_number 4 = .ok (.ifCond .eq 5, 3) := by decide +kernel
theorem dX12_number_7 : decode cX12_number 7 = .ok (.iload_n 1, 1) := by decide +kernel
theorem dX12_number_8 : decode cX12_number 8 = .ok (.ireturn, 1) := by decide +kernel
theorem dX12_number_9 : decode cX12_number 9 = .ok (.aload_n 0, 1) := by decide +kernel
theorem dX12_number_10 : decode cX12_number 10 = .ok (.invokevirtual 82, 3) := by decide +kernel
theorem dX12_number_13 : decode cX12_number 13 = .ok (.i2l, 1) := by decide +kernel
theorem dX12_number_14 : decode cX12_number 14 = .ok (.ldc2_w 86, 3) := by decide +kernel
theorem dX12_number_17 : decode cX12_number 17 = .ok (.ldc2_w 88, 3) := by decide +kernel
theorem dX12_number_20 : decode cX12_number 20 = .ok (.invokestatic 67, 3) := by decide +kernel
theorem dX12_number_23 : decode cX12_number 23 = .ok (.ifCond .ne 14, 3) := by decide +kernel
theorem dX12_number_26 : decode cX12_number 26 = .ok (.aload_n 0, 1) := by decide +kernel
theorem dX12_number_27 : decode cX12_number 27 = .ok (.iconst 1, 1) := by decide +kernel
theorem dX12_number_28 : decode cX12_number 28 = .ok (.aload_n 0, 1) := by decide +kernel
theorem dX12_number_29 : decode cX12_number 29 = .ok (.getfield 76, 3) := by decide +kernel
theorem dX12_number_32 : decode cX12_number 32 = .ok (.invokevirtual 90, 3) := by decide +kernel
theorem dX12_number_35 : decode cX12_number 35 = .ok (.iload_n 1, 1) := by decide +kernel
theorem dX12_number_36 : decode cX12_number 36 = .ok (.ireturn, 1) := by decide +kernel
theorem dX12_number_37 : decode cX12_number 37 = .ok (.aload_n 0, 1) := by decide +kernel
theorem dX12_number_38 : decode cX12_number 38 = .ok (.aload_n 0, 1) := by decide +kernel
theorem dX12_number_39 : decode cX12_number 39 = .ok (.getfield 76, 3) := by decide +kernel
theorem dX12_number_42 : decode cX12_number 42 = .ok (.putfield 94, 3) := by decide +kernel
theorem dX12_number_45 : decode cX12_number 45 = .ok (.iconst 0, 1) := by decide +kernel
theorem dX12_number_46 : decode cX12_number 46 = .ok (.istore_n 3, 1) := by decide +kernel
theorem dX12_number_47 : decode cX12_number 47 = .ok (.aload_n 0, 1) := by decide +kernel
theorem dX12_number_48 : decode cX12_number 48 = .ok (.getfield 76, 3) := by decide +kernel
theorem dX12_number_51 : decode cX12_number 51 = .ok (.aload_n 0, 1) := by decide +kernel
theorem dX12_number_52 : decode cX12_number 52 = .ok (.getfield 72, 3) := by decide +kernel
theorem dX12_number_55 : decode cX12_number 55 = .ok (.if_icmp .ge 75, 3) := by decide +kernel
theorem dX12_number_58 : decode cX12_number 58 = .ok (.aload_n 0, 1) := by decide +kernel
theorem dX12_number_59 : decode cX12_number 59 = .ok (.getfield 16, 3) := by decide +kernel
theorem dX12_number_62 : decode cX12_number 62 = .ok (.aload_n 0, 1) := by decide +kernel
theorem dX12_number_63 : decode cX12_number 63 = .ok (.getfield 76, 3) := by decide +kernel
theorem dX12_number_66 : decode cX12_number 66 = .ok (.iaload, 1) := by decide +kernel
theorem dX12_number_67 : decode cX12_number 67 = .ok (.i2l, 1) := by decide +kernel
theorem dX12_number_68 : decode cX12_number 68 = .ok (.ldc2_w 86, 3) := by decide +kernel
theorem dX12_number_71 : decode cX12_number 71 = .ok (.ldc2_w 88, 3) := by decide +kernel
theorem dX12_number_74 : decode cX12_number 74 = .ok (.invokestatic 67, 3) := by decide +kernel
theorem dX12_number_77 : decode cX12_number 77 = .ok (.ifCond .eq 53, 3) := by decide +kernel
theorem dX12_number_80 : decode cX12_number 80 = .ok (.aload_n 0, 1) := by decide +kernel
theorem dX12_number_81 : decode cX12_number 81 = .ok (.getfield 76, 3) := by decide +kernel
theorem dX12_number_84 : decode cX12_number 84 = .ok (.aload_n 0, 1) := by decide +kernel
theorem dX12_number_85 : decode cX12_number 85 = .ok (.getfield 94, 3) := by decide +kernel
theorem dX12_number_88 : decode cX12_number 88 = .ok (.isub, 1) := by decide +kernel
theorem dX12_number_89 : decode cX12_number 89 = .ok (.iconst 2, 1) := by decide +kernel
theorem dX12_number_90 : decode cX12_number 90 = .ok (.if_icmp .le 9, 3) := by decide +kernel
theorem dX12_number_93 : decode cX12_number 93 = .ok (.sipush 9999, 3) := by decide +kernel
theorem dX12_number_96 : decode cX12_number 96 = .ok (.goto 20, 3) := by decide +kernel
theorem dX12_number_99 : decode cX12_number 99 = .ok (.bipush 10, 2) := by decide +kernel
theorem dX12_number_101 : decode cX12_number 101 = .ok (.iload_n 3, 1) := by decide +kernel
theorem dX12_number_102 : decode cX12_number 102 = .ok (.imul, 1) := by decide +kernel
theorem dX12_number_103 : decode cX12_number 103 = .ok (.aload_n 0, 1) := by decide +kernel
theorem dX12_number_104 : decode cX12_number 104 = .ok (.getfield 16, 3) := by decide +kernel
theorem dX12_number_107 : decode cX12_number 107 = .ok (.aload_n 0, 1) := by decide +kernel
theorem dX12_number_108 : decode cX12_number 108 = .ok (.getfield 76, 3) := by decide +kernel
theorem dX12_number_111 : decode cX12_number 111 = .ok (.iaload, 1) := by decide +kernel
theorem dX12_number_112 : decode cX12_number 112 = .ok (.iadd, 1) := by decide +kernel
theorem dX12_number_113 : decode cX12_number 113 = .ok (.bipush 48, 2) := by decide +kernel
theorem dX12_number_115 : decode cX12_number 115 = .ok (.isub, 1) := by decide +kernel
theorem dX12_number_116 : decode cX12_number 116 = .ok (.istore_n 3, 1) := by decide +kernel
theorem dX12_number_117 : decode cX12_number 117 = .ok (.aload_n 0, 1) := by decide +kernel
theorem dX12_number_118 : decode cX12_number 118 = .ok (.dup, 1) := by decide +kernel
theorem dX12_number_119 : decode cX12_number 119 = .ok (.getfield 76, 3) := by decide +kernel
theorem dX12_number_122 : decode cX12_number 122 = .ok (.iconst 1, 1) := by decide +kernel
theorem dX12_number_123 : decode cX12_number 123 = .ok (.iadd, 1) := by decide +kernel
theorem dX12_number_124 : decode cX12_number 124 = .ok (.putfield 76, 3) := by decide +kernel
theorem dX12_number_127 : decode cX12_number 127 = .ok (.goto (-80), 3) := by decide +kernel
theorem dX12_number_130 : decode cX12_number 130 = .ok (.iload_n 3, 1) := by decide +kernel
theorem dX12_number_131 : decode cX12_number 131 = .ok (.i2l, 1) := by decide +kernel
theorem dX12_number_132 : decode cX12_number 132 = .ok (.iload_n 1, 1) := by decide +kernel
theorem dX12_number_133 : decode cX12_number 133 = .ok (.i2l, 1) := by decide +kernel
theorem dX12_number_134 : decode cX12_number 134 = .ok (.iload_n 2, 1) := by decide +kernel
theorem dX12_number_135 : decode cX12_number 135 = .ok (.i2l, 1) := by decide +kernel
theorem dX12_number_136 : decode cX12_number 136 = .ok (.invokestatic 67, 3) := by decide +kernel
theorem dX12_number_139 : decode cX12_number 139 = .ok (.ifCond .ne 12, 3) := by decide +kernel
theorem dX12_number_142 : decode cX12_number 142 = .ok (.aload_n 0, 1) := by decide +kernel
theorem dX12_number_143 : decode cX12_number 143 = .ok (.iconst 2, 1) := by decide +kernel
theorem dX12_number_144 : decode cX12_number 144 = .ok (.aload_n 0, 1) := by decide +kernel
theorem dX12_number_145 : decode cX12_number 145 = .ok (.getfield 94, 3) := by decide +kernel
theorem dX12_number_148 : decode cX12_number 148 = .ok (.invokevirtual 90, 3) := by decide +kernel
theorem dX12_number_151 : decode cX12_number 151 = .ok (.iload_n 3, 1) := by decide +kernel
theorem dX12_number_152 : decode cX12_number 152 = .ok (.ireturn, 1) := by decide +kernel
theorem dX12_readHeat_0 : decode cX12_readHeat 0 = .ok (.aload_n 0, 1) := by decide +kernel
theorem dX12_readHeat_1 : decode cX12_readHeat 1 = .ok (.iconst 0, 1) := by decide +kernel
theorem dX12_readHeat_2 : decode cX12_readHeat 2 = .ok (.aload_n 0, 1) := by decide +kernel
theorem dX12_readHeat_3 : decode cX12_readHeat 3 = .ok (.getfield 7, 3) := by decide +kernel
theorem dX12_readHeat_6 : decode cX12_readHeat 6 = .ok (.iconst 0, 1) := by decide +kernel
theorem dX12_readHeat_7 : decode cX12_readHeat 7 = .ok (.iaload, 1) := by decide +kernel
theorem dX12_readHeat_8 : decode cX12_readHeat 8 = .ok (.iconst 1, 1) := by decide +kernel
theorem dX12_readHeat_9 : decode cX12_readHeat 9 = .ok (.isub, 1) := by decide +kernel
theorem dX12_readHeat_10 : decode cX12_readHeat 10 = .ok (.invokevirtual 97, 3) := by decide +kernel
theorem dX12_readHeat_13 : decode cX12_readHeat 13 = .ok (.istore_n 1, 1) := by decide +kernel
theorem dX12_readHeat_14 : decode cX12_readHeat 14 = .ok (.aload_n 0, 1) := by decide +kernel
theorem dX12_readHeat_15 : decode cX12_readHeat 15 = .ok (.getfield 79, 3) := by decide +kernel
theorem dX12_readHeat_18 : decode cX12_readHeat 18 = .ok (.ifCond .ne 26, 3) := by decide +kernel
theorem dX12_readHeat_21 : decode cX12_readHeat 21 = .ok (.aload_n 0, 1) := by decide +kernel
theorem dX12_readHeat_22 : decode cX12_readHeat 22 = .ok (.getfield 7, 3) := by decide +kernel
theorem dX12_readHeat_25 : decode cX12_readHeat 25 = .ok (.iconst 5, 1) := by decide +kernel
theorem dX12_readHeat_26 : decode cX12_readHeat 26 = .ok (.iaload, 1) := by decide +kernel
theorem dX12_readHeat_27 : decode cX12_readHeat 27 = .ok (.iload_n 1, 1) := by decide +kernel
theorem dX12_readHeat_28 : decode cX12_readHeat 28 = .ok (.ishr, 1) := by decide +kernel
theorem dX12_readHeat_29 : decode cX12_readHeat 29 = .ok (.iconst 1, 1) := by decide +kernel
theorem dX12_readHeat_30 : decode cX12_readHeat 30 = .ok (.iand, 1) := by decide +kernel
theorem dX12_readHeat_31 : decode cX12_readHeat 31 = .ok (.iconst 1, 1) := by decide +kernel
theorem dX12_readHeat_32 : decode cX12_readHeat 32 = .ok (.if_icmp .ne 12, 3) := by decide +kernel
theorem dX12_readHeat_35 : decode cX12_readHeat 35 = .ok (.aload_n 0, 1) := by decide +kernel
theorem dX12_readHeat_36 : decode cX12_readHeat 36 = .ok (.iconst 4, 1) := by decide +kernel
theorem dX12_readHeat_37 : decode cX12_readHeat 37 = .ok (.aload_n 0, 1) := by decide +kernel
theorem dX12_readHeat_38 : decode cX12_readHeat 38 = .ok (.getfield 94, 3) := by decide +kernel
theorem dX12_readHeat_41 : decode cX12_readHeat 41 = .ok (.invokevirtual 90, 3) := by decide +kernel
theorem dX12_readHeat_44 : decode cX12_readHeat 44 = .ok (.aload_n 0, 1) := by decide +kernel
theorem dX12_readHeat_45 : decode cX12_readHeat 45 = .ok (.iconst 0, 1) := by decide +kernel
theorem dX12_readHeat_46 : decode cX12_readHeat 46 = .ok (.bipush 9, 2) := by decide +kernel
theorem dX12_readHeat_48 : decode cX12_readHeat 48 = .ok (.invokevirtual 97, 3) := by decide +kernel
theorem dX12_readHeat_51 : decode cX12_readHeat 51 = .ok (.istore_n 2, 1) := by decide +kernel
theorem dX12_readHeat_52 : decode cX12_readHeat 52 = .ok (.aload_n 0, 1) := by decide +kernel
theorem dX12_readHeat_53 : decode cX12_readHeat 53 = .ok (.getfield 79, 3) := by decide +kernel
theorem dX12_readHeat_56 : decode cX12_readHeat 56 = .ok (.ifCond .ne 25, 3) := by decide +kernel
theorem dX12_readHeat_59 : decode cX12_readHeat 59 = .ok (.aload_n 0, 1) := by decide +kernel
theorem dX12_readHeat_60 : decode cX12_readHeat 60 = .ok (.getfield 7, 3) := by decide +kernel
theorem dX12_readHeat_63 : decode cX12_readHeat 63 = .ok (.bipush 6, 2) := by decide +kernel
theorem dX12_readHeat_65 : decode cX12_readHeat 65 = .ok (.iload_n 1, 1) := by decide +kernel
theorem dX12_readHeat_66 : decode cX12_readHeat 66 = .ok (.iadd, 1) := by decide +kernel
theorem dX12_readHeat_67 : decode cX12_readHeat 67 = .ok (.iload_n 2, 1) := by decide +kernel
theorem dX12_readHeat_68 : decode cX12_readHeat 68 = .ok (.iastore, 1) := by decide +kernel
theorem dX12_readHeat_69 : decode cX12_readHeat 69 = .ok (.aload_n 0, 1) := by decide +kernel
theorem dX12_readHeat_70 : decode cX12_readHeat 70 = .ok (.getfield 7, 3) := by decide +kernel
theorem dX12_readHeat_73 : decode cX12_readHeat 73 = .ok (.iconst 5, 1) := by decide +kernel
theorem dX12_readHeat_74 : decode cX12_readHeat 74 = .ok (.dup2, 1) := by decide +kernel
theorem dX12_readHeat_75 : decode cX12_readHeat 75 = .ok (.iaload, 1) := by decide +kernel
theorem dX12_readHeat_76 : decode cX12_readHeat 76 = .ok (.iconst 1, 1) := by decide +kernel
theorem dX12_readHeat_77 : decode cX12_readHeat 77 = .ok (.iload_n 1, 1) := by decide +kernel
theorem dX12_readHeat_78 : decode cX12_readHeat 78 = .ok (.ishl, 1) := by decide +kernel
theorem dX12_readHeat_79 : decode cX12_readHeat 79 = .ok (.ior, 1) := by decide +kernel
theorem dX12_readHeat_80 : decode cX12_readHeat 80 = .ok (.iastore, 1) := by decide +kernel
theorem dX12_readHeat_81 : decode cX12_readHeat 81 = .ok (.return_, 1) := by decide +kernel
theorem dX12_readSleeper_0 : decode cX12_readSleeper 0 = .ok (.bipush 12, 2) := by decide +kernel
theorem dX12_readSleeper_2 : decode cX12_readSleeper 2 = .ok (.iconst 4, 1) := by decide +kernel
theorem dX12_readSleeper_3 : decode cX12_readSleeper 3 = .ok (.aload_n 0, 1) := by decide +kernel
theorem dX12_readSleeper_4 : decode cX12_readSleeper 4 = .ok (.getfield 7, 3) := by decide +kernel
theorem dX12_readSleeper_7 : decode cX12_readSleeper 7 = .ok (.iconst 2, 1) := by decide +kernel
theorem dX12_readSleeper_8 : decode cX12_readSleeper 8 = .ok (.iaload, 1) := by decide +kernel
theorem dX12_readSleeper_9 : decode cX12_readSleeper 9 = .ok (.imul, 1) := by decide +kernel
theorem dX12_readSleeper_10 : decode cX12_readSleeper 10 = .ok (.iadd, 1) := by decide +kernel
theorem dX12_readSleeper_11 : decode cX12_readSleeper 11 = .ok (.istore_n 1, 1) := by decide +kernel
theorem dX12_readSleeper_12 : decode cX12_readSleeper 12 = .ok (.aload_n 0, 1) := by decide +kernel
theorem dX12_readSleeper_13 : decode cX12_readSleeper 13 = .ok (.getfield 7, 3) := by decide +kernel
theorem dX12_readSleeper_16 : decode cX12_readSleeper 16 = .ok (.iload_n 1, 1) := by decide +kernel
theorem dX12_readSleeper_17 : decode cX12_readSleeper 17 = .ok (.aload_n 0, 1) := by decide +kernel
theorem dX12_readSleeper_18 : decode cX12_readSleeper 18 = .ok (.iconst 1, 1) := by decide +kernel
theorem dX12_readSleeper_19 : decode cX12_readSleeper 19 = .ok (.bipush 99, 2) := by decide +kernel
theorem dX12_readSleeper_21 : decode cX12_readSleeper 21 = .ok (.invokevirtual 97, 3) := by decide +kernel
theorem dX12_readSleeper_24 : decode cX12_readSleeper 24 = .ok (.iastore, 1) := by decide +kernel
theorem dX12_readSleeper_25 : decode cX12_readSleeper 25 = .ok (.aload_n 0, 1) := by decide +kernel
theorem dX12_readSleeper_26 : decode cX12_readSleeper 26 = .ok (.getfield 7, 3) := by decide +kernel
theorem dX12_readSleeper_29 : decode cX12_readSleeper 29 = .ok (.iload_n 1, 1) := by decide +kernel
theorem dX12_readSleeper_30 : decode cX12_readSleeper 30 = .ok (.iconst 1, 1) := by decide +kernel
theorem dX12_readSleeper_31 : decode cX12_readSleeper 31 = .ok (.iadd, 1) := by decide +kernel
theorem dX12_readSleeper_32 : decode cX12_readSleeper 32 = .ok (.aload_n 0, 1) := by decide +kernel
theorem dX12_readSleeper_33 : decode cX12_readSleeper 33 = .ok (.iconst 0, 1) := by decide +kernel
theorem dX12_readSleeper_34 : decode cX12_readSleeper 34 = .ok (.bipush 9, 2) := by decide +kernel
theorem dX12_readSleeper_36 : decode cX12_readSleeper 36 = .ok (.invokevirtual 97, 3) := by decide +kernel
theorem dX12_readSleeper_39 : decode cX12_readSleeper 39 = .ok (.iastore, 1) := by decide +kernel
theorem dX12_readSleeper_40 : decode cX12_readSleeper 40 = .ok (.aload_n 0, 1) := by decide +kernel
theorem dX12_readSleeper_41 : decode cX12_readSleeper 41 = .ok (.getfield 7, 3) := by decide +kernel
theorem dX12_readSleeper_44 : decode cX12_readSleeper 44 = .ok (.iload_n 1, 1) := by decide +kernel
theorem dX12_readSleeper_45 : decode cX12_readSleeper 45 = .ok (.iconst 2, 1) := by decide +kernel
theorem dX12_readSleeper_46 : decode cX12_readSleeper 46 = .ok (.iadd, 1) := by decide +kernel
theorem dX12_readSleeper_47 : decode cX12_readSleeper 47 = .ok (.aload_n 0, 1) := by decide +kernel
theorem dX12_readSleeper_48 : decode cX12_readSleeper 48 = .ok (.iconst 0, 1) := by decide +kernel
theorem dX12_readSleeper_49 : decode cX12_readSleeper 49 = .ok (.bipush 20, 2) := by decide +kernel
theorem dX12_readSleeper_51 : decode cX12_readSleeper 51 = .ok (.invokevirtual 97, 3) := by decide +kernel
theorem dX12_readSleeper_54 : decode cX12_readSleeper 54 = .ok (.iastore, 1) := by decide +kernel
theorem dX12_readSleeper_55 : decode cX12_readSleeper 55 = .ok (.aload_n 0, 1) := by decide +kernel
theorem dX12_readSleeper_56 : decode cX12_readSleeper 56 = .ok (.getfield 7, 3) := by decide +kernel
theorem dX12_readSleeper_59 : decode cX12_readSleeper 59 = .ok (.iload_n 1, 1) := by decide +kernel
theorem dX12_readSleeper_60 : decode cX12_readSleeper 60 = .ok (.iconst 3, 1) := by decide +kernel
theorem dX12_readSleeper_61 : decode cX12_readSleeper 61 = .ok (.iadd, 1) := by decide +kernel
theorem dX12_readSleeper_62 : decode cX12_readSleeper 62 = .ok (.aload_n 0, 1) := by decide +kernel
theorem dX12_readSleeper_63 : decode cX12_readSleeper 63 = .ok (.iconst 0, 1) := by decide +kernel
theorem dX12_readSleeper_64 : decode cX12_readSleeper 64 = .ok (.bipush 98, 2) := by decide +kernel
theorem dX12_readSleeper_66 : decode cX12_readSleeper 66 = .ok (.invokevirtual 97, 3) := by decide +kernel
theorem dX12_readSleeper_69 : decode cX12_readSleeper 69 = .ok (.iastore, 1) := by decide +kernel
theorem dX12_readSleeper_70 : decode cX12_readSleeper 70 = .ok (.aload_n 0, 1) := by decide +kernel
theorem dX12_readSleeper_71 : decode cX12_readSleeper 71 = .ok (.getfield 79, 3) := by decide +kernel
theorem dX12_readSleeper_74 : decode cX12_readSleeper 74 = .ok (.ifCond .ne 29, 3) := by decide +kernel
theorem dX12_readSleeper_77 : decode cX12_readSleeper 77 = .ok (.aload_n 0, 1) := by decide +kernel
theorem dX12_readSleeper_78 : decode cX12_readSleeper 78 = .ok (.getfield 7, 3) := by decide +kernel
theorem dX12_readSleeper_81 : decode cX12_readSleeper 81 = .ok (.iload_n 1, 1) := by decide +kernel
theorem dX12_readSleeper_82 : decode cX12_readSleeper 82 = .ok (.iconst 3, 1) := by decide +kernel
theorem dX12_readSleeper_83 : decode cX12_readSleeper 83 = .ok (.iadd, 1) := by decide +kernel
theorem dX12_readSleeper_84 : decode cX12_readSleeper 84 = .ok (.iaload, 1) := by decide +kernel
theorem dX12_readSleeper_85 : decode cX12_readSleeper 85 = .ok (.aload_n 0, 1) := by decide +kernel
theorem dX12_readSleeper_86 : decode cX12_readSleeper 86 = .ok (.getfield 7, 3) := by decide +kernel
theorem dX12_readSleeper_89 : decode cX12_readSleeper 89 = .ok (.iload_n 1, 1) := by decide +kernel
theorem dX12_readSleeper_90 : decode cX12_readSleeper 90 = .ok (.iaload, 1) := by decide +kernel
theorem dX12_readSleeper_91 : decode cX12_readSleeper 91 = .ok (.if_icmp .lt 12, 3) := by decide +kernel
theorem dX12_readSleeper_94 : decode cX12_readSleeper 94 = .ok (.aload_n 0, 1) := by decide +kernel
theorem dX12_readSleeper_95 : decode cX12_readSleeper 95 = .ok (.iconst 4, 1) := by decide +kernel
theorem dX12_readSleeper_96 : decode cX12_readSleeper 96 = .ok (.aload_n 0, 1) := by decide +kernel
theorem dX12_readSleeper_97 : decode cX12_readSleeper 97 = .ok (.getfield 94, 3) := by decide +kernel
theorem dX12_readSleeper_100 : decode cX12_readSleeper 100 = .ok (.invokevirtual 90, 3) := by decide +kernel
theorem dX12_readSleeper_103 : decode cX12_readSleeper 103 = .ok (.aload_n 0, 1) := by decide +kernel
theorem dX12_readSleeper_104 : decode cX12_readSleeper 104 = .ok (.getfield 7, 3) := by decide +kernel
theorem dX12_readSleeper_107 : decode cX12_readSleeper 107 = .ok (.iconst 2, 1) := by decide +kernel
theorem dX12_readSleeper_108 : decode cX12_readSleeper 108 = .ok (.dup2, 1) := by decide +kernel
theorem dX12_readSleeper_109 : decode cX12_readSleeper 109 = .ok (.iaload, 1) := by decide +kernel
theorem dX12_readSleeper_110 : decode cX12_readSleeper 110 = .ok (.iconst 1, 1) := by decide +kernel
theorem dX12_readSleeper_111 : decode cX12_readSleeper 111 = .ok (.iadd, 1) := by decide +kernel
theorem dX12_readSleeper_112 : decode cX12_readSleeper 112 = .ok (.iastore, 1) := by decide +kernel
theorem dX12_readSleeper_113 : decode cX12_readSleeper 113 = .ok (.return_, 1) := by decide +kernel
theorem dX12_readLaw_0 : decode cX12_readLaw 0 = .ok (.aload_n 0, 1) := by decide +kernel
theorem dX12_readLaw_1 : decode cX12_readLaw 1 = .ok (.getfield 7, 3) := by decide +kernel
theorem dX12_readLaw_4 : decode cX12_readLaw 4 = .ok (.iconst 4, 1) := by decide +kernel
theorem dX12_readLaw_5 : decode cX12_readLaw 5 = .ok (.iconst 1, 1) := by decide +kernel
theorem dX12_readLaw_6 : decode cX12_readLaw 6 = .ok (.iastore, 1) := by decide +kernel
theorem dX12_readLaw_7 : decode cX12_readLaw 7 = .ok (.aload_n 0, 1) := by decide +kernel
theorem dX12_readLaw_8 : decode cX12_readLaw 8 = .ok (.getfield 7, 3) := by decide +kernel
theorem dX12_readLaw_11 : decode cX12_readLaw 11 = .ok (.bipush 36, 2) := by decide +kernel
theorem dX12_readLaw_13 : decode cX12_readLaw 13 = .ok (.aload_n 0, 1) := by decide +kernel
theorem dX12_readLaw_14 : decode cX12_readLaw 14 = .ok (.iconst 0, 1) := by decide +kernel
theorem dX12_readLaw_15 : decode cX12_readLaw 15 = .ok (.iconst 3, 1) := by decide +kernel
theorem dX12_readLaw_16 : decode cX12_readLaw 16 = .ok (.invokevirtual 97, 3) := by decide +kernel
theorem dX12_readLaw_19 : decode cX12_readLaw 19 = .ok (.iastore, 1) := by decide +kernel
theorem dX12_readLaw_20 : decode cX12_readLaw 20 = .ok (.aload_n 0, 1) := by decide +kernel
theorem dX12_readLaw_21 : decode cX12_readLaw 21 = .ok (.getfield 7, 3) := by decide +kernel
theorem dX12_readLaw_24 : decode cX12_readLaw 24 = .ok (.iconst 3, 1) := by decide +kernel
theorem dX12_readLaw_25 : decode cX12_readLaw 25 = .ok (.iconst 1, 1) := by decide +kernel
theorem dX12_readLaw_26 : decode cX12_readLaw 26 = .ok (.iastore, 1) := by decide +kernel
theorem dX12_readLaw_27 : decode cX12_readLaw 27 = .ok (.aload_n 0, 1) := by decide +kernel
theorem dX12_readLaw_28 : decode cX12_readLaw 28 = .ok (.getfield 79, 3) := by decide +kernel
theorem dX12_readLaw_31 : decode cX12_readLaw 31 = .ok (.ifCond .ne 66, 3) := by decide +kernel
theorem dX12_readLaw_34 : decode cX12_readLaw 34 = .ok (.aload_n 0, 1) := by decide +kernel
theorem dX12_readLaw_35 : decode cX12_readLaw 35 = .ok (.getfield 7, 3) := by decide +kernel
theorem dX12_readLaw_38 : decode cX12_readLaw 38 = .ok (.iconst 3, 1) := by decide +kernel
theorem dX12_readLaw_39 : decode cX12_readLaw 39 = .ok (.iaload, 1) := by decide +kernel
theorem dX12_readLaw_40 : decode cX12_readLaw 40 = .ok (.bipush 8, 2) := by decide +kernel
theorem dX12_readLaw_42 : decode cX12_readLaw 42 = .ok (.if_icmp .ge 55, 3) := by decide +kernel
theorem dX12_readLaw_45 : decode cX12_readLaw 45 = .ok (.aload_n 0, 1) := by decide +kernel
theorem dX12_readLaw_46 : decode cX12_readLaw 46 = .ok (.invokevirtual 82, 3) := by decide +kernel
theorem dX12_readLaw_49 : decode cX12_readLaw 49 = .ok (.bipush 44, 2) := by decide +kernel
theorem dX12_readLaw_51 : decode cX12_readLaw 51 = .ok (.if_icmp .ne 46, 3) := by decide +kernel
theorem dX12_readLaw_54 : decode cX12_readLaw 54 = .ok (.aload_n 0, 1) := by decide +kernel
theorem dX12_readLaw_55 : decode cX12_readLaw 55 = .ok (.dup, 1) := by decide +kernel
theorem dX12_readLaw_56 : decode cX12_readLaw 56 = .ok (.getfield 76, 3) := by decide +kernel
theorem dX12_readLaw_59 : decode cX12_readLaw 59 = .ok (.iconst 1, 1) := by decide +kernel
theorem dX12_readLaw_60 : decode cX12_readLaw 60 = .ok (.iadd, 1) := by decide +kernel
theorem dX12_readLaw_61 : decode cX12_readLaw 61 = .ok (.putfield 76, 3) := by decide +kernel
theorem dX12_readLaw_64 : decode cX12_readLaw 64 = .ok (.aload_n 0, 1) := by decide +kernel
theorem dX12_readLaw_65 : decode cX12_readLaw 65 = .ok (.getfield 7, 3) := by decide +kernel
theorem dX12_readLaw_68 : decode cX12_readLaw 68 = .ok (.bipush 36, 2) := by decide +kernel
theorem dX12_readLaw_70 : decode cX12_readLaw 70 = .ok (.aload_n 0, 1) := by decide +kernel
theorem dX12_readLaw_71 : decode cX12_readLaw 71 = .ok (.getfield 7, 3) := by decide +kernel
theorem dX12_readLaw_74 : decode cX12_readLaw 74 = .ok (.iconst 3, 1) := by decide +kernel
theorem dX12_readLaw_75 : decode cX12_readLaw 75 = .ok (.iaload, 1) := by decide +kernel
theorem dX12_readLaw_76 : decode cX12_readLaw 76 = .ok (.iadd, 1) := by decide +kernel
theorem dX12_readLaw_77 : decode cX12_readLaw 77 = .ok (.aload_n 0, 1) := by decide +kernel
theorem dX12_readLaw_78 : decode cX12_readLaw 78 = .ok (.iconst 0, 1) := by decide +kernel
theorem dX12_readLaw_79 : decode cX12_readLaw 79 = .ok (.iconst 3, 1) := by decide +kernel
theorem dX12_readLaw_80 : decode cX12_readLaw 80 = .ok (.invokevirtual 97, 3) := by decide +kernel
theorem dX12_readLaw_83 : decode cX12_readLaw 83 = .ok (.iastore, 1) := by decide +kernel
theorem dX12_readLaw_84 : decode cX12_readLaw 84 = .ok (.aload_n 0, 1) := by decide +kernel
theorem dX12_readLaw_85 : decode cX12_readLaw 85 = .ok (.getfield 7, 3) := by decide +kernel
theorem dX12_readLaw_88 : decode cX12_readLaw 88 = .ok (.iconst 3, 1) := by decide +kernel
theorem dX12_readLaw_89 : decode cX12_readLaw 89 = .ok (.dup2, 1) := by decide +kernel
theorem dX12_readLaw_90 : decode cX12_readLaw 90 = .ok (.iaload, 1) := by decide +kernel
theorem dX12_readLaw_91 : decode cX12_readLaw 91 = .ok (.iconst 1, 1) := by decide +kernel
theorem dX12_readLaw_92 : decode cX12_readLaw 92 = .ok (.iadd, 1) := by decide +kernel
theorem dX12_readLaw_93 : decode cX12_readLaw 93 = .ok (.iastore, 1) := by decide +kernel
theorem dX12_readLaw_94 : decode cX12_readLaw 94 = .ok (.goto (-67), 3) := by decide +kernel
theorem dX12_readLaw_97 : decode cX12_readLaw 97 = .ok (.return_, 1) := by decide +kernel
theorem dX12_clause_0 : decode cX12_clause 0 = .ok (.aload_n 0, 1) := by decide +kernel
theorem dX12_clause_1 : decode cX12_clause 1 = .ok (.invokevirtual 82, 3) := by decide +kernel
theorem dX12_clause_4 : decode cX12_clause 4 = .ok (.istore_n 1, 1) := by decide +kernel
theorem dX12_clause_5 : decode cX12_clause 5 = .ok (.aload_n 0, 1) := by decide +kernel
theorem dX12_clause_6 : decode cX12_clause 6 = .ok (.getfield 76, 3) := by decide +kernel
theorem dX12_clause_9 : decode cX12_clause 9 = .ok (.istore_n 2, 1) := by decide +kernel
theorem dX12_clause_10 : decode cX12_clause 10 = .ok (.aload_n 0, 1) := by decide +kernel
theorem dX12_clause_11 : decode cX12_clause 11 = .ok (.getfield 7, 3) := by decide +kernel
theorem dX12_clause_14 : decode cX12_clause 14 = .ok (.iconst 0, 1) := by decide +kernel
theorem dX12_clause_15 : decode cX12_clause 15 = .ok (.iaload, 1) := by decide +kernel
theorem dX12_clause_16 : decode cX12_clause 16 = .ok (.ifCond .ne 7, 3) := by decide +kernel
theorem dX12_clause_19 : decode cX12_clause 19 = .ok (.iconst 1, 1) := by decide +kernel
theorem dX12_clause_20 : decode cX12_clause 20 = .ok (.goto 4, 3) := by decide +kernel
theorem dX12_clause_23 : decode cX12_clause 23 = .ok (.iconst 0, 1) := by decide +kernel
theorem dX12_clause_24 : decode cX12_clause 24 = .ok (.istore_n 3, 1) := by decide +kernel
theorem dX12_clause_25 : decode cX12_clause 25 = .ok (.iload_n 1, 1) := by decide +kernel
theorem dX12_clause_26 : decode cX12_clause 26 = .ok (.bipush 98, 2) := by decide +kernel
theorem dX12_clause_28 : decode cX12_clause 28 = .ok (.if_icmp .ne 7, 3) := by decide +kernel
theorem dX12_clause_31 : decode cX12_clause 31 = .ok (.iload_n 3, 1) := by decide +kernel
theorem dX12_clause_32 : decode cX12_clause 32 = .ok (.ifCond .eq 44, 3) := by decide +kernel
theorem dX12_clause_35 : decode cX12_clause 35 = .ok (.iload_n 1, 1) := by decide +kernel
theorem dX12_clause_36 : decode cX12_clause 36 = .ok (.bipush 114, 2) := by decide +kernel
theorem dX12_clause_38 : decode cX12_clause 38 = .ok (.if_icmp .ne 13, 3) := by decide +kernel
theorem dX12_clause_41 : decode cX12_clause 41 = .ok (.aload_n 0, 1) := by decide +kernel
theorem dX12_clause_42 : decode cX12_clause 42 = .ok (.getfield 7, 3) := by decide +kernel
theorem dX12_clause_45 : decode cX12_clause 45 = .ok (.iconst 4, 1) := by decide +kernel
theorem dX12_clause_46 : decode cX12_clause 46 = .ok (.iaload, 1) := by decide +kernel
theorem dX12_clause_47 : decode cX12_clause 47 = .ok (.iconst 1, 1) := by decide +kernel
theorem dX12_clause_48 : decode cX12_clause 48 = .ok (.if_icmp .eq 28, 3) := by decide +kernel
theorem dX12_clause_51 : decode cX12_clause 51 = .ok (.iload_n 1, 1) := by decide +kernel
theorem dX12_clause_52 : decode cX12_clause 52 = .ok (.bipush 115, 2) := by decide +kernel
theorem dX12_clause_54 : decode cX12_clause 54 = .ok (.if_icmp .ne 28, 3) := by decide +kernel
theorem dX12_clause_57 : decode cX12_clause 57 = .ok (.iload_n 3, 1) := by decide +kernel
theorem dX12_clause_58 : decode cX12_clause 58 = .ok (.ifCond .ne 24, 3) := by decide +kernel
theorem dX12_clause_61 : decode cX12_clause 61 = .ok (.aload_n 0, 1) := by decide +kernel
theorem dX12_clause_62 : decode cX12_clause 62 = .ok (.getfield 7, 3) := by decide +kernel
theorem dX12_clause_65 : decode cX12_clause 65 = .ok (.iconst 2, 1) := by decide +kernel
theorem dX12_clause_66 : decode cX12_clause 66 = .ok (.iaload, 1) := by decide +kernel
theorem dX12_clause_67 : decode cX12_clause 67 = .ok (.aload_n 0, 1) := by decide +kernel
theorem dX12_clause_68 : decode cX12_clause 68 = .ok (.getfield 7, 3) := by decide +kernel
theorem dX12_clause_71 : decode cX12_clause 71 = .ok (.iconst 0, 1) := by decide +kernel
theorem dX12_clause_72 : decode cX12_clause 72 = .ok (.iaload, 1) := by decide +kernel
theorem dX12_clause_73 : decode cX12_clause 73 = .ok (.if_icmp .ne 9, 3) := by decide +kernel
theorem dX12_clause_76 : decode cX12_clause 76 = .ok (.aload_n 0, 1) := by decide +kernel
theorem dX12_clause_77 : decode cX12_clause 77 = .ok (.iconst 3, 1) := by decide +kernel
theorem dX12_clause_78 : decode cX12_clause 78 = .ok (.iload_n 2, 1) := by decide +kernel
theorem dX12_clause_79 : decode cX12_clause 79 = .ok (.invokevirtual 90, 3) := by decide +kernel
theorem dX12_clause_82 : decode cX12_clause 82 = .ok (.iload_n 1, 1) := by decide +kernel
theorem dX12_clause_83 : decode cX12_clause 83 = .ok (.bipush 98, 2) := by decide +kernel
theorem dX12_clause_85 : decode cX12_clause 85 = .ok (.if_icmp .eq 35, 3) := by decide +kernel
theorem dX12_clause_88 : decode cX12_clause 88 = .ok (.iload_n 3, 1) := by decide +kernel
theorem dX12_clause_89 : decode cX12_clause 89 = .ok (.ifCond .ne 21, 3) := by decide +kernel
theorem dX12_clause_92 : decode cX12_clause 92 = .ok (.iload_n 1, 1) := by decide +kernel
theorem dX12_clause_93 : decode cX12_clause 93 = .ok (.bipush 104, 2) := by decide +kernel
theorem dX12_clause_95 : decode cX12_clause 95 = .ok (.if_icmp .eq 25, 3) := by decide +kernel
theorem dX12_clause_98 : decode cX12_clause 98 = .ok (.iload_n 1, 1) := by decide +kernel
theorem dX12_clause_99 : decode cX12_clause 99 = .ok (.bipush 115, 2) := by decide +kernel
theorem dX12_clause_101 : decode cX12_clause 101 = .ok (.if_icmp .eq 19, 3) := by decide +kernel
theorem dX12_clause_104 : decode cX12_clause 104 = .ok (.iload_n 1, 1) := by decide +kernel
theorem dX12_clause_105 : decode cX12_clause 105 = .ok (.bipush 114, 2) := by decide +kernel
theorem dX12_clause_107 : decode cX12_clause 107 = .ok (.if_icmp .eq 13, 3) := by decide +kernel
theorem dX12_clause_110 : decode cX12_clause 110 = .ok (.aload_n 0, 1) := by decide +kernel
theorem dX12_clause_111 : decode cX12_clause 111 = .ok (.iconst 1, 1) := by decide +kernel
theorem dX12_clause_112 : decode cX12_clause 112 = .ok (.putfield 79, 3) := by decide +kernel
theorem dX12_clause_115 : decode cX12_clause 115 = .ok (.aload_n 0, 1) := by decide +kernel
theorem dX12_clause_116 : decode cX12_clause 116 = .ok (.iload_n 2, 1) := by decide +kernel
theorem dX12_clause_117 : decode cX12_clause 117 = .ok (.putfield 55, 3) := by decide +kernel
theorem dX12_clause_120 : decode cX12_clause 120 = .ok (.aload_n 0, 1) := by decide +kernel
theorem dX12_clause_121 : decode cX12_clause 121 = .ok (.getfield 79, 3) := by decide +kernel
theorem dX12_clause_124 : decode cX12_clause 124 = .ok (.ifCond .eq 4, 3) := by decide +kernel
theorem dX12_clause_127 : decode cX12_clause 127 = .ok (.return_, 1) := by decide +kernel
theorem dX12_clause_128 : decode cX12_clause 128 = .ok (.aload_n 0, 1) := by decide +kernel
theorem dX12_clause_129 : decode cX12_clause 129 = .ok (.dup, 1) := by decide +kernel
theorem dX12_clause_130 : decode cX12_clause 130 = .ok (.getfield 76, 3) := by decide +kernel
theorem dX12_clause_133 : decode cX12_clause 133 = .ok (.iconst 1, 1) := by decide +kernel
theorem dX12_clause_134 : decode cX12_clause 134 = .ok (.iadd, 1) := by decide +kernel
theorem dX12_clause_135 : decode cX12_clause 135 = .ok (.putfield 76, 3) := by decide +kernel
theorem dX12_clause_138 : decode cX12_clause 138 = .ok (.iload_n 1, 1) := by decide +kernel
theorem dX12_clause_139 : decode cX12_clause 139 = .ok (.bipush 98, 2) := by decide +kernel
theorem dX12_clause_141 : decode cX12_clause 141 = .ok (.if_icmp .ne 31, 3) := by decide +kernel
theorem dX12_clause_144 : decode cX12_clause 144 = .ok (.aload_n 0, 1) := by decide +kernel
theorem dX12_clause_145 : decode cX12_clause 145 = .ok (.getfield 7, 3) := by decide +kernel
theorem dX12_clause_148 : decode cX12_clause 148 = .ok (.iconst 0, 1) := by decide +kernel
theorem dX12_clause_149 : decode cX12_clause 149 = .ok (.aload_n 0, 1) := by decide +kernel
theorem dX12_clause_150 : decode cX12_clause 150 = .ok (.iconst 2, 1) := by decide +kernel
theorem dX12_clause_151 : decode cX12_clause 151 = .ok (.bipush 6, 2) := by decide +kernel
theorem dX12_clause_153 : decode cX12_clause 153 = .ok (.invokevirtual 97, 3) := by decide +kernel
theorem dX12_clause_156 : decode cX12_clause 156 = .ok (.iastore, 1) := by decide +kernel
theorem dX12_clause_157 : decode cX12_clause 157 = .ok (.aload_n 0, 1) := by decide +kernel
theorem dX12_clause_158 : decode cX12_clause 158 = .ok (.getfield 7, 3) := by decide +kernel
theorem dX12_clause_161 : decode cX12_clause 161 = .ok (.iconst 1, 1) := by decide +kernel
theorem dX12_clause_162 : decode cX12_clause 162 = .ok (.aload_n 0, 1) := by decide +kernel
theorem dX12_clause_163 : decode cX12_clause 163 = .ok (.iconst 0, 1) := by decide +kernel
theorem dX12_clause_164 : decode cX12_clause 164 = .ok (.iconst 1, 1) := by decide +kernel
theorem dX12_clause_165 : decode cX12_clause 165 = .ok (.invokevirtual 97, 3) := by decide +kernel
theorem dX12_clause_168 : decode cX12_clause 168 = .ok (.iastore, 1) := by decide +kernel
theorem dX12_clause_169 : decode cX12_clause 169 = .ok (.goto 33, 3) := by decide +kernel
theorem dX12_clause_172 : decode cX12_clause 172 = .ok (.iload_n 1, 1) := by decide +kernel
theorem dX12_clause_173 : decode cX12_clause 173 = .ok (.bipush 104, 2) := by decide +kernel
theorem dX12_clause_175 : decode cX12_clause 175 = .ok (.if_icmp .ne 10, 3) := by decide +kernel
theorem dX12_clause_178 : decode cX12_clause 178 = .ok (.aload_n 0, 1) := by decide +kernel
theorem dX12_clause_179 : decode cX12_clause 179 = .ok (.invokevirtual 101, 3) := by decide +kernel
theorem dX12_clause_182 : decode cX12_clause 182 = .ok (.goto 20, 3) := by decide +kernel
theorem dX12_clause_185 : decode cX12_clause 185 = .ok (.iload_n 1, 1) := by decide +kernel
theorem dX12_clause_186 : decode cX12_clause 186 = .ok (.bipush 115, 2) := by decide +kernel
theorem dX12_clause_188 : decode cX12_clause 188 = .ok (.if_icmp .ne 10, 3) := by decide +kernel
theorem dX12_clause_191 : decode cX12_clause 191 = .ok (.aload_n 0, 1) := by decide +kernel
theorem dX12_clause_192 : decode cX12_clause 192 = .ok (.invokevirtual 104, 3) := by decide +kernel
theorem dX12_clause_195 : decode cX12_clause 195 = .ok (.goto 7, 3) := by decide +kernel
theorem dX12_clause_198 : decode cX12_clause 198 = .ok (.aload_n 0, 1) := by decide +kernel
theorem dX12_clause_199 : decode cX12_clause 199 = .ok (.invokevirtual 107, 3) := by decide +kernel
theorem dX12_clause_202 : decode cX12_clause 202 = .ok (.aload_n 0, 1) := by decide +kernel
theorem dX12_clause_203 : decode cX12_clause 203 = .ok (.getfield 79, 3) := by decide +kernel
theorem dX12_clause_206 : decode cX12_clause 206 = .ok (.ifCond .ne 21, 3) := by decide +kernel
theorem dX12_clause_209 : decode cX12_clause 209 = .ok (.aload_n 0, 1) := by decide +kernel
theorem dX12_clause_210 : decode cX12_clause 210 = .ok (.invokevirtual 82, 3) := by decide +kernel
theorem dX12_clause_213 : decode cX12_clause 213 = .ok (.bipush 59, 2) := by decide +kernel
theorem dX12_clause_215 : decode cX12_clause 215 = .ok (.if_icmp .eq 12, 3) := by decide +kernel
theorem dX12_clause_218 : decode cX12_clause 218 = .ok (.aload_n 0, 1) := by decide +kernel
theorem dX12_clause_219 : decode cX12_clause 219 = .ok (.iconst 1, 1) := by decide +kernel
theorem dX12_clause_220 : decode cX12_clause 220 = .ok (.aload_n 0, 1) := by decide +kernel
theorem dX12_clause_221 : decode cX12_clause 221 = .ok (.getfield 76, 3) := by decide +kernel
theorem dX12_clause_224 : decode cX12_clause 224 = .ok (.invokevirtual 90, 3) := by decide +kernel
theorem dX12_clause_227 : decode cX12_clause 227 = .ok (.aload_n 0, 1) := by decide +kernel
theorem dX12_clause_228 : decode cX12_clause 228 = .ok (.dup, 1) := by decide +kernel
theorem dX12_clause_229 : decode cX12_clause 229 = .ok (.getfield 76, 3) := by decide +kernel
theorem dX12_clause_232 : decode cX12_clause 232 = .ok (.iconst 1, 1) := by decide +kernel
theorem dX12_clause_233 : decode cX12_clause 233 = .ok (.iadd, 1) := by decide +kernel
theorem dX12_clause_234 : decode cX12_clause 234 = .ok (.putfield 76, 3) := by decide +kernel
theorem dX12_clause_237 : decode cX12_clause 237 = .ok (.return_, 1) := by decide +kernel
theorem dX12_bed_0 : decode cX12_bed 0 = .ok (.aload_n 0, 1) := by decide +kernel
theorem dX12_bed_1 : decode cX12_bed 1 = .ok (.iconst 0, 1) := by decide +kernel
theorem dX12_bed_2 : decode cX12_bed 2 = .ok (.putfield 76, 3) := by decide +kernel
theorem dX12_bed_5 : decode cX12_bed 5 = .ok (.aload_n 0, 1) := by decide +kernel
theorem dX12_bed_6 : decode cX12_bed 6 = .ok (.iconst 0, 1) := by decide +kernel
theorem dX12_bed_7 : decode cX12_bed 7 = .ok (.putfield 79, 3) := by decide +kernel
theorem dX12_bed_10 : decode cX12_bed 10 = .ok (.aload_n 0, 1) := by decide +kernel
theorem dX12_bed_11 : decode cX12_bed 11 = .ok (.iconst (-1), 1) := by decide +kernel
theorem dX12_bed_12 : decode cX12_bed 12 = .ok (.putfield 55, 3) := by decide +kernel
theorem dX12_bed_15 : decode cX12_bed 15 = .ok (.aload_n 0, 1) := by decide +kernel
theorem dX12_bed_16 : decode cX12_bed 16 = .ok (.invokevirtual 59, 3) := by decide +kernel
theorem dX12_bed_19 : decode cX12_bed 19 = .ok (.aload_n 0, 1) := by decide +kernel
theorem dX12_bed_20 : decode cX12_bed 20 = .ok (.getfield 79, 3) := by decide +kernel
theorem dX12_bed_23 : decode cX12_bed 23 = .ok (.ifCond .ne 17, 3) := by decide +kernel
theorem dX12_bed_26 : decode cX12_bed 26 = .ok (.aload_n 0, 1) := by decide +kernel
theorem dX12_bed_27 : decode cX12_bed 27 = .ok (.invokevirtual 82, 3) := by decide +kernel
theorem dX12_bed_30 : decode cX12_bed 30 = .ok (.ifCond .lt 10, 3) := by decide +kernel
theorem dX12_bed_33 : decode cX12_bed 33 = .ok (.aload_n 0, 1) := by decide +kernel
theorem dX12_bed_34 : decode cX12_bed 34 = .ok (.invokevirtual 110, 3) := by decide +kernel
theorem dX12_bed_37 : decode cX12_bed 37 = .ok (.goto (-18), 3) := by decide +kernel
theorem dX12_bed_40 : decode cX12_bed 40 = .ok (.aload_n 0, 1) := by decide +kernel
theorem dX12_bed_41 : decode cX12_bed 41 = .ok (.iconst 0, 1) := by decide +kernel
theorem dX12_bed_42 : decode cX12_bed 42 = .ok (.putfield 72, 3) := by decide +kernel
theorem dX12_bed_45 : decode cX12_bed 45 = .ok (.aload_n 0, 1) := by decide +kernel
theorem dX12_bed_46 : decode cX12_bed 46 = .ok (.getfield 79, 3) := by decide +kernel
theorem dX12_bed_49 : decode cX12_bed 49 = .ok (.ifCond .eq 11, 3) := by decide +kernel
theorem dX12_bed_52 : decode cX12_bed 52 = .ok (.bipush (-10), 2) := by decide +kernel
theorem dX12_bed_54 : decode cX12_bed 54 = .ok (.aload_n 0, 1) := by decide +kernel
theorem dX12_bed_55 : decode cX12_bed 55 = .ok (.getfield 79, 3) := by decide +kernel
theorem dX12_bed_58 : decode cX12_bed 58 = .ok (.isub, 1) := by decide +kernel
theorem dX12_bed_59 : decode cX12_bed 59 = .ok (.ireturn, 1) := by decide +kernel
theorem dX12_bed_60 : decode cX12_bed 60 = .ok (.aload_n 0, 1) := by decide +kernel
theorem dX12_bed_61 : decode cX12_bed 61 = .ok (.invokevirtual 62, 3) := by decide +kernel
theorem dX12_bed_64 : decode cX12_bed 64 = .ok (.aload_n 0, 1) := by decide +kernel
theorem dX12_bed_65 : decode cX12_bed 65 = .ok (.getfield 13, 3) := by decide +kernel
theorem dX12_bed_68 : decode cX12_bed 68 = .ok (.iconst 2, 1) := by decide +kernel
theorem dX12_bed_69 : decode cX12_bed 69 = .ok (.iaload, 1) := by decide +kernel
theorem dX12_bed_70 : decode cX12_bed 70 = .ok (.ireturn, 1) := by decide +kernel
theorem dX12_fault_0 : decode cX12_fault 0 = .ok (.aload_n 0, 1) := by decide +kernel
theorem dX12_fault_1 : decode cX12_fault 1 = .ok (.getfield 55, 3) := by decide +kernel
theorem dX12_fault_4 : decode cX12_fault 4 = .ok (.ireturn, 1) := by decide +kernel
theorem dX12_starts_0 : decode cX12_starts 0 = .ok (.iconst 0, 1) := by decide +kernel
theorem dX12_starts_1 : decode cX12_starts 1 = .ok (.istore_n 1, 1) := by decide +kernel
theorem dX12_starts_2 : decode cX12_starts 2 = .ok (.iload_n 1, 1) := by decide +kernel
theorem dX12_starts_3 : decode cX12_starts 3 = .ok (.bipush 44, 2) := by decide +kernel
theorem dX12_starts_5 : decode cX12_starts 5 = .ok (.if_icmp .ge 21, 3) := by decide +kernel
theorem dX12_starts_8 : decode cX12_starts 8 = .ok (.aload_n 0, 1) := by decide +kernel
theorem dX12_starts_9 : decode cX12_starts 9 = .ok (.getfield 13, 3) := by decide +kernel
theorem dX12_starts_12 : decode cX12_starts 12 = .ok (.iload_n 1, 1) := by decide +kernel
theorem dX12_starts_13 : decode cX12_starts 13 = .ok (.aload_n 0, 1) := by decide +kernel
theorem dX12_starts_14 : decode cX12_starts 14 = .ok (.getfield 7, 3) := by decide +kernel
theorem dX12_starts_17 : decode cX12_starts 17 = .ok (.iload_n 1, 1) := by decide +kernel
theorem dX12_starts_18 : decode cX12_starts 18 = .ok (.iaload, 1) := by decide +kernel
theorem dX12_starts_19 : decode cX12_starts 19 = .ok (.iastore, 1) := by decide +kernel
theorem dX12_starts_20 : decode cX12_starts 20 = .ok (.iinc 1 1, 3) := by decide +kernel
theorem dX12_starts_23 : decode cX12_starts 23 = .ok (.goto (-21), 3) := by decide +kernel
theorem dX12_starts_26 : decode cX12_starts 26 = .ok (.aload_n 0, 1) := by decide +kernel
theorem dX12_starts_27 : decode cX12_starts 27 = .ok (.getfield 19, 3) := by decide +kernel
theorem dX12_starts_30 : decode cX12_starts 30 = .ok (.iconst 0, 1) := by decide +kernel
theorem dX12_starts_31 : decode cX12_starts 31 = .ok (.iconst 0, 1) := by decide +kernel
theorem dX12_starts_32 : decode cX12_starts 32 = .ok (.iastore, 1) := by decide +kernel
theorem dX12_starts_33 : decode cX12_starts 33 = .ok (.iconst 0, 1) := by decide +kernel
theorem dX12_starts_34 : decode cX12_starts 34 = .ok (.istore_n 1, 1) := by decide +kernel
theorem dX12_starts_35 : decode cX12_starts 35 = .ok (.iload_n 1, 1) := by decide +kernel
theorem dX12_starts_36 : decode cX12_starts 36 = .ok (.bipush 6, 2) := by decide +kernel
theorem dX12_starts_38 : decode cX12_starts 38 = .ok (.if_icmp .ge 66, 3) := by decide +kernel
theorem dX12_starts_41 : decode cX12_starts 41 = .ok (.aload_n 0, 1) := by decide +kernel
theorem dX12_starts_42 : decode cX12_starts 42 = .ok (.getfield 19, 3) := by decide +kernel
theorem dX12_starts_45 : decode cX12_starts 45 = .ok (.iconst 1, 1) := by decide +kernel
theorem dX12_starts_46 : decode cX12_starts 46 = .ok (.iload_n 1, 1) := by decide +kernel
theorem dX12_starts_47 : decode cX12_starts 47 = .ok (.iadd, 1) := by decide +kernel
theorem dX12_starts_48 : decode cX12_starts 48 = .ok (.iload_n 1, 1) := by decide +kernel
theorem dX12_starts_49 : decode cX12_starts 49 = .ok (.aload_n 0, 1) := by decide +kernel
theorem dX12_starts_50 : decode cX12_starts 50 = .ok (.getfield 13, 3) := by decide +kernel
theorem dX12_starts_53 : decode cX12_starts 53 = .ok (.iconst 2, 1) := by decide +kernel
theorem dX12_starts_54 : decode cX12_starts 54 = .ok (.iaload, 1) := by decide +kernel
theorem dX12_starts_55 : decode cX12_starts 55 = .ok (.if_icmp .ge 7, 3) := by decide +kernel
theorem dX12_starts_58 : decode cX12_starts 58 = .ok (.iload_n 1, 1) := by decide +kernel
theorem dX12_starts_59 : decode cX12_starts 59 = .ok (.goto 4, 3) := by decide +kernel
theorem dX12_starts_62 : decode cX12_starts 62 = .ok (.iconst (-1), 1) := by decide +kernel
theorem dX12_starts_63 : decode cX12_starts 63 = .ok (.iastore, 1) := by decide +kernel
theorem dX12_starts_64 : decode cX12_starts 64 = .ok (.aload_n 0, 1) := by decide +kernel
theorem dX12_starts_65 : decode cX12_starts 65 = .ok (.getfield 19, 3) := by decide +kernel
theorem dX12_starts_68 : decode cX12_starts 68 = .ok (.bipush 7, 2) := by decide +kernel
theorem dX12_starts_70 : decode cX12_starts 70 = .ok (.iload_n 1, 1) := by decide +kernel
theorem dX12_starts_71 : decode cX12_starts 71 = .ok (.iadd, 1) := by decide +kernel
theorem dX12_starts_72 : decode cX12_starts 72 = .ok (.iload_n 1, 1) := by decide +kernel
theorem dX12_starts_73 : decode cX12_starts 73 = .ok (.aload_n 0, 1) := by decide +kernel
theorem dX12_starts_74 : decode cX12_starts 74 = .ok (.getfield 13, 3) := by decide +kernel
theorem dX12_starts_77 : decode cX12_starts 77 = .ok (.iconst 2, 1) := by decide +kernel
theorem dX12_starts_78 : decode cX12_starts 78 = .ok (.iaload, 1) := by decide +kernel
theorem dX12_starts_79 : decode cX12_starts 79 = .ok (.if_icmp .ge 17, 3) := by decide +kernel
theorem dX12_starts_82 : decode cX12_starts 82 = .ok (.aload_n 0, 1) := by decide +kernel
theorem dX12_starts_83 : decode cX12_starts 83 = .ok (.getfield 13, 3) := by decide +kernel
theorem dX12_starts_86 : decode cX12_starts 86 = .ok (.bipush 12, 2) := by decide +kernel
theorem dX12_starts_88 : decode cX12_starts 88 = .ok (.iconst 4, 1) := by decide +kernel
theorem dX12_starts_89 : decode cX12_starts 89 = .ok (.iload_n 1, 1) := by decide +kernel
theorem dX12_starts_90 : decode cX12_starts 90 = .ok (.imul, 1) := by decide +kernel
theorem dX12_starts_91 : decode cX12_starts 91 = .ok (.iadd, 1) := by decide +kernel
theorem dX12_starts_92 : decode cX12_starts 92 = .ok (.iaload, 1) := by decide +kernel
theorem dX12_starts_93 : decode cX12_starts 93 = .ok (.goto 4, 3) := by decide +kernel
theorem dX12_starts_96 : decode cX12_starts 96 = .ok (.iconst 0, 1) := by decide +kernel
theorem dX12_starts_97 : decode cX12_starts 97 = .ok (.iastore, 1) := by decide +kernel
theorem dX12_starts_98 : decode cX12_starts 98 = .ok (.iinc 1 1, 3) := by decide +kernel
theorem dX12_starts_101 : decode cX12_starts 101 = .ok (.goto (-66), 3) := by decide +kernel
theorem dX12_starts_104 : decode cX12_starts 104 = .ok (.aload_n 0, 1) := by decide +kernel
theorem dX12_starts_105 : decode cX12_starts 105 = .ok (.iconst 0, 1) := by decide +kernel
theorem dX12_starts_106 : decode cX12_starts 106 = .ok (.putfield 113, 3) := by decide +kernel
theorem dX12_starts_109 : decode cX12_starts 109 = .ok (.aload_n 0, 1) := by decide +kernel
theorem dX12_starts_110 : decode cX12_starts 110 = .ok (.iconst 0, 1) := by decide +kernel
theorem dX12_starts_111 : decode cX12_starts 111 = .ok (.putfield 116, 3) := by decide +kernel
theorem dX12_starts_114 : decode cX12_starts 114 = .ok (.aload_n 0, 1) := by decide +kernel
theorem dX12_starts_115 : decode cX12_starts 115 = .ok (.iconst 0, 1) := by decide +kernel
theorem dX12_starts_116 : decode cX12_starts 116 = .ok (.putfield 119, 3) := by decide +kernel
theorem dX12_starts_119 : decode cX12_starts 119 = .ok (.aload_n 0, 1) := by decide +kernel
theorem dX12_starts_120 : decode cX12_starts 120 = .ok (.getfield 52, 3) := by decide +kernel
theorem dX12_starts_123 : decode cX12_starts 123 = .ok (.iconst 0, 1) := by decide +kernel
theorem dX12_starts_124 : decode cX12_starts 124 = .ok (.iconst 0, 1) := by decide +kernel
theorem dX12_starts_125 : decode cX12_starts 125 = .ok (.iastore, 1) := by decide +kernel
theorem dX12_starts_126 : decode cX12_starts 126 = .ok (.aload_n 0, 1) := by decide +kernel
theorem dX12_starts_127 : decode cX12_starts 127 = .ok (.getfield 52, 3) := by decide +kernel
theorem dX12_starts_130 : decode cX12_starts 130 = .ok (.bipush 15, 2) := by decide +kernel
theorem dX12_starts_132 : decode cX12_starts 132 = .ok (.iconst 0, 1) := by decide +kernel
theorem dX12_starts_133 : decode cX12_starts 133 = .ok (.iastore, 1) := by decide +kernel
theorem dX12_starts_134 : decode cX12_starts 134 = .ok (.return_, 1) := by decide +kernel
theorem dX12_isPlace_0 : decode cX12_isPlace 0 = .ok (.iload_n 1, 1) := by decide +kernel
theorem dX12_isPlace_1 : decode cX12_isPlace 1 = .ok (.i2l, 1) := by decide +kernel
theorem dX12_isPlace_2 : decode cX12_isPlace 2 = .ok (.lconst 0, 1) := by decide +kernel
theorem dX12_isPlace_3 : decode cX12_isPlace 3 = .ok (.aload_n 0, 1) := by decide +kernel
theorem dX12_isPlace_4 : decode cX12_isPlace 4 = .ok (.getfield 13, 3) := by decide +kernel
theorem dX12_isPlace_7 : decode cX12_isPlace 7 = .ok (.iconst 0, 1) := by decide +kernel
theorem dX12_isPlace_8 : decode cX12_isPlace 8 = .ok (.iaload, 1) := by decide +kernel
theorem dX12_isPlace_9 : decode cX12_isPlace 9 = .ok (.iconst 1, 1) := by decide +kernel
theorem dX12_isPlace_10 : decode cX12_isPlace 10 = .ok (.isub, 1) := by decide +kernel
theorem dX12_isPlace_11 : decode cX12_isPlace 11 = .ok (.i2l, 1) := by decide +kernel
theorem dX12_isPlace_12 : decode cX12_isPlace 12 = .ok (.invokestatic 67, 3) := by decide +kernel
theorem dX12_isPlace_15 : decode cX12_isPlace 15 = .ok (.ireturn, 1) := by decide +kernel
theorem dX12_isSleeper_0 : decode cX12_isSleeper 0 = .ok (.iload_n 1, 1) := by decide +kernel
theorem dX12_isSleeper_1 : decode cX12_isSleeper 1 = .ok (.i2l, 1) := by decide +kernel
theorem dX12_isSleeper_2 : decode cX12_isSleeper 2 = .ok (.lconst 0, 1) := by decide +kernel
theorem dX12_isSleeper_3 : decode cX12_isSleeper 3 = .ok (.aload_n 0, 1) := by decide +kernel
theorem dX12_isSleeper_4 : decode cX12_isSleeper 4 = .ok (.getfield 13, 3) := by decide +kernel
theorem dX12_isSleeper_7 : decode cX12_isSleeper 7 = .ok (.iconst 2, 1) := by decide +kernel
theorem dX12_isSleeper_8 : decode cX12_isSleeper 8 = .ok (.iaload, 1) := by decide +kernel
theorem dX12_isSleeper_9 : decode cX12_isSleeper 9 = .ok (.iconst 1, 1) := by decide +kernel
theorem dX12_isSleeper_10 : decode cX12_isSleeper 10 = .ok (.isub, 1) := by decide +kernel
theorem dX12_isSleeper_11 : decode cX12_isSleeper 11 = .ok (.i2l, 1) := by decide +kernel
theorem dX12_isSleeper_12 : decode cX12_isSleeper 12 = .ok (.invokestatic 67, 3) := by decide +kernel
theorem dX12_isSleeper_15 : decode cX12_isSleeper 15 = .ok (.ireturn, 1) := by decide +kernel
theorem dX12_gives_0 : decode cX12_gives 0 = .ok (.iload_n 1, 1) := by decide +kernel
theorem dX12_gives_1 : decode cX12_gives 1 = .ok (.iconst (-1), 1) := by decide +kernel
theorem dX12_gives_2 : decode cX12_gives 2 = .ok (.if_icmp .ne 7, 3) := by decide +kernel
theorem dX12_gives_5 : decode cX12_gives 5 = .ok (.iconst 0, 1) := by decide +kernel
theorem dX12_gives_6 : decode cX12_gives 6 = .ok (.goto 16, 3) := by decide +kernel
theorem dX12_gives_9 : decode cX12_gives 9 = .ok (.aload_n 0, 1) := by decide +kernel
theorem dX12_gives_10 : decode cX12_gives 10 = .ok (.getfield 13, 3) := by decide +kernel
theorem dX12_gives_13 : decode cX12_gives 13 = .ok (.bipush 12, 2) := by decide +kernel
theorem dX12_gives_15 : decode cX12_gives 15 = .ok (.iconst 4, 1) := by decide +kernel
theorem dX12_gives_16 : decode cX12_gives 16 = .ok (.iload_n 1, 1) := by decide +kernel
theorem dX12_gives_17 : decode cX12_gives 17 = .ok (.imul, 1) := by decide +kernel
theorem dX12_gives_18 : decode cX12_gives 18 = .ok (.iadd, 1) := by decide +kernel
theorem dX12_gives_19 : decode cX12_gives 19 = .ok (.iconst 1, 1) := by decide +kernel
theorem dX12_gives_20 : decode cX12_gives 20 = .ok (.iadd, 1) := by decide +kernel
theorem dX12_gives_21 : decode cX12_gives 21 = .ok (.iaload, 1) := by decide +kernel
theorem dX12_gives_22 : decode cX12_gives 22 = .ok (.ireturn, 1) := by decide +kernel
theorem dX12_loses_0 : decode cX12_loses 0 = .ok (.aload_n 0, 1) := by decide +kernel
theorem dX12_loses_1 : decode cX12_loses 1 = .ok (.getfield 13, 3) := by decide +kernel
theorem dX12_loses_4 : decode cX12_loses 4 = .ok (.bipush 12, 2) := by decide +kernel
theorem dX12_loses_6 : decode cX12_loses 6 = .ok (.iconst 4, 1) := by decide +kernel
theorem dX12_loses_7 : decode cX12_loses 7 = .ok (.iload_n 1, 1) := by decide +kernel
theorem dX12_loses_8 : decode cX12_loses 8 = .ok (.imul, 1) := by decide +kernel
theorem dX12_loses_9 : decode cX12_loses 9 = .ok (.iadd, 1) := by decide +kernel
theorem dX12_loses_10 : decode cX12_loses 10 = .ok (.iconst 2, 1) := by decide +kernel
theorem dX12_loses_11 : decode cX12_loses 11 = .ok (.iadd, 1) := by decide +kernel
theorem dX12_loses_12 : decode cX12_loses 12 = .ok (.iaload, 1) := by decide +kernel
theorem dX12_loses_13 : decode cX12_loses 13 = .ok (.ireturn, 1) := by decide +kernel
theorem dX12_placeOf_0 : decode cX12_placeOf 0 = .ok (.iconst (-1), 1) := by decide +kernel
theorem dX12_placeOf_1 : decode cX12_placeOf 1 = .ok (.istore_n 2, 1) := by decide +kernel
theorem dX12_placeOf_2 : decode cX12_placeOf 2 = .ok (.iconst 0, 1) := by decide +kernel
theorem dX12_placeOf_3 : decode cX12_placeOf 3 = .ok (.istore_n 3, 1) := by decide +kernel
theorem dX12_placeOf_4 : decode cX12_placeOf 4 = .ok (.iload_n 3, 1) := by decide +kernel
theorem dX12_placeOf_5 : decode cX12_placeOf 5 = .ok (.aload_n 0, 1) := by decide +kernel
theorem dX12_placeOf_6 : decode cX12_placeOf 6 = .ok (.getfield 13, 3) := by decide +kernel
theorem dX12_placeOf_9 : decode cX12_placeOf 9 = .ok (.iconst 0, 1) := by decide +kernel
theorem dX12_placeOf_10 : decode cX12_placeOf 10 = .ok (.iaload, 1) := by decide +kernel
theorem dX12_placeOf_11 : decode cX12_placeOf 11 = .ok (.if_icmp .ge 27, 3) := by decide +kernel
theorem dX12_placeOf_14 : decode cX12_placeOf 14 = .ok (.aload_n 0, 1) := by decide +kernel
theorem dX12_placeOf_15 : decode cX12_placeOf 15 = .ok (.getfield 19, 3) := by decide +kernel
theorem dX12_placeOf_18 : decode cX12_placeOf 18 = .ok (.iconst 1, 1) := by decide +kernel
theorem dX12_placeOf_19 : decode cX12_placeOf 19 = .ok (.iload_n 3, 1) := by decide +kernel
theorem dX12_placeOf_20 : decode cX12_placeOf 20 = .ok (.iadd, 1) := by decide +kernel
theorem dX12_placeOf_21 : decode cX12_placeOf 21 = .ok (.iaload, 1) := by decide +kernel
theorem dX12_placeOf_22 : decode cX12_placeOf 22 = .ok (.iload_n 1, 1) := by decide +kernel
theorem dX12_placeOf_23 : decode cX12_placeOf 23 = .ok (.if_icmp .ne 7, 3) := by decide +kernel
theorem dX12_placeOf_26 : decode cX12_placeOf 26 = .ok (.iload_n 3, 1) := by decide +kernel
theorem dX12_placeOf_27 : decode cX12_placeOf 27 = .ok (.goto 4, 3) := by decide +kernel
theorem dX12_placeOf_30 : decode cX12_placeOf 30 = .ok (.iload_n 2, 1) := by decide +kernel
theorem dX12_placeOf_31 : decode cX12_placeOf 31 = .ok (.istore_n 2, 1) := by decide +kernel
theorem dX12_placeOf_32 : decode cX12_placeOf 32 = .ok (.iinc 3 1, 3) := by decide +kernel
theorem dX12_placeOf_35 : decode cX12_placeOf 35 = .ok (.goto (-31), 3) := by decide +kernel
theorem dX12_placeOf_38 : decode cX12_placeOf 38 = .ok (.iload_n 2, 1) := by decide +kernel
theorem dX12_placeOf_39 : decode cX12_placeOf 39 = .ok (.ireturn, 1) := by decide +kernel
theorem dX12_inBed_0 : decode cX12_inBed 0 = .ok (.iconst 0, 1) := by decide +kernel
theorem dX12_inBed_1 : decode cX12_inBed 1 = .ok (.istore_n 1, 1) := by decide +kernel
theorem dX12_inBed_2 : decode cX12_inBed 2 = .ok (.iconst 0, 1) := by decide +kernel
theorem dX12_inBed_3 : decode cX12_inBed 3 = .ok (.istore_n 2, 1) := by decide +kernel
theorem dX12_inBed_4 : decode cX12_inBed 4 = .ok (.iload_n 2, 1) := by decide +kernel
theorem dX12_inBed_5 : decode cX12_inBed 5 = .ok (.aload_n 0, 1) := by decide +kernel
theorem dX12_inBed_6 : decode cX12_inBed 6 = .ok (.getfield 13, 3) := by decide +kernel
theorem dX12_inBed_9 : decode cX12_inBed 9 = .ok (.iconst 0, 1) := by decide +kernel
theorem dX12_inBed_10 : decode cX12_inBed 10 = .ok (.iaload, 1) := by decide +kernel
theorem dX12_inBed_11 : decode cX12_inBed 11 = .ok (.if_icmp .ge 38, 3) := by decide +kernel
theorem dX12_inBed_14 : decode cX12_inBed 14 = .ok (.iload_n 1, 1) := by decide +kernel
theorem dX12_inBed_15 : decode cX12_inBed 15 = .ok (.aload_n 0, 1) := by decide +kernel
theorem dX12_inBed_16 : decode cX12_inBed 16 = .ok (.getfield 19, 3) := by decide +kernel
theorem dX12_inBed_19 : decode cX12_inBed 19 = .ok (.iconst 1, 1) := by decide +kernel
theorem dX12_inBed_20 : decode cX12_inBed 20 = .ok (.iload_n 2, 1) := by decide +kernel
theorem dX12_inBed_21 : decode cX12_inBed 21 = .ok (.iadd, 1) := by decide +kernel
theorem dX12_inBed_22 : decode cX12_inBed 22 = .ok (.iaload, 1) := by decide +kernel
theorem dX12_inBed_23 : decode cX12_inBed 23 = .ok (.iconst (-1), 1) := by decide +kernel
theorem dX12_inBed_24 : decode cX12_inBed 24 = .ok (.if_icmp .ne 7, 3) := by decide +kernel
theorem dX12_inBed_27 : decode cX12_inBed 27 = .ok (.iconst 0, 1) := by decide +kernel
theorem dX12_inBed_28 : decode cX12_inBed 28 = .ok (.goto 13, 3) := by decide +kernel
theorem dX12_inBed_31 : decode cX12_inBed 31 = .ok (.iconst 1, 1) := by decide +kernel
theorem dX12_inBed_32 : decode cX12_inBed 32 = .ok (.aload_n 0, 1) := by decide +kernel
theorem dX12_inBed_33 : decode cX12_inBed 33 = .ok (.getfield 19, 3) := by decide +kernel
theorem dX12_inBed_36 : decode cX12_inBed 36 = .ok (.iconst 1, 1) := by decide +kernel
theorem dX12_inBed_37 : decode cX12_inBed 37 = .ok (.iload_n 2, 1) := by decide +kernel
theorem dX12_inBed_38 : decode cX12_inBed 38 = .ok (.iadd, 1) := by decide +kernel
theorem dX12_inBed_39 : decode cX12_inBed 39 = .ok (.iaload, 1) := by decide +kernel
theorem dX12_inBed_40 : decode cX12_inBed 40 = .ok (.ishl, 1) := by decide +kernel
theorem dX12_inBed_41 : decode cX12_inBed 41 = .ok (.ior, 1) := by decide +kernel
theorem dX12_inBed_42 : decode cX12_inBed 42 = .ok (.istore_n 1, 1) := by decide +kernel
theorem dX12_inBed_43 : decode cX12_inBed 43 = .ok (.iinc 2 1, 3) := by decide +kernel
theorem dX12_inBed_46 : decode cX12_inBed 46 = .ok (.goto (-42), 3) := by decide +kernel
theorem dX12_inBed_49 : decode cX12_inBed 49 = .ok (.iload_n 1, 1) := by decide +kernel
theorem dX12_inBed_50 : decode cX12_inBed 50 = .ok (.ireturn, 1) := by decide +kernel
theorem dX12_more_0 : decode cX12_more 0 = .ok (.aload_n 0, 1) := by decide +kernel
theorem dX12_more_1 : decode cX12_more 1 = .ok (.getfield 19, 3) := by decide +kernel
theorem dX12_more_4 : decode cX12_more 4 = .ok (.bipush 7, 2) := by decide +kernel
theorem dX12_more_6 : decode cX12_more 6 = .ok (.iload_n 1, 1) := by decide +kernel
theorem dX12_more_7 : decode cX12_more 7 = .ok (.iadd, 1) := by decide +kernel
theorem dX12_more_8 : decode cX12_more 8 = .ok (.iaload, 1) := by decide +kernel
theorem dX12_more_9 : decode cX12_more 9 = .ok (.aload_n 0, 1) := by decide +kernel
theorem dX12_more_10 : decode cX12_more 10 = .ok (.getfield 13, 3) := by decide +kernel
theorem dX12_more_13 : decode cX12_more 13 = .ok (.bipush 12, 2) := by decide +kernel
theorem dX12_more_15 : decode cX12_more 15 = .ok (.iconst 4, 1) := by decide +kernel
theorem dX12_more_16 : decode cX12_more 16 = .ok (.iload_n 1, 1) := by decide +kernel
theorem dX12_more_17 : decode cX12_more 17 = .ok (.imul, 1) := by decide +kernel
theorem dX12_more_18 : decode cX12_more 18 = .ok (.iadd, 1) := by decide +kernel
theorem dX12_more_19 : decode cX12_more 19 = .ok (.iconst 3, 1) := by decide +kernel
theorem dX12_more_20 : decode cX12_more 20 = .ok (.iadd, 1) := by decide +kernel
theorem dX12_more_21 : decode cX12_more 21 = .ok (.iaload, 1) := by decide +kernel
theorem dX12_more_22 : decode cX12_more 22 = .ok (.isub, 1) := by decide +kernel
theorem dX12_more_23 : decode cX12_more 23 = .ok (.ireturn, 1) := by decide +kernel
theorem dX12_awake_0 : decode cX12_awake 0 = .ok (.iconst 0, 1) := by decide +kernel
theorem dX12_awake_1 : decode cX12_awake 1 = .ok (.istore_n 1, 1) := by decide +kernel
theorem dX12_awake_2 : decode cX12_awake 2 = .ok (.iconst 0, 1) := by decide +kernel
theorem dX12_awake_3 : decode cX12_awake 3 = .ok (.istore_n 2, 1) := by decide +kernel
theorem dX12_awake_4 : decode cX12_awake 4 = .ok (.iload_n 2, 1) := by decide +kernel
theorem dX12_awake_5 : decode cX12_awake 5 = .ok (.aload_n 0, 1) := by decide +kernel
theorem dX12_awake_6 : decode cX12_awake 6 = .ok (.getfield 13, 3) := by decide +kernel
theorem dX12_awake_9 : decode cX12_awake 9 = .ok (.iconst 2, 1) := by decide +kernel
theorem dX12_awake_10 : decode cX12_awake 10 = .ok (.iaload, 1) := by decide +kernel
theorem dX12_awake_11 : decode cX12_awake 11 = .ok (.if_icmp .ge 39, 3) := by decide +kernel
theorem dX12_awake_14 : decode cX12_awake 14 = .ok (.iload_n 1, 1) := by decide +kernel
theorem dX12_awake_15 : decode cX12_awake 15 = .ok (.aload_n 0, 1) := by decide +kernel
theorem dX12_awake_16 : decode cX12_awake 16 = .ok (.invokevirtual 122, 3) := by decide +kernel
theorem dX12_awake_19 : decode cX12_awake 19 = .ok (.iload_n 2, 1) := by decide +kernel
theorem dX12_awake_20 : decode cX12_awake 20 = .ok (.ishr, 1) := by decide +kernel
theorem dX12_awake_21 : decode cX12_awake 21 = .ok (.iconst 1, 1) := by decide +kernel
theorem dX12_awake_22 : decode cX12_awake 22 = .ok (.iand, 1) := by decide +kernel
theorem dX12_awake_23 : decode cX12_awake 23 = .ok (.iconst 1, 1) := by decide +kernel
theorem dX12_awake_24 : decode cX12_awake 24 = .ok (.if_icmp .ne 17, 3) := by decide +kernel
theorem dX12_awake_27 : decode cX12_awake 27 = .ok (.aload_n 0, 1) := by decide +kernel
theorem dX12_awake_28 : decode cX12_awake 28 = .ok (.iload_n 2, 1) := by decide +kernel
theorem dX12_awake_29 : decode cX12_awake 29 = .ok (.invokevirtual 125, 3) := by decide +kernel
theorem dX12_awake_32 : decode cX12_awake 32 = .ok (.ifCond .gt 9, 3) := by decide +kernel
theorem dX12_awake_35 : decode cX12_awake 35 = .ok (.iconst 1, 1) := by decide +kernel
theorem dX12_awake_36 : decode cX12_awake 36 = .ok (.iload_n 2, 1) := by decide +kernel
theorem dX12_awake_37 : decode cX12_awake 37 = .ok (.ishl, 1) := by decide +kernel
theorem dX12_awake_38 : decode cX12_awake 38 = .ok (.goto 4, 3) := by decide +kernel
theorem dX12_awake_41 : decode cX12_awake 41 = .ok (.iconst 0, 1) := by decide +kernel
theorem dX12_awake_42 : decode cX12_awake 42 = .ok (.ior, 1) := by decide +kernel
theorem dX12_awake_43 : decode cX12_awake 43 = .ok (.istore_n 1, 1) := by decide +kernel
theorem dX12_awake_44 : decode cX12_awake 44 = .ok (.iinc 2 1, 3) := by decide +kernel
theorem dX12_awake_47 : decode cX12_awake 47 = .ok (.goto (-43), 3) := by decide +kernel
theorem dX12_awake_50 : decode cX12_awake 50 = .ok (.iload_n 1, 1) := by decide +kernel
theorem dX12_awake_51 : decode cX12_awake 51 = .ok (.ireturn, 1) := by decide +kernel
theorem dX12_coldest_0 : decode cX12_coldest 0 = .ok (.iconst (-1), 1) := by decide +kernel
theorem dX12_coldest_1 : decode cX12_coldest 1 = .ok (.istore_n 1, 1) := by decide +kernel
theorem dX12_coldest_2 : decode cX12_coldest 2 = .ok (.iconst 0, 1) := by decide +kernel
theorem dX12_coldest_3 : decode cX12_coldest 3 = .ok (.istore_n 2, 1) := by decide +kernel
theorem dX12_coldest_4 : decode cX12_coldest 4 = .ok (.iload_n 2, 1) := by decide +kernel
theorem dX12_coldest_5 : decode cX12_coldest 5 = .ok (.aload_n 0, 1) := by decide +kernel
theorem dX12_coldest_6 : decode cX12_coldest 6 = .ok (.getfield 13, 3) := by decide +kernel
theorem dX12_coldest_9 : decode cX12_coldest 9 = .ok (.iconst 2, 1) := by decide +kernel
theorem dX12_coldest_10 : decode cX12_coldest 10 = .ok (.iaload, 1) := by decide +kernel
theorem dX12_coldest_11 : decode cX12_coldest 11 = .ok (.if_icmp .ge 61, 3) := by decide +kernel
theorem dX12_coldest_14 : decode cX12_coldest 14 = .ok (.aload_n 0, 1) := by decide +kernel
theorem dX12_coldest_15 : decode cX12_coldest 15 = .ok (.invokevirtual 122, 3) := by decide +kernel
theorem dX12_coldest_18 : decode cX12_coldest 18 = .ok (.iload_n 2, 1) := by decide +kernel
theorem dX12_coldest_19 : decode cX12_coldest 19 = .ok (.ishr, 1) := by decide +kernel
theorem dX12_coldest_20 : decode cX12_coldest 20 = .ok (.iconst 1, 1) := by decide +kernel
theorem dX12_coldest_21 : decode cX12_coldest 21 = .ok (.iand, 1) := by decide +kernel
theorem dX12_coldest_22 : decode cX12_coldest 22 = .ok (.iconst 1, 1) := by decide +kernel
theorem dX12_coldest_23 : decode cX12_coldest 23 = .ok (.if_icmp .ne 24, 3) := by decide +kernel
theorem dX12_coldest_26 : decode cX12_coldest 26 = .ok (.iload_n 1, 1) := by decide +kernel
theorem dX12_coldest_27 : decode cX12_coldest 27 = .ok (.iconst (-1), 1) := by decide +kernel
theorem dX12_coldest_28 : decode cX12_coldest 28 = .ok (.if_icmp .eq 15, 3) := by decide +kernel
theorem dX12_coldest_31 : decode cX12_coldest 31 = .ok (.bipush 100, 2) := by decide +kernel
theorem dX12_coldest_33 : decode cX12_coldest 33 = .ok (.aload_n 0, 1) := by decide +kernel
theorem dX12_coldest_34 : decode cX12_coldest 34 = .ok (.iload_n 2, 1) := by decide +kernel
theorem dX12_coldest_35 : decode cX12_coldest 35 = .ok (.invokevirtual 125, 3) := by decide +kernel
theorem dX12_coldest_38 : decode cX12_coldest 38 = .ok (.iadd, 1) := by decide +kernel
theorem dX12_coldest_39 : decode cX12_coldest 39 = .ok (.iload_n 1, 1) := by decide +kernel
theorem dX12_coldest_40 : decode cX12_coldest 40 = .ok (.if_icmp .ge 7, 3) := by decide +kernel
theorem dX12_coldest_43 : decode cX12_coldest 43 = .ok (.iconst 1, 1) := by decide +kernel
theorem dX12_coldest_44 : decode cX12_coldest 44 = .ok (.goto 4, 3) := by decide +kernel
theorem dX12_coldest_47 : decode cX12_coldest 47 = .ok (.iconst 0, 1) := by decide +kernel
theorem dX12_coldest_48 : decode cX12_coldest 48 = .ok (.istore_n 3, 1) := by decide +kernel
theorem dX12_coldest_49 : decode cX12_coldest 49 = .ok (.iload_n 3, 1) := by decide +kernel
theorem dX12_coldest_50 : decode cX12_coldest 50 = .ok (.ifCond .eq 14, 3) := by decide +kernel
theorem dX12_coldest_53 : decode cX12_coldest 53 = .ok (.bipush 100, 2) := by decide +kernel
theorem dX12_coldest_55 : decode cX12_coldest 55 = .ok (.aload_n 0, 1) := by decide +kernel
theorem dX12_coldest_56 : decode cX12_coldest 56 = .ok (.iload_n 2, 1) := by decide +kernel
theorem dX12_coldest_57 : decode cX12_coldest 57 = .ok (.invokevirtual 125, 3) := by decide +kernel
theorem dX12_coldest_60 : decode cX12_coldest 60 = .ok (.iadd, 1) := by decide +kernel
theorem dX12_coldest_61 : decode cX12_coldest 61 = .ok (.goto 4, 3) := by decide +kernel
theorem dX12_coldest_64 : decode cX12_coldest 64 = .ok (.iload_n 1, 1) := by decide +kernel
theorem dX12_coldest_65 : decode cX12_coldest 65 = .ok (.istore_n 1, 1) := by decide +kernel
theorem dX12_coldest_66 : decode cX12_coldest 66 = .ok (.iinc 2 1, 3) := by decide +kernel
theorem dX12_coldest_69 : decode cX12_coldest 69 = .ok (.goto (-65), 3) := by decide +kernel
theorem dX12_coldest_72 : decode cX12_coldest 72 = .ok (.iload_n 1, 1) := by decide +kernel
theorem dX12_coldest_73 : decode cX12_coldest 73 = .ok (.ireturn, 1) := by decide +kernel
theorem dX12_turns_0 : decode cX12_turns 0 = .ok (.aload_n 0, 1) := by decide +kernel
theorem dX12_turns_1 : decode cX12_turns 1 = .ok (.getfield 13, 3) := by decide +kernel
theorem dX12_turns_4 : decode cX12_turns 4 = .ok (.iconst 0, 1) := by decide +kernel
theorem dX12_turns_5 : decode cX12_turns 5 = .ok (.iaload, 1) := by decide +kernel
theorem dX12_turns_6 : decode cX12_turns 6 = .ok (.istore_n 2, 1) := by decide +kernel
theorem dX12_turns_7 : decode cX12_turns 7 = .ok (.iload_n 1, 1) := by decide +kernel
theorem dX12_turns_8 : decode cX12_turns 8 = .ok (.iconst 1, 1) := by decide +kernel
theorem dX12_turns_9 : decode cX12_turns 9 = .ok (.if_icmp .ne 51, 3) := by decide +kernel
theorem dX12_turns_12 : decode cX12_turns 12 = .ok (.aload_n 0, 1) := by decide +kernel
theorem dX12_turns_13 : decode cX12_turns 13 = .ok (.getfield 19, 3) := by decide +kernel
theorem dX12_turns_16 : decode cX12_turns 16 = .ok (.iload_n 2, 1) := by decide +kernel
theorem dX12_turns_17 : decode cX12_turns 17 = .ok (.iaload, 1) := by decide +kernel
theorem dX12_turns_18 : decode cX12_turns 18 = .ok (.istore_n 3, 1) := by decide +kernel
theorem dX12_turns_19 : decode cX12_turns 19 = .ok (.iload_n 2, 1) := by decide +kernel
theorem dX12_turns_20 : decode cX12_turns 20 = .ok (.istore 4, 2) := by decide +kernel
theorem dX12_turns_22 : decode cX12_turns 22 = .ok (.iload 4, 2) := by decide +kernel
theorem dX12_turns_24 : decode cX12_turns 24 = .ok (.iconst 1, 1) := by decide +kernel
theorem dX12_turns_25 : decode cX12_turns 25 = .ok (.if_icmp .le 25, 3) := by decide +kernel
theorem dX12_turns_28 : decode cX12_turns 28 = .ok (.aload_n 0, 1) := by decide +kernel
theorem dX12_turns_29 : decode cX12_turns 29 = .ok (.getfield 19, 3) := by decide +kernel
theorem dX12_turns_32 : decode cX12_turns 32 = .ok (.iload 4, 2) := by decide +kernel
theorem dX12_turns_34 : decode cX12_turns 34 = .ok (.aload_n 0, 1) := by decide +kernel
theorem dX12_turns_35 : decode cX12_turns 35 = .ok (.getfield 19, 3) := by decide +kernel
theorem dX12_turns_38 : decode cX12_turns 38 = .ok (.iload 4, 2) := by decide +kernel
theorem dX12_turns_40 : decode cX12_turns 40 = .ok (.iconst 1, 1) := by decide +kernel
theorem dX12_turns_41 : decode cX12_turns 41 = .ok (.isub, 1) := by decide +kernel
theorem dX12_turns_42 : decode cX12_turns 42 = .ok (.iaload, 1) := by decide +kernel
theorem dX12_turns_43 : decode cX12_turns 43 = .ok (.iastore, 1) := by decide +kernel
theorem dX12_turns_44 : decode cX12_turns 44 = .ok (.iinc 4 (-1), 3) := by decide +kernel
theorem dX12_turns_47 : decode cX12_turns 47 = .ok (.goto (-25), 3) := by decide +kernel
theorem dX12_turns_50 : decode cX12_turns 50 = .ok (.aload_n 0, 1) := by decide +kernel
theorem dX12_turns_51 : decode cX12_turns 51 = .ok (.getfield 19, 3) := by decide +kernel
theorem dX12_turns_54 : decode cX12_turns 54 = .ok (.iconst 1, 1) := by decide +kernel
theorem dX12_turns_55 : decode cX12_turns 55 = .ok (.iload_n 3, 1) := by decide +kernel
theorem dX12_turns_56 : decode cX12_turns 56 = .ok (.iastore, 1) := by decide +kernel
theorem dX12_turns_57 : decode cX12_turns 57 = .ok (.goto 87, 3) := by decide +kernel
theorem dX12_turns_60 : decode cX12_turns 60 = .ok (.iload_n 1, 1) := by decide +kernel
theorem dX12_turns_61 : decode cX12_turns 61 = .ok (.iconst 2, 1) := by decide +kernel
theorem dX12_turns_62 : decode cX12_turns 62 = .ok (.if_icmp .ne 51, 3) := by decide +kernel
theorem dX12_turns_65 : decode cX12_turns 65 = .ok (.aload_n 0, 1) := by decide +kernel
theorem dX12_turns_66 : decode cX12_turns 66 = .ok (.getfield 19, 3) := by decide +kernel
theorem dX12_turns_69 : decode cX12_turns 69 = .ok (.iconst 1, 1) := by decide +kernel
theorem dX12_turns_70 : decode cX12_turns 70 = .ok (.iaload, 1) := by decide +kernel
theorem dX12_turns_71 : decode cX12_turns 71 = .ok (.istore_n 3, 1) := by decide +kernel
theorem dX12_turns_72 : decode cX12_turns 72 = .ok (.iconst 1, 1) := by decide +kernel
theorem dX12_turns_73 : decode cX12_turns 73 = .ok (.istore 4, 2) := by decide +kernel
theorem dX12_turns_75 : decode cX12_turns 75 = .ok (.iload 4, 2) := by decide +kernel
theorem dX12_turns_77 : decode cX12_turns 77 = .ok (.iload_n 2, 1) := by decide +kernel
theorem dX12_turns_78 : decode cX12_turns 78 = .ok (.if_icmp .ge 25, 3) := by decide +kernel
theorem dX12_turns_81 : decode cX12_turns 81 = .ok (.aload_n 0, 1) := by decide +kernel
theorem dX12_turns_82 : decode cX12_turns 82 = .ok (.getfield 19, 3) := by decide +kernel
theorem dX12_turns_85 : decode cX12_turns 85 = .ok (.iload 4, 2) := by decide +kernel
theorem dX12_turns_87 : decode cX12_turns 87 = .ok (.aload_n 0, 1) := by decide +kernel
theorem dX12_turns_88 : decode cX12_turns 88 = .ok (.getfield 19, 3) := by decide +kernel
theorem dX12_turns_91 : decode cX12_turns 91 = .ok (.iload 4, 2) := by decide +kernel
theorem dX12_turns_93 : decode cX12_turns 93 = .ok (.iconst 1, 1) := by decide +kernel
theorem dX12_turns_94 : decode cX12_turns 94 = .ok (.iadd, 1) := by decide +kernel
theorem dX12_turns_95 : decode cX12_turns 95 = .ok (.iaload, 1) := by decide +kernel
theorem dX12_turns_96 : decode cX12_turns 96 = .ok (.iastore, 1) := by decide +kernel
theorem dX12_turns_97 : decode cX12_turns 97 = .ok (.iinc 4 1, 3) := by decide +kernel
theorem dX12_turns_100 : decode cX12_turns 100 = .ok (.goto (-25), 3) := by decide +kernel
theorem dX12_turns_103 : decode cX12_turns 103 = .ok (.aload_n 0, 1) := by decide +kernel
theorem dX12_turns_104 : decode cX12_turns 104 = .ok (.getfield 19, 3) := by decide +kernel
theorem dX12_turns_107 : decode cX12_turns 107 = .ok (.iload_n 2, 1) := by decide +kernel
theorem dX12_turns_108 : decode cX12_turns 108 = .ok (.iload_n 3, 1) := by decide +kernel
theorem dX12_turns_109 : decode cX12_turns 109 = .ok (.iastore, 1) := by decide +kernel
theorem dX12_turns_110 : decode cX12_turns 110 = .ok (.goto 34, 3) := by decide +kernel
theorem dX12_turns_113 : decode cX12_turns 113 = .ok (.iload_n 1, 1) := by decide +kernel
theorem dX12_turns_114 : decode cX12_turns 114 = .ok (.iconst 3, 1) := by decide +kernel
theorem dX12_turns_115 : decode cX12_turns 115 = .ok (.if_icmp .ne 29, 3) := by decide +kernel
theorem dX12_turns_118 : decode cX12_turns 118 = .ok (.aload_n 0, 1) := by decide +kernel
theorem dX12_turns_119 : decode cX12_turns 119 = .ok (.getfield 19, 3) := by decide +kernel
theorem dX12_turns_122 : decode cX12_turns 122 = .ok (.iconst 1, 1) := by decide +kernel
theorem dX12_turns_123 : decode cX12_turns 123 = .ok (.iaload, 1) := by decide +kernel
theorem dX12_turns_124 : decode cX12_turns 124 = .ok (.istore_n 3, 1) := by decide +kernel
theorem dX12_turns_125 : decode cX12_turns 125 = .ok (.aload_n 0, 1) := by decide +kernel
theorem dX12_turns_126 : decode cX12_turns 126 = .ok (.getfield 19, 3) := by decide +kernel
theorem dX12_turns_129 : decode cX12_turns 129 = .ok (.iconst 1, 1) := by decide +kernel
theorem dX12_turns_130 : decode cX12_turns 130 = .ok (.aload_n 0, 1) := by decide +kernel
theorem dX12_turns_131 : decode cX12_turns 131 = .ok (.getfield 19, 3) := by decide +kernel
theorem dX12_turns_134 : decode cX12_turns 134 = .ok (.iload_n 2, 1) := by decide +kernel
theorem dX12_turns_135 : decode cX12_turns 135 = .ok (.iaload, 1) := by decide +kernel
theorem dX12_turns_136 : decode cX12_turns 136 = .ok (.iastore, 1) := by decide +kernel
theorem dX12_turns_137 : decode cX12_turns 137 = .ok (.aload_n 0, 1) := by decide +kernel
theorem dX12_turns_138 : decode cX12_turns 138 = .ok (.getfield 19, 3) := by decide +kernel
theorem dX12_turns_141 : decode cX12_turns 141 = .ok (.iload_n 2, 1) := by decide +kernel
theorem dX12_turns_142 : decode cX12_turns 142 = .ok (.iload_n 3, 1) := by decide +kernel
theorem dX12_turns_143 : decode cX12_turns 143 = .ok (.iastore, 1) := by decide +kernel
theorem dX12_turns_144 : decode cX12_turns 144 = .ok (.return_, 1) := by decide +kernel
theorem dX12_goesOn_0 : decode cX12_goesOn 0 = .ok (.aload_n 0, 1) := by decide +kernel
theorem dX12_goesOn_1 : decode cX12_goesOn 1 = .ok (.iload_n 1, 1) := by decide +kernel
theorem dX12_goesOn_2 : decode cX12_goesOn 2 = .ok (.invokevirtual 129, 3) := by decide +kernel
theorem dX12_goesOn_5 : decode cX12_goesOn 5 = .ok (.aload_n 0, 1) := by decide +kernel
theorem dX12_goesOn_6 : decode cX12_goesOn 6 = .ok (.getfield 13, 3) := by decide +kernel
theorem dX12_goesOn_9 : decode cX12_goesOn 9 = .ok (.iconst 0, 1) := by decide +kernel
theorem dX12_goesOn_10 : decode cX12_goesOn 10 = .ok (.iaload, 1) := by decide +kernel
theorem dX12_goesOn_11 : decode cX12_goesOn 11 = .ok (.istore_n 2, 1) := by decide +kernel
theorem dX12_goesOn_12 : decode cX12_goesOn 12 = .ok (.iconst 0, 1) := by decide +kernel
theorem dX12_goesOn_13 : decode cX12_goesOn 13 = .ok (.istore_n 3, 1) := by decide +kernel
theorem dX12_goesOn_14 : decode cX12_goesOn 14 = .ok (.iload_n 3, 1) := by decide +kernel
theorem dX12_goesOn_15 : decode cX12_goesOn 15 = .ok (.aload_n 0, 1) := by decide +kernel
theorem dX12_goesOn_16 : decode cX12_goesOn 16 = .ok (.getfield 13, 3) := by decide +kernel
theorem dX12_goesOn_19 : decode cX12_goesOn 19 = .ok (.iconst 2, 1) := by decide +kernel
theorem dX12_goesOn_20 : decode cX12_goesOn 20 = .ok (.iaload, 1) := by decide +kernel
theorem dX12_goesOn_21 : decode cX12_goesOn 21 = .ok (.if_icmp .ge 164, 3) := by decide +kernel
theorem dX12_goesOn_24 : decode cX12_goesOn 24 = .ok (.aload_n 0, 1) := by decide +kernel
theorem dX12_goesOn_25 : decode cX12_goesOn 25 = .ok (.iload_n 3, 1) := by decide +kernel
theorem dX12_goesOn_26 : decode cX12_goesOn 26 = .ok (.invokevirtual 133, 3) := by decide +kernel
theorem dX12_goesOn_29 : decode cX12_goesOn 29 = .ok (.istore 4, 2) := by decide +kernel
theorem dX12_goesOn_31 : decode cX12_goesOn 31 = .ok (.iload 4, 2) := by decide +kernel
theorem dX12_goesOn_33 : decode cX12_goesOn 33 = .ok (.iconst (-1), 1) := by decide +kernel
theorem dX12_goesOn_34 : decode cX12_goesOn 34 = .ok (.if_icmp .ne 20, 3) := by decide +kernel
theorem dX12_goesOn_37 : decode cX12_goesOn 37 = .ok (.aload_n 0, 1) := by decide +kernel
theorem dX12_goesOn_38 : decode cX12_goesOn 38 = .ok (.getfield 22, 3) := by decide +kernel
theorem dX12_goesOn_41 : decode cX12_goesOn 41 = .ok (.iload_n 3, 1) := by decide +kernel
theorem dX12_goesOn_42 : decode cX12_goesOn 42 = .ok (.bipush (-2), 2) := by decide +kernel
theorem dX12_goesOn_44 : decode cX12_goesOn 44 = .ok (.aload_n 0, 1) := by decide +kernel
theorem dX12_goesOn_45 : decode cX12_goesOn 45 = .ok (.iload_n 3, 1) := by decide +kernel
theorem dX12_goesOn_46 : decode cX12_goesOn 46 = .ok (.invokevirtual 136, 3) := by decide +kernel
theorem dX12_goesOn_49 : decode cX12_goesOn 49 = .ok (.imul, 1) := by decide +kernel
theorem dX12_goesOn_50 : decode cX12_goesOn 50 = .ok (.iastore, 1) := by decide +kernel
theorem dX12_goesOn_51 : decode cX12_goesOn 51 = .ok (.goto 128, 3) := by decide +kernel
theorem dX12_goesOn_54 : decode cX12_goesOn 54 = .ok (.iload 4, 2) := by decide +kernel
theorem dX12_goesOn_56 : decode cX12_goesOn 56 = .ok (.ifCond .le 13, 3) := by decide +kernel
theorem dX12_goesOn_59 : decode cX12_goesOn 59 = .ok (.aload_n 0, 1) := by decide +kernel
theorem dX12_goesOn_60 : decode cX12_goesOn 60 = .ok (.getfield 19, 3) := by decide +kernel
theorem dX12_goesOn_63 : decode cX12_goesOn 63 = .ok (.iload 4, 2) := by decide +kernel
theorem dX12_goesOn_65 : decode cX12_goesOn 65 = .ok (.iaload, 1) := by decide +kernel
theorem dX12_goesOn_66 : decode cX12_goesOn 66 = .ok (.goto 28, 3) := by decide +kernel
theorem dX12_goesOn_69 : decode cX12_goesOn 69 = .ok (.aload_n 0, 1) := by decide +kernel
theorem dX12_goesOn_70 : decode cX12_goesOn 70 = .ok (.getfield 13, 3) := by decide +kernel
theorem dX12_goesOn_73 : decode cX12_goesOn 73 = .ok (.iconst 1, 1) := by decide +kernel
theorem dX12_goesOn_74 : decode cX12_goesOn 74 = .ok (.iaload, 1) := by decide +kernel
theorem dX12_goesOn_75 : decode cX12_goesOn 75 = .ok (.iconst 1, 1) := by decide +kernel
theorem dX12_goesOn_76 : decode cX12_goesOn 76 = .ok (.if_icmp .ne 17, 3) := by decide +kernel
theorem dX12_goesOn_79 : decode cX12_goesOn 79 = .ok (.iload_n 2, 1) := by decide +kernel
theorem dX12_goesOn_80 : decode cX12_goesOn 80 = .ok (.iconst 2, 1) := by decide +kernel
theorem dX12_goesOn_81 : decode cX12_goesOn 81 = .ok (.if_icmp .le 12, 3) := by decide +kernel
theorem dX12_goesOn_84 : decode cX12_goesOn 84 = .ok (.aload_n 0, 1) := by decide +kernel
theorem dX12_goesOn_85 : decode cX12_goesOn 85 = .ok (.getfield 19, 3) := by decide +kernel
theorem dX12_goesOn_88 : decode cX12_goesOn 88 = .ok (.iload_n 2, 1) := by decide +kernel
theorem dX12_goesOn_89 : decode cX12_goesOn 89 = .ok (.iaload, 1) := by decide +kernel
theorem dX12_goesOn_90 : decode cX12_goesOn 90 = .ok (.goto 4, 3) := by decide +kernel
theorem dX12_goesOn_93 : decode cX12_goesOn 93 = .ok (.iconst (-1), 1) := by decide +kernel
theorem dX12_goesOn_94 : decode cX12_goesOn 94 = .ok (.istore 5, 2) := by decide +kernel
theorem dX12_goesOn_96 : decode cX12_goesOn 96 = .ok (.iload 4, 2) := by decide +kernel
theorem dX12_goesOn_98 : decode cX12_goesOn 98 = .ok (.iload_n 2, 1) := by decide +kernel
theorem dX12_goesOn_99 : decode cX12_goesOn 99 = .ok (.iconst 1, 1) := by decide +kernel
theorem dX12_goesOn_100 : decode cX12_goesOn 100 = .ok (.isub, 1) := by decide +kernel
theorem dX12_goesOn_101 : decode cX12_goesOn 101 = .ok (.if_icmp .ge 15, 3) := by decide +kernel
theorem dX12_goesOn_104 : decode cX12_goesOn 104 = .ok (.aload_n 0, 1) := by decide +kernel
theorem dX12_goesOn_105 : decode cX12_goesOn 105 = .ok (.getfield 19, 3) := by decide +kernel
theorem dX12_goesOn_108 : decode cX12_goesOn 108 = .ok (.iload 4, 2) := by decide +kernel
theorem dX12_goesOn_110 : decode cX12_goesOn 110 = .ok (.iconst 2, 1) := by decide +kernel
theorem dX12_goesOn_111 : decode cX12_goesOn 111 = .ok (.iadd, 1) := by decide +kernel
theorem dX12_goesOn_112 : decode cX12_goesOn 112 = .ok (.iaload, 1) := by decide +kernel
theorem dX12_goesOn_113 : decode cX12_goesOn 113 = .ok (.goto 28, 3) := by decide +kernel
theorem dX12_goesOn_116 : decode cX12_goesOn 116 = .ok (.aload_n 0, 1) := by decide +kernel
theorem dX12_goesOn_117 : decode cX12_goesOn 117 = .ok (.getfield 13, 3) := by decide +kernel
theorem dX12_goesOn_120 : decode cX12_goesOn 120 = .ok (.iconst 1, 1) := by decide +kernel
theorem dX12_goesOn_121 : decode cX12_goesOn 121 = .ok (.iaload, 1) := by decide +kernel
theorem dX12_goesOn_122 : decode cX12_goesOn 122 = .ok (.iconst 1, 1) := by decide +kernel
theorem dX12_goesOn_123 : decode cX12_goesOn 123 = .ok (.if_icmp .ne 17, 3) := by decide +kernel
theorem dX12_goesOn_126 : decode cX12_goesOn 126 = .ok (.iload_n 2, 1) := by decide +kernel
theorem dX12_goesOn_127 : decode cX12_goesOn 127 = .ok (.iconst 2, 1) := by decide +kernel
theorem dX12_goesOn_128 : decode cX12_goesOn 128 = .ok (.if_icmp .le 12, 3) := by decide +kernel
theorem dX12_goesOn_131 : decode cX12_goesOn 131 = .ok (.aload_n 0, 1) := by decide +kernel
theorem dX12_goesOn_132 : decode cX12_goesOn 132 = .ok (.getfield 19, 3) := by decide +kernel
theorem dX12_goesOn_135 : decode cX12_goesOn 135 = .ok (.iconst 1, 1) := by decide +kernel
theorem dX12_goesOn_136 : decode cX12_goesOn 136 = .ok (.iaload, 1) := by decide +kernel
theorem dX12_goesOn_137 : decode cX12_goesOn 137 = .ok (.goto 4, 3) := by decide +kernel
theorem dX12_goesOn_140 : decode cX12_goesOn 140 = .ok (.iconst (-1), 1) := by decide +kernel
theorem dX12_goesOn_141 : decode cX12_goesOn 141 = .ok (.istore 6, 2) := by decide +kernel
theorem dX12_goesOn_143 : decode cX12_goesOn 143 = .ok (.aload_n 0, 1) := by decide +kernel
theorem dX12_goesOn_144 : decode cX12_goesOn 144 = .ok (.getfield 22, 3) := by decide +kernel
theorem dX12_goesOn_147 : decode cX12_goesOn 147 = .ok (.iload_n 3, 1) := by decide +kernel
theorem dX12_goesOn_148 : decode cX12_goesOn 148 = .ok (.aload_n 0, 1) := by decide +kernel
theorem dX12_goesOn_149 : decode cX12_goesOn 149 = .ok (.getfield 13, 3) := by decide +kernel
theorem dX12_goesOn_152 : decode cX12_goesOn 152 = .ok (.bipush 6, 2) := by decide +kernel
theorem dX12_goesOn_154 : decode cX12_goesOn 154 = .ok (.iload 4, 2) := by decide +kernel
theorem dX12_goesOn_156 : decode cX12_goesOn 156 = .ok (.iadd, 1) := by decide +kernel
theorem dX12_goesOn_157 : decode cX12_goesOn 157 = .ok (.iaload, 1) := by decide +kernel
theorem dX12_goesOn_158 : decode cX12_goesOn 158 = .ok (.aload_n 0, 1) := by decide +kernel
theorem dX12_goesOn_159 : decode cX12_goesOn 159 = .ok (.iload 5, 2) := by decide +kernel
theorem dX12_goesOn_161 : decode cX12_goesOn 161 = .ok (.invokevirtual 139, 3) := by decide +kernel
theorem dX12_goesOn_164 : decode cX12_goesOn 164 = .ok (.iadd, 1) := by decide +kernel
theorem dX12_goesOn_165 : decode cX12_goesOn 165 = .ok (.aload_n 0, 1) := by decide +kernel
theorem dX12_goesOn_166 : decode cX12_goesOn 166 = .ok (.iload 6, 2) := by decide +kernel
theorem dX12_goesOn_168 : decode cX12_goesOn 168 = .ok (.invokevirtual 139, 3) := by decide +kernel
theorem dX12_goesOn_171 : decode cX12_goesOn 171 = .ok (.iadd, 1) := by decide +kernel
theorem dX12_goesOn_172 : decode cX12_goesOn 172 = .ok (.aload_n 0, 1) := by decide +kernel
theorem dX12_goesOn_173 : decode cX12_goesOn 173 = .ok (.iload_n 3, 1) := by decide +kernel
theorem dX12_goesOn_174 : decode cX12_goesOn 174 = .ok (.invokevirtual 136, 3) := by decide +kernel
theorem dX12_goesOn_177 : decode cX12_goesOn 177 = .ok (.isub, 1) := by decide +kernel
theorem dX12_goesOn_178 : decode cX12_goesOn 178 = .ok (.iastore, 1) := by decide +kernel
theorem dX12_goesOn_179 : decode cX12_goesOn 179 = .ok (.iinc 3 1, 3) := by decide +kernel
theorem dX12_goesOn_182 : decode cX12_goesOn 182 = .ok (.goto (-168), 3) := by decide +kernel
theorem dX12_goesOn_185 : decode cX12_goesOn 185 = .ok (.iconst 0, 1) := by decide +kernel
theorem dX12_goesOn_186 : decode cX12_goesOn 186 = .ok (.istore_n 3, 1) := by decide +kernel
theorem dX12_goesOn_187 : decode cX12_goesOn 187 = .ok (.iload_n 3, 1) := by decide +kernel
theorem dX12_goesOn_188 : decode cX12_goesOn 188 = .ok (.aload_n 0, 1) := by decide +kernel
theorem dX12_goesOn_189 : decode cX12_goesOn 189 = .ok (.getfield 13, 3) := by decide +kernel
theorem dX12_goesOn_192 : decode cX12_goesOn 192 = .ok (.iconst 2, 1) := by decide +kernel
theorem dX12_goesOn_193 : decode cX12_goesOn 193 = .ok (.iaload, 1) := by decide +kernel
theorem dX12_goesOn_194 : decode cX12_goesOn 194 = .ok (.if_icmp .ge 59, 3) := by decide +kernel
theorem dX12_goesOn_197 : decode cX12_goesOn 197 = .ok (.aload_n 0, 1) := by decide +kernel
theorem dX12_goesOn_198 : decode cX12_goesOn 198 = .ok (.getfield 19, 3) := by decide +kernel
theorem dX12_goesOn_201 : decode cX12_goesOn 201 = .ok (.bipush 7, 2) := by decide +kernel
theorem dX12_goesOn_203 : decode cX12_goesOn 203 = .ok (.iload_n 3, 1) := by decide +kernel
theorem dX12_goesOn_204 : decode cX12_goesOn 204 = .ok (.iadd, 1) := by decide +kernel
theorem dX12_goesOn_205 : decode cX12_goesOn 205 = .ok (.iaload, 1) := by decide +kernel
theorem dX12_goesOn_206 : decode cX12_goesOn 206 = .ok (.aload_n 0, 1) := by decide +kernel
theorem dX12_goesOn_207 : decode cX12_goesOn 207 = .ok (.getfield 22, 3) := by decide +kernel
theorem dX12_goesOn_210 : decode cX12_goesOn 210 = .ok (.iload_n 3, 1) := by decide +kernel
theorem dX12_goesOn_211 : decode cX12_goesOn 211 = .ok (.iaload, 1) := by decide +kernel
theorem dX12_goesOn_212 : decode cX12_goesOn 212 = .ok (.iadd, 1) := by decide +kernel
theorem dX12_goesOn_213 : decode cX12_goesOn 213 = .ok (.istore 4, 2) := by decide +kernel
theorem dX12_goesOn_215 : decode cX12_goesOn 215 = .ok (.aload_n 0, 1) := by decide +kernel
theorem dX12_goesOn_216 : decode cX12_goesOn 216 = .ok (.getfield 19, 3) := by decide +kernel
theorem dX12_goesOn_219 : decode cX12_goesOn 219 = .ok (.bipush 7, 2) := by decide +kernel
theorem dX12_goesOn_221 : decode cX12_goesOn 221 = .ok (.iload_n 3, 1) := by decide +kernel
theorem dX12_goesOn_222 : decode cX12_goesOn 222 = .ok (.iadd, 1) := by decide +kernel
theorem dX12_goesOn_223 : decode cX12_goesOn 223 = .ok (.iload 4, 2) := by decide +kernel
theorem dX12_goesOn_225 : decode cX12_goesOn 225 = .ok (.ifCond .ge 7, 3) := by decide +kernel
theorem dX12_goesOn_228 : decode cX12_goesOn 228 = .ok (.iconst 0, 1) := by decide +kernel
theorem dX12_goesOn_229 : decode cX12_goesOn 229 = .ok (.goto 17, 3) := by decide +kernel
theorem dX12_goesOn_232 : decode cX12_goesOn 232 = .ok (.iload 4, 2) := by decide +kernel
theorem dX12_goesOn_234 : decode cX12_goesOn 234 = .ok (.bipush 99, 2) := by decide +kernel
theorem dX12_goesOn_236 : decode cX12_goesOn 236 = .ok (.if_icmp .le 8, 3) := by decide +kernel
theorem dX12_goesOn_239 : decode cX12_goesOn 239 = .ok (.bipush 99, 2) := by decide +kernel
theorem dX12_goesOn_241 : decode cX12_goesOn 241 = .ok (.goto 5, 3) := by decide +kernel
theorem dX12_goesOn_244 : decode cX12_goesOn 244 = .ok (.iload 4, 2) := by decide +kernel
theorem dX12_goesOn_246 : decode cX12_goesOn 246 = .ok (.iastore, 1) := by decide +kernel
theorem dX12_goesOn_247 : decode cX12_goesOn 247 = .ok (.iinc 3 1, 3) := by decide +kernel
theorem dX12_goesOn_250 : decode cX12_goesOn 250 = .ok (.goto (-63), 3) := by decide +kernel
theorem dX12_goesOn_253 : decode cX12_goesOn 253 = .ok (.aload_n 0, 1) := by decide +kernel
theorem dX12_goesOn_254 : decode cX12_goesOn 254 = .ok (.getfield 19, 3) := by decide +kernel
theorem dX12_goesOn_257 : decode cX12_goesOn 257 = .ok (.iconst 0, 1) := by decide +kernel
theorem dX12_goesOn_258 : decode cX12_goesOn 258 = .ok (.dup2, 1) := by decide +kernel
theorem dX12_goesOn_259 : decode cX12_goesOn 259 = .ok (.iaload, 1) := by decide +kernel
theorem dX12_goesOn_260 : decode cX12_goesOn 260 = .ok (.iconst 1, 1) := by decide +kernel
theorem dX12_goesOn_261 : decode cX12_goesOn 261 = .ok (.iadd, 1) := by decide +kernel
theorem dX12_goesOn_262 : decode cX12_goesOn 262 = .ok (.iastore, 1) := by decide +kernel
theorem dX12_goesOn_263 : decode cX12_goesOn 263 = .ok (.return_, 1) := by decide +kernel
theorem dX12_lawful_0 : decode cX12_lawful 0 = .ok (.aload_n 0, 1) := by decide +kernel
theorem dX12_lawful_1 : decode cX12_lawful 1 = .ok (.getfield 13, 3) := by decide +kernel
theorem dX12_lawful_4 : decode cX12_lawful 4 = .ok (.bipush 36, 2) := by decide +kernel
theorem dX12_lawful_6 : decode cX12_lawful 6 = .ok (.aload_n 0, 1) := by decide +kernel
theorem dX12_lawful_7 : decode cX12_lawful 7 = .ok (.getfield 19, 3) := by decide +kernel
theorem dX12_lawful_10 : decode cX12_lawful 10 = .ok (.iconst 0, 1) := by decide +kernel
theorem dX12_lawful_11 : decode cX12_lawful 11 = .ok (.iaload, 1) := by decide +kernel
theorem dX12_lawful_12 : decode cX12_lawful 12 = .ok (.aload_n 0, 1) := by decide +kernel
theorem dX12_lawful_13 : decode cX12_lawful 13 = .ok (.getfield 13, 3) := by decide +kernel
theorem dX12_lawful_16 : decode cX12_lawful 16 = .ok (.iconst 3, 1) := by decide +kernel
theorem dX12_lawful_17 : decode cX12_lawful 17 = .ok (.iaload, 1) := by decide +kernel
theorem dX12_lawful_18 : decode cX12_lawful 18 = .ok (.irem, 1) := by decide +kernel
theorem dX12_lawful_19 : decode cX12_lawful 19 = .ok (.iadd, 1) := by decide +kernel
theorem dX12_lawful_20 : decode cX12_lawful 20 = .ok (.iaload, 1) := by decide +kernel
theorem dX12_lawful_21 : decode cX12_lawful 21 = .ok (.ireturn, 1) := by decide +kernel
theorem dX12_told_0 : decode cX12_told 0 = .ok (.iload_n 1, 1) := by decide +kernel
theorem dX12_told_1 : decode cX12_told 1 = .ok (.tableswitch 125 0 11 #[63, 63, 63, 63, 70, 75, 82, 100, 105, 110, 115, 120], 63) := by decide +kernel
theorem dX12_told_64 : decode cX12_told 64 = .ok (.aload_n 0, 1) := by decide +kernel
theorem dX12_told_65 : decode cX12_told 65 = .ok (.getfield 13, 3) := by decide +kernel
theorem dX12_told_68 : decode cX12_told 68 = .ok (.iload_n 1, 1) := by decide +kernel
theorem dX12_told_69 : decode cX12_told 69 = .ok (.iaload, 1) := by decide +kernel
theorem dX12_told_70 : decode cX12_told 70 = .ok (.ireturn, 1) := by decide +kernel
theorem dX12_told_71 : decode cX12_told 71 = .ok (.aload_n 0, 1) := by decide +kernel
theorem dX12_told_72 : decode cX12_told 72 = .ok (.getfield 72, 3) := by decide +kernel
theorem dX12_told_75 : decode cX12_told 75 = .ok (.ireturn, 1) := by decide +kernel
theorem dX12_told_76 : decode cX12_told 76 = .ok (.aload_n 0, 1) := by decide +kernel
theorem dX12_told_77 : decode cX12_told 77 = .ok (.getfield 19, 3) := by decide +kernel
theorem dX12_told_80 : decode cX12_told 80 = .ok (.iconst 0, 1) := by decide +kernel
theorem dX12_told_81 : decode cX12_told 81 = .ok (.iaload, 1) := by decide +kernel
theorem dX12_told_82 : decode cX12_told 82 = .ok (.ireturn, 1) := by decide +kernel
theorem dX12_told_83 : decode cX12_told 83 = .ok (.iconst 1, 1) := by decide +kernel
theorem dX12_told_84 : decode cX12_told 84 = .ok (.aload_n 0, 1) := by decide +kernel
theorem dX12_told_85 : decode cX12_told 85 = .ok (.getfield 13, 3) := by decide +kernel
theorem dX12_told_88 : decode cX12_told 88 = .ok (.iconst 2, 1) := by decide +kernel
theorem dX12_told_89 : decode cX12_told 89 = .ok (.iaload, 1) := by decide +kernel
theorem dX12_told_90 : decode cX12_told 90 = .ok (.ishl, 1) := by decide +kernel
theorem dX12_told_91 : decode cX12_told 91 = .ok (.iconst 1, 1) := by decide +kernel
theorem dX12_told_92 : decode cX12_told 92 = .ok (.isub, 1) := by decide +kernel
theorem dX12_told_93 : decode cX12_told 93 = .ok (.aload_n 0, 1) := by decide +kernel
theorem dX12_told_94 : decode cX12_told 94 = .ok (.invokevirtual 122, 3) := by decide +kernel
theorem dX12_told_97 : decode cX12_told 97 = .ok (.iconst (-1), 1) := by decide +kernel
theorem dX12_told_98 : decode cX12_told 98 = .ok (.ixor, 1) := by decide +kernel
theorem dX12_told_99 : decode cX12_told 99 = .ok (.iand, 1) := by decide +kernel
theorem dX12_told_100 : decode cX12_told 100 = .ok (.ireturn, 1) := by decide +kernel
theorem dX12_told_101 : decode cX12_told 101 = .ok (.aload_n 0, 1) := by decide +kernel
theorem dX12_told_102 : decode cX12_told 102 = .ok (.invokevirtual 142, 3) := by decide +kernel
theorem dX12_told_105 : decode cX12_told 105 = .ok (.ireturn, 1) := by decide +kernel
theorem dX12_told_106 : decode cX12_told 106 = .ok (.aload_n 0, 1) := by decide +kernel
theorem dX12_told_107 : decode cX12_told 107 = .ok (.invokevirtual 145, 3) := by decide +kernel
theorem dX12_told_110 : decode cX12_told 110 = .ok (.ireturn, 1) := by decide +kernel
theorem dX12_told_111 : decode cX12_told 111 = .ok (.aload_n 0, 1) := by decide +kernel
theorem dX12_told_112 : decode cX12_told 112 = .ok (.getfield 113, 3) := by decide +kernel
theorem dX12_told_115 : decode cX12_told 115 = .ok (.ireturn, 1) := by decide +kernel
theorem dX12_told_116 : decode cX12_told 116 = .ok (.aload_n 0, 1) := by decide +kernel
theorem dX12_told_117 : decode cX12_told 117 = .ok (.getfield 116, 3) := by decide +kernel
theorem dX12_told_120 : decode cX12_told 120 = .ok (.ireturn, 1) := by decide +kernel
theorem dX12_told_121 : decode cX12_told 121 = .ok (.aload_n 0, 1) := by decide +kernel
theorem dX12_told_122 : decode cX12_told 122 = .ok (.getfield 119, 3) := by decide +kernel
theorem dX12_told_125 : decode cX12_told 125 = .ok (.ireturn, 1) := by decide +kernel
theorem dX12_told_126 : decode cX12_told 126 = .ok (.ldc 71, 2) := by decide +kernel
theorem dX12_told_128 : decode cX12_told 128 = .ok (.ireturn, 1) := by decide +kernel
theorem dX12_place_0 : decode cX12_place 0 = .ok (.aload_n 0, 1) := by decide +kernel
theorem dX12_place_1 : decode cX12_place 1 = .ok (.iload_n 1, 1) := by decide +kernel
theorem dX12_place_2 : decode cX12_place 2 = .ok (.invokevirtual 148, 3) := by decide +kernel
theorem dX12_place_5 : decode cX12_place 5 = .ok (.ifCond .ne 6, 3) := by decide +kernel
theorem dX12_place_8 : decode cX12_place 8 = .ok (.ldc 152, 2) := by decide +kernel
theorem dX12_place_10 : decode cX12_place 10 = .ok (.ireturn, 1) := by decide +kernel
theorem dX12_place_11 : decode cX12_place 11 = .ok (.iload_n 2, 1) := by decide +kernel
theorem dX12_place_12 : decode cX12_place 12 = .ok (.ifCond .ne 15, 3) := by decide +kernel
theorem dX12_place_15 : decode cX12_place 15 = .ok (.aload_n 0, 1) := by decide +kernel
theorem dX12_place_16 : decode cX12_place 16 = .ok (.getfield 13, 3) := by decide +kernel
theorem dX12_place_19 : decode cX12_place 19 = .ok (.bipush 6, 2) := by decide +kernel
theorem dX12_place_21 : decode cX12_place 21 = .ok (.iload_n 1, 1) := by decide +kernel
theorem dX12_place_22 : decode cX12_place 22 = .ok (.iadd, 1) := by decide +kernel
theorem dX12_place_23 : decode cX12_place 23 = .ok (.iaload, 1) := by decide +kernel
theorem dX12_place_24 : decode cX12_place 24 = .ok (.goto 21, 3) := by decide +kernel
theorem dX12_place_27 : decode cX12_place 27 = .ok (.iload_n 2, 1) := by decide +kernel
theorem dX12_place_28 : decode cX12_place 28 = .ok (.iconst 1, 1) := by decide +kernel
theorem dX12_place_29 : decode cX12_place 29 = .ok (.if_icmp .ne 14, 3) := by decide +kernel
theorem dX12_place_32 : decode cX12_place 32 = .ok (.aload_n 0, 1) := by decide +kernel
theorem dX12_place_33 : decode cX12_place 33 = .ok (.getfield 19, 3) := by decide +kernel
theorem dX12_place_36 : decode cX12_place 36 = .ok (.iconst 1, 1) := by decide +kernel
theorem dX12_place_37 : decode cX12_place 37 = .ok (.iload_n 1, 1) := by decide +kernel
theorem dX12_place_38 : decode cX12_place 38 = .ok (.iadd, 1) := by decide +kernel
theorem dX12_place_39 : decode cX12_place 39 = .ok (.iaload, 1) := by decide +kernel
theorem dX12_place_40 : decode cX12_place 40 = .ok (.goto 5, 3) := by decide +kernel
theorem dX12_place_43 : decode cX12_place 43 = .ok (.ldc 71, 2) := by decide +kernel
theorem dX12_place_45 : decode cX12_place 45 = .ok (.ireturn, 1) := by decide +kernel
theorem dX12_sleeper_0 : decode cX12_sleeper 0 = .ok (.aload_n 0, 1) := by decide +kernel
theorem dX12_sleeper_1 : decode cX12_sleeper 1 = .ok (.iload_n 1, 1) := by decide +kernel
theorem dX12_sleeper_2 : decode cX12_sleeper 2 = .ok (.invokevirtual 153, 3) := by decide +kernel
theorem dX12_sleeper_5 : decode cX12_sleeper 5 = .ok (.ifCond .ne 6, 3) := by decide +kernel
theorem dX12_sleeper_8 : decode cX12_sleeper 8 = .ok (.ldc 152, 2) := by decide +kernel
theorem dX12_sleeper_10 : decode cX12_sleeper 10 = .ok (.ireturn, 1) := by decide +kernel
theorem dX12_sleeper_11 : decode cX12_sleeper 11 = .ok (.iload_n 2, 1) := by decide +kernel
theorem dX12_sleeper_12 : decode cX12_sleeper 12 = .ok (.ifCond .ne 15, 3) := by decide +kernel
theorem dX12_sleeper_15 : decode cX12_sleeper 15 = .ok (.aload_n 0, 1) := by decide +kernel
theorem dX12_sleeper_16 : decode cX12_sleeper 16 = .ok (.getfield 19, 3) := by decide +kernel
theorem dX12_sleeper_19 : decode cX12_sleeper 19 = .ok (.bipush 7, 2) := by decide +kernel
theorem dX12_sleeper_21 : decode cX12_sleeper 21 = .ok (.iload_n 1, 1) := by decide +kernel
theorem dX12_sleeper_22 : decode cX12_sleeper 22 = .ok (.iadd, 1) := by decide +kernel
theorem dX12_sleeper_23 : decode cX12_sleeper 23 = .ok (.iaload, 1) := by decide +kernel
theorem dX12_sleeper_24 : decode cX12_sleeper 24 = .ok (.goto 46, 3) := by decide +kernel
theorem dX12_sleeper_27 : decode cX12_sleeper 27 = .ok (.iload_n 2, 1) := by decide +kernel
theorem dX12_sleeper_28 : decode cX12_sleeper 28 = .ok (.i2l, 1) := by decide +kernel
theorem dX12_sleeper_29 : decode cX12_sleeper 29 = .ok (.lconst 1, 1) := by decide +kernel
theorem dX12_sleeper_30 : decode cX12_sleeper 30 = .ok (.ldc2_w 156, 3) := by decide +kernel
theorem dX12_sleeper_33 : decode cX12_sleeper 33 = .ok (.invokestatic 67, 3) := by decide +kernel
theorem dX12_sleeper_36 : decode cX12_sleeper 36 = .ok (.ifCond .eq 19, 3) := by decide +kernel
theorem dX12_sleeper_39 : decode cX12_sleeper 39 = .ok (.aload_n 0, 1) := by decide +kernel
theorem dX12_sleeper_40 : decode cX12_sleeper 40 = .ok (.getfield 13, 3) := by decide +kernel
theorem dX12_sleeper_43 : decode cX12_sleeper 43 = .ok (.bipush 12, 2) := by decide +kernel
theorem dX12_sleeper_45 : decode cX12_sleeper 45 = .ok (.iconst 4, 1) := by decide +kernel
theorem dX12_sleeper_46 : decode cX12_sleeper 46 = .ok (.iload_n 1, 1) := by decide +kernel
theorem dX12_sleeper_47 : decode cX12_sleeper 47 = .ok (.imul, 1) := by decide +kernel
theorem dX12_sleeper_48 : decode cX12_sleeper 48 = .ok (.iadd, 1) := by decide +kernel
theorem dX12_sleeper_49 : decode cX12_sleeper 49 = .ok (.iload_n 2, 1) := by decide +kernel
theorem dX12_sleeper_50 : decode cX12_sleeper 50 = .ok (.iadd, 1) := by decide +kernel
theorem dX12_sleeper_51 : decode cX12_sleeper 51 = .ok (.iaload, 1) := by decide +kernel
theorem dX12_sleeper_52 : decode cX12_sleeper 52 = .ok (.goto 18, 3) := by decide +kernel
theorem dX12_sleeper_55 : decode cX12_sleeper 55 = .ok (.iload_n 2, 1) := by decide +kernel
theorem dX12_sleeper_56 : decode cX12_sleeper 56 = .ok (.iconst 4, 1) := by decide +kernel
theorem dX12_sleeper_57 : decode cX12_sleeper 57 = .ok (.if_icmp .ne 11, 3) := by decide +kernel
theorem dX12_sleeper_60 : decode cX12_sleeper 60 = .ok (.aload_n 0, 1) := by decide +kernel
theorem dX12_sleeper_61 : decode cX12_sleeper 61 = .ok (.iload_n 1, 1) := by decide +kernel
theorem dX12_sleeper_62 : decode cX12_sleeper 62 = .ok (.invokevirtual 133, 3) := by decide +kernel
theorem dX12_sleeper_65 : decode cX12_sleeper 65 = .ok (.goto 5, 3) := by decide +kernel
theorem dX12_sleeper_68 : decode cX12_sleeper 68 = .ok (.ldc 71, 2) := by decide +kernel
theorem dX12_sleeper_70 : decode cX12_sleeper 70 = .ok (.ireturn, 1) := by decide +kernel
theorem dX12_rule_0 : decode cX12_rule 0 = .ok (.iload_n 1, 1) := by decide +kernel
theorem dX12_rule_1 : decode cX12_rule 1 = .ok (.i2l, 1) := by decide +kernel
theorem dX12_rule_2 : decode cX12_rule 2 = .ok (.lconst 0, 1) := by decide +kernel
theorem dX12_rule_3 : decode cX12_rule 3 = .ok (.aload_n 0, 1) := by decide +kernel
theorem dX12_rule_4 : decode cX12_rule 4 = .ok (.getfield 13, 3) := by decide +kernel
theorem dX12_rule_7 : decode cX12_rule 7 = .ok (.iconst 3, 1) := by decide +kernel
theorem dX12_rule_8 : decode cX12_rule 8 = .ok (.iaload, 1) := by decide +kernel
theorem dX12_rule_9 : decode cX12_rule 9 = .ok (.iconst 1, 1) := by decide +kernel
theorem dX12_rule_10 : decode cX12_rule 10 = .ok (.isub, 1) := by decide +kernel
theorem dX12_rule_11 : decode cX12_rule 11 = .ok (.i2l, 1) := by decide +kernel
theorem dX12_rule_12 : decode cX12_rule 12 = .ok (.invokestatic 67, 3) := by decide +kernel
theorem dX12_rule_15 : decode cX12_rule 15 = .ok (.ifCond .eq 15, 3) := by decide +kernel
theorem dX12_rule_18 : decode cX12_rule 18 = .ok (.aload_n 0, 1) := by decide +kernel
theorem dX12_rule_19 : decode cX12_rule 19 = .ok (.getfield 13, 3) := by decide +kernel
theorem dX12_rule_22 : decode cX12_rule 22 = .ok (.bipush 36, 2) := by decide +kernel
theorem dX12_rule_24 : decode cX12_rule 24 = .ok (.iload_n 1, 1) := by decide +kernel
theorem dX12_rule_25 : decode cX12_rule 25 = .ok (.iadd, 1) := by decide +kernel
theorem dX12_rule_26 : decode cX12_rule 26 = .ok (.iaload, 1) := by decide +kernel
theorem dX12_rule_27 : decode cX12_rule 27 = .ok (.goto 4, 3) := by decide +kernel
theorem dX12_rule_30 : decode cX12_rule 30 = .ok (.iconst (-1), 1) := by decide +kernel
theorem dX12_rule_31 : decode cX12_rule 31 = .ok (.ireturn, 1) := by decide +kernel
theorem dX12_notes_0 : decode cX12_notes 0 = .ok (.aload_n 0, 1) := by decide +kernel
theorem dX12_notes_1 : decode cX12_notes 1 = .ok (.getfield 119, 3) := by decide +kernel
theorem dX12_notes_4 : decode cX12_notes 4 = .ok (.bipush 30, 2) := by decide +kernel
theorem dX12_notes_6 : decode cX12_notes 6 = .ok (.if_icmp .ne 40, 3) := by decide +kernel
theorem dX12_notes_9 : decode cX12_notes 9 = .ok (.bipush 13, 2) := by decide +kernel
theorem dX12_notes_11 : decode cX12_notes 11 = .ok (.istore_n 1, 1) := by decide +kernel
theorem dX12_notes_12 : decode cX12_notes 12 = .ok (.iload_n 1, 1) := by decide +kernel
theorem dX12_notes_13 : decode cX12_notes 13 = .ok (.sipush 390, 3) := by decide +kernel
theorem dX12_notes_16 : decode cX12_notes 16 = .ok (.if_icmp .ge 24, 3) := by decide +kernel
theorem dX12_notes_19 : decode cX12_notes 19 = .ok (.aload_n 0, 1) := by decide +kernel
theorem dX12_notes_20 : decode cX12_notes 20 = .ok (.getfield 25, 3) := by decide +kernel
theorem dX12_notes_23 : decode cX12_notes 23 = .ok (.iload_n 1, 1) := by decide +kernel
theorem dX12_notes_24 : decode cX12_notes 24 = .ok (.bipush 13, 2) := by decide +kernel
theorem dX12_notes_26 : decode cX12_notes 26 = .ok (.isub, 1) := by decide +kernel
theorem dX12_notes_27 : decode cX12_notes 27 = .ok (.aload_n 0, 1) := by decide +kernel
theorem dX12_notes_28 : decode cX12_notes 28 = .ok (.getfield 25, 3) := by decide +kernel
theorem dX12_notes_31 : decode cX12_notes 31 = .ok (.iload_n 1, 1) := by decide +kernel
theorem dX12_notes_32 : decode cX12_notes 32 = .ok (.iaload, 1) := by decide +kernel
theorem dX12_notes_33 : decode cX12_notes 33 = .ok (.iastore, 1) := by decide +kernel
theorem dX12_notes_34 : decode cX12_notes 34 = .ok (.iinc 1 1, 3) := by decide +kernel
theorem dX12_notes_37 : decode cX12_notes 37 = .ok (.goto (-25), 3) := by decide +kernel
theorem dX12_notes_40 : decode cX12_notes 40 = .ok (.aload_n 0, 1) := by decide +kernel
theorem dX12_notes_41 : decode cX12_notes 41 = .ok (.bipush 29, 2) := by decide +kernel
theorem dX12_notes_43 : decode cX12_notes 43 = .ok (.putfield 119, 3) := by decide +kernel
theorem dX12_notes_46 : decode cX12_notes 46 = .ok (.iconst 0, 1) := by decide +kernel
theorem dX12_notes_47 : decode cX12_notes 47 = .ok (.istore_n 1, 1) := by decide +kernel
theorem dX12_notes_48 : decode cX12_notes 48 = .ok (.iload_n 1, 1) := by decide +kernel
theorem dX12_notes_49 : decode cX12_notes 49 = .ok (.bipush 13, 2) := by decide +kernel
theorem dX12_notes_51 : decode cX12_notes 51 = .ok (.if_icmp .ge 29, 3) := by decide +kernel
theorem dX12_notes_54 : decode cX12_notes 54 = .ok (.aload_n 0, 1) := by decide +kernel
theorem dX12_notes_55 : decode cX12_notes 55 = .ok (.getfield 25, 3) := by decide +kernel
theorem dX12_notes_58 : decode cX12_notes 58 = .ok (.bipush 13, 2) := by decide +kernel
theorem dX12_notes_60 : decode cX12_notes 60 = .ok (.aload_n 0, 1) := by decide +kernel
theorem dX12_notes_61 : decode cX12_notes 61 = .ok (.getfield 119, 3) := by decide +kernel
theorem dX12_notes_64 : decode cX12_notes 64 = .ok (.imul, 1) := by decide +kernel
theorem dX12_notes_65 : decode cX12_notes 65 = .ok (.iload_n 1, 1) := by decide +kernel
theorem dX12_notes_66 : decode cX12_notes 66 = .ok (.iadd, 1) := by decide +kernel
theorem dX12_notes_67 : decode cX12_notes 67 = .ok (.aload_n 0, 1) := by decide +kernel
theorem dX12_notes_68 : decode cX12_notes 68 = .ok (.getfield 19, 3) := by decide +kernel
theorem dX12_notes_71 : decode cX12_notes 71 = .ok (.iload_n 1, 1) := by decide +kernel
theorem dX12_notes_72 : decode cX12_notes 72 = .ok (.iaload, 1) := by decide +kernel
theorem dX12_notes_73 : decode cX12_notes 73 = .ok (.iastore, 1) := by decide +kernel
theorem dX12_notes_74 : decode cX12_notes 74 = .ok (.iinc 1 1, 3) := by decide +kernel
theorem dX12_notes_77 : decode cX12_notes 77 = .ok (.goto (-29), 3) := by decide +kernel
theorem dX12_notes_80 : decode cX12_notes 80 = .ok (.aload_n 0, 1) := by decide +kernel
theorem dX12_notes_81 : decode cX12_notes 81 = .ok (.dup, 1) := by decide +kernel
theorem dX12_notes_82 : decode cX12_notes 82 = .ok (.getfield 119, 3) := by decide +kernel
theorem dX12_notes_85 : decode cX12_notes 85 = .ok (.iconst 1, 1) := by decide +kernel
theorem dX12_notes_86 : decode cX12_notes 86 = .ok (.iadd, 1) := by decide +kernel
theorem dX12_notes_87 : decode cX12_notes 87 = .ok (.putfield 119, 3) := by decide +kernel
theorem dX12_notes_90 : decode cX12_notes 90 = .ok (.return_, 1) := by decide +kernel
theorem dX12_refusal_0 : decode cX12_refusal 0 = .ok (.aload_n 0, 1) := by decide +kernel
theorem dX12_refusal_1 : decode cX12_refusal 1 = .ok (.getfield 13, 3) := by decide +kernel
theorem dX12_refusal_4 : decode cX12_refusal 4 = .ok (.iconst 0, 1) := by decide +kernel
theorem dX12_refusal_5 : decode cX12_refusal 5 = .ok (.iaload, 1) := by decide +kernel
theorem dX12_refusal_6 : decode cX12_refusal 6 = .ok (.ifCond .ne 8, 3) := by decide +kernel
theorem dX12_refusal_9 : decode cX12_refusal 9 = .ok (.ldc 158, 2) := by decide +kernel
theorem dX12_refusal_11 : decode cX12_refusal 11 = .ok (.goto 20, 3) := by decide +kernel
theorem dX12_refusal_14 : decode cX12_refusal 14 = .ok (.aload_n 0, 1) := by decide +kernel
theorem dX12_refusal_15 : decode cX12_refusal 15 = .ok (.getfield 19, 3) := by decide +kernel
theorem dX12_refusal_18 : decode cX12_refusal 18 = .ok (.iconst 0, 1) := by decide +kernel
theorem dX12_refusal_19 : decode cX12_refusal 19 = .ok (.iaload, 1) := by decide +kernel
theorem dX12_refusal_20 : decode cX12_refusal 20 = .ok (.ldc 159, 2) := by decide +kernel
theorem dX12_refusal_22 : decode cX12_refusal 22 = .ok (.if_icmp .le 8, 3) := by decide +kernel
theorem dX12_refusal_25 : decode cX12_refusal 25 = .ok (.ldc 75, 2) := by decide +kernel
theorem dX12_refusal_27 : decode cX12_refusal 27 = .ok (.goto 4, 3) := by decide +kernel
theorem dX12_refusal_30 : decode cX12_refusal 30 = .ok (.iconst 0, 1) := by decide +kernel
theorem dX12_refusal_31 : decode cX12_refusal 31 = .ok (.ireturn, 1) := by decide +kernel
theorem dX12_hour_0 : decode cX12_hour 0 = .ok (.iload_n 1, 1) := by decide +kernel
theorem dX12_hour_1 : decode cX12_hour 1 = .ok (.i2l, 1) := by decide +kernel
theorem dX12_hour_2 : decode cX12_hour 2 = .ok (.lconst 0, 1) := by decide +kernel
theorem dX12_hour_3 : decode cX12_hour 3 = .ok (.ldc2_w 156, 3) := by decide +kernel
theorem dX12_hour_6 : decode cX12_hour 6 = .ok (.invokestatic 67, 3) := by decide +kernel
theorem dX12_hour_9 : decode cX12_hour 9 = .ok (.ifCond .ne 6, 3) := by decide +kernel
theorem dX12_hour_12 : decode cX12_hour 12 = .ok (.ldc 152, 2) := by decide +kernel
theorem dX12_hour_14 : decode cX12_hour 14 = .ok (.ireturn, 1) := by decide +kernel
theorem dX12_hour_15 : decode cX12_hour 15 = .ok (.aload_n 0, 1) := by decide +kernel
theorem dX12_hour_16 : decode cX12_hour 16 = .ok (.invokevirtual 160, 3) := by decide +kernel
theorem dX12_hour_19 : decode cX12_hour 19 = .ok (.ifCond .ge 8, 3) := by decide +kernel
theorem dX12_hour_22 : decode cX12_hour 22 = .ok (.aload_n 0, 1) := by decide +kernel
theorem dX12_hour_23 : decode cX12_hour 23 = .ok (.invokevirtual 160, 3) := by decide +kernel
theorem dX12_hour_26 : decode cX12_hour 26 = .ok (.ireturn, 1) := by decide +kernel
theorem dX12_hour_27 : decode cX12_hour 27 = .ok (.aload_n 0, 1) := by decide +kernel
theorem dX12_hour_28 : decode cX12_hour 28 = .ok (.invokevirtual 163, 3) := by decide +kernel
theorem dX12_hour_31 : decode cX12_hour 31 = .ok (.aload_n 0, 1) := by decide +kernel
theorem dX12_hour_32 : decode cX12_hour 32 = .ok (.iload_n 1, 1) := by decide +kernel
theorem dX12_hour_33 : decode cX12_hour 33 = .ok (.invokevirtual 166, 3) := by decide +kernel
theorem dX12_hour_36 : decode cX12_hour 36 = .ok (.aload_n 0, 1) := by decide +kernel
theorem dX12_hour_37 : decode cX12_hour 37 = .ok (.invokevirtual 145, 3) := by decide +kernel
theorem dX12_hour_40 : decode cX12_hour 40 = .ok (.ireturn, 1) := by decide +kernel
theorem dX12_night_0 : decode cX12_night 0 = .ok (.iload_n 1, 1) := by decide +kernel
theorem dX12_night_1 : decode cX12_night 1 = .ok (.i2l, 1) := by decide +kernel
theorem dX12_night_2 : decode cX12_night 2 = .ok (.lconst 1, 1) := by decide +kernel
theorem dX12_night_3 : decode cX12_night 3 = .ok (.ldc2_w 169, 3) := by decide +kernel
theorem dX12_night_6 : decode cX12_night 6 = .ok (.invokestatic 67, 3) := by decide +kernel
theorem dX12_night_9 : decode cX12_night 9 = .ok (.ifCond .ne 6, 3) := by decide +kernel
theorem dX12_night_12 : decode cX12_night 12 = .ok (.ldc 71, 2) := by decide +kernel
theorem dX12_night_14 : decode cX12_night 14 = .ok (.ireturn, 1) := by decide +kernel
theorem dX12_night_15 : decode cX12_night 15 = .ok (.aload_n 0, 1) := by decide +kernel
theorem dX12_night_16 : decode cX12_night 16 = .ok (.invokevirtual 160, 3) := by decide +kernel
theorem dX12_night_19 : decode cX12_night 19 = .ok (.ifCond .ge 8, 3) := by decide +kernel
theorem dX12_night_22 : decode cX12_night 22 = .ok (.aload_n 0, 1) := by decide +kernel
theorem dX12_night_23 : decode cX12_night 23 = .ok (.invokevirtual 160, 3) := by decide +kernel
theorem dX12_night_26 : decode cX12_night 26 = .ok (.ireturn, 1) := by decide +kernel
theorem dX12_night_27 : decode cX12_night 27 = .ok (.iconst 0, 1) := by decide +kernel
theorem dX12_night_28 : decode cX12_night 28 = .ok (.istore_n 2, 1) := by decide +kernel
theorem dX12_night_29 : decode cX12_night 29 = .ok (.iload_n 2, 1) := by decide +kernel
theorem dX12_night_30 : decode cX12_night 30 = .ok (.iload_n 1, 1) := by decide +kernel
theorem dX12_night_31 : decode cX12_night 31 = .ok (.if_icmp .ge 21, 3) := by decide +kernel
theorem dX12_night_34 : decode cX12_night 34 = .ok (.aload_n 0, 1) := by decide +kernel
theorem dX12_night_35 : decode cX12_night 35 = .ok (.invokevirtual 163, 3) := by decide +kernel
theorem dX12_night_38 : decode cX12_night 38 = .ok (.aload_n 0, 1) := by decide +kernel
theorem dX12_night_39 : decode cX12_night 39 = .ok (.aload_n 0, 1) := by decide +kernel
theorem dX12_night_40 : decode cX12_night 40 = .ok (.invokevirtual 171, 3) := by decide +kernel
theorem dX12_night_43 : decode cX12_night 43 = .ok (.invokevirtual 166, 3) := by decide +kernel
theorem dX12_night_46 : decode cX12_night 46 = .ok (.iinc 2 1, 3) := by decide +kernel
theorem dX12_night_49 : decode cX12_night 49 = .ok (.goto (-20), 3) := by decide +kernel
theorem dX12_night_52 : decode cX12_night 52 = .ok (.aload_n 0, 1) := by decide +kernel
theorem dX12_night_53 : decode cX12_night 53 = .ok (.invokevirtual 145, 3) := by decide +kernel
theorem dX12_night_56 : decode cX12_night 56 = .ok (.ireturn, 1) := by decide +kernel
theorem dX12_getUp_0 : decode cX12_getUp 0 = .ok (.aload_n 0, 1) := by decide +kernel
theorem dX12_getUp_1 : decode cX12_getUp 1 = .ok (.iload_n 1, 1) := by decide +kernel
theorem dX12_getUp_2 : decode cX12_getUp 2 = .ok (.invokevirtual 153, 3) := by decide +kernel
theorem dX12_getUp_5 : decode cX12_getUp 5 = .ok (.ifCond .ne 6, 3) := by decide +kernel
theorem dX12_getUp_8 : decode cX12_getUp 8 = .ok (.ldc 152, 2) := by decide +kernel
theorem dX12_getUp_10 : decode cX12_getUp 10 = .ok (.ireturn, 1) := by decide +kernel
theorem dX12_getUp_11 : decode cX12_getUp 11 = .ok (.aload_n 0, 1) := by decide +kernel
theorem dX12_getUp_12 : decode cX12_getUp 12 = .ok (.iload_n 1, 1) := by decide +kernel
theorem dX12_getUp_13 : decode cX12_getUp 13 = .ok (.invokevirtual 133, 3) := by decide +kernel
theorem dX12_getUp_16 : decode cX12_getUp 16 = .ok (.istore_n 2, 1) := by decide +kernel
theorem dX12_getUp_17 : decode cX12_getUp 17 = .ok (.iload_n 2, 1) := by decide +kernel
theorem dX12_getUp_18 : decode cX12_getUp 18 = .ok (.iconst (-1), 1) := by decide +kernel
theorem dX12_getUp_19 : decode cX12_getUp 19 = .ok (.if_icmp .ne 6, 3) := by decide +kernel
theorem dX12_getUp_22 : decode cX12_getUp 22 = .ok (.ldc 158, 2) := by decide +kernel
theorem dX12_getUp_24 : decode cX12_getUp 24 = .ok (.ireturn, 1) := by decide +kernel
theorem dX12_getUp_25 : decode cX12_getUp 25 = .ok (.aload_n 0, 1) := by decide +kernel
theorem dX12_getUp_26 : decode cX12_getUp 26 = .ok (.invokevirtual 163, 3) := by decide +kernel
theorem dX12_getUp_29 : decode cX12_getUp 29 = .ok (.iload_n 2, 1) := by decide +kernel
theorem dX12_getUp_30 : decode cX12_getUp 30 = .ok (.istore_n 3, 1) := by decide +kernel
theorem dX12_getUp_31 : decode cX12_getUp 31 = .ok (.iload_n 3, 1) := by decide +kernel
theorem dX12_getUp_32 : decode cX12_getUp 32 = .ok (.aload_n 0, 1) := by decide +kernel
theorem dX12_getUp_33 : decode cX12_getUp 33 = .ok (.getfield 13, 3) := by decide +kernel
theorem dX12_getUp_36 : decode cX12_getUp 36 = .ok (.iconst 0, 1) := by decide +kernel
theorem dX12_getUp_37 : decode cX12_getUp 37 = .ok (.iaload, 1) := by decide +kernel
theorem dX12_getUp_38 : decode cX12_getUp 38 = .ok (.iconst 1, 1) := by decide +kernel
theorem dX12_getUp_39 : decode cX12_getUp 39 = .ok (.isub, 1) := by decide +kernel
theorem dX12_getUp_40 : decode cX12_getUp 40 = .ok (.if_icmp .ge 25, 3) := by decide +kernel
theorem dX12_getUp_43 : decode cX12_getUp 43 = .ok (.aload_n 0, 1) := by decide +kernel
theorem dX12_getUp_44 : decode cX12_getUp 44 = .ok (.getfield 19, 3) := by decide +kernel
theorem dX12_getUp_47 : decode cX12_getUp 47 = .ok (.iconst 1, 1) := by decide +kernel
theorem dX12_getUp_48 : decode cX12_getUp 48 = .ok (.iload_n 3, 1) := by decide +kernel
theorem dX12_getUp_49 : decode cX12_getUp 49 = .ok (.iadd, 1) := by decide +kernel
theorem dX12_getUp_50 : decode cX12_getUp 50 = .ok (.aload_n 0, 1) := by decide +kernel
theorem dX12_getUp_51 : decode cX12_getUp 51 = .ok (.getfield 19, 3) := by decide +kernel
theorem dX12_getUp_54 : decode cX12_getUp 54 = .ok (.iconst 2, 1) := by decide +kernel
theorem dX12_getUp_55 : decode cX12_getUp 55 = .ok (.iload_n 3, 1) := by decide +kernel
theorem dX12_getUp_56 : decode cX12_getUp 56 = .ok (.iadd, 1) := by decide +kernel
theorem dX12_getUp_57 : decode cX12_getUp 57 = .ok (.iaload, 1) := by decide +kernel
theorem dX12_getUp_58 : decode cX12_getUp 58 = .ok (.iastore, 1) := by decide +kernel
theorem dX12_getUp_59 : decode cX12_getUp 59 = .ok (.iinc 3 1, 3) := by decide +kernel
theorem dX12_getUp_62 : decode cX12_getUp 62 = .ok (.goto (-31), 3) := by decide +kernel
theorem dX12_getUp_65 : decode cX12_getUp 65 = .ok (.aload_n 0, 1) := by decide +kernel
theorem dX12_getUp_66 : decode cX12_getUp 66 = .ok (.getfield 19, 3) := by decide +kernel
theorem dX12_getUp_69 : decode cX12_getUp 69 = .ok (.aload_n 0, 1) := by decide +kernel
theorem dX12_getUp_70 : decode cX12_getUp 70 = .ok (.getfield 13, 3) := by decide +kernel
theorem dX12_getUp_73 : decode cX12_getUp 73 = .ok (.iconst 0, 1) := by decide +kernel
theorem dX12_getUp_74 : decode cX12_getUp 74 = .ok (.iaload, 1) := by decide +kernel
theorem dX12_getUp_75 : decode cX12_getUp 75 = .ok (.iconst (-1), 1) := by decide +kernel
theorem dX12_getUp_76 : decode cX12_getUp 76 = .ok (.iastore, 1) := by decide +kernel
theorem dX12_getUp_77 : decode cX12_getUp 77 = .ok (.iload_n 2, 1) := by decide +kernel
theorem dX12_getUp_78 : decode cX12_getUp 78 = .ok (.ireturn, 1) := by decide +kernel
theorem dX12_comeIn_0 : decode cX12_comeIn 0 = .ok (.aload_n 0, 1) := by decide +kernel
theorem dX12_comeIn_1 : decode cX12_comeIn 1 = .ok (.iload_n 1, 1) := by decide +kernel
theorem dX12_comeIn_2 : decode cX12_comeIn 2 = .ok (.invokevirtual 153, 3) := by decide +kernel
theorem dX12_comeIn_5 : decode cX12_comeIn 5 = .ok (.ifCond .ne 6, 3) := by decide +kernel
theorem dX12_comeIn_8 : decode cX12_comeIn 8 = .ok (.ldc 152, 2) := by decide +kernel
theorem dX12_comeIn_10 : decode cX12_comeIn 10 = .ok (.ireturn, 1) := by decide +kernel
theorem dX12_comeIn_11 : decode cX12_comeIn 11 = .ok (.aload_n 0, 1) := by decide +kernel
theorem dX12_comeIn_12 : decode cX12_comeIn 12 = .ok (.iload_n 1, 1) := by decide +kernel
theorem dX12_comeIn_13 : decode cX12_comeIn 13 = .ok (.invokevirtual 133, 3) := by decide +kernel
theorem dX12_comeIn_16 : decode cX12_comeIn 16 = .ok (.iconst (-1), 1) := by decide +kernel
theorem dX12_comeIn_17 : decode cX12_comeIn 17 = .ok (.if_icmp .eq 6, 3) := by decide +kernel
theorem dX12_comeIn_20 : decode cX12_comeIn 20 = .ok (.ldc 158, 2) := by decide +kernel
theorem dX12_comeIn_22 : decode cX12_comeIn 22 = .ok (.ireturn, 1) := by decide +kernel
theorem dX12_comeIn_23 : decode cX12_comeIn 23 = .ok (.aload_n 0, 1) := by decide +kernel
theorem dX12_comeIn_24 : decode cX12_comeIn 24 = .ok (.invokevirtual 163, 3) := by decide +kernel
theorem dX12_comeIn_27 : decode cX12_comeIn 27 = .ok (.aload_n 0, 1) := by decide +kernel
theorem dX12_comeIn_28 : decode cX12_comeIn 28 = .ok (.getfield 13, 3) := by decide +kernel
theorem dX12_comeIn_31 : decode cX12_comeIn 31 = .ok (.iconst 0, 1) := by decide +kernel
theorem dX12_comeIn_32 : decode cX12_comeIn 32 = .ok (.iaload, 1) := by decide +kernel
theorem dX12_comeIn_33 : decode cX12_comeIn 33 = .ok (.iconst 1, 1) := by decide +kernel
theorem dX12_comeIn_34 : decode cX12_comeIn 34 = .ok (.isub, 1) := by decide +kernel
theorem dX12_comeIn_35 : decode cX12_comeIn 35 = .ok (.istore_n 2, 1) := by decide +kernel
theorem dX12_comeIn_36 : decode cX12_comeIn 36 = .ok (.aload_n 0, 1) := by decide +kernel
theorem dX12_comeIn_37 : decode cX12_comeIn 37 = .ok (.getfield 19, 3) := by decide +kernel
theorem dX12_comeIn_40 : decode cX12_comeIn 40 = .ok (.iconst 1, 1) := by decide +kernel
theorem dX12_comeIn_41 : decode cX12_comeIn 41 = .ok (.iload_n 2, 1) := by decide +kernel
theorem dX12_comeIn_42 : decode cX12_comeIn 42 = .ok (.iadd, 1) := by decide +kernel
theorem dX12_comeIn_43 : decode cX12_comeIn 43 = .ok (.iaload, 1) := by decide +kernel
theorem dX12_comeIn_44 : decode cX12_comeIn 44 = .ok (.iconst (-1), 1) := by decide +kernel
theorem dX12_comeIn_45 : decode cX12_comeIn 45 = .ok (.if_icmp .eq 9, 3) := by decide +kernel
theorem dX12_comeIn_48 : decode cX12_comeIn 48 = .ok (.iinc 2 (-1), 3) := by decide +kernel
theorem dX12_comeIn_51 : decode cX12_comeIn 51 = .ok (.goto (-15), 3) := by decide +kernel
theorem dX12_comeIn_54 : decode cX12_comeIn 54 = .ok (.aload_n 0, 1) := by decide +kernel
theorem dX12_comeIn_55 : decode cX12_comeIn 55 = .ok (.getfield 19, 3) := by decide +kernel
theorem dX12_comeIn_58 : decode cX12_comeIn 58 = .ok (.iconst 1, 1) := by decide +kernel
