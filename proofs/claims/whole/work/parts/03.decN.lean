theorem dX0_init_0 : decode cX0_init 0 = .ok (.aload_n 0, 1) := by decide +kernel
theorem dX0_init_1 : decode cX0_init 1 = .ok (.invokespecial 3, 3) := by decide +kernel
theorem dX0_init_4 : decode cX0_init 4 = .ok (.aload_n 0, 1) := by decide +kernel
theorem dX0_init_5 : decode cX0_init 5 = .ok (.bipush 6, 2) := by decide +kernel
theorem dX0_init_7 : decode cX0_init 7 = .ok (.newarray .int, 2) := by decide +kernel
theorem dX0_init_9 : decode cX0_init 9 = .ok (.putfield 9, 3) := by decide +kernel
theorem dX0_init_12 : decode cX0_init 12 = .ok (.aload_n 0, 1) := by decide +kernel
theorem dX0_init_13 : decode cX0_init 13 = .ok (.bipush 6, 2) := by decide +kernel
theorem dX0_init_15 : decode cX0_init 15 = .ok (.newarray .int, 2) := by decide +kernel
theorem dX0_init_17 : decode cX0_init 17 = .ok (.putfield 15, 3) := by decide +kernel
theorem dX0_init_20 : decode cX0_init 20 = .ok (.aload_n 0, 1) := by decide +kernel
theorem dX0_init_21 : decode cX0_init 21 = .ok (.bipush 6, 2) := by decide +kernel
theorem dX0_init_23 : decode cX0_init 23 = .ok (.newarray .int, 2) := by decide +kernel
theorem dX0_init_25 : decode cX0_init 25 = .ok (.putfield 18, 3) := by decide +kernel
theorem dX0_init_28 : decode cX0_init 28 = .ok (.aload_n 0, 1) := by decide +kernel
theorem dX0_init_29 : decode cX0_init 29 = .ok (.bipush 6, 2) := by decide +kernel
theorem dX0_init_31 : decode cX0_init 31 = .ok (.newarray .int, 2) := by decide +kernel
theorem dX0_init_33 : decode cX0_init 33 = .ok (.putfield 21, 3) := by decide +kernel
theorem dX0_init_36 : decode cX0_init 36 = .ok (.aload_n 0, 1) := by decide +kernel
theorem dX0_init_37 : decode cX0_init 37 = .ok (.bipush 6, 2) := by decide +kernel
theorem dX0_init_39 : decode cX0_init 39 = .ok (.newarray .int, 2) := by decide +kernel
theorem dX0_init_41 : decode cX0_init 41 = .ok (.putfield 24, 3) := by decide +kernel
theorem dX0_init_44 : decode cX0_init 44 = .ok (.aload_n 0, 1) := by decide +kernel
theorem dX0_init_45 : decode cX0_init 45 = .ok (.bipush 8, 2) := by decide +kernel
theorem dX0_init_47 : decode cX0_init 47 = .ok (.newarray .int, 2) := by decide +kernel
theorem dX0_init_49 : decode cX0_init 49 = .ok (.putfield 27, 3) := by decide +kernel
theorem dX0_init_52 : decode cX0_init 52 = .ok (.aload_n 0, 1) := by decide +kernel
theorem dX0_init_53 : decode cX0_init 53 = .ok (.iconst 1, 1) := by decide +kernel
theorem dX0_init_54 : decode cX0_init 54 = .ok (.putfield 30, 3) := by decide +kernel
theorem dX0_init_57 : decode cX0_init 57 = .ok (.return_, 1) := by decide +kernel
theorem dX0_empty_0 : decode cX0_empty 0 = .ok (.aload_n 0, 1) := by decide +kernel
theorem dX0_empty_1 : decode cX0_empty 1 = .ok (.iconst 0, 1) := by decide +kernel
theorem dX0_empty_2 : decode cX0_empty 2 = .ok (.putfield 34, 3) := by decide +kernel
theorem dX0_empty_5 : decode cX0_empty 5 = .ok (.aload_n 0, 1) := by decide +kernel
theorem dX0_empty_6 : decode cX0_empty 6 = .ok (.iconst 0, 1) := by decide +kernel
theorem dX0_empty_7 : decode cX0_empty 7 = .ok (.putfield 37, 3) := by decide +kernel
theorem dX0_empty_10 : decode cX0_empty 10 = .ok (.aload_n 0, 1) := by decide +kernel
theorem dX0_empty_11 : decode cX0_empty 11 = .ok (.iconst 0, 1) := by decide +kernel
theorem dX0_empty_12 : decode cX0_empty 12 = .ok (.putfield 41, 3) := by decide +kernel
theorem dX0_empty_15 : decode cX0_empty 15 = .ok (.aload_n 0, 1) := by decide +kernel
theorem dX0_empty_16 : decode cX0_empty 16 = .ok (.iconst 1, 1) := by decide +kernel
theorem dX0_empty_17 : decode cX0_empty 17 = .ok (.putfield 30, 3) := by decide +kernel
theorem dX0_empty_20 : decode cX0_empty 20 = .ok (.aload_n 0, 1) := by decide +kernel
theorem dX0_empty_21 : decode cX0_empty 21 = .ok (.getfield 27, 3) := by decide +kernel
theorem dX0_empty_24 : decode cX0_empty 24 = .ok (.iconst 0, 1) := by decide +kernel
theorem dX0_empty_25 : decode cX0_empty 25 = .ok (.iconst 0, 1) := by decide +kernel
theorem dX0_empty_26 : decode cX0_empty 26 = .ok (.iastore, 1) := by decide +kernel
theorem dX0_empty_27 : decode cX0_empty 27 = .ok (.iconst 0, 1) := by decide +kernel
theorem dX0_empty_28 : decode cX0_empty 28 = .ok (.istore_n 1, 1) := by decide +kernel
theorem dX0_empty_29 : decode cX0_empty 29 = .ok (.iload_n 1, 1) := by decide +kernel
theorem dX0_empty_30 : decode cX0_empty 30 = .ok (.bipush 6, 2) := by decide +kernel
theorem dX0_empty_32 : decode cX0_empty 32 = .ok (.if_icmp .ge 16, 3) := by decide +kernel
theorem dX0_empty_35 : decode cX0_empty 35 = .ok (.aload_n 0, 1) := by decide +kernel
theorem dX0_empty_36 : decode cX0_empty 36 = .ok (.getfield 9, 3) := by decide +kernel
theorem dX0_empty_39 : decode cX0_empty 39 = .ok (.iload_n 1, 1) := by decide +kernel
theorem dX0_empty_40 : decode cX0_empty 40 = .ok (.iconst 0, 1) := by decide +kernel
theorem dX0_empty_41 : decode cX0_empty 41 = .ok (.iastore, 1) := by decide +kernel
theorem dX0_empty_42 : decode cX0_empty 42 = .ok (.iinc 1 1, 3) := by decide +kernel
theorem dX0_empty_45 : decode cX0_empty 45 = .ok (.goto (-16), 3) := by decide +kernel
theorem dX0_empty_48 : decode cX0_empty 48 = .ok (.return_, 1) := by decide +kernel
theorem dX0_become_0 : decode cX0_become 0 = .ok (.aload_n 0, 1) := by decide +kernel
theorem dX0_become_1 : decode cX0_become 1 = .ok (.aload_n 1, 1) := by decide +kernel
theorem dX0_become_2 : decode cX0_become 2 = .ok (.getfield 34, 3) := by decide +kernel
theorem dX0_become_5 : decode cX0_become 5 = .ok (.putfield 34, 3) := by decide +kernel
theorem dX0_become_8 : decode cX0_become 8 = .ok (.aload_n 0, 1) := by decide +kernel
theorem dX0_become_9 : decode cX0_become 9 = .ok (.aload_n 1, 1) := by decide +kernel
theorem dX0_become_10 : decode cX0_become 10 = .ok (.getfield 37, 3) := by decide +kernel
theorem dX0_become_13 : decode cX0_become 13 = .ok (.putfield 37, 3) := by decide +kernel
theorem dX0_become_16 : decode cX0_become 16 = .ok (.aload_n 0, 1) := by decide +kernel
theorem dX0_become_17 : decode cX0_become 17 = .ok (.aload_n 1, 1) := by decide +kernel
theorem dX0_become_18 : decode cX0_become 18 = .ok (.getfield 41, 3) := by decide +kernel
theorem dX0_become_21 : decode cX0_become 21 = .ok (.putfield 41, 3) := by decide +kernel
theorem dX0_become_24 : decode cX0_become 24 = .ok (.aload_n 0, 1) := by decide +kernel
theorem dX0_become_25 : decode cX0_become 25 = .ok (.aload_n 1, 1) := by decide +kernel
theorem dX0_become_26 : decode cX0_become 26 = .ok (.getfield 30, 3) := by decide +kernel
theorem dX0_become_29 : decode cX0_become 29 = .ok (.putfield 30, 3) := by decide +kernel
theorem dX0_become_32 : decode cX0_become 32 = .ok (.aload_n 1, 1) := by decide +kernel
theorem dX0_become_33 : decode cX0_become 33 = .ok (.getfield 9, 3) := by decide +kernel
theorem dX0_become_36 : decode cX0_become 36 = .ok (.iconst 0, 1) := by decide +kernel
theorem dX0_become_37 : decode cX0_become 37 = .ok (.aload_n 0, 1) := by decide +kernel
theorem dX0_become_38 : decode cX0_become 38 = .ok (.getfield 9, 3) := by decide +kernel
theorem dX0_become_41 : decode cX0_become 41 = .ok (.iconst 0, 1) := by decide +kernel
theorem dX0_become_42 : decode cX0_become 42 = .ok (.bipush 6, 2) := by decide +kernel
theorem dX0_become_44 : decode cX0_become 44 = .ok (.invokestatic 44, 3) := by decide +kernel
theorem dX0_become_47 : decode cX0_become 47 = .ok (.aload_n 1, 1) := by decide +kernel
theorem dX0_become_48 : decode cX0_become 48 = .ok (.getfield 15, 3) := by decide +kernel
theorem dX0_become_51 : decode cX0_become 51 = .ok (.iconst 0, 1) := by decide +kernel
theorem dX0_become_52 : decode cX0_become 52 = .ok (.aload_n 0, 1) := by decide +kernel
theorem dX0_become_53 : decode cX0_become 53 = .ok (.getfield 15, 3) := by decide +kernel
theorem dX0_become_56 : decode cX0_become 56 = .ok (.iconst 0, 1) := by decide +kernel
theorem dX0_become_57 : decode cX0_become 57 = .ok (.bipush 6, 2) := by decide +kernel
theorem dX0_become_59 : decode cX0_become 59 = .ok (.invokestatic 44, 3) := by decide +kernel
theorem dX0_become_62 : decode cX0_become 62 = .ok (.aload_n 1, 1) := by decide +kernel
theorem dX0_become_63 : decode cX0_become 63 = .ok (.getfield 18, 3) := by decide +kernel
theorem dX0_become_66 : decode cX0_become 66 = .ok (.iconst 0, 1) := by decide +kernel
theorem dX0_become_67 : decode cX0_become 67 = .ok (.aload_n 0, 1) := by decide +kernel
theorem dX0_become_68 : decode cX0_become 68 = .ok (.getfield 18, 3) := by decide +kernel
theorem dX0_become_71 : decode cX0_become 71 = .ok (.iconst 0, 1) := by decide +kernel
theorem dX0_become_72 : decode cX0_become 72 = .ok (.bipush 6, 2) := by decide +kernel
theorem dX0_become_74 : decode cX0_become 74 = .ok (.invokestatic 44, 3) := by decide +kernel
theorem dX0_become_77 : decode cX0_become 77 = .ok (.aload_n 1, 1) := by decide +kernel
theorem dX0_become_78 : decode cX0_become 78 = .ok (.getfield 21, 3) := by decide +kernel
theorem dX0_become_81 : decode cX0_become 81 = .ok (.iconst 0, 1) := by decide +kernel
theorem dX0_become_82 : decode cX0_become 82 = .ok (.aload_n 0, 1) := by decide +kernel
theorem dX0_become_83 : decode cX0_become 83 = .ok (.getfield 21, 3) := by decide +kernel
theorem dX0_become_86 : decode cX0_become 86 = .ok (.iconst 0, 1) := by decide +kernel
theorem dX0_become_87 : decode cX0_become 87 = .ok (.bipush 6, 2) := by decide +kernel
theorem dX0_become_89 : decode cX0_become 89 = .ok (.invokestatic 44, 3) := by decide +kernel
theorem dX0_become_92 : decode cX0_become 92 = .ok (.aload_n 1, 1) := by decide +kernel
theorem dX0_become_93 : decode cX0_become 93 = .ok (.getfield 24, 3) := by decide +kernel
theorem dX0_become_96 : decode cX0_become 96 = .ok (.iconst 0, 1) := by decide +kernel
theorem dX0_become_97 : decode cX0_become 97 = .ok (.aload_n 0, 1) := by decide +kernel
theorem dX0_become_98 : decode cX0_become 98 = .ok (.getfield 24, 3) := by decide +kernel
theorem dX0_become_101 : decode cX0_become 101 = .ok (.iconst 0, 1) := by decide +kernel
theorem dX0_become_102 : decode cX0_become 102 = .ok (.bipush 6, 2) := by decide +kernel
theorem dX0_become_104 : decode cX0_become 104 = .ok (.invokestatic 44, 3) := by decide +kernel
theorem dX0_become_107 : decode cX0_become 107 = .ok (.aload_n 1, 1) := by decide +kernel
theorem dX0_become_108 : decode cX0_become 108 = .ok (.getfield 27, 3) := by decide +kernel
theorem dX0_become_111 : decode cX0_become 111 = .ok (.iconst 0, 1) := by decide +kernel
theorem dX0_become_112 : decode cX0_become 112 = .ok (.aload_n 0, 1) := by decide +kernel
theorem dX0_become_113 : decode cX0_become 113 = .ok (.getfield 27, 3) := by decide +kernel
theorem dX0_become_116 : decode cX0_become 116 = .ok (.iconst 0, 1) := by decide +kernel
theorem dX0_become_117 : decode cX0_become 117 = .ok (.bipush 8, 2) := by decide +kernel
theorem dX0_become_119 : decode cX0_become 119 = .ok (.invokestatic 44, 3) := by decide +kernel
theorem dX0_become_122 : decode cX0_become 122 = .ok (.return_, 1) := by decide +kernel
theorem dX0_hasPlace_0 : decode cX0_hasPlace 0 = .ok (.iload_n 1, 1) := by decide +kernel
theorem dX0_hasPlace_1 : decode cX0_hasPlace 1 = .ok (.ifCond .lt 15, 3) := by decide +kernel
theorem dX0_hasPlace_4 : decode cX0_hasPlace 4 = .ok (.iload_n 1, 1) := by decide +kernel
theorem dX0_hasPlace_5 : decode cX0_hasPlace 5 = .ok (.aload_n 0, 1) := by decide +kernel
theorem dX0_hasPlace_6 : decode cX0_hasPlace 6 = .ok (.getfield 34, 3) := by decide +kernel
theorem dX0_hasPlace_9 : decode cX0_hasPlace 9 = .ok (.if_icmp .ge 7, 3) := by decide +kernel
theorem dX0_hasPlace_12 : decode cX0_hasPlace 12 = .ok (.iconst 1, 1) := by decide +kernel
theorem dX0_hasPlace_13 : decode cX0_hasPlace 13 = .ok (.goto 4, 3) := by decide +kernel
theorem dX0_hasPlace_16 : decode cX0_hasPlace 16 = .ok (.iconst 0, 1) := by decide +kernel
theorem dX0_hasPlace_17 : decode cX0_hasPlace 17 = .ok (.ireturn, 1) := by decide +kernel
theorem dX0_hasSleeper_0 : decode cX0_hasSleeper 0 = .ok (.iload_n 1, 1) := by decide +kernel
theorem dX0_hasSleeper_1 : decode cX0_hasSleeper 1 = .ok (.ifCond .lt 15, 3) := by decide +kernel
theorem dX0_hasSleeper_4 : decode cX0_hasSleeper 4 = .ok (.iload_n 1, 1) := by decide +kernel
theorem dX0_hasSleeper_5 : decode cX0_hasSleeper 5 = .ok (.aload_n 0, 1) := by decide +kernel
theorem dX0_hasSleeper_6 : decode cX0_hasSleeper 6 = .ok (.getfield 41, 3) := by decide +kernel
theorem dX0_hasSleeper_9 : decode cX0_hasSleeper 9 = .ok (.if_icmp .ge 7, 3) := by decide +kernel
theorem dX0_hasSleeper_12 : decode cX0_hasSleeper 12 = .ok (.iconst 1, 1) := by decide +kernel
theorem dX0_hasSleeper_13 : decode cX0_hasSleeper 13 = .ok (.goto 4, 3) := by decide +kernel
theorem dX0_hasSleeper_16 : decode cX0_hasSleeper 16 = .ok (.iconst 0, 1) := by decide +kernel
theorem dX0_hasSleeper_17 : decode cX0_hasSleeper 17 = .ok (.ireturn, 1) := by decide +kernel
theorem dX0_lawAt_0 : decode cX0_lawAt 0 = .ok (.aload_n 0, 1) := by decide +kernel
theorem dX0_lawAt_1 : decode cX0_lawAt 1 = .ok (.getfield 30, 3) := by decide +kernel
theorem dX0_lawAt_4 : decode cX0_lawAt 4 = .ok (.iconst 1, 1) := by decide +kernel
theorem dX0_lawAt_5 : decode cX0_lawAt 5 = .ok (.if_icmp .lt 7, 3) := by decide +kernel
theorem dX0_lawAt_8 : decode cX0_lawAt 8 = .ok (.iload_n 1, 1) := by decide +kernel
theorem dX0_lawAt_9 : decode cX0_lawAt 9 = .ok (.ifCond .ge 7, 3) := by decide +kernel
theorem dX0_lawAt_12 : decode cX0_lawAt 12 = .ok (.iconst 0, 1) := by decide +kernel
theorem dX0_lawAt_13 : decode cX0_lawAt 13 = .ok (.goto 14, 3) := by decide +kernel
theorem dX0_lawAt_16 : decode cX0_lawAt 16 = .ok (.aload_n 0, 1) := by decide +kernel
theorem dX0_lawAt_17 : decode cX0_lawAt 17 = .ok (.getfield 27, 3) := by decide +kernel
theorem dX0_lawAt_20 : decode cX0_lawAt 20 = .ok (.iload_n 1, 1) := by decide +kernel
theorem dX0_lawAt_21 : decode cX0_lawAt 21 = .ok (.aload_n 0, 1) := by decide +kernel
theorem dX0_lawAt_22 : decode cX0_lawAt 22 = .ok (.getfield 30, 3) := by decide +kernel
theorem dX0_lawAt_25 : decode cX0_lawAt 25 = .ok (.irem, 1) := by decide +kernel
theorem dX0_lawAt_26 : decode cX0_lawAt 26 = .ok (.iaload, 1) := by decide +kernel
theorem dX0_lawAt_27 : decode cX0_lawAt 27 = .ok (.ireturn, 1) := by decide +kernel
theorem dX0_warmestPlace_0 : decode cX0_warmestPlace 0 = .ok (.iconst 0, 1) := by decide +kernel
theorem dX0_warmestPlace_1 : decode cX0_warmestPlace 1 = .ok (.istore_n 1, 1) := by decide +kernel
theorem dX0_warmestPlace_2 : decode cX0_warmestPlace 2 = .ok (.iconst 1, 1) := by decide +kernel
theorem dX0_warmestPlace_3 : decode cX0_warmestPlace 3 = .ok (.istore_n 2, 1) := by decide +kernel
theorem dX0_warmestPlace_4 : decode cX0_warmestPlace 4 = .ok (.iload_n 2, 1) := by decide +kernel
theorem dX0_warmestPlace_5 : decode cX0_warmestPlace 5 = .ok (.aload_n 0, 1) := by decide +kernel
theorem dX0_warmestPlace_6 : decode cX0_warmestPlace 6 = .ok (.getfield 34, 3) := by decide +kernel
theorem dX0_warmestPlace_9 : decode cX0_warmestPlace 9 = .ok (.if_icmp .ge 26, 3) := by decide +kernel
theorem dX0_warmestPlace_12 : decode cX0_warmestPlace 12 = .ok (.aload_n 0, 1) := by decide +kernel
theorem dX0_warmestPlace_13 : decode cX0_warmestPlace 13 = .ok (.getfield 9, 3) := by decide +kernel
theorem dX0_warmestPlace_16 : decode cX0_warmestPlace 16 = .ok (.iload_n 2, 1) := by decide +kernel
theorem dX0_warmestPlace_17 : decode cX0_warmestPlace 17 = .ok (.iaload, 1) := by decide +kernel
theorem dX0_warmestPlace_18 : decode cX0_warmestPlace 18 = .ok (.aload_n 0, 1) := by decide +kernel
theorem dX0_warmestPlace_19 : decode cX0_warmestPlace 19 = .ok (.getfield 9, 3) := by decide +kernel
theorem dX0_warmestPlace_22 : decode cX0_warmestPlace 22 = .ok (.iload_n 1, 1) := by decide +kernel
theorem dX0_warmestPlace_23 : decode cX0_warmestPlace 23 = .ok (.iaload, 1) := by decide +kernel
theorem dX0_warmestPlace_24 : decode cX0_warmestPlace 24 = .ok (.if_icmp .le 5, 3) := by decide +kernel
theorem dX0_warmestPlace_27 : decode cX0_warmestPlace 27 = .ok (.iload_n 2, 1) := by decide +kernel
theorem dX0_warmestPlace_28 : decode cX0_warmestPlace 28 = .ok (.istore_n 1, 1) := by decide +kernel
theorem dX0_warmestPlace_29 : decode cX0_warmestPlace 29 = .ok (.iinc 2 1, 3) := by decide +kernel
theorem dX0_warmestPlace_32 : decode cX0_warmestPlace 32 = .ok (.goto (-28), 3) := by decide +kernel
theorem dX0_warmestPlace_35 : decode cX0_warmestPlace 35 = .ok (.iload_n 1, 1) := by decide +kernel
theorem dX0_warmestPlace_36 : decode cX0_warmestPlace 36 = .ok (.ireturn, 1) := by decide +kernel
theorem dX0_turned_0 : decode cX0_turned 0 = .ok (.aload_n 0, 1) := by decide +kernel
theorem dX0_turned_1 : decode cX0_turned 1 = .ok (.getfield 34, 3) := by decide +kernel
theorem dX0_turned_4 : decode cX0_turned 4 = .ok (.iconst 1, 1) := by decide +kernel
theorem dX0_turned_5 : decode cX0_turned 5 = .ok (.isub, 1) := by decide +kernel
theorem dX0_turned_6 : decode cX0_turned 6 = .ok (.istore_n 3, 1) := by decide +kernel
theorem dX0_turned_7 : decode cX0_turned 7 = .ok (.iload_n 2, 1) := by decide +kernel
theorem dX0_turned_8 : decode cX0_turned 8 = .ok (.tableswitch 72 1 3 #[28, 41, 53], 28) := by decide +kernel
theorem dX0_turned_36 : decode cX0_turned 36 = .ok (.iload_n 1, 1) := by decide +kernel
theorem dX0_turned_37 : decode cX0_turned 37 = .ok (.iload_n 3, 1) := by decide +kernel
theorem dX0_turned_38 : decode cX0_turned 38 = .ok (.if_icmp .ne 7, 3) := by decide +kernel
theorem dX0_turned_41 : decode cX0_turned 41 = .ok (.iconst 0, 1) := by decide +kernel
theorem dX0_turned_42 : decode cX0_turned 42 = .ok (.goto 6, 3) := by decide +kernel
theorem dX0_turned_45 : decode cX0_turned 45 = .ok (.iload_n 1, 1) := by decide +kernel
theorem dX0_turned_46 : decode cX0_turned 46 = .ok (.iconst 1, 1) := by decide +kernel
theorem dX0_turned_47 : decode cX0_turned 47 = .ok (.iadd, 1) := by decide +kernel
theorem dX0_turned_48 : decode cX0_turned 48 = .ok (.ireturn, 1) := by decide +kernel
theorem dX0_turned_49 : decode cX0_turned 49 = .ok (.iload_n 1, 1) := by decide +kernel
theorem dX0_turned_50 : decode cX0_turned 50 = .ok (.ifCond .ne 7, 3) := by decide +kernel
theorem dX0_turned_53 : decode cX0_turned 53 = .ok (.iload_n 3, 1) := by decide +kernel
theorem dX0_turned_54 : decode cX0_turned 54 = .ok (.goto 6, 3) := by decide +kernel
theorem dX0_turned_57 : decode cX0_turned 57 = .ok (.iload_n 1, 1) := by decide +kernel
theorem dX0_turned_58 : decode cX0_turned 58 = .ok (.iconst 1, 1) := by decide +kernel
theorem dX0_turned_59 : decode cX0_turned 59 = .ok (.isub, 1) := by decide +kernel
theorem dX0_turned_60 : decode cX0_turned 60 = .ok (.ireturn, 1) := by decide +kernel
theorem dX0_turned_61 : decode cX0_turned 61 = .ok (.iload_n 1, 1) := by decide +kernel
theorem dX0_turned_62 : decode cX0_turned 62 = .ok (.ifCond .ne 7, 3) := by decide +kernel
theorem dX0_turned_65 : decode cX0_turned 65 = .ok (.iload_n 3, 1) := by decide +kernel
theorem dX0_turned_66 : decode cX0_turned 66 = .ok (.goto 13, 3) := by decide +kernel
theorem dX0_turned_69 : decode cX0_turned 69 = .ok (.iload_n 1, 1) := by decide +kernel
theorem dX0_turned_70 : decode cX0_turned 70 = .ok (.iload_n 3, 1) := by decide +kernel
theorem dX0_turned_71 : decode cX0_turned 71 = .ok (.if_icmp .ne 7, 3) := by decide +kernel
theorem dX0_turned_74 : decode cX0_turned 74 = .ok (.iconst 0, 1) := by decide +kernel
theorem dX0_turned_75 : decode cX0_turned 75 = .ok (.goto 4, 3) := by decide +kernel
theorem dX0_turned_78 : decode cX0_turned 78 = .ok (.iload_n 1, 1) := by decide +kernel
theorem dX0_turned_79 : decode cX0_turned 79 = .ok (.ireturn, 1) := by decide +kernel
theorem dX0_turned_80 : decode cX0_turned 80 = .ok (.iload_n 1, 1) := by decide +kernel
theorem dX0_turned_81 : decode cX0_turned 81 = .ok (.ireturn, 1) := by decide +kernel
theorem dX0_unlike_0 : decode cX0_unlike 0 = .ok (.iconst 0, 1) := by decide +kernel
theorem dX0_unlike_1 : decode cX0_unlike 1 = .ok (.istore_n 2, 1) := by decide +kernel
theorem dX0_unlike_2 : decode cX0_unlike 2 = .ok (.iconst 0, 1) := by decide +kernel
theorem dX0_unlike_3 : decode cX0_unlike 3 = .ok (.istore_n 3, 1) := by decide +kernel
theorem dX0_unlike_4 : decode cX0_unlike 4 = .ok (.iload_n 3, 1) := by decide +kernel
theorem dX0_unlike_5 : decode cX0_unlike 5 = .ok (.aload_n 0, 1) := by decide +kernel
theorem dX0_unlike_6 : decode cX0_unlike 6 = .ok (.getfield 41, 3) := by decide +kernel
theorem dX0_unlike_9 : decode cX0_unlike 9 = .ok (.if_icmp .ge 37, 3) := by decide +kernel
theorem dX0_unlike_12 : decode cX0_unlike 12 = .ok (.iload_n 2, 1) := by decide +kernel
theorem dX0_unlike_13 : decode cX0_unlike 13 = .ok (.iload_n 1, 1) := by decide +kernel
theorem dX0_unlike_14 : decode cX0_unlike 14 = .ok (.iload_n 3, 1) := by decide +kernel
theorem dX0_unlike_15 : decode cX0_unlike 15 = .ok (.ishr, 1) := by decide +kernel
theorem dX0_unlike_16 : decode cX0_unlike 16 = .ok (.iconst 1, 1) := by decide +kernel
theorem dX0_unlike_17 : decode cX0_unlike 17 = .ok (.iand, 1) := by decide +kernel
theorem dX0_unlike_18 : decode cX0_unlike 18 = .ok (.iconst 1, 1) := by decide +kernel
theorem dX0_unlike_19 : decode cX0_unlike 19 = .ok (.if_icmp .ne 12, 3) := by decide +kernel
theorem dX0_unlike_22 : decode cX0_unlike 22 = .ok (.aload_n 0, 1) := by decide +kernel
theorem dX0_unlike_23 : decode cX0_unlike 23 = .ok (.getfield 18, 3) := by decide +kernel
theorem dX0_unlike_26 : decode cX0_unlike 26 = .ok (.iload_n 3, 1) := by decide +kernel
theorem dX0_unlike_27 : decode cX0_unlike 27 = .ok (.iaload, 1) := by decide +kernel
theorem dX0_unlike_28 : decode cX0_unlike 28 = .ok (.goto 10, 3) := by decide +kernel
theorem dX0_unlike_31 : decode cX0_unlike 31 = .ok (.aload_n 0, 1) := by decide +kernel
theorem dX0_unlike_32 : decode cX0_unlike 32 = .ok (.getfield 18, 3) := by decide +kernel
theorem dX0_unlike_35 : decode cX0_unlike 35 = .ok (.iload_n 3, 1) := by decide +kernel
theorem dX0_unlike_36 : decode cX0_unlike 36 = .ok (.iaload, 1) := by decide +kernel
theorem dX0_unlike_37 : decode cX0_unlike 37 = .ok (.ineg, 1) := by decide +kernel
theorem dX0_unlike_38 : decode cX0_unlike 38 = .ok (.iadd, 1) := by decide +kernel
theorem dX0_unlike_39 : decode cX0_unlike 39 = .ok (.istore_n 2, 1) := by decide +kernel
theorem dX0_unlike_40 : decode cX0_unlike 40 = .ok (.iinc 3 1, 3) := by decide +kernel
theorem dX0_unlike_43 : decode cX0_unlike 43 = .ok (.goto (-39), 3) := by decide +kernel
theorem dX0_unlike_46 : decode cX0_unlike 46 = .ok (.iload_n 2, 1) := by decide +kernel
theorem dX0_unlike_47 : decode cX0_unlike 47 = .ok (.invokestatic 50, 3) := by decide +kernel
theorem dX0_unlike_50 : decode cX0_unlike 50 = .ok (.ireturn, 1) := by decide +kernel
theorem dX1_init_0 : decode cX1_init 0 = .ok (.aload_n 0, 1) := by decide +kernel
theorem dX1_init_1 : decode cX1_init 1 = .ok (.invokespecial 3, 3) := by decide +kernel
theorem dX1_init_4 : decode cX1_init 4 = .ok (.aload_n 0, 1) := by decide +kernel
theorem dX1_init_5 : decode cX1_init 5 = .ok (.bipush 20, 2) := by decide +kernel
theorem dX1_init_7 : decode cX1_init 7 = .ok (.newarray .int, 2) := by decide +kernel
theorem dX1_init_9 : decode cX1_init 9 = .ok (.putfield 9, 3) := by decide +kernel
theorem dX1_init_12 : decode cX1_init 12 = .ok (.return_, 1) := by decide +kernel
theorem dX1_empty_0 : decode cX1_empty 0 = .ok (.aload_n 0, 1) := by decide +kernel
theorem dX1_empty_1 : decode cX1_empty 1 = .ok (.iconst 0, 1) := by decide +kernel
theorem dX1_empty_2 : decode cX1_empty 2 = .ok (.putfield 15, 3) := by decide +kernel
theorem dX1_empty_5 : decode cX1_empty 5 = .ok (.return_, 1) := by decide +kernel
theorem dX1_add_0 : decode cX1_add 0 = .ok (.aload_n 0, 1) := by decide +kernel
theorem dX1_add_1 : decode cX1_add 1 = .ok (.getfield 15, 3) := by decide +kernel
theorem dX1_add_4 : decode cX1_add 4 = .ok (.bipush 20, 2) := by decide +kernel
theorem dX1_add_6 : decode cX1_add 6 = .ok (.if_icmp .lt 5, 3) := by decide +kernel
theorem dX1_add_9 : decode cX1_add 9 = .ok (.iconst 0, 1) := by decide +kernel
theorem dX1_add_10 : decode cX1_add 10 = .ok (.ireturn, 1) := by decide +kernel
theorem dX1_add_11 : decode cX1_add 11 = .ok (.aload_n 0, 1) := by decide +kernel
theorem dX1_add_12 : decode cX1_add 12 = .ok (.getfield 9, 3) := by decide +kernel
theorem dX1_add_15 : decode cX1_add 15 = .ok (.aload_n 0, 1) := by decide +kernel
theorem dX1_add_16 : decode cX1_add 16 = .ok (.getfield 15, 3) := by decide +kernel
theorem dX1_add_19 : decode cX1_add 19 = .ok (.iload_n 1, 1) := by decide +kernel
theorem dX1_add_20 : decode cX1_add 20 = .ok (.iastore, 1) := by decide +kernel
theorem dX1_add_21 : decode cX1_add 21 = .ok (.aload_n 0, 1) := by decide +kernel
theorem dX1_add_22 : decode cX1_add 22 = .ok (.dup, 1) := by decide +kernel
theorem dX1_add_23 : decode cX1_add 23 = .ok (.getfield 15, 3) := by decide +kernel
theorem dX1_add_26 : decode cX1_add 26 = .ok (.iconst 1, 1) := by decide +kernel
theorem dX1_add_27 : decode cX1_add 27 = .ok (.iadd, 1) := by decide +kernel
theorem dX1_add_28 : decode cX1_add 28 = .ok (.putfield 15, 3) := by decide +kernel
theorem dX1_add_31 : decode cX1_add 31 = .ok (.iconst 1, 1) := by decide +kernel
theorem dX1_add_32 : decode cX1_add 32 = .ok (.ireturn, 1) := by decide +kernel
theorem dX1_sayTo_0 : decode cX1_sayTo 0 = .ok (.iconst (-1), 1) := by decide +kernel
theorem dX1_sayTo_1 : decode cX1_sayTo 1 = .ok (.istore_n 2, 1) := by decide +kernel
theorem dX1_sayTo_2 : decode cX1_sayTo 2 = .ok (.iconst 0, 1) := by decide +kernel
theorem dX1_sayTo_3 : decode cX1_sayTo 3 = .ok (.istore_n 3, 1) := by decide +kernel
theorem dX1_sayTo_4 : decode cX1_sayTo 4 = .ok (.iload_n 3, 1) := by decide +kernel
theorem dX1_sayTo_5 : decode cX1_sayTo 5 = .ok (.aload_n 0, 1) := by decide +kernel
theorem dX1_sayTo_6 : decode cX1_sayTo 6 = .ok (.getfield 15, 3) := by decide +kernel
theorem dX1_sayTo_9 : decode cX1_sayTo 9 = .ok (.if_icmp .ge 33, 3) := by decide +kernel
theorem dX1_sayTo_12 : decode cX1_sayTo 12 = .ok (.aload_n 1, 1) := by decide +kernel
theorem dX1_sayTo_13 : decode cX1_sayTo 13 = .ok (.aload_n 0, 1) := by decide +kernel
theorem dX1_sayTo_14 : decode cX1_sayTo 14 = .ok (.getfield 9, 3) := by decide +kernel
theorem dX1_sayTo_17 : decode cX1_sayTo 17 = .ok (.iload_n 3, 1) := by decide +kernel
theorem dX1_sayTo_18 : decode cX1_sayTo 18 = .ok (.iaload, 1) := by decide +kernel
theorem dX1_sayTo_19 : decode cX1_sayTo 19 = .ok (.invokevirtual 19, 3) := by decide +kernel
theorem dX1_sayTo_22 : decode cX1_sayTo 22 = .ok (.iload_n 2, 1) := by decide +kernel
theorem dX1_sayTo_23 : decode cX1_sayTo 23 = .ok (.iconst (-1), 1) := by decide +kernel
theorem dX1_sayTo_24 : decode cX1_sayTo 24 = .ok (.if_icmp .ne 12, 3) := by decide +kernel
theorem dX1_sayTo_27 : decode cX1_sayTo 27 = .ok (.aload_n 1, 1) := by decide +kernel
theorem dX1_sayTo_28 : decode cX1_sayTo 28 = .ok (.invokevirtual 25, 3) := by decide +kernel
theorem dX1_sayTo_31 : decode cX1_sayTo 31 = .ok (.ifCond .eq 5, 3) := by decide +kernel
theorem dX1_sayTo_34 : decode cX1_sayTo 34 = .ok (.iload_n 3, 1) := by decide +kernel
theorem dX1_sayTo_35 : decode cX1_sayTo 35 = .ok (.istore_n 2, 1) := by decide +kernel
theorem dX1_sayTo_36 : decode cX1_sayTo 36 = .ok (.iinc 3 1, 3) := by decide +kernel
theorem dX1_sayTo_39 : decode cX1_sayTo 39 = .ok (.goto (-35), 3) := by decide +kernel
theorem dX1_sayTo_42 : decode cX1_sayTo 42 = .ok (.iload_n 2, 1) := by decide +kernel
theorem dX1_sayTo_43 : decode cX1_sayTo 43 = .ok (.ireturn, 1) := by decide +kernel
theorem dX2_init_0 : decode cX2_init 0 = .ok (.aload_n 0, 1) := by decide +kernel
theorem dX2_init_1 : decode cX2_init 1 = .ok (.invokespecial 1, 3) := by decide +kernel
theorem dX2_init_4 : decode cX2_init 4 = .ok (.return_, 1) := by decide +kernel
theorem dX2_take_0 : decode cX2_take 0 = .ok (.aload_n 0, 1) := by decide +kernel
theorem dX2_take_1 : decode cX2_take 1 = .ok (.iconst 1, 1) := by decide +kernel
theorem dX2_take_2 : decode cX2_take 2 = .ok (.putfield 7, 3) := by decide +kernel
theorem dX2_take_5 : decode cX2_take 5 = .ok (.aload_n 0, 1) := by decide +kernel
theorem dX2_take_6 : decode cX2_take 6 = .ok (.aload_n 1, 1) := by decide +kernel
theorem dX2_take_7 : decode cX2_take 7 = .ok (.invokevirtual 13, 3) := by decide +kernel
theorem dX2_take_10 : decode cX2_take 10 = .ok (.putfield 19, 3) := by decide +kernel
theorem dX2_take_13 : decode cX2_take 13 = .ok (.aload_n 0, 1) := by decide +kernel
theorem dX2_take_14 : decode cX2_take 14 = .ok (.aload_n 1, 1) := by decide +kernel
theorem dX2_take_15 : decode cX2_take 15 = .ok (.getfield 22, 3) := by decide +kernel
theorem dX2_take_18 : decode cX2_take 18 = .ok (.putfield 26, 3) := by decide +kernel
theorem dX2_take_21 : decode cX2_take 21 = .ok (.aload_n 0, 1) := by decide +kernel
theorem dX2_take_22 : decode cX2_take 22 = .ok (.iload_n 2, 1) := by decide +kernel
theorem dX2_take_23 : decode cX2_take 23 = .ok (.putfield 27, 3) := by decide +kernel
theorem dX2_take_26 : decode cX2_take 26 = .ok (.return_, 1) := by decide +kernel
theorem dX3_init_0 : decode cX3_init 0 = .ok (.aload_n 0, 1) := by decide +kernel
theorem dX3_init_1 : decode cX3_init 1 = .ok (.invokespecial 3, 3) := by decide +kernel
theorem dX3_init_4 : decode cX3_init 4 = .ok (.aload_n 0, 1) := by decide +kernel
theorem dX3_init_5 : decode cX3_init 5 = .ok (.bipush 6, 2) := by decide +kernel
theorem dX3_init_7 : decode cX3_init 7 = .ok (.newarray .int, 2) := by decide +kernel
theorem dX3_init_9 : decode cX3_init 9 = .ok (.putfield 9, 3) := by decide +kernel
theorem dX3_init_12 : decode cX3_init 12 = .ok (.aload_n 0, 1) := by decide +kernel
theorem dX3_init_13 : decode cX3_init 13 = .ok (.bipush 6, 2) := by decide +kernel
theorem dX3_init_15 : decode cX3_init 15 = .ok (.newarray .int, 2) := by decide +kernel
theorem dX3_init_17 : decode cX3_init 17 = .ok (.putfield 15, 3) := by decide +kernel
theorem dX3_init_20 : decode cX3_init 20 = .ok (.aload_n 0, 1) := by decide +kernel
theorem dX3_init_21 : decode cX3_init 21 = .ok (.bipush 6, 2) := by decide +kernel
theorem dX3_init_23 : decode cX3_init 23 = .ok (.newarray .int, 2) := by decide +kernel
theorem dX3_init_25 : decode cX3_init 25 = .ok (.putfield 18, 3) := by decide +kernel
theorem dX3_init_28 : decode cX3_init 28 = .ok (.aload_n 0, 1) := by decide +kernel
theorem dX3_init_29 : decode cX3_init 29 = .ok (.bipush 6, 2) := by decide +kernel
theorem dX3_init_31 : decode cX3_init 31 = .ok (.newarray .int, 2) := by decide +kernel
theorem dX3_init_33 : decode cX3_init 33 = .ok (.putfield 21, 3) := by decide +kernel
theorem dX3_init_36 : decode cX3_init 36 = .ok (.aload_n 0, 1) := by decide +kernel
theorem dX3_init_37 : decode cX3_init 37 = .ok (.bipush 36, 2) := by decide +kernel
theorem dX3_init_39 : decode cX3_init 39 = .ok (.newarray .int, 2) := by decide +kernel
theorem dX3_init_41 : decode cX3_init 41 = .ok (.putfield 24, 3) := by decide +kernel
theorem dX3_init_44 : decode cX3_init 44 = .ok (.aload_n 0, 1) := by decide +kernel
theorem dX3_init_45 : decode cX3_init 45 = .ok (.aload_n 1, 1) := by decide +kernel
theorem dX3_init_46 : decode cX3_init 46 = .ok (.putfield 27, 3) := by decide +kernel
theorem dX3_init_49 : decode cX3_init 49 = .ok (.return_, 1) := by decide +kernel
theorem dX3_seek_0 : decode cX3_seek 0 = .ok (.aload_n 0, 1) := by decide +kernel
theorem dX3_seek_1 : decode cX3_seek 1 = .ok (.iconst (-1), 1) := by decide +kernel
theorem dX3_seek_2 : decode cX3_seek 2 = .ok (.putfield 31, 3) := by decide +kernel
theorem dX3_seek_5 : decode cX3_seek 5 = .ok (.aload_n 0, 1) := by decide +kernel
theorem dX3_seek_6 : decode cX3_seek 6 = .ok (.iconst 0, 1) := by decide +kernel
theorem dX3_seek_7 : decode cX3_seek 7 = .ok (.putfield 35, 3) := by decide +kernel
theorem dX3_seek_10 : decode cX3_seek 10 = .ok (.iconst 0, 1) := by decide +kernel
theorem dX3_seek_11 : decode cX3_seek 11 = .ok (.istore_n 3, 1) := by decide +kernel
theorem dX3_seek_12 : decode cX3_seek 12 = .ok (.iload_n 3, 1) := by decide +kernel
theorem dX3_seek_13 : decode cX3_seek 13 = .ok (.aload_n 1, 1) := by decide +kernel
theorem dX3_seek_14 : decode cX3_seek 14 = .ok (.getfield 38, 3) := by decide +kernel
theorem dX3_seek_17 : decode cX3_seek 17 = .ok (.getfield 44, 3) := by decide +kernel
theorem dX3_seek_20 : decode cX3_seek 20 = .ok (.if_icmp .ge 39, 3) := by decide +kernel
theorem dX3_seek_23 : decode cX3_seek 23 = .ok (.aload_n 1, 1) := by decide +kernel
theorem dX3_seek_24 : decode cX3_seek 24 = .ok (.getfield 49, 3) := by decide +kernel
theorem dX3_seek_27 : decode cX3_seek 27 = .ok (.iload_n 3, 1) := by decide +kernel
theorem dX3_seek_28 : decode cX3_seek 28 = .ok (.iaload, 1) := by decide +kernel
theorem dX3_seek_29 : decode cX3_seek 29 = .ok (.iconst (-1), 1) := by decide +kernel
theorem dX3_seek_30 : decode cX3_seek 30 = .ok (.if_icmp .eq 23, 3) := by decide +kernel
theorem dX3_seek_33 : decode cX3_seek 33 = .ok (.aload_n 0, 1) := by decide +kernel
theorem dX3_seek_34 : decode cX3_seek 34 = .ok (.getfield 9, 3) := by decide +kernel
theorem dX3_seek_37 : decode cX3_seek 37 = .ok (.aload_n 0, 1) := by decide +kernel
theorem dX3_seek_38 : decode cX3_seek 38 = .ok (.getfield 35, 3) := by decide +kernel
theorem dX3_seek_41 : decode cX3_seek 41 = .ok (.iload_n 3, 1) := by decide +kernel
theorem dX3_seek_42 : decode cX3_seek 42 = .ok (.iastore, 1) := by decide +kernel
theorem dX3_seek_43 : decode cX3_seek 43 = .ok (.aload_n 0, 1) := by decide +kernel
theorem dX3_seek_44 : decode cX3_seek 44 = .ok (.dup, 1) := by decide +kernel
theorem dX3_seek_45 : decode cX3_seek 45 = .ok (.getfield 35, 3) := by decide +kernel
theorem dX3_seek_48 : decode cX3_seek 48 = .ok (.iconst 1, 1) := by decide +kernel
theorem dX3_seek_49 : decode cX3_seek 49 = .ok (.iadd, 1) := by decide +kernel
theorem dX3_seek_50 : decode cX3_seek 50 = .ok (.putfield 35, 3) := by decide +kernel
theorem dX3_seek_53 : decode cX3_seek 53 = .ok (.iinc 3 1, 3) := by decide +kernel
theorem dX3_seek_56 : decode cX3_seek 56 = .ok (.goto (-44), 3) := by decide +kernel
theorem dX3_seek_59 : decode cX3_seek 59 = .ok (.aload_n 0, 1) := by decide +kernel
theorem dX3_seek_60 : decode cX3_seek 60 = .ok (.getfield 35, 3) := by decide +kernel
theorem dX3_seek_63 : decode cX3_seek 63 = .ok (.ifCond .le 14, 3) := by decide +kernel
theorem dX3_seek_66 : decode cX3_seek 66 = .ok (.aload_n 0, 1) := by decide +kernel
theorem dX3_seek_67 : decode cX3_seek 67 = .ok (.aload_n 1, 1) := by decide +kernel
theorem dX3_seek_68 : decode cX3_seek 68 = .ok (.iconst 0, 1) := by decide +kernel
theorem dX3_seek_69 : decode cX3_seek 69 = .ok (.aload_n 1, 1) := by decide +kernel
theorem dX3_seek_70 : decode cX3_seek 70 = .ok (.invokevirtual 52, 3) := by decide +kernel
theorem dX3_seek_73 : decode cX3_seek 73 = .ok (.iload_n 2, 1) := by decide +kernel
theorem dX3_seek_74 : decode cX3_seek 74 = .ok (.invokestatic 56, 3) := by decide +kernel
theorem dX3_seek_77 : decode cX3_seek 77 = .ok (.return_, 1) := by decide +kernel
theorem dX3_tryOrders_0 : decode cX3_tryOrders 0 = .ok (.iload_n 2, 1) := by decide +kernel
theorem dX3_tryOrders_1 : decode cX3_tryOrders 1 = .ok (.aload_n 0, 1) := by decide +kernel
theorem dX3_tryOrders_2 : decode cX3_tryOrders 2 = .ok (.getfield 35, 3) := by decide +kernel
theorem dX3_tryOrders_5 : decode cX3_tryOrders 5 = .ok (.if_icmp .ge 9, 3) := by decide +kernel
theorem dX3_tryOrders_8 : decode cX3_tryOrders 8 = .ok (.iload_n 2, 1) := by decide +kernel
theorem dX3_tryOrders_9 : decode cX3_tryOrders 9 = .ok (.bipush 6, 2) := by decide +kernel
theorem dX3_tryOrders_11 : decode cX3_tryOrders 11 = .ok (.if_icmp .lt 11, 3) := by decide +kernel
theorem dX3_tryOrders_14 : decode cX3_tryOrders 14 = .ok (.aload_n 0, 1) := by decide +kernel
theorem dX3_tryOrders_15 : decode cX3_tryOrders 15 = .ok (.aload_n 1, 1) := by decide +kernel
theorem dX3_tryOrders_16 : decode cX3_tryOrders 16 = .ok (.iload 4, 2) := by decide +kernel
theorem dX3_tryOrders_18 : decode cX3_tryOrders 18 = .ok (.invokevirtual 60, 3) := by decide +kernel
theorem dX3_tryOrders_21 : decode cX3_tryOrders 21 = .ok (.return_, 1) := by decide +kernel
theorem dX3_tryOrders_22 : decode cX3_tryOrders 22 = .ok (.iconst 0, 1) := by decide +kernel
theorem dX3_tryOrders_23 : decode cX3_tryOrders 23 = .ok (.istore 5, 2) := by decide +kernel
theorem dX3_tryOrders_25 : decode cX3_tryOrders 25 = .ok (.iload 5, 2) := by decide +kernel
theorem dX3_tryOrders_27 : decode cX3_tryOrders 27 = .ok (.bipush 6, 2) := by decide +kernel
theorem dX3_tryOrders_29 : decode cX3_tryOrders 29 = .ok (.if_icmp .ge 45, 3) := by decide +kernel
theorem dX3_tryOrders_32 : decode cX3_tryOrders 32 = .ok (.iload_n 3, 1) := by decide +kernel
theorem dX3_tryOrders_33 : decode cX3_tryOrders 33 = .ok (.iload 5, 2) := by decide +kernel
theorem dX3_tryOrders_35 : decode cX3_tryOrders 35 = .ok (.ishr, 1) := by decide +kernel
theorem dX3_tryOrders_36 : decode cX3_tryOrders 36 = .ok (.iconst 1, 1) := by decide +kernel
theorem dX3_tryOrders_37 : decode cX3_tryOrders 37 = .ok (.iand, 1) := by decide +kernel
theorem dX3_tryOrders_38 : decode cX3_tryOrders 38 = .ok (.iconst 1, 1) := by decide +kernel
theorem dX3_tryOrders_39 : decode cX3_tryOrders 39 = .ok (.if_icmp .ne 29, 3) := by decide +kernel
theorem dX3_tryOrders_42 : decode cX3_tryOrders 42 = .ok (.aload_n 0, 1) := by decide +kernel
theorem dX3_tryOrders_43 : decode cX3_tryOrders 43 = .ok (.getfield 15, 3) := by decide +kernel
theorem dX3_tryOrders_46 : decode cX3_tryOrders 46 = .ok (.iload_n 2, 1) := by decide +kernel
theorem dX3_tryOrders_47 : decode cX3_tryOrders 47 = .ok (.iload 5, 2) := by decide +kernel
theorem dX3_tryOrders_49 : decode cX3_tryOrders 49 = .ok (.iastore, 1) := by decide +kernel
theorem dX3_tryOrders_50 : decode cX3_tryOrders 50 = .ok (.aload_n 0, 1) := by decide +kernel
theorem dX3_tryOrders_51 : decode cX3_tryOrders 51 = .ok (.aload_n 1, 1) := by decide +kernel
theorem dX3_tryOrders_52 : decode cX3_tryOrders 52 = .ok (.iload_n 2, 1) := by decide +kernel
theorem dX3_tryOrders_53 : decode cX3_tryOrders 53 = .ok (.iconst 1, 1) := by decide +kernel
theorem dX3_tryOrders_54 : decode cX3_tryOrders 54 = .ok (.iadd, 1) := by decide +kernel
theorem dX3_tryOrders_55 : decode cX3_tryOrders 55 = .ok (.iload_n 3, 1) := by decide +kernel
theorem dX3_tryOrders_56 : decode cX3_tryOrders 56 = .ok (.iconst 1, 1) := by decide +kernel
theorem dX3_tryOrders_57 : decode cX3_tryOrders 57 = .ok (.iload 5, 2) := by decide +kernel
theorem dX3_tryOrders_59 : decode cX3_tryOrders 59 = .ok (.ishl, 1) := by decide +kernel
theorem dX3_tryOrders_60 : decode cX3_tryOrders 60 = .ok (.iconst (-1), 1) := by decide +kernel
theorem dX3_tryOrders_61 : decode cX3_tryOrders 61 = .ok (.ixor, 1) := by decide +kernel
theorem dX3_tryOrders_62 : decode cX3_tryOrders 62 = .ok (.iand, 1) := by decide +kernel
theorem dX3_tryOrders_63 : decode cX3_tryOrders 63 = .ok (.iload 4, 2) := by decide +kernel
theorem dX3_tryOrders_65 : decode cX3_tryOrders 65 = .ok (.invokestatic 56, 3) := by decide +kernel
theorem dX3_tryOrders_68 : decode cX3_tryOrders 68 = .ok (.iinc 5 1, 3) := by decide +kernel
theorem dX3_tryOrders_71 : decode cX3_tryOrders 71 = .ok (.goto (-46), 3) := by decide +kernel
theorem dX3_tryOrders_74 : decode cX3_tryOrders 74 = .ok (.return_, 1) := by decide +kernel
theorem dX3_compare_0 : decode cX3_compare 0 = .ok (.aload_n 0, 1) := by decide +kernel
theorem dX3_compare_1 : decode cX3_compare 1 = .ok (.getfield 27, 3) := by decide +kernel
theorem dX3_compare_4 : decode cX3_compare 4 = .ok (.aload_n 1, 1) := by decide +kernel
theorem dX3_compare_5 : decode cX3_compare 5 = .ok (.invokevirtual 64, 3) := by decide +kernel
theorem dX3_compare_8 : decode cX3_compare 8 = .ok (.iconst 0, 1) := by decide +kernel
theorem dX3_compare_9 : decode cX3_compare 9 = .ok (.istore_n 3, 1) := by decide +kernel
theorem dX3_compare_10 : decode cX3_compare 10 = .ok (.iload_n 3, 1) := by decide +kernel
theorem dX3_compare_11 : decode cX3_compare 11 = .ok (.aload_n 0, 1) := by decide +kernel
theorem dX3_compare_12 : decode cX3_compare 12 = .ok (.getfield 35, 3) := by decide +kernel
theorem dX3_compare_15 : decode cX3_compare 15 = .ok (.if_icmp .ge 29, 3) := by decide +kernel
theorem dX3_compare_18 : decode cX3_compare 18 = .ok (.aload_n 0, 1) := by decide +kernel
theorem dX3_compare_19 : decode cX3_compare 19 = .ok (.getfield 27, 3) := by decide +kernel
theorem dX3_compare_22 : decode cX3_compare 22 = .ok (.getfield 49, 3) := by decide +kernel
theorem dX3_compare_25 : decode cX3_compare 25 = .ok (.aload_n 0, 1) := by decide +kernel
theorem dX3_compare_26 : decode cX3_compare 26 = .ok (.getfield 9, 3) := by decide +kernel
theorem dX3_compare_29 : decode cX3_compare 29 = .ok (.iload_n 3, 1) := by decide +kernel
theorem dX3_compare_30 : decode cX3_compare 30 = .ok (.iaload, 1) := by decide +kernel
theorem dX3_compare_31 : decode cX3_compare 31 = .ok (.aload_n 0, 1) := by decide +kernel
theorem dX3_compare_32 : decode cX3_compare 32 = .ok (.getfield 15, 3) := by decide +kernel
theorem dX3_compare_35 : decode cX3_compare 35 = .ok (.iload_n 3, 1) := by decide +kernel
theorem dX3_compare_36 : decode cX3_compare 36 = .ok (.iaload, 1) := by decide +kernel
theorem dX3_compare_37 : decode cX3_compare 37 = .ok (.iastore, 1) := by decide +kernel
theorem dX3_compare_38 : decode cX3_compare 38 = .ok (.iinc 3 1, 3) := by decide +kernel
theorem dX3_compare_41 : decode cX3_compare 41 = .ok (.goto (-31), 3) := by decide +kernel
theorem dX3_compare_44 : decode cX3_compare 44 = .ok (.aload_n 0, 1) := by decide +kernel
theorem dX3_compare_45 : decode cX3_compare 45 = .ok (.getfield 27, 3) := by decide +kernel
theorem dX3_compare_48 : decode cX3_compare 48 = .ok (.iload_n 2, 1) := by decide +kernel
theorem dX3_compare_49 : decode cX3_compare 49 = .ok (.invokevirtual 68, 3) := by decide +kernel
theorem dX3_compare_52 : decode cX3_compare 52 = .ok (.aload_n 0, 1) := by decide +kernel
theorem dX3_compare_53 : decode cX3_compare 53 = .ok (.getfield 27, 3) := by decide +kernel
theorem dX3_compare_56 : decode cX3_compare 56 = .ok (.invokevirtual 72, 3) := by decide +kernel
theorem dX3_compare_59 : decode cX3_compare 59 = .ok (.istore_n 3, 1) := by decide +kernel
theorem dX3_compare_60 : decode cX3_compare 60 = .ok (.iload_n 3, 1) := by decide +kernel
theorem dX3_compare_61 : decode cX3_compare 61 = .ok (.aload_n 0, 1) := by decide +kernel
theorem dX3_compare_62 : decode cX3_compare 62 = .ok (.getfield 31, 3) := by decide +kernel
theorem dX3_compare_65 : decode cX3_compare 65 = .ok (.if_icmp .le 23, 3) := by decide +kernel
theorem dX3_compare_68 : decode cX3_compare 68 = .ok (.aload_n 0, 1) := by decide +kernel
theorem dX3_compare_69 : decode cX3_compare 69 = .ok (.iload_n 3, 1) := by decide +kernel
theorem dX3_compare_70 : decode cX3_compare 70 = .ok (.putfield 31, 3) := by decide +kernel
theorem dX3_compare_73 : decode cX3_compare 73 = .ok (.aload_n 0, 1) := by decide +kernel
theorem dX3_compare_74 : decode cX3_compare 74 = .ok (.getfield 15, 3) := by decide +kernel
theorem dX3_compare_77 : decode cX3_compare 77 = .ok (.iconst 0, 1) := by decide +kernel
theorem dX3_compare_78 : decode cX3_compare 78 = .ok (.aload_n 0, 1) := by decide +kernel
theorem dX3_compare_79 : decode cX3_compare 79 = .ok (.getfield 18, 3) := by decide +kernel
theorem dX3_compare_82 : decode cX3_compare 82 = .ok (.iconst 0, 1) := by decide +kernel
theorem dX3_compare_83 : decode cX3_compare 83 = .ok (.bipush 6, 2) := by decide +kernel
theorem dX3_compare_85 : decode cX3_compare 85 = .ok (.invokestatic 74, 3) := by decide +kernel
theorem dX3_compare_88 : decode cX3_compare 88 = .ok (.return_, 1) := by decide +kernel
theorem dX3_seekPairs_0 : decode cX3_seekPairs 0 = .ok (.aload_n 0, 1) := by decide +kernel
theorem dX3_seekPairs_1 : decode cX3_seekPairs 1 = .ok (.getfield 27, 3) := by decide +kernel
theorem dX3_seekPairs_4 : decode cX3_seekPairs 4 = .ok (.aload_n 1, 1) := by decide +kernel
theorem dX3_seekPairs_5 : decode cX3_seekPairs 5 = .ok (.invokevirtual 64, 3) := by decide +kernel
theorem dX3_seekPairs_8 : decode cX3_seekPairs 8 = .ok (.aload_n 0, 1) := by decide +kernel
theorem dX3_seekPairs_9 : decode cX3_seekPairs 9 = .ok (.getfield 27, 3) := by decide +kernel
theorem dX3_seekPairs_12 : decode cX3_seekPairs 12 = .ok (.iconst 1, 1) := by decide +kernel
theorem dX3_seekPairs_13 : decode cX3_seekPairs 13 = .ok (.invokevirtual 68, 3) := by decide +kernel
theorem dX3_seekPairs_16 : decode cX3_seekPairs 16 = .ok (.aload_n 0, 1) := by decide +kernel
theorem dX3_seekPairs_17 : decode cX3_seekPairs 17 = .ok (.getfield 27, 3) := by decide +kernel
theorem dX3_seekPairs_20 : decode cX3_seekPairs 20 = .ok (.getfield 80, 3) := by decide +kernel
theorem dX3_seekPairs_23 : decode cX3_seekPairs 23 = .ok (.iconst 0, 1) := by decide +kernel
theorem dX3_seekPairs_24 : decode cX3_seekPairs 24 = .ok (.aload_n 0, 1) := by decide +kernel
theorem dX3_seekPairs_25 : decode cX3_seekPairs 25 = .ok (.getfield 21, 3) := by decide +kernel
theorem dX3_seekPairs_28 : decode cX3_seekPairs 28 = .ok (.iconst 0, 1) := by decide +kernel
theorem dX3_seekPairs_29 : decode cX3_seekPairs 29 = .ok (.bipush 6, 2) := by decide +kernel
theorem dX3_seekPairs_31 : decode cX3_seekPairs 31 = .ok (.invokestatic 74, 3) := by decide +kernel
theorem dX3_seekPairs_34 : decode cX3_seekPairs 34 = .ok (.aload_n 0, 1) := by decide +kernel
theorem dX3_seekPairs_35 : decode cX3_seekPairs 35 = .ok (.iconst 0, 1) := by decide +kernel
theorem dX3_seekPairs_36 : decode cX3_seekPairs 36 = .ok (.putfield 83, 3) := by decide +kernel
theorem dX3_seekPairs_39 : decode cX3_seekPairs 39 = .ok (.iconst 0, 1) := by decide +kernel
theorem dX3_seekPairs_40 : decode cX3_seekPairs 40 = .ok (.istore_n 2, 1) := by decide +kernel
theorem dX3_seekPairs_41 : decode cX3_seekPairs 41 = .ok (.iload_n 2, 1) := by decide +kernel
theorem dX3_seekPairs_42 : decode cX3_seekPairs 42 = .ok (.aload_n 1, 1) := by decide +kernel
theorem dX3_seekPairs_43 : decode cX3_seekPairs 43 = .ok (.getfield 38, 3) := by decide +kernel
theorem dX3_seekPairs_46 : decode cX3_seekPairs 46 = .ok (.getfield 86, 3) := by decide +kernel
theorem dX3_seekPairs_49 : decode cX3_seekPairs 49 = .ok (.if_icmp .ge 65, 3) := by decide +kernel
theorem dX3_seekPairs_52 : decode cX3_seekPairs 52 = .ok (.iload_n 2, 1) := by decide +kernel
theorem dX3_seekPairs_53 : decode cX3_seekPairs 53 = .ok (.iconst 1, 1) := by decide +kernel
theorem dX3_seekPairs_54 : decode cX3_seekPairs 54 = .ok (.iadd, 1) := by decide +kernel
theorem dX3_seekPairs_55 : decode cX3_seekPairs 55 = .ok (.istore_n 3, 1) := by decide +kernel
theorem dX3_seekPairs_56 : decode cX3_seekPairs 56 = .ok (.iload_n 3, 1) := by decide +kernel
theorem dX3_seekPairs_57 : decode cX3_seekPairs 57 = .ok (.aload_n 1, 1) := by decide +kernel
theorem dX3_seekPairs_58 : decode cX3_seekPairs 58 = .ok (.getfield 38, 3) := by decide +kernel
theorem dX3_seekPairs_61 : decode cX3_seekPairs 61 = .ok (.getfield 86, 3) := by decide +kernel
theorem dX3_seekPairs_64 : decode cX3_seekPairs 64 = .ok (.if_icmp .ge 44, 3) := by decide +kernel
theorem dX3_seekPairs_67 : decode cX3_seekPairs 67 = .ok (.aload_n 0, 1) := by decide +kernel
theorem dX3_seekPairs_68 : decode cX3_seekPairs 68 = .ok (.aload_n 1, 1) := by decide +kernel
theorem dX3_seekPairs_69 : decode cX3_seekPairs 69 = .ok (.iload_n 2, 1) := by decide +kernel
theorem dX3_seekPairs_70 : decode cX3_seekPairs 70 = .ok (.iload_n 3, 1) := by decide +kernel
theorem dX3_seekPairs_71 : decode cX3_seekPairs 71 = .ok (.invokevirtual 89, 3) := by decide +kernel
theorem dX3_seekPairs_74 : decode cX3_seekPairs 74 = .ok (.ifCond .eq 28, 3) := by decide +kernel
theorem dX3_seekPairs_77 : decode cX3_seekPairs 77 = .ok (.aload_n 0, 1) := by decide +kernel
theorem dX3_seekPairs_78 : decode cX3_seekPairs 78 = .ok (.getfield 24, 3) := by decide +kernel
theorem dX3_seekPairs_81 : decode cX3_seekPairs 81 = .ok (.aload_n 0, 1) := by decide +kernel
theorem dX3_seekPairs_82 : decode cX3_seekPairs 82 = .ok (.getfield 83, 3) := by decide +kernel
theorem dX3_seekPairs_85 : decode cX3_seekPairs 85 = .ok (.bipush 10, 2) := by decide +kernel
theorem dX3_seekPairs_87 : decode cX3_seekPairs 87 = .ok (.iload_n 2, 1) := by decide +kernel
theorem dX3_seekPairs_88 : decode cX3_seekPairs 88 = .ok (.imul, 1) := by decide +kernel
theorem dX3_seekPairs_89 : decode cX3_seekPairs 89 = .ok (.iload_n 3, 1) := by decide +kernel
theorem dX3_seekPairs_90 : decode cX3_seekPairs 90 = .ok (.iadd, 1) := by decide +kernel
theorem dX3_seekPairs_91 : decode cX3_seekPairs 91 = .ok (.iastore, 1) := by decide +kernel
theorem dX3_seekPairs_92 : decode cX3_seekPairs 92 = .ok (.aload_n 0, 1) := by decide +kernel
theorem dX3_seekPairs_93 : decode cX3_seekPairs 93 = .ok (.dup, 1) := by decide +kernel
theorem dX3_seekPairs_94 : decode cX3_seekPairs 94 = .ok (.getfield 83, 3) := by decide +kernel
theorem dX3_seekPairs_97 : decode cX3_seekPairs 97 = .ok (.iconst 1, 1) := by decide +kernel
theorem dX3_seekPairs_98 : decode cX3_seekPairs 98 = .ok (.iadd, 1) := by decide +kernel
theorem dX3_seekPairs_99 : decode cX3_seekPairs 99 = .ok (.putfield 83, 3) := by decide +kernel
theorem dX3_seekPairs_102 : decode cX3_seekPairs 102 = .ok (.iinc 3 1, 3) := by decide +kernel
theorem dX3_seekPairs_105 : decode cX3_seekPairs 105 = .ok (.goto (-49), 3) := by decide +kernel
theorem dX3_seekPairs_108 : decode cX3_seekPairs 108 = .ok (.iinc 2 1, 3) := by decide +kernel
theorem dX3_seekPairs_111 : decode cX3_seekPairs 111 = .ok (.goto (-70), 3) := by decide +kernel
theorem dX3_seekPairs_114 : decode cX3_seekPairs 114 = .ok (.return_, 1) := by decide +kernel
theorem dX3_bothWarmer_0 : decode cX3_bothWarmer 0 = .ok (.aload_n 1, 1) := by decide +kernel
theorem dX3_bothWarmer_1 : decode cX3_bothWarmer 1 = .ok (.iload_n 2, 1) := by decide +kernel
theorem dX3_bothWarmer_2 : decode cX3_bothWarmer 2 = .ok (.invokevirtual 93, 3) := by decide +kernel
theorem dX3_bothWarmer_5 : decode cX3_bothWarmer 5 = .ok (.istore 4, 2) := by decide +kernel
theorem dX3_bothWarmer_7 : decode cX3_bothWarmer 7 = .ok (.aload_n 1, 1) := by decide +kernel
theorem dX3_bothWarmer_8 : decode cX3_bothWarmer 8 = .ok (.iload_n 3, 1) := by decide +kernel
theorem dX3_bothWarmer_9 : decode cX3_bothWarmer 9 = .ok (.invokevirtual 93, 3) := by decide +kernel
theorem dX3_bothWarmer_12 : decode cX3_bothWarmer 12 = .ok (.istore 5, 2) := by decide +kernel
theorem dX3_bothWarmer_14 : decode cX3_bothWarmer 14 = .ok (.iload 4, 2) := by decide +kernel
theorem dX3_bothWarmer_16 : decode cX3_bothWarmer 16 = .ok (.iconst (-1), 1) := by decide +kernel
theorem dX3_bothWarmer_17 : decode cX3_bothWarmer 17 = .ok (.if_icmp .eq 9, 3) := by decide +kernel
theorem dX3_bothWarmer_20 : decode cX3_bothWarmer 20 = .ok (.iload 5, 2) := by decide +kernel
theorem dX3_bothWarmer_22 : decode cX3_bothWarmer 22 = .ok (.iconst (-1), 1) := by decide +kernel
theorem dX3_bothWarmer_23 : decode cX3_bothWarmer 23 = .ok (.if_icmp .ne 5, 3) := by decide +kernel
theorem dX3_bothWarmer_26 : decode cX3_bothWarmer 26 = .ok (.iconst 0, 1) := by decide +kernel
theorem dX3_bothWarmer_27 : decode cX3_bothWarmer 27 = .ok (.ireturn, 1) := by decide +kernel
theorem dX3_bothWarmer_28 : decode cX3_bothWarmer 28 = .ok (.aload_n 0, 1) := by decide +kernel
theorem dX3_bothWarmer_29 : decode cX3_bothWarmer 29 = .ok (.getfield 27, 3) := by decide +kernel
theorem dX3_bothWarmer_32 : decode cX3_bothWarmer 32 = .ok (.aload_n 1, 1) := by decide +kernel
theorem dX3_bothWarmer_33 : decode cX3_bothWarmer 33 = .ok (.invokevirtual 64, 3) := by decide +kernel
theorem dX3_bothWarmer_36 : decode cX3_bothWarmer 36 = .ok (.aload_n 0, 1) := by decide +kernel
theorem dX3_bothWarmer_37 : decode cX3_bothWarmer 37 = .ok (.getfield 27, 3) := by decide +kernel
theorem dX3_bothWarmer_40 : decode cX3_bothWarmer 40 = .ok (.getfield 49, 3) := by decide +kernel
theorem dX3_bothWarmer_43 : decode cX3_bothWarmer 43 = .ok (.iload 4, 2) := by decide +kernel
theorem dX3_bothWarmer_45 : decode cX3_bothWarmer 45 = .ok (.iload_n 3, 1) := by decide +kernel
theorem dX3_bothWarmer_46 : decode cX3_bothWarmer 46 = .ok (.iastore, 1) := by decide +kernel
theorem dX3_bothWarmer_47 : decode cX3_bothWarmer 47 = .ok (.aload_n 0, 1) := by decide +kernel
theorem dX3_bothWarmer_48 : decode cX3_bothWarmer 48 = .ok (.getfield 27, 3) := by decide +kernel
theorem dX3_bothWarmer_51 : decode cX3_bothWarmer 51 = .ok (.getfield 49, 3) := by decide +kernel
theorem dX3_bothWarmer_54 : decode cX3_bothWarmer 54 = .ok (.iload 5, 2) := by decide +kernel
theorem dX3_bothWarmer_56 : decode cX3_bothWarmer 56 = .ok (.iload_n 2, 1) := by decide +kernel
theorem dX3_bothWarmer_57 : decode cX3_bothWarmer 57 = .ok (.iastore, 1) := by decide +kernel
theorem dX3_bothWarmer_58 : decode cX3_bothWarmer 58 = .ok (.aload_n 0, 1) := by decide +kernel
theorem dX3_bothWarmer_59 : decode cX3_bothWarmer 59 = .ok (.getfield 27, 3) := by decide +kernel
theorem dX3_bothWarmer_62 : decode cX3_bothWarmer 62 = .ok (.iconst 1, 1) := by decide +kernel
theorem dX3_bothWarmer_63 : decode cX3_bothWarmer 63 = .ok (.invokevirtual 68, 3) := by decide +kernel
theorem dX3_bothWarmer_66 : decode cX3_bothWarmer 66 = .ok (.aload_n 0, 1) := by decide +kernel
theorem dX3_bothWarmer_67 : decode cX3_bothWarmer 67 = .ok (.getfield 27, 3) := by decide +kernel
theorem dX3_bothWarmer_70 : decode cX3_bothWarmer 70 = .ok (.getfield 80, 3) := by decide +kernel
theorem dX3_bothWarmer_73 : decode cX3_bothWarmer 73 = .ok (.iload_n 2, 1) := by decide +kernel
theorem dX3_bothWarmer_74 : decode cX3_bothWarmer 74 = .ok (.iaload, 1) := by decide +kernel
theorem dX3_bothWarmer_75 : decode cX3_bothWarmer 75 = .ok (.aload_n 0, 1) := by decide +kernel
theorem dX3_bothWarmer_76 : decode cX3_bothWarmer 76 = .ok (.getfield 21, 3) := by decide +kernel
theorem dX3_bothWarmer_79 : decode cX3_bothWarmer 79 = .ok (.iload_n 2, 1) := by decide +kernel
theorem dX3_bothWarmer_80 : decode cX3_bothWarmer 80 = .ok (.iaload, 1) := by decide +kernel
theorem dX3_bothWarmer_81 : decode cX3_bothWarmer 81 = .ok (.if_icmp .le 25, 3) := by decide +kernel
theorem dX3_bothWarmer_84 : decode cX3_bothWarmer 84 = .ok (.aload_n 0, 1) := by decide +kernel
theorem dX3_bothWarmer_85 : decode cX3_bothWarmer 85 = .ok (.getfield 27, 3) := by decide +kernel
theorem dX3_bothWarmer_88 : decode cX3_bothWarmer 88 = .ok (.getfield 80, 3) := by decide +kernel
theorem dX3_bothWarmer_91 : decode cX3_bothWarmer 91 = .ok (.iload_n 3, 1) := by decide +kernel
theorem dX3_bothWarmer_92 : decode cX3_bothWarmer 92 = .ok (.iaload, 1) := by decide +kernel
theorem dX3_bothWarmer_93 : decode cX3_bothWarmer 93 = .ok (.aload_n 0, 1) := by decide +kernel
theorem dX3_bothWarmer_94 : decode cX3_bothWarmer 94 = .ok (.getfield 21, 3) := by decide +kernel
theorem dX3_bothWarmer_97 : decode cX3_bothWarmer 97 = .ok (.iload_n 3, 1) := by decide +kernel
theorem dX3_bothWarmer_98 : decode cX3_bothWarmer 98 = .ok (.iaload, 1) := by decide +kernel
theorem dX3_bothWarmer_99 : decode cX3_bothWarmer 99 = .ok (.if_icmp .le 7, 3) := by decide +kernel
theorem dX3_bothWarmer_102 : decode cX3_bothWarmer 102 = .ok (.iconst 1, 1) := by decide +kernel
theorem dX3_bothWarmer_103 : decode cX3_bothWarmer 103 = .ok (.goto 4, 3) := by decide +kernel
theorem dX3_bothWarmer_106 : decode cX3_bothWarmer 106 = .ok (.iconst 0, 1) := by decide +kernel
theorem dX3_bothWarmer_107 : decode cX3_bothWarmer 107 = .ok (.ireturn, 1) := by decide +kernel
theorem dX4_init_0 : decode cX4_init 0 = .ok (.aload_n 0, 1) := by decide +kernel
theorem dX4_init_1 : decode cX4_init 1 = .ok (.invokespecial 3, 3) := by decide +kernel
theorem dX4_init_4 : decode cX4_init 4 = .ok (.aload_n 0, 1) := by decide +kernel
theorem dX4_init_5 : decode cX4_init 5 = .ok (.bipush 6, 2) := by decide +kernel
theorem dX4_init_7 : decode cX4_init 7 = .ok (.newarray .int, 2) := by decide +kernel
theorem dX4_init_9 : decode cX4_init 9 = .ok (.putfield 9, 3) := by decide +kernel
theorem dX4_init_12 : decode cX4_init 12 = .ok (.aload_n 0, 1) := by decide +kernel
theorem dX4_init_13 : decode cX4_init 13 = .ok (.bipush 6, 2) := by decide +kernel
theorem dX4_init_15 : decode cX4_init 15 = .ok (.newarray .int, 2) := by decide +kernel
theorem dX4_init_17 : decode cX4_init 17 = .ok (.putfield 15, 3) := by decide +kernel
theorem dX4_init_20 : decode cX4_init 20 = .ok (.aload_n 0, 1) := by decide +kernel
theorem dX4_init_21 : decode cX4_init 21 = .ok (.aload_n 1, 1) := by decide +kernel
theorem dX4_init_22 : decode cX4_init 22 = .ok (.putfield 18, 3) := by decide +kernel
theorem dX4_init_25 : decode cX4_init 25 = .ok (.iconst 0, 1) := by decide +kernel
theorem dX4_init_26 : decode cX4_init 26 = .ok (.istore_n 2, 1) := by decide +kernel
theorem dX4_init_27 : decode cX4_init 27 = .ok (.iload_n 2, 1) := by decide +kernel
theorem dX4_init_28 : decode cX4_init 28 = .ok (.bipush 6, 2) := by decide +kernel
theorem dX4_init_30 : decode cX4_init 30 = .ok (.if_icmp .ge 16, 3) := by decide +kernel
theorem dX4_init_33 : decode cX4_init 33 = .ok (.aload_n 0, 1) := by decide +kernel
theorem dX4_init_34 : decode cX4_init 34 = .ok (.getfield 9, 3) := by decide +kernel
theorem dX4_init_37 : decode cX4_init 37 = .ok (.iload_n 2, 1) := by decide +kernel
theorem dX4_init_38 : decode cX4_init 38 = .ok (.iconst (-1), 1) := by decide +kernel
theorem dX4_init_39 : decode cX4_init 39 = .ok (.iastore, 1) := by decide +kernel
theorem dX4_init_40 : decode cX4_init 40 = .ok (.iinc 2 1, 3) := by decide +kernel
theorem dX4_init_43 : decode cX4_init 43 = .ok (.goto (-16), 3) := by decide +kernel
theorem dX4_init_46 : decode cX4_init 46 = .ok (.return_, 1) := by decide +kernel
theorem dX4_layAll_0 : decode cX4_layAll 0 = .ok (.iconst 0, 1) := by decide +kernel
theorem dX4_layAll_1 : decode cX4_layAll 1 = .ok (.istore_n 1, 1) := by decide +kernel
theorem dX4_layAll_2 : decode cX4_layAll 2 = .ok (.iload_n 1, 1) := by decide +kernel
theorem dX4_layAll_3 : decode cX4_layAll 3 = .ok (.bipush 6, 2) := by decide +kernel
theorem dX4_layAll_5 : decode cX4_layAll 5 = .ok (.if_icmp .ge 64, 3) := by decide +kernel
theorem dX4_layAll_8 : decode cX4_layAll 8 = .ok (.iload_n 1, 1) := by decide +kernel
theorem dX4_layAll_9 : decode cX4_layAll 9 = .ok (.aload_n 0, 1) := by decide +kernel
theorem dX4_layAll_10 : decode cX4_layAll 10 = .ok (.getfield 18, 3) := by decide +kernel
theorem dX4_layAll_13 : decode cX4_layAll 13 = .ok (.getfield 22, 3) := by decide +kernel
theorem dX4_layAll_16 : decode cX4_layAll 16 = .ok (.if_icmp .ge 7, 3) := by decide +kernel
theorem dX4_layAll_19 : decode cX4_layAll 19 = .ok (.iconst 1, 1) := by decide +kernel
theorem dX4_layAll_20 : decode cX4_layAll 20 = .ok (.goto 4, 3) := by decide +kernel
theorem dX4_layAll_23 : decode cX4_layAll 23 = .ok (.iconst 0, 1) := by decide +kernel
theorem dX4_layAll_24 : decode cX4_layAll 24 = .ok (.istore_n 2, 1) := by decide +kernel
theorem dX4_layAll_25 : decode cX4_layAll 25 = .ok (.aload_n 0, 1) := by decide +kernel
theorem dX4_layAll_26 : decode cX4_layAll 26 = .ok (.getfield 9, 3) := by decide +kernel
theorem dX4_layAll_29 : decode cX4_layAll 29 = .ok (.iload_n 1, 1) := by decide +kernel
theorem dX4_layAll_30 : decode cX4_layAll 30 = .ok (.iload_n 2, 1) := by decide +kernel
theorem dX4_layAll_31 : decode cX4_layAll 31 = .ok (.ifCond .eq 7, 3) := by decide +kernel
theorem dX4_layAll_34 : decode cX4_layAll 34 = .ok (.iload_n 1, 1) := by decide +kernel
theorem dX4_layAll_35 : decode cX4_layAll 35 = .ok (.goto 4, 3) := by decide +kernel
theorem dX4_layAll_38 : decode cX4_layAll 38 = .ok (.iconst (-1), 1) := by decide +kernel
theorem dX4_layAll_39 : decode cX4_layAll 39 = .ok (.iastore, 1) := by decide +kernel
theorem dX4_layAll_40 : decode cX4_layAll 40 = .ok (.aload_n 0, 1) := by decide +kernel
theorem dX4_layAll_41 : decode cX4_layAll 41 = .ok (.getfield 15, 3) := by decide +kernel
theorem dX4_layAll_44 : decode cX4_layAll 44 = .ok (.iload_n 1, 1) := by decide +kernel
theorem dX4_layAll_45 : decode cX4_layAll 45 = .ok (.iload_n 2, 1) := by decide +kernel
theorem dX4_layAll_46 : decode cX4_layAll 46 = .ok (.ifCond .eq 15, 3) := by decide +kernel
theorem dX4_layAll_49 : decode cX4_layAll 49 = .ok (.aload_n 0, 1) := by decide +kernel
theorem dX4_layAll_50 : decode cX4_layAll 50 = .ok (.getfield 18, 3) := by decide +kernel
theorem dX4_layAll_53 : decode cX4_layAll 53 = .ok (.getfield 28, 3) := by decide +kernel
theorem dX4_layAll_56 : decode cX4_layAll 56 = .ok (.iload_n 1, 1) := by decide +kernel
theorem dX4_layAll_57 : decode cX4_layAll 57 = .ok (.iaload, 1) := by decide +kernel
theorem dX4_layAll_58 : decode cX4_layAll 58 = .ok (.goto 4, 3) := by decide +kernel
theorem dX4_layAll_61 : decode cX4_layAll 61 = .ok (.iconst 0, 1) := by decide +kernel
theorem dX4_layAll_62 : decode cX4_layAll 62 = .ok (.iastore, 1) := by decide +kernel
theorem dX4_layAll_63 : decode cX4_layAll 63 = .ok (.iinc 1 1, 3) := by decide +kernel
theorem dX4_layAll_66 : decode cX4_layAll 66 = .ok (.goto (-64), 3) := by decide +kernel
theorem dX4_layAll_69 : decode cX4_layAll 69 = .ok (.aload_n 0, 1) := by decide +kernel
theorem dX4_layAll_70 : decode cX4_layAll 70 = .ok (.iconst 0, 1) := by decide +kernel
theorem dX4_layAll_71 : decode cX4_layAll 71 = .ok (.putfield 31, 3) := by decide +kernel
theorem dX4_layAll_74 : decode cX4_layAll 74 = .ok (.return_, 1) := by decide +kernel
theorem dX4_become_0 : decode cX4_become 0 = .ok (.aload_n 1, 1) := by decide +kernel
theorem dX4_become_1 : decode cX4_become 1 = .ok (.getfield 9, 3) := by decide +kernel
theorem dX4_become_4 : decode cX4_become 4 = .ok (.iconst 0, 1) := by decide +kernel
theorem dX4_become_5 : decode cX4_become 5 = .ok (.aload_n 0, 1) := by decide +kernel
theorem dX4_become_6 : decode cX4_become 6 = .ok (.getfield 9, 3) := by decide +kernel
theorem dX4_become_9 : decode cX4_become 9 = .ok (.iconst 0, 1) := by decide +kernel
theorem dX4_become_10 : decode cX4_become 10 = .ok (.bipush 6, 2) := by decide +kernel
theorem dX4_become_12 : decode cX4_become 12 = .ok (.invokestatic 34, 3) := by decide +kernel
theorem dX4_become_15 : decode cX4_become 15 = .ok (.aload_n 1, 1) := by decide +kernel
theorem dX4_become_16 : decode cX4_become 16 = .ok (.getfield 15, 3) := by decide +kernel
theorem dX4_become_19 : decode cX4_become 19 = .ok (.iconst 0, 1) := by decide +kernel
theorem dX4_become_20 : decode cX4_become 20 = .ok (.aload_n 0, 1) := by decide +kernel
theorem dX4_become_21 : decode cX4_become 21 = .ok (.getfield 15, 3) := by decide +kernel
theorem dX4_become_24 : decode cX4_become 24 = .ok (.iconst 0, 1) := by decide +kernel
theorem dX4_become_25 : decode cX4_become 25 = .ok (.bipush 6, 2) := by decide +kernel
theorem dX4_become_27 : decode cX4_become 27 = .ok (.invokestatic 34, 3) := by decide +kernel
theorem dX4_become_30 : decode cX4_become 30 = .ok (.aload_n 0, 1) := by decide +kernel
theorem dX4_become_31 : decode cX4_become 31 = .ok (.aload_n 1, 1) := by decide +kernel
theorem dX4_become_32 : decode cX4_become 32 = .ok (.getfield 31, 3) := by decide +kernel
theorem dX4_become_35 : decode cX4_become 35 = .ok (.putfield 31, 3) := by decide +kernel
theorem dX4_become_38 : decode cX4_become 38 = .ok (.return_, 1) := by decide +kernel
theorem dX4_code_0 : decode cX4_code 0 = .ok (.lconst 0, 1) := by decide +kernel
theorem dX4_code_1 : decode cX4_code 1 = .ok (.lstore_n 1, 1) := by decide +kernel
theorem dX4_code_2 : decode cX4_code 2 = .ok (.iconst 0, 1) := by decide +kernel
theorem dX4_code_3 : decode cX4_code 3 = .ok (.istore_n 3, 1) := by decide +kernel
theorem dX4_code_4 : decode cX4_code 4 = .ok (.iload_n 3, 1) := by decide +kernel
theorem dX4_code_5 : decode cX4_code 5 = .ok (.bipush 6, 2) := by decide +kernel
theorem dX4_code_7 : decode cX4_code 7 = .ok (.if_icmp .ge 33, 3) := by decide +kernel
theorem dX4_code_10 : decode cX4_code 10 = .ok (.lload_n 1, 1) := by decide +kernel
theorem dX4_code_11 : decode cX4_code 11 = .ok (.bipush 10, 2) := by decide +kernel
theorem dX4_code_13 : decode cX4_code 13 = .ok (.lshl, 1) := by decide +kernel
theorem dX4_code_14 : decode cX4_code 14 = .ok (.aload_n 0, 1) := by decide +kernel
theorem dX4_code_15 : decode cX4_code 15 = .ok (.getfield 15, 3) := by decide +kernel
theorem dX4_code_18 : decode cX4_code 18 = .ok (.iload_n 3, 1) := by decide +kernel
theorem dX4_code_19 : decode cX4_code 19 = .ok (.iaload, 1) := by decide +kernel
theorem dX4_code_20 : decode cX4_code 20 = .ok (.iconst 3, 1) := by decide +kernel
theorem dX4_code_21 : decode cX4_code 21 = .ok (.ishl, 1) := by decide +kernel
theorem dX4_code_22 : decode cX4_code 22 = .ok (.aload_n 0, 1) := by decide +kernel
theorem dX4_code_23 : decode cX4_code 23 = .ok (.getfield 9, 3) := by decide +kernel
theorem dX4_code_26 : decode cX4_code 26 = .ok (.iload_n 3, 1) := by decide +kernel
theorem dX4_code_27 : decode cX4_code 27 = .ok (.iaload, 1) := by decide +kernel
theorem dX4_code_28 : decode cX4_code 28 = .ok (.iconst 1, 1) := by decide +kernel
theorem dX4_code_29 : decode cX4_code 29 = .ok (.iadd, 1) := by decide +kernel
theorem dX4_code_30 : decode cX4_code 30 = .ok (.ior, 1) := by decide +kernel
theorem dX4_code_31 : decode cX4_code 31 = .ok (.i2l, 1) := by decide +kernel
theorem dX4_code_32 : decode cX4_code 32 = .ok (.lor, 1) := by decide +kernel
theorem dX4_code_33 : decode cX4_code 33 = .ok (.lstore_n 1, 1) := by decide +kernel
theorem dX4_code_34 : decode cX4_code 34 = .ok (.iinc 3 1, 3) := by decide +kernel
theorem dX4_code_37 : decode cX4_code 37 = .ok (.goto (-33), 3) := by decide +kernel
theorem dX4_code_40 : decode cX4_code 40 = .ok (.lload_n 1, 1) := by decide +kernel
theorem dX4_code_41 : decode cX4_code 41 = .ok (.lreturn, 1) := by decide +kernel
theorem dX4_setCode_0 : decode cX4_setCode 0 = .ok (.lload_n 1, 1) := by decide +kernel
theorem dX4_setCode_1 : decode cX4_setCode 1 = .ok (.lstore 4, 2) := by decide +kernel
theorem dX4_setCode_3 : decode cX4_setCode 3 = .ok (.iconst 5, 1) := by decide +kernel
theorem dX4_setCode_4 : decode cX4_setCode 4 = .ok (.istore 6, 2) := by decide +kernel
theorem dX4_setCode_6 : decode cX4_setCode 6 = .ok (.iload 6, 2) := by decide +kernel
theorem dX4_setCode_8 : decode cX4_setCode 8 = .ok (.ifCond .lt 48, 3) := by decide +kernel
theorem dX4_setCode_11 : decode cX4_setCode 11 = .ok (.aload_n 0, 1) := by decide +kernel
theorem dX4_setCode_12 : decode cX4_setCode 12 = .ok (.getfield 9, 3) := by decide +kernel
theorem dX4_setCode_15 : decode cX4_setCode 15 = .ok (.iload 6, 2) := by decide +kernel
theorem dX4_setCode_17 : decode cX4_setCode 17 = .ok (.lload 4, 2) := by decide +kernel
theorem dX4_setCode_19 : decode cX4_setCode 19 = .ok (.ldc2_w 40, 3) := by decide +kernel
theorem dX4_setCode_22 : decode cX4_setCode 22 = .ok (.land, 1) := by decide +kernel
theorem dX4_setCode_23 : decode cX4_setCode 23 = .ok (.l2i, 1) := by decide +kernel
theorem dX4_setCode_24 : decode cX4_setCode 24 = .ok (.iconst 1, 1) := by decide +kernel
theorem dX4_setCode_25 : decode cX4_setCode 25 = .ok (.isub, 1) := by decide +kernel
theorem dX4_setCode_26 : decode cX4_setCode 26 = .ok (.iastore, 1) := by decide +kernel
theorem dX4_setCode_27 : decode cX4_setCode 27 = .ok (.aload_n 0, 1) := by decide +kernel
theorem dX4_setCode_28 : decode cX4_setCode 28 = .ok (.getfield 15, 3) := by decide +kernel
theorem dX4_setCode_31 : decode cX4_setCode 31 = .ok (.iload 6, 2) := by decide +kernel
theorem dX4_setCode_33 : decode cX4_setCode 33 = .ok (.lload 4, 2) := by decide +kernel
theorem dX4_setCode_35 : decode cX4_setCode 35 = .ok (.iconst 3, 1) := by decide +kernel
theorem dX4_setCode_36 : decode cX4_setCode 36 = .ok (.lshr, 1) := by decide +kernel
theorem dX4_setCode_37 : decode cX4_setCode 37 = .ok (.ldc2_w 42, 3) := by decide +kernel
theorem dX4_setCode_40 : decode cX4_setCode 40 = .ok (.land, 1) := by decide +kernel
theorem dX4_setCode_41 : decode cX4_setCode 41 = .ok (.l2i, 1) := by decide +kernel
theorem dX4_setCode_42 : decode cX4_setCode 42 = .ok (.iastore, 1) := by decide +kernel
theorem dX4_setCode_43 : decode cX4_setCode 43 = .ok (.lload 4, 2) := by decide +kernel
theorem dX4_setCode_45 : decode cX4_setCode 45 = .ok (.bipush 10, 2) := by decide +kernel
theorem dX4_setCode_47 : decode cX4_setCode 47 = .ok (.lshr, 1) := by decide +kernel
theorem dX4_setCode_48 : decode cX4_setCode 48 = .ok (.lstore 4, 2) := by decide +kernel
theorem dX4_setCode_50 : decode cX4_setCode 50 = .ok (.iinc 6 (-1), 3) := by decide +kernel
theorem dX4_setCode_53 : decode cX4_setCode 53 = .ok (.goto (-47), 3) := by decide +kernel
theorem dX4_setCode_56 : decode cX4_setCode 56 = .ok (.aload_n 0, 1) := by decide +kernel
theorem dX4_setCode_57 : decode cX4_setCode 57 = .ok (.iload_n 3, 1) := by decide +kernel
theorem dX4_setCode_58 : decode cX4_setCode 58 = .ok (.putfield 31, 3) := by decide +kernel
theorem dX4_setCode_61 : decode cX4_setCode 61 = .ok (.return_, 1) := by decide +kernel
theorem dX4_inBed_0 : decode cX4_inBed 0 = .ok (.iconst 0, 1) := by decide +kernel
theorem dX4_inBed_1 : decode cX4_inBed 1 = .ok (.istore_n 1, 1) := by decide +kernel
theorem dX4_inBed_2 : decode cX4_inBed 2 = .ok (.iconst 0, 1) := by decide +kernel
theorem dX4_inBed_3 : decode cX4_inBed 3 = .ok (.istore_n 2, 1) := by decide +kernel
theorem dX4_inBed_4 : decode cX4_inBed 4 = .ok (.iload_n 2, 1) := by decide +kernel
theorem dX4_inBed_5 : decode cX4_inBed 5 = .ok (.aload_n 0, 1) := by decide +kernel
theorem dX4_inBed_6 : decode cX4_inBed 6 = .ok (.getfield 18, 3) := by decide +kernel
theorem dX4_inBed_9 : decode cX4_inBed 9 = .ok (.getfield 44, 3) := by decide +kernel
theorem dX4_inBed_12 : decode cX4_inBed 12 = .ok (.if_icmp .ge 30, 3) := by decide +kernel
theorem dX4_inBed_15 : decode cX4_inBed 15 = .ok (.aload_n 0, 1) := by decide +kernel
theorem dX4_inBed_16 : decode cX4_inBed 16 = .ok (.getfield 9, 3) := by decide +kernel
theorem dX4_inBed_19 : decode cX4_inBed 19 = .ok (.iload_n 2, 1) := by decide +kernel
theorem dX4_inBed_20 : decode cX4_inBed 20 = .ok (.iaload, 1) := by decide +kernel
theorem dX4_inBed_21 : decode cX4_inBed 21 = .ok (.iconst (-1), 1) := by decide +kernel
theorem dX4_inBed_22 : decode cX4_inBed 22 = .ok (.if_icmp .eq 14, 3) := by decide +kernel
theorem dX4_inBed_25 : decode cX4_inBed 25 = .ok (.iload_n 1, 1) := by decide +kernel
theorem dX4_inBed_26 : decode cX4_inBed 26 = .ok (.iconst 1, 1) := by decide +kernel
theorem dX4_inBed_27 : decode cX4_inBed 27 = .ok (.aload_n 0, 1) := by decide +kernel
theorem dX4_inBed_28 : decode cX4_inBed 28 = .ok (.getfield 9, 3) := by decide +kernel
theorem dX4_inBed_31 : decode cX4_inBed 31 = .ok (.iload_n 2, 1) := by decide +kernel
theorem dX4_inBed_32 : decode cX4_inBed 32 = .ok (.iaload, 1) := by decide +kernel
theorem dX4_inBed_33 : decode cX4_inBed 33 = .ok (.ishl, 1) := by decide +kernel
theorem dX4_inBed_34 : decode cX4_inBed 34 = .ok (.ior, 1) := by decide +kernel
theorem dX4_inBed_35 : decode cX4_inBed 35 = .ok (.istore_n 1, 1) := by decide +kernel
theorem dX4_inBed_36 : decode cX4_inBed 36 = .ok (.iinc 2 1, 3) := by decide +kernel
theorem dX4_inBed_39 : decode cX4_inBed 39 = .ok (.goto (-35), 3) := by decide +kernel
theorem dX4_inBed_42 : decode cX4_inBed 42 = .ok (.iload_n 1, 1) := by decide +kernel
theorem dX4_inBed_43 : decode cX4_inBed 43 = .ok (.ireturn, 1) := by decide +kernel
theorem dX4_up_0 : decode cX4_up 0 = .ok (.iconst 1, 1) := by decide +kernel
theorem dX4_up_1 : decode cX4_up 1 = .ok (.aload_n 0, 1) := by decide +kernel
theorem dX4_up_2 : decode cX4_up 2 = .ok (.getfield 18, 3) := by decide +kernel
theorem dX4_up_5 : decode cX4_up 5 = .ok (.getfield 22, 3) := by decide +kernel
theorem dX4_up_8 : decode cX4_up 8 = .ok (.ishl, 1) := by decide +kernel
theorem dX4_up_9 : decode cX4_up 9 = .ok (.iconst 1, 1) := by decide +kernel
theorem dX4_up_10 : decode cX4_up 10 = .ok (.isub, 1) := by decide +kernel
theorem dX4_up_11 : decode cX4_up 11 = .ok (.aload_n 0, 1) := by decide +kernel
theorem dX4_up_12 : decode cX4_up 12 = .ok (.invokevirtual 47, 3) := by decide +kernel
theorem dX4_up_15 : decode cX4_up 15 = .ok (.iconst (-1), 1) := by decide +kernel
theorem dX4_up_16 : decode cX4_up 16 = .ok (.ixor, 1) := by decide +kernel
theorem dX4_up_17 : decode cX4_up 17 = .ok (.iand, 1) := by decide +kernel
theorem dX4_up_18 : decode cX4_up 18 = .ok (.ireturn, 1) := by decide +kernel
theorem dX4_awake_0 : decode cX4_awake 0 = .ok (.iconst 0, 1) := by decide +kernel
theorem dX4_awake_1 : decode cX4_awake 1 = .ok (.istore_n 1, 1) := by decide +kernel
theorem dX4_awake_2 : decode cX4_awake 2 = .ok (.iconst 0, 1) := by decide +kernel
theorem dX4_awake_3 : decode cX4_awake 3 = .ok (.istore_n 2, 1) := by decide +kernel
theorem dX4_awake_4 : decode cX4_awake 4 = .ok (.iload_n 2, 1) := by decide +kernel
theorem dX4_awake_5 : decode cX4_awake 5 = .ok (.aload_n 0, 1) := by decide +kernel
theorem dX4_awake_6 : decode cX4_awake 6 = .ok (.getfield 18, 3) := by decide +kernel
theorem dX4_awake_9 : decode cX4_awake 9 = .ok (.getfield 44, 3) := by decide +kernel
theorem dX4_awake_12 : decode cX4_awake 12 = .ok (.if_icmp .ge 45, 3) := by decide +kernel
theorem dX4_awake_15 : decode cX4_awake 15 = .ok (.aload_n 0, 1) := by decide +kernel
theorem dX4_awake_16 : decode cX4_awake 16 = .ok (.getfield 9, 3) := by decide +kernel
theorem dX4_awake_19 : decode cX4_awake 19 = .ok (.iload_n 2, 1) := by decide +kernel
theorem dX4_awake_20 : decode cX4_awake 20 = .ok (.iaload, 1) := by decide +kernel
theorem dX4_awake_21 : decode cX4_awake 21 = .ok (.istore_n 3, 1) := by decide +kernel
theorem dX4_awake_22 : decode cX4_awake 22 = .ok (.iload_n 3, 1) := by decide +kernel
theorem dX4_awake_23 : decode cX4_awake 23 = .ok (.iconst (-1), 1) := by decide +kernel
theorem dX4_awake_24 : decode cX4_awake 24 = .ok (.if_icmp .eq 27, 3) := by decide +kernel
theorem dX4_awake_27 : decode cX4_awake 27 = .ok (.aload_n 0, 1) := by decide +kernel
theorem dX4_awake_28 : decode cX4_awake 28 = .ok (.getfield 15, 3) := by decide +kernel
theorem dX4_awake_31 : decode cX4_awake 31 = .ok (.iload_n 3, 1) := by decide +kernel
theorem dX4_awake_32 : decode cX4_awake 32 = .ok (.iaload, 1) := by decide +kernel
theorem dX4_awake_33 : decode cX4_awake 33 = .ok (.aload_n 0, 1) := by decide +kernel
theorem dX4_awake_34 : decode cX4_awake 34 = .ok (.getfield 18, 3) := by decide +kernel
theorem dX4_awake_37 : decode cX4_awake 37 = .ok (.getfield 51, 3) := by decide +kernel
theorem dX4_awake_40 : decode cX4_awake 40 = .ok (.iload_n 3, 1) := by decide +kernel
theorem dX4_awake_41 : decode cX4_awake 41 = .ok (.iaload, 1) := by decide +kernel
theorem dX4_awake_42 : decode cX4_awake 42 = .ok (.if_icmp .gt 9, 3) := by decide +kernel
theorem dX4_awake_45 : decode cX4_awake 45 = .ok (.iload_n 1, 1) := by decide +kernel
theorem dX4_awake_46 : decode cX4_awake 46 = .ok (.iconst 1, 1) := by decide +kernel
theorem dX4_awake_47 : decode cX4_awake 47 = .ok (.iload_n 3, 1) := by decide +kernel
theorem dX4_awake_48 : decode cX4_awake 48 = .ok (.ishl, 1) := by decide +kernel
theorem dX4_awake_49 : decode cX4_awake 49 = .ok (.ior, 1) := by decide +kernel
theorem dX4_awake_50 : decode cX4_awake 50 = .ok (.istore_n 1, 1) := by decide +kernel
theorem dX4_awake_51 : decode cX4_awake 51 = .ok (.iinc 2 1, 3) := by decide +kernel
theorem dX4_awake_54 : decode cX4_awake 54 = .ok (.goto (-50), 3) := by decide +kernel
theorem dX4_awake_57 : decode cX4_awake 57 = .ok (.iload_n 1, 1) := by decide +kernel
theorem dX4_awake_58 : decode cX4_awake 58 = .ok (.ireturn, 1) := by decide +kernel
theorem dX4_coldest_0 : decode cX4_coldest 0 = .ok (.iconst (-1), 1) := by decide +kernel
theorem dX4_coldest_1 : decode cX4_coldest 1 = .ok (.istore_n 1, 1) := by decide +kernel
theorem dX4_coldest_2 : decode cX4_coldest 2 = .ok (.iconst 0, 1) := by decide +kernel
theorem dX4_coldest_3 : decode cX4_coldest 3 = .ok (.istore_n 2, 1) := by decide +kernel
theorem dX4_coldest_4 : decode cX4_coldest 4 = .ok (.iload_n 2, 1) := by decide +kernel
theorem dX4_coldest_5 : decode cX4_coldest 5 = .ok (.aload_n 0, 1) := by decide +kernel
theorem dX4_coldest_6 : decode cX4_coldest 6 = .ok (.getfield 18, 3) := by decide +kernel
theorem dX4_coldest_9 : decode cX4_coldest 9 = .ok (.getfield 44, 3) := by decide +kernel
theorem dX4_coldest_12 : decode cX4_coldest 12 = .ok (.if_icmp .ge 60, 3) := by decide +kernel
theorem dX4_coldest_15 : decode cX4_coldest 15 = .ok (.aload_n 0, 1) := by decide +kernel
theorem dX4_coldest_16 : decode cX4_coldest 16 = .ok (.getfield 9, 3) := by decide +kernel
theorem dX4_coldest_19 : decode cX4_coldest 19 = .ok (.iload_n 2, 1) := by decide +kernel
theorem dX4_coldest_20 : decode cX4_coldest 20 = .ok (.iaload, 1) := by decide +kernel
theorem dX4_coldest_21 : decode cX4_coldest 21 = .ok (.istore_n 3, 1) := by decide +kernel
theorem dX4_coldest_22 : decode cX4_coldest 22 = .ok (.iload_n 3, 1) := by decide +kernel
theorem dX4_coldest_23 : decode cX4_coldest 23 = .ok (.iconst (-1), 1) := by decide +kernel
theorem dX4_coldest_24 : decode cX4_coldest 24 = .ok (.if_icmp .eq 42, 3) := by decide +kernel
theorem dX4_coldest_27 : decode cX4_coldest 27 = .ok (.bipush 100, 2) := by decide +kernel
theorem dX4_coldest_29 : decode cX4_coldest 29 = .ok (.aload_n 0, 1) := by decide +kernel
theorem dX4_coldest_30 : decode cX4_coldest 30 = .ok (.getfield 15, 3) := by decide +kernel
theorem dX4_coldest_33 : decode cX4_coldest 33 = .ok (.iload_n 3, 1) := by decide +kernel
theorem dX4_coldest_34 : decode cX4_coldest 34 = .ok (.iaload, 1) := by decide +kernel
theorem dX4_coldest_35 : decode cX4_coldest 35 = .ok (.iadd, 1) := by decide +kernel
theorem dX4_coldest_36 : decode cX4_coldest 36 = .ok (.aload_n 0, 1) := by decide +kernel
theorem dX4_coldest_37 : decode cX4_coldest 37 = .ok (.getfield 18, 3) := by decide +kernel
theorem dX4_coldest_40 : decode cX4_coldest 40 = .ok (.getfield 51, 3) := by decide +kernel
theorem dX4_coldest_43 : decode cX4_coldest 43 = .ok (.iload_n 3, 1) := by decide +kernel
theorem dX4_coldest_44 : decode cX4_coldest 44 = .ok (.iaload, 1) := by decide +kernel
theorem dX4_coldest_45 : decode cX4_coldest 45 = .ok (.isub, 1) := by decide +kernel
theorem dX4_coldest_46 : decode cX4_coldest 46 = .ok (.istore 4, 2) := by decide +kernel
theorem dX4_coldest_48 : decode cX4_coldest 48 = .ok (.iload_n 1, 1) := by decide +kernel
theorem dX4_coldest_49 : decode cX4_coldest 49 = .ok (.iconst (-1), 1) := by decide +kernel
theorem dX4_coldest_50 : decode cX4_coldest 50 = .ok (.if_icmp .eq 9, 3) := by decide +kernel
theorem dX4_coldest_53 : decode cX4_coldest 53 = .ok (.iload 4, 2) := by decide +kernel
theorem dX4_coldest_55 : decode cX4_coldest 55 = .ok (.iload_n 1, 1) := by decide +kernel
theorem dX4_coldest_56 : decode cX4_coldest 56 = .ok (.if_icmp .ge 8, 3) := by decide +kernel
theorem dX4_coldest_59 : decode cX4_coldest 59 = .ok (.iload 4, 2) := by decide +kernel
theorem dX4_coldest_61 : decode cX4_coldest 61 = .ok (.goto 4, 3) := by decide +kernel
theorem dX4_coldest_64 : decode cX4_coldest 64 = .ok (.iload_n 1, 1) := by decide +kernel
theorem dX4_coldest_65 : decode cX4_coldest 65 = .ok (.istore_n 1, 1) := by decide +kernel
theorem dX4_coldest_66 : decode cX4_coldest 66 = .ok (.iinc 2 1, 3) := by decide +kernel
theorem dX4_coldest_69 : decode cX4_coldest 69 = .ok (.goto (-65), 3) := by decide +kernel
theorem dX4_coldest_72 : decode cX4_coldest 72 = .ok (.iload_n 1, 1) := by decide +kernel
theorem dX4_coldest_73 : decode cX4_coldest 73 = .ok (.ireturn, 1) := by decide +kernel
theorem dX4_placeOf_0 : decode cX4_placeOf 0 = .ok (.iconst 0, 1) := by decide +kernel
theorem dX4_placeOf_1 : decode cX4_placeOf 1 = .ok (.istore_n 2, 1) := by decide +kernel
theorem dX4_placeOf_2 : decode cX4_placeOf 2 = .ok (.iload_n 2, 1) := by decide +kernel
theorem dX4_placeOf_3 : decode cX4_placeOf 3 = .ok (.aload_n 0, 1) := by decide +kernel
theorem dX4_placeOf_4 : decode cX4_placeOf 4 = .ok (.getfield 18, 3) := by decide +kernel
theorem dX4_placeOf_7 : decode cX4_placeOf 7 = .ok (.getfield 44, 3) := by decide +kernel
theorem dX4_placeOf_10 : decode cX4_placeOf 10 = .ok (.if_icmp .ge 21, 3) := by decide +kernel
theorem dX4_placeOf_13 : decode cX4_placeOf 13 = .ok (.aload_n 0, 1) := by decide +kernel
theorem dX4_placeOf_14 : decode cX4_placeOf 14 = .ok (.getfield 9, 3) := by decide +kernel
theorem dX4_placeOf_17 : decode cX4_placeOf 17 = .ok (.iload_n 2, 1) := by decide +kernel
theorem dX4_placeOf_18 : decode cX4_placeOf 18 = .ok (.iaload, 1) := by decide +kernel
theorem dX4_placeOf_19 : decode cX4_placeOf 19 = .ok (.iload_n 1, 1) := by decide +kernel
theorem dX4_placeOf_20 : decode cX4_placeOf 20 = .ok (.if_icmp .ne 5, 3) := by decide +kernel
theorem dX4_placeOf_23 : decode cX4_placeOf 23 = .ok (.iload_n 2, 1) := by decide +kernel
theorem dX4_placeOf_24 : decode cX4_placeOf 24 = .ok (.ireturn, 1) := by decide +kernel
theorem dX4_placeOf_25 : decode cX4_placeOf 25 = .ok (.iinc 2 1, 3) := by decide +kernel
theorem dX4_placeOf_28 : decode cX4_placeOf 28 = .ok (.goto (-26), 3) := by decide +kernel
theorem dX4_placeOf_31 : decode cX4_placeOf 31 = .ok (.iconst (-1), 1) := by decide +kernel
theorem dX4_placeOf_32 : decode cX4_placeOf 32 = .ok (.ireturn, 1) := by decide +kernel
theorem dX4_lastEmpty_0 : decode cX4_lastEmpty 0 = .ok (.aload_n 0, 1) := by decide +kernel
theorem dX4_lastEmpty_1 : decode cX4_lastEmpty 1 = .ok (.getfield 18, 3) := by decide +kernel
theorem dX4_lastEmpty_4 : decode cX4_lastEmpty 4 = .ok (.getfield 44, 3) := by decide +kernel
theorem dX4_lastEmpty_7 : decode cX4_lastEmpty 7 = .ok (.iconst 1, 1) := by decide +kernel
theorem dX4_lastEmpty_8 : decode cX4_lastEmpty 8 = .ok (.isub, 1) := by decide +kernel
theorem dX4_lastEmpty_9 : decode cX4_lastEmpty 9 = .ok (.istore_n 1, 1) := by decide +kernel
theorem dX4_lastEmpty_10 : decode cX4_lastEmpty 10 = .ok (.iload_n 1, 1) := by decide +kernel
theorem dX4_lastEmpty_11 : decode cX4_lastEmpty 11 = .ok (.ifCond .lt 21, 3) := by decide +kernel
theorem dX4_lastEmpty_14 : decode cX4_lastEmpty 14 = .ok (.aload_n 0, 1) := by decide +kernel
theorem dX4_lastEmpty_15 : decode cX4_lastEmpty 15 = .ok (.getfield 9, 3) := by decide +kernel
theorem dX4_lastEmpty_18 : decode cX4_lastEmpty 18 = .ok (.iload_n 1, 1) := by decide +kernel
theorem dX4_lastEmpty_19 : decode cX4_lastEmpty 19 = .ok (.iaload, 1) := by decide +kernel
theorem dX4_lastEmpty_20 : decode cX4_lastEmpty 20 = .ok (.iconst (-1), 1) := by decide +kernel
theorem dX4_lastEmpty_21 : decode cX4_lastEmpty 21 = .ok (.if_icmp .ne 5, 3) := by decide +kernel
theorem dX4_lastEmpty_24 : decode cX4_lastEmpty 24 = .ok (.iload_n 1, 1) := by decide +kernel
theorem dX4_lastEmpty_25 : decode cX4_lastEmpty 25 = .ok (.ireturn, 1) := by decide +kernel
theorem dX4_lastEmpty_26 : decode cX4_lastEmpty 26 = .ok (.iinc 1 (-1), 3) := by decide +kernel
theorem dX4_lastEmpty_29 : decode cX4_lastEmpty 29 = .ok (.goto (-19), 3) := by decide +kernel
theorem dX4_lastEmpty_32 : decode cX4_lastEmpty 32 = .ok (.iconst (-1), 1) := by decide +kernel
theorem dX4_lastEmpty_33 : decode cX4_lastEmpty 33 = .ok (.ireturn, 1) := by decide +kernel
theorem dX4_leave_0 : decode cX4_leave 0 = .ok (.aload_n 0, 1) := by decide +kernel
theorem dX4_leave_1 : decode cX4_leave 1 = .ok (.getfield 18, 3) := by decide +kernel
theorem dX4_leave_4 : decode cX4_leave 4 = .ok (.iload_n 1, 1) := by decide +kernel
theorem dX4_leave_5 : decode cX4_leave 5 = .ok (.invokevirtual 54, 3) := by decide +kernel
theorem dX4_leave_8 : decode cX4_leave 8 = .ok (.ifCond .ne 4, 3) := by decide +kernel
theorem dX4_leave_11 : decode cX4_leave 11 = .ok (.return_, 1) := by decide +kernel
theorem dX4_leave_12 : decode cX4_leave 12 = .ok (.aload_n 0, 1) := by decide +kernel
theorem dX4_leave_13 : decode cX4_leave 13 = .ok (.getfield 18, 3) := by decide +kernel
theorem dX4_leave_16 : decode cX4_leave 16 = .ok (.getfield 44, 3) := by decide +kernel
theorem dX4_leave_19 : decode cX4_leave 19 = .ok (.iconst 1, 1) := by decide +kernel
theorem dX4_leave_20 : decode cX4_leave 20 = .ok (.isub, 1) := by decide +kernel
theorem dX4_leave_21 : decode cX4_leave 21 = .ok (.istore_n 2, 1) := by decide +kernel
theorem dX4_leave_22 : decode cX4_leave 22 = .ok (.iload_n 1, 1) := by decide +kernel
theorem dX4_leave_23 : decode cX4_leave 23 = .ok (.istore_n 3, 1) := by decide +kernel
theorem dX4_leave_24 : decode cX4_leave 24 = .ok (.iload_n 3, 1) := by decide +kernel
theorem dX4_leave_25 : decode cX4_leave 25 = .ok (.iload_n 2, 1) := by decide +kernel
theorem dX4_leave_26 : decode cX4_leave 26 = .ok (.if_icmp .ge 23, 3) := by decide +kernel
theorem dX4_leave_29 : decode cX4_leave 29 = .ok (.aload_n 0, 1) := by decide +kernel
theorem dX4_leave_30 : decode cX4_leave 30 = .ok (.getfield 9, 3) := by decide +kernel
theorem dX4_leave_33 : decode cX4_leave 33 = .ok (.iload_n 3, 1) := by decide +kernel
theorem dX4_leave_34 : decode cX4_leave 34 = .ok (.aload_n 0, 1) := by decide +kernel
theorem dX4_leave_35 : decode cX4_leave 35 = .ok (.getfield 9, 3) := by decide +kernel
theorem dX4_leave_38 : decode cX4_leave 38 = .ok (.iload_n 3, 1) := by decide +kernel
theorem dX4_leave_39 : decode cX4_leave 39 = .ok (.iconst 1, 1) := by decide +kernel
theorem dX4_leave_40 : decode cX4_leave 40 = .ok (.iadd, 1) := by decide +kernel
theorem dX4_leave_41 : decode cX4_leave 41 = .ok (.iaload, 1) := by decide +kernel
theorem dX4_leave_42 : decode cX4_leave 42 = .ok (.iastore, 1) := by decide +kernel
theorem dX4_leave_43 : decode cX4_leave 43 = .ok (.iinc 3 1, 3) := by decide +kernel
theorem dX4_leave_46 : decode cX4_leave 46 = .ok (.goto (-22), 3) := by decide +kernel
theorem dX4_leave_49 : decode cX4_leave 49 = .ok (.aload_n 0, 1) := by decide +kernel
theorem dX4_leave_50 : decode cX4_leave 50 = .ok (.getfield 9, 3) := by decide +kernel
theorem dX4_leave_53 : decode cX4_leave 53 = .ok (.iload_n 2, 1) := by decide +kernel
theorem dX4_leave_54 : decode cX4_leave 54 = .ok (.iconst (-1), 1) := by decide +kernel
theorem dX4_leave_55 : decode cX4_leave 55 = .ok (.iastore, 1) := by decide +kernel
theorem dX4_leave_56 : decode cX4_leave 56 = .ok (.return_, 1) := by decide +kernel
theorem dX4_passHour_0 : decode cX4_passHour 0 = .ok (.aload_n 0, 1) := by decide +kernel
theorem dX4_passHour_1 : decode cX4_passHour 1 = .ok (.iload_n 1, 1) := by decide +kernel
theorem dX4_passHour_2 : decode cX4_passHour 2 = .ok (.invokevirtual 58, 3) := by decide +kernel
theorem dX4_passHour_5 : decode cX4_passHour 5 = .ok (.aload_n 0, 1) := by decide +kernel
theorem dX4_passHour_6 : decode cX4_passHour 6 = .ok (.iconst 1, 1) := by decide +kernel
theorem dX4_passHour_7 : decode cX4_passHour 7 = .ok (.invokevirtual 62, 3) := by decide +kernel
theorem dX4_passHour_10 : decode cX4_passHour 10 = .ok (.aload_n 0, 1) := by decide +kernel
theorem dX4_passHour_11 : decode cX4_passHour 11 = .ok (.dup, 1) := by decide +kernel
theorem dX4_passHour_12 : decode cX4_passHour 12 = .ok (.getfield 31, 3) := by decide +kernel
theorem dX4_passHour_15 : decode cX4_passHour 15 = .ok (.iconst 1, 1) := by decide +kernel
theorem dX4_passHour_16 : decode cX4_passHour 16 = .ok (.iadd, 1) := by decide +kernel
theorem dX4_passHour_17 : decode cX4_passHour 17 = .ok (.putfield 31, 3) := by decide +kernel
theorem dX4_passHour_20 : decode cX4_passHour 20 = .ok (.return_, 1) := by decide +kernel
theorem dX4_passByLaw_0 : decode cX4_passByLaw 0 = .ok (.aload_n 0, 1) := by decide +kernel
theorem dX4_passByLaw_1 : decode cX4_passByLaw 1 = .ok (.aload_n 0, 1) := by decide +kernel
theorem dX4_passByLaw_2 : decode cX4_passByLaw 2 = .ok (.getfield 18, 3) := by decide +kernel
theorem dX4_passByLaw_5 : decode cX4_passByLaw 5 = .ok (.aload_n 0, 1) := by decide +kernel
theorem dX4_passByLaw_6 : decode cX4_passByLaw 6 = .ok (.getfield 31, 3) := by decide +kernel
theorem dX4_passByLaw_9 : decode cX4_passByLaw 9 = .ok (.invokevirtual 65, 3) := by decide +kernel
theorem dX4_passByLaw_12 : decode cX4_passByLaw 12 = .ok (.invokevirtual 69, 3) := by decide +kernel
theorem dX4_passByLaw_15 : decode cX4_passByLaw 15 = .ok (.return_, 1) := by decide +kernel
theorem dX4_turn_0 : decode cX4_turn 0 = .ok (.aload_n 0, 1) := by decide +kernel
theorem dX4_turn_1 : decode cX4_turn 1 = .ok (.getfield 18, 3) := by decide +kernel
theorem dX4_turn_4 : decode cX4_turn 4 = .ok (.getfield 44, 3) := by decide +kernel
theorem dX4_turn_7 : decode cX4_turn 7 = .ok (.iconst 1, 1) := by decide +kernel
theorem dX4_turn_8 : decode cX4_turn 8 = .ok (.isub, 1) := by decide +kernel
theorem dX4_turn_9 : decode cX4_turn 9 = .ok (.istore_n 2, 1) := by decide +kernel
theorem dX4_turn_10 : decode cX4_turn 10 = .ok (.iload_n 2, 1) := by decide +kernel
theorem dX4_turn_11 : decode cX4_turn 11 = .ok (.iconst 1, 1) := by decide +kernel
theorem dX4_turn_12 : decode cX4_turn 12 = .ok (.if_icmp .ge 4, 3) := by decide +kernel
theorem dX4_turn_15 : decode cX4_turn 15 = .ok (.return_, 1) := by decide +kernel
theorem dX4_turn_16 : decode cX4_turn 16 = .ok (.aload_n 0, 1) := by decide +kernel
theorem dX4_turn_17 : decode cX4_turn 17 = .ok (.getfield 9, 3) := by decide +kernel
theorem dX4_turn_20 : decode cX4_turn 20 = .ok (.iconst 0, 1) := by decide +kernel
theorem dX4_turn_21 : decode cX4_turn 21 = .ok (.iaload, 1) := by decide +kernel
theorem dX4_turn_22 : decode cX4_turn 22 = .ok (.istore_n 3, 1) := by decide +kernel
theorem dX4_turn_23 : decode cX4_turn 23 = .ok (.aload_n 0, 1) := by decide +kernel
theorem dX4_turn_24 : decode cX4_turn 24 = .ok (.getfield 9, 3) := by decide +kernel
theorem dX4_turn_27 : decode cX4_turn 27 = .ok (.iload_n 2, 1) := by decide +kernel
theorem dX4_turn_28 : decode cX4_turn 28 = .ok (.iaload, 1) := by decide +kernel
theorem dX4_turn_29 : decode cX4_turn 29 = .ok (.istore 4, 2) := by decide +kernel
theorem dX4_turn_31 : decode cX4_turn 31 = .ok (.iload_n 1, 1) := by decide +kernel
theorem dX4_turn_32 : decode cX4_turn 32 = .ok (.iconst 1, 1) := by decide +kernel
theorem dX4_turn_33 : decode cX4_turn 33 = .ok (.if_icmp .ne 44, 3) := by decide +kernel
theorem dX4_turn_36 : decode cX4_turn 36 = .ok (.iload_n 2, 1) := by decide +kernel
theorem dX4_turn_37 : decode cX4_turn 37 = .ok (.istore 5, 2) := by decide +kernel
theorem dX4_turn_39 : decode cX4_turn 39 = .ok (.iload 5, 2) := by decide +kernel
theorem dX4_turn_41 : decode cX4_turn 41 = .ok (.ifCond .le 25, 3) := by decide +kernel
theorem dX4_turn_44 : decode cX4_turn 44 = .ok (.aload_n 0, 1) := by decide +kernel
theorem dX4_turn_45 : decode cX4_turn 45 = .ok (.getfield 9, 3) := by decide +kernel
theorem dX4_turn_48 : decode cX4_turn 48 = .ok (.iload 5, 2) := by decide +kernel
theorem dX4_turn_50 : decode cX4_turn 50 = .ok (.aload_n 0, 1) := by decide +kernel
theorem dX4_turn_51 : decode cX4_turn 51 = .ok (.getfield 9, 3) := by decide +kernel
theorem dX4_turn_54 : decode cX4_turn 54 = .ok (.iload 5, 2) := by decide +kernel
theorem dX4_turn_56 : decode cX4_turn 56 = .ok (.iconst 1, 1) := by decide +kernel
theorem dX4_turn_57 : decode cX4_turn 57 = .ok (.isub, 1) := by decide +kernel
theorem dX4_turn_58 : decode cX4_turn 58 = .ok (.iaload, 1) := by decide +kernel
theorem dX4_turn_59 : decode cX4_turn 59 = .ok (.iastore, 1) := by decide +kernel
theorem dX4_turn_60 : decode cX4_turn 60 = .ok (.iinc 5 (-1), 3) := by decide +kernel
theorem dX4_turn_63 : decode cX4_turn 63 = .ok (.goto (-24), 3) := by decide +kernel
theorem dX4_turn_66 : decode cX4_turn 66 = .ok (.aload_n 0, 1) := by decide +kernel
theorem dX4_turn_67 : decode cX4_turn 67 = .ok (.getfield 9, 3) := by decide +kernel
theorem dX4_turn_70 : decode cX4_turn 70 = .ok (.iconst 0, 1) := by decide +kernel
theorem dX4_turn_71 : decode cX4_turn 71 = .ok (.iload 4, 2) := by decide +kernel
theorem dX4_turn_73 : decode cX4_turn 73 = .ok (.iastore, 1) := by decide +kernel
theorem dX4_turn_74 : decode cX4_turn 74 = .ok (.goto 69, 3) := by decide +kernel
theorem dX4_turn_77 : decode cX4_turn 77 = .ok (.iload_n 1, 1) := by decide +kernel
theorem dX4_turn_78 : decode cX4_turn 78 = .ok (.iconst 2, 1) := by decide +kernel
theorem dX4_turn_79 : decode cX4_turn 79 = .ok (.if_icmp .ne 44, 3) := by decide +kernel
theorem dX4_turn_82 : decode cX4_turn 82 = .ok (.iconst 0, 1) := by decide +kernel
theorem dX4_turn_83 : decode cX4_turn 83 = .ok (.istore 5, 2) := by decide +kernel
theorem dX4_turn_85 : decode cX4_turn 85 = .ok (.iload 5, 2) := by decide +kernel
theorem dX4_turn_87 : decode cX4_turn 87 = .ok (.iload_n 2, 1) := by decide +kernel
theorem dX4_turn_88 : decode cX4_turn 88 = .ok (.if_icmp .ge 25, 3) := by decide +kernel
theorem dX4_turn_91 : decode cX4_turn 91 = .ok (.aload_n 0, 1) := by decide +kernel
theorem dX4_turn_92 : decode cX4_turn 92 = .ok (.getfield 9, 3) := by decide +kernel
theorem dX4_turn_95 : decode cX4_turn 95 = .ok (.iload 5, 2) := by decide +kernel
theorem dX4_turn_97 : decode cX4_turn 97 = .ok (.aload_n 0, 1) := by decide +kernel
theorem dX4_turn_98 : decode cX4_turn 98 = .ok (.getfield 9, 3) := by decide +kernel
theorem dX4_turn_101 : decode cX4_turn 101 = .ok (.iload 5, 2) := by decide +kernel
theorem dX4_turn_103 : decode cX4_turn 103 = .ok (.iconst 1, 1) := by decide +kernel
theorem dX4_turn_104 : decode cX4_turn 104 = .ok (.iadd, 1) := by decide +kernel
theorem dX4_turn_105 : decode cX4_turn 105 = .ok (.iaload, 1) := by decide +kernel
theorem dX4_turn_106 : decode cX4_turn 106 = .ok (.iastore, 1) := by decide +kernel
theorem dX4_turn_107 : decode cX4_turn 107 = .ok (.iinc 5 1, 3) := by decide +kernel
theorem dX4_turn_110 : decode cX4_turn 110 = .ok (.goto (-25), 3) := by decide +kernel
theorem dX4_turn_113 : decode cX4_turn 113 = .ok (.aload_n 0, 1) := by decide +kernel
theorem dX4_turn_114 : decode cX4_turn 114 = .ok (.getfield 9, 3) := by decide +kernel
theorem dX4_turn_117 : decode cX4_turn 117 = .ok (.iload_n 2, 1) := by decide +kernel
theorem dX4_turn_118 : decode cX4_turn 118 = .ok (.iload_n 3, 1) := by decide +kernel
theorem dX4_turn_119 : decode cX4_turn 119 = .ok (.iastore, 1) := by decide +kernel
theorem dX4_turn_120 : decode cX4_turn 120 = .ok (.goto 23, 3) := by decide +kernel
theorem dX4_turn_123 : decode cX4_turn 123 = .ok (.iload_n 1, 1) := by decide +kernel
theorem dX4_turn_124 : decode cX4_turn 124 = .ok (.iconst 3, 1) := by decide +kernel
theorem dX4_turn_125 : decode cX4_turn 125 = .ok (.if_icmp .ne 18, 3) := by decide +kernel
theorem dX4_turn_128 : decode cX4_turn 128 = .ok (.aload_n 0, 1) := by decide +kernel
theorem dX4_turn_129 : decode cX4_turn 129 = .ok (.getfield 9, 3) := by decide +kernel
theorem dX4_turn_132 : decode cX4_turn 132 = .ok (.iconst 0, 1) := by decide +kernel
theorem dX4_turn_133 : decode cX4_turn 133 = .ok (.iload 4, 2) := by decide +kernel
theorem dX4_turn_135 : decode cX4_turn 135 = .ok (.iastore, 1) := by decide +kernel
theorem dX4_turn_136 : decode cX4_turn 136 = .ok (.aload_n 0, 1) := by decide +kernel
theorem dX4_turn_137 : decode cX4_turn 137 = .ok (.getfield 9, 3) := by decide +kernel
theorem dX4_turn_140 : decode cX4_turn 140 = .ok (.iload_n 2, 1) := by decide +kernel
theorem dX4_turn_141 : decode cX4_turn 141 = .ok (.iload_n 3, 1) := by decide +kernel
theorem dX4_turn_142 : decode cX4_turn 142 = .ok (.iastore, 1) := by decide +kernel
theorem dX4_turn_143 : decode cX4_turn 143 = .ok (.return_, 1) := by decide +kernel
theorem dX4_stay_0 : decode cX4_stay 0 = .ok (.iconst 0, 1) := by decide +kernel
theorem dX4_stay_1 : decode cX4_stay 1 = .ok (.istore_n 2, 1) := by decide +kernel
theorem dX4_stay_2 : decode cX4_stay 2 = .ok (.iconst 0, 1) := by decide +kernel
theorem dX4_stay_3 : decode cX4_stay 3 = .ok (.istore_n 3, 1) := by decide +kernel
theorem dX4_stay_4 : decode cX4_stay 4 = .ok (.iload_n 3, 1) := by decide +kernel
theorem dX4_stay_5 : decode cX4_stay 5 = .ok (.aload_n 0, 1) := by decide +kernel
theorem dX4_stay_6 : decode cX4_stay 6 = .ok (.getfield 18, 3) := by decide +kernel
theorem dX4_stay_9 : decode cX4_stay 9 = .ok (.getfield 44, 3) := by decide +kernel
theorem dX4_stay_12 : decode cX4_stay 12 = .ok (.if_icmp .ge 86, 3) := by decide +kernel
theorem dX4_stay_15 : decode cX4_stay 15 = .ok (.aload_n 0, 1) := by decide +kernel
theorem dX4_stay_16 : decode cX4_stay 16 = .ok (.getfield 9, 3) := by decide +kernel
theorem dX4_stay_19 : decode cX4_stay 19 = .ok (.iload_n 3, 1) := by decide +kernel
theorem dX4_stay_20 : decode cX4_stay 20 = .ok (.iaload, 1) := by decide +kernel
theorem dX4_stay_21 : decode cX4_stay 21 = .ok (.istore 4, 2) := by decide +kernel
theorem dX4_stay_23 : decode cX4_stay 23 = .ok (.iload 4, 2) := by decide +kernel
theorem dX4_stay_25 : decode cX4_stay 25 = .ok (.iconst (-1), 1) := by decide +kernel
theorem dX4_stay_26 : decode cX4_stay 26 = .ok (.if_icmp .eq 66, 3) := by decide +kernel
theorem dX4_stay_29 : decode cX4_stay 29 = .ok (.iload_n 2, 1) := by decide +kernel
theorem dX4_stay_30 : decode cX4_stay 30 = .ok (.iconst 1, 1) := by decide +kernel
theorem dX4_stay_31 : decode cX4_stay 31 = .ok (.iload 4, 2) := by decide +kernel
theorem dX4_stay_33 : decode cX4_stay 33 = .ok (.ishl, 1) := by decide +kernel
theorem dX4_stay_34 : decode cX4_stay 34 = .ok (.ior, 1) := by decide +kernel
theorem dX4_stay_35 : decode cX4_stay 35 = .ok (.istore_n 2, 1) := by decide +kernel
theorem dX4_stay_36 : decode cX4_stay 36 = .ok (.aload_n 0, 1) := by decide +kernel
theorem dX4_stay_37 : decode cX4_stay 37 = .ok (.getfield 18, 3) := by decide +kernel
theorem dX4_stay_40 : decode cX4_stay 40 = .ok (.getfield 72, 3) := by decide +kernel
theorem dX4_stay_43 : decode cX4_stay 43 = .ok (.iload_n 3, 1) := by decide +kernel
theorem dX4_stay_44 : decode cX4_stay 44 = .ok (.iaload, 1) := by decide +kernel
theorem dX4_stay_45 : decode cX4_stay 45 = .ok (.aload_n 0, 1) := by decide +kernel
theorem dX4_stay_46 : decode cX4_stay 46 = .ok (.iload_n 3, 1) := by decide +kernel
theorem dX4_stay_47 : decode cX4_stay 47 = .ok (.invokevirtual 75, 3) := by decide +kernel
theorem dX4_stay_50 : decode cX4_stay 50 = .ok (.iadd, 1) := by decide +kernel
theorem dX4_stay_51 : decode cX4_stay 51 = .ok (.aload_n 0, 1) := by decide +kernel
theorem dX4_stay_52 : decode cX4_stay 52 = .ok (.getfield 18, 3) := by decide +kernel
theorem dX4_stay_55 : decode cX4_stay 55 = .ok (.getfield 78, 3) := by decide +kernel
theorem dX4_stay_58 : decode cX4_stay 58 = .ok (.iload 4, 2) := by decide +kernel
theorem dX4_stay_60 : decode cX4_stay 60 = .ok (.iaload, 1) := by decide +kernel
theorem dX4_stay_61 : decode cX4_stay 61 = .ok (.isub, 1) := by decide +kernel
theorem dX4_stay_62 : decode cX4_stay 62 = .ok (.istore 5, 2) := by decide +kernel
theorem dX4_stay_64 : decode cX4_stay 64 = .ok (.aload_n 0, 1) := by decide +kernel
theorem dX4_stay_65 : decode cX4_stay 65 = .ok (.getfield 15, 3) := by decide +kernel
theorem dX4_stay_68 : decode cX4_stay 68 = .ok (.iload 4, 2) := by decide +kernel
theorem dX4_stay_70 : decode cX4_stay 70 = .ok (.iconst 0, 1) := by decide +kernel
theorem dX4_stay_71 : decode cX4_stay 71 = .ok (.bipush 99, 2) := by decide +kernel
theorem dX4_stay_73 : decode cX4_stay 73 = .ok (.aload_n 0, 1) := by decide +kernel
theorem dX4_stay_74 : decode cX4_stay 74 = .ok (.getfield 15, 3) := by decide +kernel
theorem dX4_stay_77 : decode cX4_stay 77 = .ok (.iload 4, 2) := by decide +kernel
theorem dX4_stay_79 : decode cX4_stay 79 = .ok (.iaload, 1) := by decide +kernel
theorem dX4_stay_80 : decode cX4_stay 80 = .ok (.iload_n 1, 1) := by decide +kernel
theorem dX4_stay_81 : decode cX4_stay 81 = .ok (.iload 5, 2) := by decide +kernel
theorem dX4_stay_83 : decode cX4_stay 83 = .ok (.imul, 1) := by decide +kernel
theorem dX4_stay_84 : decode cX4_stay 84 = .ok (.iadd, 1) := by decide +kernel
theorem dX4_stay_85 : decode cX4_stay 85 = .ok (.invokestatic 81, 3) := by decide +kernel
theorem dX4_stay_88 : decode cX4_stay 88 = .ok (.invokestatic 87, 3) := by decide +kernel
theorem dX4_stay_91 : decode cX4_stay 91 = .ok (.iastore, 1) := by decide +kernel
theorem dX4_stay_92 : decode cX4_stay 92 = .ok (.iinc 3 1, 3) := by decide +kernel
theorem dX4_stay_95 : decode cX4_stay 95 = .ok (.goto (-91), 3) := by decide +kernel
theorem dX4_stay_98 : decode cX4_stay 98 = .ok (.iconst 0, 1) := by decide +kernel
theorem dX4_stay_99 : decode cX4_stay 99 = .ok (.istore_n 3, 1) := by decide +kernel
theorem dX4_stay_100 : decode cX4_stay 100 = .ok (.iload_n 3, 1) := by decide +kernel
theorem dX4_stay_101 : decode cX4_stay 101 = .ok (.aload_n 0, 1) := by decide +kernel
theorem dX4_stay_102 : decode cX4_stay 102 = .ok (.getfield 18, 3) := by decide +kernel
theorem dX4_stay_105 : decode cX4_stay 105 = .ok (.getfield 22, 3) := by decide +kernel
theorem dX4_stay_108 : decode cX4_stay 108 = .ok (.if_icmp .ge 47, 3) := by decide +kernel
theorem dX4_stay_111 : decode cX4_stay 111 = .ok (.iload_n 2, 1) := by decide +kernel
theorem dX4_stay_112 : decode cX4_stay 112 = .ok (.iload_n 3, 1) := by decide +kernel
theorem dX4_stay_113 : decode cX4_stay 113 = .ok (.ishr, 1) := by decide +kernel
theorem dX4_stay_114 : decode cX4_stay 114 = .ok (.iconst 1, 1) := by decide +kernel
theorem dX4_stay_115 : decode cX4_stay 115 = .ok (.iand, 1) := by decide +kernel
theorem dX4_stay_116 : decode cX4_stay 116 = .ok (.ifCond .ne 33, 3) := by decide +kernel
theorem dX4_stay_119 : decode cX4_stay 119 = .ok (.aload_n 0, 1) := by decide +kernel
theorem dX4_stay_120 : decode cX4_stay 120 = .ok (.getfield 15, 3) := by decide +kernel
theorem dX4_stay_123 : decode cX4_stay 123 = .ok (.iload_n 3, 1) := by decide +kernel
theorem dX4_stay_124 : decode cX4_stay 124 = .ok (.iconst 0, 1) := by decide +kernel
theorem dX4_stay_125 : decode cX4_stay 125 = .ok (.aload_n 0, 1) := by decide +kernel
theorem dX4_stay_126 : decode cX4_stay 126 = .ok (.getfield 15, 3) := by decide +kernel
theorem dX4_stay_129 : decode cX4_stay 129 = .ok (.iload_n 3, 1) := by decide +kernel
theorem dX4_stay_130 : decode cX4_stay 130 = .ok (.iaload, 1) := by decide +kernel
theorem dX4_stay_131 : decode cX4_stay 131 = .ok (.iload_n 1, 1) := by decide +kernel
theorem dX4_stay_132 : decode cX4_stay 132 = .ok (.iconst 2, 1) := by decide +kernel
theorem dX4_stay_133 : decode cX4_stay 133 = .ok (.imul, 1) := by decide +kernel
theorem dX4_stay_134 : decode cX4_stay 134 = .ok (.aload_n 0, 1) := by decide +kernel
theorem dX4_stay_135 : decode cX4_stay 135 = .ok (.getfield 18, 3) := by decide +kernel
theorem dX4_stay_138 : decode cX4_stay 138 = .ok (.getfield 78, 3) := by decide +kernel
theorem dX4_stay_141 : decode cX4_stay 141 = .ok (.iload_n 3, 1) := by decide +kernel
theorem dX4_stay_142 : decode cX4_stay 142 = .ok (.iaload, 1) := by decide +kernel
theorem dX4_stay_143 : decode cX4_stay 143 = .ok (.imul, 1) := by decide +kernel
theorem dX4_stay_144 : decode cX4_stay 144 = .ok (.isub, 1) := by decide +kernel
theorem dX4_stay_145 : decode cX4_stay 145 = .ok (.invokestatic 87, 3) := by decide +kernel
theorem dX4_stay_148 : decode cX4_stay 148 = .ok (.iastore, 1) := by decide +kernel
theorem dX4_stay_149 : decode cX4_stay 149 = .ok (.iinc 3 1, 3) := by decide +kernel
theorem dX4_stay_152 : decode cX4_stay 152 = .ok (.goto (-52), 3) := by decide +kernel
theorem dX4_stay_155 : decode cX4_stay 155 = .ok (.return_, 1) := by decide +kernel
theorem dX4_givenTo_0 : decode cX4_givenTo 0 = .ok (.aload_n 0, 1) := by decide +kernel
theorem dX4_givenTo_1 : decode cX4_givenTo 1 = .ok (.getfield 18, 3) := by decide +kernel
theorem dX4_givenTo_4 : decode cX4_givenTo 4 = .ok (.getfield 44, 3) := by decide +kernel
theorem dX4_givenTo_7 : decode cX4_givenTo 7 = .ok (.iconst 1, 1) := by decide +kernel
theorem dX4_givenTo_8 : decode cX4_givenTo 8 = .ok (.isub, 1) := by decide +kernel
theorem dX4_givenTo_9 : decode cX4_givenTo 9 = .ok (.istore_n 2, 1) := by decide +kernel
theorem dX4_givenTo_10 : decode cX4_givenTo 10 = .ok (.aload_n 0, 1) := by decide +kernel
theorem dX4_givenTo_11 : decode cX4_givenTo 11 = .ok (.getfield 18, 3) := by decide +kernel
theorem dX4_givenTo_14 : decode cX4_givenTo 14 = .ok (.getfield 90, 3) := by decide +kernel
theorem dX4_givenTo_17 : decode cX4_givenTo 17 = .ok (.ifCond .eq 12, 3) := by decide +kernel
theorem dX4_givenTo_20 : decode cX4_givenTo 20 = .ok (.iload_n 2, 1) := by decide +kernel
theorem dX4_givenTo_21 : decode cX4_givenTo 21 = .ok (.iconst 1, 1) := by decide +kernel
theorem dX4_givenTo_22 : decode cX4_givenTo 22 = .ok (.if_icmp .le 7, 3) := by decide +kernel
theorem dX4_givenTo_25 : decode cX4_givenTo 25 = .ok (.iconst 1, 1) := by decide +kernel
theorem dX4_givenTo_26 : decode cX4_givenTo 26 = .ok (.goto 4, 3) := by decide +kernel
theorem dX4_givenTo_29 : decode cX4_givenTo 29 = .ok (.iconst 0, 1) := by decide +kernel
theorem dX4_givenTo_30 : decode cX4_givenTo 30 = .ok (.istore_n 3, 1) := by decide +kernel
theorem dX4_givenTo_31 : decode cX4_givenTo 31 = .ok (.iload_n 1, 1) := by decide +kernel
theorem dX4_givenTo_32 : decode cX4_givenTo 32 = .ok (.ifCond .le 9, 3) := by decide +kernel
theorem dX4_givenTo_35 : decode cX4_givenTo 35 = .ok (.iload_n 1, 1) := by decide +kernel
theorem dX4_givenTo_36 : decode cX4_givenTo 36 = .ok (.iconst 1, 1) := by decide +kernel
theorem dX4_givenTo_37 : decode cX4_givenTo 37 = .ok (.isub, 1) := by decide +kernel
theorem dX4_givenTo_38 : decode cX4_givenTo 38 = .ok (.goto 12, 3) := by decide +kernel
theorem dX4_givenTo_41 : decode cX4_givenTo 41 = .ok (.iload_n 3, 1) := by decide +kernel
theorem dX4_givenTo_42 : decode cX4_givenTo 42 = .ok (.ifCond .eq 7, 3) := by decide +kernel
theorem dX4_givenTo_45 : decode cX4_givenTo 45 = .ok (.iload_n 2, 1) := by decide +kernel
theorem dX4_givenTo_46 : decode cX4_givenTo 46 = .ok (.goto 4, 3) := by decide +kernel
theorem dX4_givenTo_49 : decode cX4_givenTo 49 = .ok (.iconst (-1), 1) := by decide +kernel
theorem dX4_givenTo_50 : decode cX4_givenTo 50 = .ok (.istore 4, 2) := by decide +kernel
theorem dX4_givenTo_52 : decode cX4_givenTo 52 = .ok (.iload_n 1, 1) := by decide +kernel
theorem dX4_givenTo_53 : decode cX4_givenTo 53 = .ok (.iload_n 2, 1) := by decide +kernel
theorem dX4_givenTo_54 : decode cX4_givenTo 54 = .ok (.if_icmp .ge 9, 3) := by decide +kernel
theorem dX4_givenTo_57 : decode cX4_givenTo 57 = .ok (.iload_n 1, 1) := by decide +kernel
theorem dX4_givenTo_58 : decode cX4_givenTo 58 = .ok (.iconst 1, 1) := by decide +kernel
theorem dX4_givenTo_59 : decode cX4_givenTo 59 = .ok (.iadd, 1) := by decide +kernel
theorem dX4_givenTo_60 : decode cX4_givenTo 60 = .ok (.goto 12, 3) := by decide +kernel
theorem dX4_givenTo_63 : decode cX4_givenTo 63 = .ok (.iload_n 3, 1) := by decide +kernel
theorem dX4_givenTo_64 : decode cX4_givenTo 64 = .ok (.ifCond .eq 7, 3) := by decide +kernel
theorem dX4_givenTo_67 : decode cX4_givenTo 67 = .ok (.iconst 0, 1) := by decide +kernel
theorem dX4_givenTo_68 : decode cX4_givenTo 68 = .ok (.goto 4, 3) := by decide +kernel
theorem dX4_givenTo_71 : decode cX4_givenTo 71 = .ok (.iconst (-1), 1) := by decide +kernel
theorem dX4_givenTo_72 : decode cX4_givenTo 72 = .ok (.istore 5, 2) := by decide +kernel
theorem dX4_givenTo_74 : decode cX4_givenTo 74 = .ok (.aload_n 0, 1) := by decide +kernel
theorem dX4_givenTo_75 : decode cX4_givenTo 75 = .ok (.iload 4, 2) := by decide +kernel
theorem dX4_givenTo_77 : decode cX4_givenTo 77 = .ok (.invokevirtual 94, 3) := by decide +kernel
theorem dX4_givenTo_80 : decode cX4_givenTo 80 = .ok (.aload_n 0, 1) := by decide +kernel
theorem dX4_givenTo_81 : decode cX4_givenTo 81 = .ok (.iload 5, 2) := by decide +kernel
theorem dX4_givenTo_83 : decode cX4_givenTo 83 = .ok (.invokevirtual 94, 3) := by decide +kernel
theorem dX4_givenTo_86 : decode cX4_givenTo 86 = .ok (.iadd, 1) := by decide +kernel
theorem dX4_givenTo_87 : decode cX4_givenTo 87 = .ok (.ireturn, 1) := by decide +kernel
theorem dX4_givenFrom_0 : decode cX4_givenFrom 0 = .ok (.iload_n 1, 1) := by decide +kernel
theorem dX4_givenFrom_1 : decode cX4_givenFrom 1 = .ok (.iconst (-1), 1) := by decide +kernel
theorem dX4_givenFrom_2 : decode cX4_givenFrom 2 = .ok (.if_icmp .eq 13, 3) := by decide +kernel
theorem dX4_givenFrom_5 : decode cX4_givenFrom 5 = .ok (.aload_n 0, 1) := by decide +kernel
theorem dX4_givenFrom_6 : decode cX4_givenFrom 6 = .ok (.getfield 9, 3) := by decide +kernel
theorem dX4_givenFrom_9 : decode cX4_givenFrom 9 = .ok (.iload_n 1, 1) := by decide +kernel
theorem dX4_givenFrom_10 : decode cX4_givenFrom 10 = .ok (.iaload, 1) := by decide +kernel
theorem dX4_givenFrom_11 : decode cX4_givenFrom 11 = .ok (.iconst (-1), 1) := by decide +kernel
theorem dX4_givenFrom_12 : decode cX4_givenFrom 12 = .ok (.if_icmp .ne 7, 3) := by decide +kernel
theorem dX4_givenFrom_15 : decode cX4_givenFrom 15 = .ok (.iconst 0, 1) := by decide +kernel
theorem dX4_givenFrom_16 : decode cX4_givenFrom 16 = .ok (.goto 17, 3) := by decide +kernel
theorem dX4_givenFrom_19 : decode cX4_givenFrom 19 = .ok (.aload_n 0, 1) := by decide +kernel
theorem dX4_givenFrom_20 : decode cX4_givenFrom 20 = .ok (.getfield 18, 3) := by decide +kernel
theorem dX4_givenFrom_23 : decode cX4_givenFrom 23 = .ok (.getfield 97, 3) := by decide +kernel
theorem dX4_givenFrom_26 : decode cX4_givenFrom 26 = .ok (.aload_n 0, 1) := by decide +kernel
theorem dX4_givenFrom_27 : decode cX4_givenFrom 27 = .ok (.getfield 9, 3) := by decide +kernel
theorem dX4_givenFrom_30 : decode cX4_givenFrom 30 = .ok (.iload_n 1, 1) := by decide +kernel
theorem dX4_givenFrom_31 : decode cX4_givenFrom 31 = .ok (.iaload, 1) := by decide +kernel
theorem dX4_givenFrom_32 : decode cX4_givenFrom 32 = .ok (.iaload, 1) := by decide +kernel
theorem dX4_givenFrom_33 : decode cX4_givenFrom 33 = .ok (.ireturn, 1) := by decide +kernel
theorem dX5_init_0 : decode cX5_init 0 = .ok (.aload_n 0, 1) := by decide +kernel
theorem dX5_init_1 : decode cX5_init 1 = .ok (.invokespecial 3, 3) := by decide +kernel
theorem dX5_init_4 : decode cX5_init 4 = .ok (.aload_n 0, 1) := by decide +kernel
theorem dX5_init_5 : decode cX5_init 5 = .ok (.bipush 30, 2) := by decide +kernel
theorem dX5_init_7 : decode cX5_init 7 = .ok (.newarray .long, 2) := by decide +kernel
theorem dX5_init_9 : decode cX5_init 9 = .ok (.putfield 9, 3) := by decide +kernel
theorem dX5_init_12 : decode cX5_init 12 = .ok (.aload_n 0, 1) := by decide +kernel
theorem dX5_init_13 : decode cX5_init 13 = .ok (.bipush 30, 2) := by decide +kernel
theorem dX5_init_15 : decode cX5_init 15 = .ok (.newarray .int, 2) := by decide +kernel
theorem dX5_init_17 : decode cX5_init 17 = .ok (.putfield 15, 3) := by decide +kernel
theorem dX5_init_20 : decode cX5_init 20 = .ok (.return_, 1) := by decide +kernel
theorem dX5_forget_0 : decode cX5_forget 0 = .ok (.aload_n 0, 1) := by decide +kernel
theorem dX5_forget_1 : decode cX5_forget 1 = .ok (.iconst 0, 1) := by decide +kernel
theorem dX5_forget_2 : decode cX5_forget 2 = .ok (.putfield 19, 3) := by decide +kernel
theorem dX5_forget_5 : decode cX5_forget 5 = .ok (.return_, 1) := by decide +kernel
theorem dX5_remember_0 : decode cX5_remember 0 = .ok (.aload_n 0, 1) := by decide +kernel
theorem dX5_remember_1 : decode cX5_remember 1 = .ok (.getfield 9, 3) := by decide +kernel
theorem dX5_remember_4 : decode cX5_remember 4 = .ok (.aload_n 0, 1) := by decide +kernel
theorem dX5_remember_5 : decode cX5_remember 5 = .ok (.getfield 23, 3) := by decide +kernel
theorem dX5_remember_8 : decode cX5_remember 8 = .ok (.aload_n 1, 1) := by decide +kernel
theorem dX5_remember_9 : decode cX5_remember 9 = .ok (.invokevirtual 26, 3) := by decide +kernel
theorem dX5_remember_12 : decode cX5_remember 12 = .ok (.lastore, 1) := by decide +kernel
theorem dX5_remember_13 : decode cX5_remember 13 = .ok (.aload_n 0, 1) := by decide +kernel
theorem dX5_remember_14 : decode cX5_remember 14 = .ok (.getfield 15, 3) := by decide +kernel
theorem dX5_remember_17 : decode cX5_remember 17 = .ok (.aload_n 0, 1) := by decide +kernel
theorem dX5_remember_18 : decode cX5_remember 18 = .ok (.getfield 23, 3) := by decide +kernel
theorem dX5_remember_21 : decode cX5_remember 21 = .ok (.aload_n 1, 1) := by decide +kernel
theorem dX5_remember_22 : decode cX5_remember 22 = .ok (.getfield 32, 3) := by decide +kernel
theorem dX5_remember_25 : decode cX5_remember 25 = .ok (.iastore, 1) := by decide +kernel
theorem dX5_remember_26 : decode cX5_remember 26 = .ok (.aload_n 0, 1) := by decide +kernel
theorem dX5_remember_27 : decode cX5_remember 27 = .ok (.aload_n 0, 1) := by decide +kernel
theorem dX5_remember_28 : decode cX5_remember 28 = .ok (.getfield 23, 3) := by decide +kernel
theorem dX5_remember_31 : decode cX5_remember 31 = .ok (.iconst 1, 1) := by decide +kernel
theorem dX5_remember_32 : decode cX5_remember 32 = .ok (.iadd, 1) := by decide +kernel
theorem dX5_remember_33 : decode cX5_remember 33 = .ok (.bipush 30, 2) := by decide +kernel
theorem dX5_remember_35 : decode cX5_remember 35 = .ok (.if_icmp .ge 12, 3) := by decide +kernel
theorem dX5_remember_38 : decode cX5_remember 38 = .ok (.aload_n 0, 1) := by decide +kernel
theorem dX5_remember_39 : decode cX5_remember 39 = .ok (.getfield 23, 3) := by decide +kernel
theorem dX5_remember_42 : decode cX5_remember 42 = .ok (.iconst 1, 1) := by decide +kernel
theorem dX5_remember_43 : decode cX5_remember 43 = .ok (.iadd, 1) := by decide +kernel
theorem dX5_remember_44 : decode cX5_remember 44 = .ok (.goto 4, 3) := by decide +kernel
theorem dX5_remember_47 : decode cX5_remember 47 = .ok (.iconst 0, 1) := by decide +kernel
theorem dX5_remember_48 : decode cX5_remember 48 = .ok (.putfield 23, 3) := by decide +kernel
theorem dX5_remember_51 : decode cX5_remember 51 = .ok (.aload_n 0, 1) := by decide +kernel
theorem dX5_remember_52 : decode cX5_remember 52 = .ok (.aload_n 0, 1) := by decide +kernel
theorem dX5_remember_53 : decode cX5_remember 53 = .ok (.getfield 19, 3) := by decide +kernel
theorem dX5_remember_56 : decode cX5_remember 56 = .ok (.iconst 1, 1) := by decide +kernel
theorem dX5_remember_57 : decode cX5_remember 57 = .ok (.iadd, 1) := by decide +kernel
theorem dX5_remember_58 : decode cX5_remember 58 = .ok (.bipush 30, 2) := by decide +kernel
theorem dX5_remember_60 : decode cX5_remember 60 = .ok (.invokestatic 34, 3) := by decide +kernel
theorem dX5_remember_63 : decode cX5_remember 63 = .ok (.putfield 19, 3) := by decide +kernel
theorem dX5_remember_66 : decode cX5_remember 66 = .ok (.return_, 1) := by decide +kernel
theorem dX5_bringBack_0 : decode cX5_bringBack 0 = .ok (.iload_n 1, 1) := by decide +kernel
theorem dX5_bringBack_1 : decode cX5_bringBack 1 = .ok (.iconst 1, 1) := by decide +kernel
theorem dX5_bringBack_2 : decode cX5_bringBack 2 = .ok (.if_icmp .lt 11, 3) := by decide +kernel
theorem dX5_bringBack_5 : decode cX5_bringBack 5 = .ok (.iload_n 1, 1) := by decide +kernel
theorem dX5_bringBack_6 : decode cX5_bringBack 6 = .ok (.aload_n 0, 1) := by decide +kernel
theorem dX5_bringBack_7 : decode cX5_bringBack 7 = .ok (.getfield 19, 3) := by decide +kernel
theorem dX5_bringBack_10 : decode cX5_bringBack 10 = .ok (.if_icmp .le 4, 3) := by decide +kernel
theorem dX5_bringBack_13 : decode cX5_bringBack 13 = .ok (.return_, 1) := by decide +kernel
theorem dX5_bringBack_14 : decode cX5_bringBack 14 = .ok (.aload_n 0, 1) := by decide +kernel
theorem dX5_bringBack_15 : decode cX5_bringBack 15 = .ok (.aload_n 0, 1) := by decide +kernel
theorem dX5_bringBack_16 : decode cX5_bringBack 16 = .ok (.getfield 23, 3) := by decide +kernel
theorem dX5_bringBack_19 : decode cX5_bringBack 19 = .ok (.iload_n 1, 1) := by decide +kernel
theorem dX5_bringBack_20 : decode cX5_bringBack 20 = .ok (.if_icmp .lt 12, 3) := by decide +kernel
theorem dX5_bringBack_23 : decode cX5_bringBack 23 = .ok (.aload_n 0, 1) := by decide +kernel
theorem dX5_bringBack_24 : decode cX5_bringBack 24 = .ok (.getfield 23, 3) := by decide +kernel
theorem dX5_bringBack_27 : decode cX5_bringBack 27 = .ok (.iload_n 1, 1) := by decide +kernel
theorem dX5_bringBack_28 : decode cX5_bringBack 28 = .ok (.isub, 1) := by decide +kernel
theorem dX5_bringBack_29 : decode cX5_bringBack 29 = .ok (.goto 12, 3) := by decide +kernel
theorem dX5_bringBack_32 : decode cX5_bringBack 32 = .ok (.aload_n 0, 1) := by decide +kernel
theorem dX5_bringBack_33 : decode cX5_bringBack 33 = .ok (.getfield 23, 3) := by decide +kernel
theorem dX5_bringBack_36 : decode cX5_bringBack 36 = .ok (.iload_n 1, 1) := by decide +kernel
theorem dX5_bringBack_37 : decode cX5_bringBack 37 = .ok (.isub, 1) := by decide +kernel
theorem dX5_bringBack_38 : decode cX5_bringBack 38 = .ok (.bipush 30, 2) := by decide +kernel
theorem dX5_bringBack_40 : decode cX5_bringBack 40 = .ok (.iadd, 1) := by decide +kernel
theorem dX5_bringBack_41 : decode cX5_bringBack 41 = .ok (.putfield 23, 3) := by decide +kernel
theorem dX5_bringBack_44 : decode cX5_bringBack 44 = .ok (.aload_n 0, 1) := by decide +kernel
theorem dX5_bringBack_45 : decode cX5_bringBack 45 = .ok (.dup, 1) := by decide +kernel
theorem dX5_bringBack_46 : decode cX5_bringBack 46 = .ok (.getfield 19, 3) := by decide +kernel
theorem dX5_bringBack_49 : decode cX5_bringBack 49 = .ok (.iload_n 1, 1) := by decide +kernel
theorem dX5_bringBack_50 : decode cX5_bringBack 50 = .ok (.isub, 1) := by decide +kernel
theorem dX5_bringBack_51 : decode cX5_bringBack 51 = .ok (.putfield 19, 3) := by decide +kernel
theorem dX5_bringBack_54 : decode cX5_bringBack 54 = .ok (.aload_n 2, 1) := by decide +kernel
theorem dX5_bringBack_55 : decode cX5_bringBack 55 = .ok (.aload_n 0, 1) := by decide +kernel
theorem dX5_bringBack_56 : decode cX5_bringBack 56 = .ok (.getfield 9, 3) := by decide +kernel
theorem dX5_bringBack_59 : decode cX5_bringBack 59 = .ok (.aload_n 0, 1) := by decide +kernel
theorem dX5_bringBack_60 : decode cX5_bringBack 60 = .ok (.getfield 23, 3) := by decide +kernel
theorem dX5_bringBack_63 : decode cX5_bringBack 63 = .ok (.laload, 1) := by decide +kernel
theorem dX5_bringBack_64 : decode cX5_bringBack 64 = .ok (.aload_n 0, 1) := by decide +kernel
theorem dX5_bringBack_65 : decode cX5_bringBack 65 = .ok (.getfield 15, 3) := by decide +kernel
theorem dX5_bringBack_68 : decode cX5_bringBack 68 = .ok (.aload_n 0, 1) := by decide +kernel
theorem dX5_bringBack_69 : decode cX5_bringBack 69 = .ok (.getfield 23, 3) := by decide +kernel
theorem dX5_bringBack_72 : decode cX5_bringBack 72 = .ok (.iaload, 1) := by decide +kernel
theorem dX5_bringBack_73 : decode cX5_bringBack 73 = .ok (.invokevirtual 40, 3) := by decide +kernel
theorem dX5_bringBack_76 : decode cX5_bringBack 76 = .ok (.return_, 1) := by decide +kernel
theorem dX6_init_0 : decode cX6_init 0 = .ok (.aload_n 0, 1) := by decide +kernel
theorem dX6_init_1 : decode cX6_init 1 = .ok (.invokespecial 3, 3) := by decide +kernel
theorem dX6_init_4 : decode cX6_init 4 = .ok (.aload_n 0, 1) := by decide +kernel
theorem dX6_init_5 : decode cX6_init 5 = .ok (.sipush 200, 3) := by decide +kernel
theorem dX6_init_8 : decode cX6_init 8 = .ok (.newarray .int, 2) := by decide +kernel
theorem dX6_init_10 : decode cX6_init 10 = .ok (.putfield 9, 3) := by decide +kernel
theorem dX6_init_13 : decode cX6_init 13 = .ok (.aload_n 0, 1) := by decide +kernel
theorem dX6_init_14 : decode cX6_init 14 = .ok (.new 15, 3) := by decide +kernel
theorem dX6_init_17 : decode cX6_init 17 = .ok (.dup, 1) := by decide +kernel
theorem dX6_init_18 : decode cX6_init 18 = .ok (.invokespecial 17, 3) := by decide +kernel
theorem dX6_init_21 : decode cX6_init 21 = .ok (.putfield 18, 3) := by decide +kernel
theorem dX6_init_24 : decode cX6_init 24 = .ok (.aload_n 0, 1) := by decide +kernel
theorem dX6_init_25 : decode cX6_init 25 = .ok (.iconst (-1), 1) := by decide +kernel
theorem dX6_init_26 : decode cX6_init 26 = .ok (.putfield 22, 3) := by decide +kernel
theorem dX6_init_29 : decode cX6_init 29 = .ok (.return_, 1) := by decide +kernel
theorem dX6_add_0 : decode cX6_add 0 = .ok (.aload_n 0, 1) := by decide +kernel
theorem dX6_add_1 : decode cX6_add 1 = .ok (.getfield 26, 3) := by decide +kernel
theorem dX6_add_4 : decode cX6_add 4 = .ok (.sipush 200, 3) := by decide +kernel
theorem dX6_add_7 : decode cX6_add 7 = .ok (.if_icmp .lt 5, 3) := by decide +kernel
theorem dX6_add_10 : decode cX6_add 10 = .ok (.iconst 0, 1) := by decide +kernel
theorem dX6_add_11 : decode cX6_add 11 = .ok (.ireturn, 1) := by decide +kernel
theorem dX6_add_12 : decode cX6_add 12 = .ok (.aload_n 0, 1) := by decide +kernel
theorem dX6_add_13 : decode cX6_add 13 = .ok (.getfield 9, 3) := by decide +kernel
theorem dX6_add_16 : decode cX6_add 16 = .ok (.aload_n 0, 1) := by decide +kernel
theorem dX6_add_17 : decode cX6_add 17 = .ok (.getfield 26, 3) := by decide +kernel
theorem dX6_add_20 : decode cX6_add 20 = .ok (.iload_n 1, 1) := by decide +kernel
theorem dX6_add_21 : decode cX6_add 21 = .ok (.iastore, 1) := by decide +kernel
theorem dX6_add_22 : decode cX6_add 22 = .ok (.aload_n 0, 1) := by decide +kernel
theorem dX6_add_23 : decode cX6_add 23 = .ok (.dup, 1) := by decide +kernel
theorem dX6_add_24 : decode cX6_add 24 = .ok (.getfield 26, 3) := by decide +kernel
theorem dX6_add_27 : decode cX6_add 27 = .ok (.iconst 1, 1) := by decide +kernel
theorem dX6_add_28 : decode cX6_add 28 = .ok (.iadd, 1) := by decide +kernel
theorem dX6_add_29 : decode cX6_add 29 = .ok (.putfield 26, 3) := by decide +kernel
theorem dX6_add_32 : decode cX6_add 32 = .ok (.iconst 1, 1) := by decide +kernel
theorem dX6_add_33 : decode cX6_add 33 = .ok (.ireturn, 1) := by decide +kernel
theorem dX6_readAll_0 : decode cX6_readAll 0 = .ok (.aload_n 0, 1) := by decide +kernel
theorem dX6_readAll_1 : decode cX6_readAll 1 = .ok (.getfield 18, 3) := by decide +kernel
theorem dX6_readAll_4 : decode cX6_readAll 4 = .ok (.invokevirtual 29, 3) := by decide +kernel
theorem dX6_readAll_7 : decode cX6_readAll 7 = .ok (.aload_n 0, 1) := by decide +kernel
theorem dX6_readAll_8 : decode cX6_readAll 8 = .ok (.iconst 0, 1) := by decide +kernel
theorem dX6_readAll_9 : decode cX6_readAll 9 = .ok (.putfield 32, 3) := by decide +kernel
theorem dX6_readAll_12 : decode cX6_readAll 12 = .ok (.aload_n 0, 1) := by decide +kernel
theorem dX6_readAll_13 : decode cX6_readAll 13 = .ok (.iconst 0, 1) := by decide +kernel
theorem dX6_readAll_14 : decode cX6_readAll 14 = .ok (.putfield 35, 3) := by decide +kernel
theorem dX6_readAll_17 : decode cX6_readAll 17 = .ok (.aload_n 0, 1) := by decide +kernel
theorem dX6_readAll_18 : decode cX6_readAll 18 = .ok (.iconst (-1), 1) := by decide +kernel
theorem dX6_readAll_19 : decode cX6_readAll 19 = .ok (.putfield 22, 3) := by decide +kernel
theorem dX6_readAll_22 : decode cX6_readAll 22 = .ok (.aload_n 0, 1) := by decide +kernel
theorem dX6_readAll_23 : decode cX6_readAll 23 = .ok (.iconst 0, 1) := by decide +kernel
theorem dX6_readAll_24 : decode cX6_readAll 24 = .ok (.putfield 38, 3) := by decide +kernel
theorem dX6_readAll_27 : decode cX6_readAll 27 = .ok (.aload_n 0, 1) := by decide +kernel
theorem dX6_readAll_28 : decode cX6_readAll 28 = .ok (.iconst 0, 1) := by decide +kernel
theorem dX6_readAll_29 : decode cX6_readAll 29 = .ok (.putfield 41, 3) := by decide +kernel
theorem dX6_readAll_32 : decode cX6_readAll 32 = .ok (.aload_n 0, 1) := by decide +kernel
theorem dX6_readAll_33 : decode cX6_readAll 33 = .ok (.invokevirtual 45, 3) := by decide +kernel
theorem dX6_readAll_36 : decode cX6_readAll 36 = .ok (.iconst 0, 1) := by decide +kernel
theorem dX6_readAll_37 : decode cX6_readAll 37 = .ok (.istore_n 1, 1) := by decide +kernel
theorem dX6_readAll_38 : decode cX6_readAll 38 = .ok (.iload_n 1, 1) := by decide +kernel
theorem dX6_readAll_39 : decode cX6_readAll 39 = .ok (.sipush 200, 3) := by decide +kernel
theorem dX6_readAll_42 : decode cX6_readAll 42 = .ok (.if_icmp .ge 35, 3) := by decide +kernel
theorem dX6_readAll_45 : decode cX6_readAll 45 = .ok (.aload_n 0, 1) := by decide +kernel
theorem dX6_readAll_46 : decode cX6_readAll 46 = .ok (.getfield 35, 3) := by decide +kernel
theorem dX6_readAll_49 : decode cX6_readAll 49 = .ok (.ifCond .ne 28, 3) := by decide +kernel
theorem dX6_readAll_52 : decode cX6_readAll 52 = .ok (.aload_n 0, 1) := by decide +kernel
theorem dX6_readAll_53 : decode cX6_readAll 53 = .ok (.getfield 32, 3) := by decide +kernel
theorem dX6_readAll_56 : decode cX6_readAll 56 = .ok (.aload_n 0, 1) := by decide +kernel
theorem dX6_readAll_57 : decode cX6_readAll 57 = .ok (.getfield 26, 3) := by decide +kernel
theorem dX6_readAll_60 : decode cX6_readAll 60 = .ok (.if_icmp .ge 17, 3) := by decide +kernel
theorem dX6_readAll_63 : decode cX6_readAll 63 = .ok (.aload_n 0, 1) := by decide +kernel
theorem dX6_readAll_64 : decode cX6_readAll 64 = .ok (.invokevirtual 48, 3) := by decide +kernel
theorem dX6_readAll_67 : decode cX6_readAll 67 = .ok (.aload_n 0, 1) := by decide +kernel
theorem dX6_readAll_68 : decode cX6_readAll 68 = .ok (.invokevirtual 45, 3) := by decide +kernel
theorem dX6_readAll_71 : decode cX6_readAll 71 = .ok (.iinc 1 1, 3) := by decide +kernel
theorem dX6_readAll_74 : decode cX6_readAll 74 = .ok (.goto (-36), 3) := by decide +kernel
theorem dX6_readAll_77 : decode cX6_readAll 77 = .ok (.aload_n 0, 1) := by decide +kernel
theorem dX6_readAll_78 : decode cX6_readAll 78 = .ok (.iconst 0, 1) := by decide +kernel
theorem dX6_readAll_79 : decode cX6_readAll 79 = .ok (.putfield 26, 3) := by decide +kernel
theorem dX6_readAll_82 : decode cX6_readAll 82 = .ok (.aload_n 0, 1) := by decide +kernel
theorem dX6_readAll_83 : decode cX6_readAll 83 = .ok (.getfield 35, 3) := by decide +kernel
theorem dX6_readAll_86 : decode cX6_readAll 86 = .ok (.ireturn, 1) := by decide +kernel
theorem dX6_readClause_0 : decode cX6_readClause 0 = .ok (.aload_n 0, 1) := by decide +kernel
theorem dX6_readClause_1 : decode cX6_readClause 1 = .ok (.getfield 9, 3) := by decide +kernel
theorem dX6_readClause_4 : decode cX6_readClause 4 = .ok (.aload_n 0, 1) := by decide +kernel
theorem dX6_readClause_5 : decode cX6_readClause 5 = .ok (.getfield 32, 3) := by decide +kernel
theorem dX6_readClause_8 : decode cX6_readClause 8 = .ok (.iaload, 1) := by decide +kernel
theorem dX6_readClause_9 : decode cX6_readClause 9 = .ok (.istore_n 1, 1) := by decide +kernel
theorem dX6_readClause_10 : decode cX6_readClause 10 = .ok (.aload_n 0, 1) := by decide +kernel
theorem dX6_readClause_11 : decode cX6_readClause 11 = .ok (.getfield 18, 3) := by decide +kernel
theorem dX6_readClause_14 : decode cX6_readClause 14 = .ok (.getfield 51, 3) := by decide +kernel
theorem dX6_readClause_17 : decode cX6_readClause 17 = .ok (.ifCond .ne 26, 3) := by decide +kernel
theorem dX6_readClause_20 : decode cX6_readClause 20 = .ok (.iload_n 1, 1) := by decide +kernel
theorem dX6_readClause_21 : decode cX6_readClause 21 = .ok (.bipush 98, 2) := by decide +kernel
theorem dX6_readClause_23 : decode cX6_readClause 23 = .ok (.if_icmp .ne 10, 3) := by decide +kernel
theorem dX6_readClause_26 : decode cX6_readClause 26 = .ok (.aload_n 0, 1) := by decide +kernel
theorem dX6_readClause_27 : decode cX6_readClause 27 = .ok (.invokevirtual 54, 3) := by decide +kernel
theorem dX6_readClause_30 : decode cX6_readClause 30 = .ok (.goto 12, 3) := by decide +kernel
theorem dX6_readClause_33 : decode cX6_readClause 33 = .ok (.aload_n 0, 1) := by decide +kernel
theorem dX6_readClause_34 : decode cX6_readClause 34 = .ok (.iconst 1, 1) := by decide +kernel
theorem dX6_readClause_35 : decode cX6_readClause 35 = .ok (.aload_n 0, 1) := by decide +kernel
theorem dX6_readClause_36 : decode cX6_readClause 36 = .ok (.getfield 32, 3) := by decide +kernel
theorem dX6_readClause_39 : decode cX6_readClause 39 = .ok (.invokevirtual 57, 3) := by decide +kernel
theorem dX6_readClause_42 : decode cX6_readClause 42 = .ok (.return_, 1) := by decide +kernel
theorem dX6_readClause_43 : decode cX6_readClause 43 = .ok (.iload_n 1, 1) := by decide +kernel
theorem dX6_readClause_44 : decode cX6_readClause 44 = .ok (.lookupswitch 77 #[(98, 44), (104, 56), (114, 70), (115, 63)], 44) := by decide +kernel
theorem dX6_readClause_88 : decode cX6_readClause 88 = .ok (.aload_n 0, 1) := by decide +kernel
theorem dX6_readClause_89 : decode cX6_readClause 89 = .ok (.iconst 3, 1) := by decide +kernel
theorem dX6_readClause_90 : decode cX6_readClause 90 = .ok (.aload_n 0, 1) := by decide +kernel
theorem dX6_readClause_91 : decode cX6_readClause 91 = .ok (.getfield 32, 3) := by decide +kernel
theorem dX6_readClause_94 : decode cX6_readClause 94 = .ok (.invokevirtual 57, 3) := by decide +kernel
theorem dX6_readClause_97 : decode cX6_readClause 97 = .ok (.goto 33, 3) := by decide +kernel
theorem dX6_readClause_100 : decode cX6_readClause 100 = .ok (.aload_n 0, 1) := by decide +kernel
theorem dX6_readClause_101 : decode cX6_readClause 101 = .ok (.invokevirtual 61, 3) := by decide +kernel
theorem dX6_readClause_104 : decode cX6_readClause 104 = .ok (.goto 26, 3) := by decide +kernel
theorem dX6_readClause_107 : decode cX6_readClause 107 = .ok (.aload_n 0, 1) := by decide +kernel
theorem dX6_readClause_108 : decode cX6_readClause 108 = .ok (.invokevirtual 64, 3) := by decide +kernel
theorem dX6_readClause_111 : decode cX6_readClause 111 = .ok (.goto 19, 3) := by decide +kernel
theorem dX6_readClause_114 : decode cX6_readClause 114 = .ok (.aload_n 0, 1) := by decide +kernel
theorem dX6_readClause_115 : decode cX6_readClause 115 = .ok (.invokevirtual 67, 3) := by decide +kernel
theorem dX6_readClause_118 : decode cX6_readClause 118 = .ok (.goto 12, 3) := by decide +kernel
theorem dX6_readClause_121 : decode cX6_readClause 121 = .ok (.aload_n 0, 1) := by decide +kernel
theorem dX6_readClause_122 : decode cX6_readClause 122 = .ok (.iconst 1, 1) := by decide +kernel
theorem dX6_readClause_123 : decode cX6_readClause 123 = .ok (.aload_n 0, 1) := by decide +kernel
theorem dX6_readClause_124 : decode cX6_readClause 124 = .ok (.getfield 32, 3) := by decide +kernel
theorem dX6_readClause_127 : decode cX6_readClause 127 = .ok (.invokevirtual 57, 3) := by decide +kernel
theorem dX6_readClause_130 : decode cX6_readClause 130 = .ok (.return_, 1) := by decide +kernel
theorem dX6_readPlaces_0 : decode cX6_readPlaces 0 = .ok (.aload_n 0, 1) := by decide +kernel
theorem dX6_readPlaces_1 : decode cX6_readPlaces 1 = .ok (.dup, 1) := by decide +kernel
theorem dX6_readPlaces_2 : decode cX6_readPlaces 2 = .ok (.getfield 32, 3) := by decide +kernel
theorem dX6_readPlaces_5 : decode cX6_readPlaces 5 = .ok (.iconst 1, 1) := by decide +kernel
theorem dX6_readPlaces_6 : decode cX6_readPlaces 6 = .ok (.iadd, 1) := by decide +kernel
theorem dX6_readPlaces_7 : decode cX6_readPlaces 7 = .ok (.putfield 32, 3) := by decide +kernel
theorem dX6_readPlaces_10 : decode cX6_readPlaces 10 = .ok (.aload_n 0, 1) := by decide +kernel
theorem dX6_readPlaces_11 : decode cX6_readPlaces 11 = .ok (.iconst 2, 1) := by decide +kernel
theorem dX6_readPlaces_12 : decode cX6_readPlaces 12 = .ok (.bipush 6, 2) := by decide +kernel
theorem dX6_readPlaces_14 : decode cX6_readPlaces 14 = .ok (.invokevirtual 70, 3) := by decide +kernel
theorem dX6_readPlaces_17 : decode cX6_readPlaces 17 = .ok (.istore_n 1, 1) := by decide +kernel
theorem dX6_readPlaces_18 : decode cX6_readPlaces 18 = .ok (.aload_n 0, 1) := by decide +kernel
theorem dX6_readPlaces_19 : decode cX6_readPlaces 19 = .ok (.iconst 0, 1) := by decide +kernel
theorem dX6_readPlaces_20 : decode cX6_readPlaces 20 = .ok (.iconst 1, 1) := by decide +kernel
theorem dX6_readPlaces_21 : decode cX6_readPlaces 21 = .ok (.invokevirtual 70, 3) := by decide +kernel
theorem dX6_readPlaces_24 : decode cX6_readPlaces 24 = .ok (.istore_n 2, 1) := by decide +kernel
theorem dX6_readPlaces_25 : decode cX6_readPlaces 25 = .ok (.aload_n 0, 1) := by decide +kernel
theorem dX6_readPlaces_26 : decode cX6_readPlaces 26 = .ok (.invokevirtual 74, 3) := by decide +kernel
theorem dX6_readPlaces_29 : decode cX6_readPlaces 29 = .ok (.aload_n 0, 1) := by decide +kernel
theorem dX6_readPlaces_30 : decode cX6_readPlaces 30 = .ok (.getfield 35, 3) := by decide +kernel
theorem dX6_readPlaces_33 : decode cX6_readPlaces 33 = .ok (.ifCond .ne 28, 3) := by decide +kernel
theorem dX6_readPlaces_36 : decode cX6_readPlaces 36 = .ok (.aload_n 0, 1) := by decide +kernel
theorem dX6_readPlaces_37 : decode cX6_readPlaces 37 = .ok (.getfield 18, 3) := by decide +kernel
theorem dX6_readPlaces_40 : decode cX6_readPlaces 40 = .ok (.iload_n 1, 1) := by decide +kernel
theorem dX6_readPlaces_41 : decode cX6_readPlaces 41 = .ok (.putfield 51, 3) := by decide +kernel
theorem dX6_readPlaces_44 : decode cX6_readPlaces 44 = .ok (.aload_n 0, 1) := by decide +kernel
theorem dX6_readPlaces_45 : decode cX6_readPlaces 45 = .ok (.getfield 18, 3) := by decide +kernel
theorem dX6_readPlaces_48 : decode cX6_readPlaces 48 = .ok (.iload_n 2, 1) := by decide +kernel
theorem dX6_readPlaces_49 : decode cX6_readPlaces 49 = .ok (.iconst 1, 1) := by decide +kernel
theorem dX6_readPlaces_50 : decode cX6_readPlaces 50 = .ok (.if_icmp .ne 7, 3) := by decide +kernel
theorem dX6_readPlaces_53 : decode cX6_readPlaces 53 = .ok (.iconst 1, 1) := by decide +kernel
theorem dX6_readPlaces_54 : decode cX6_readPlaces 54 = .ok (.goto 4, 3) := by decide +kernel
theorem dX6_readPlaces_57 : decode cX6_readPlaces 57 = .ok (.iconst 0, 1) := by decide +kernel
theorem dX6_readPlaces_58 : decode cX6_readPlaces 58 = .ok (.putfield 77, 3) := by decide +kernel
theorem dX6_readPlaces_61 : decode cX6_readPlaces 61 = .ok (.return_, 1) := by decide +kernel
theorem dX6_readHeat_0 : decode cX6_readHeat 0 = .ok (.aload_n 0, 1) := by decide +kernel
theorem dX6_readHeat_1 : decode cX6_readHeat 1 = .ok (.dup, 1) := by decide +kernel
theorem dX6_readHeat_2 : decode cX6_readHeat 2 = .ok (.getfield 32, 3) := by decide +kernel
theorem dX6_readHeat_5 : decode cX6_readHeat 5 = .ok (.iconst 1, 1) := by decide +kernel
theorem dX6_readHeat_6 : decode cX6_readHeat 6 = .ok (.iadd, 1) := by decide +kernel
theorem dX6_readHeat_7 : decode cX6_readHeat 7 = .ok (.putfield 32, 3) := by decide +kernel
theorem dX6_readHeat_10 : decode cX6_readHeat 10 = .ok (.aload_n 0, 1) := by decide +kernel
theorem dX6_readHeat_11 : decode cX6_readHeat 11 = .ok (.iconst 0, 1) := by decide +kernel
theorem dX6_readHeat_12 : decode cX6_readHeat 12 = .ok (.aload_n 0, 1) := by decide +kernel
theorem dX6_readHeat_13 : decode cX6_readHeat 13 = .ok (.getfield 18, 3) := by decide +kernel
theorem dX6_readHeat_16 : decode cX6_readHeat 16 = .ok (.getfield 51, 3) := by decide +kernel
theorem dX6_readHeat_19 : decode cX6_readHeat 19 = .ok (.iconst 1, 1) := by decide +kernel
theorem dX6_readHeat_20 : decode cX6_readHeat 20 = .ok (.isub, 1) := by decide +kernel
theorem dX6_readHeat_21 : decode cX6_readHeat 21 = .ok (.invokevirtual 70, 3) := by decide +kernel
theorem dX6_readHeat_24 : decode cX6_readHeat 24 = .ok (.istore_n 1, 1) := by decide +kernel
theorem dX6_readHeat_25 : decode cX6_readHeat 25 = .ok (.aload_n 0, 1) := by decide +kernel
theorem dX6_readHeat_26 : decode cX6_readHeat 26 = .ok (.getfield 35, 3) := by decide +kernel
theorem dX6_readHeat_29 : decode cX6_readHeat 29 = .ok (.ifCond .ne 24, 3) := by decide +kernel
theorem dX6_readHeat_32 : decode cX6_readHeat 32 = .ok (.aload_n 0, 1) := by decide +kernel
theorem dX6_readHeat_33 : decode cX6_readHeat 33 = .ok (.getfield 38, 3) := by decide +kernel
theorem dX6_readHeat_36 : decode cX6_readHeat 36 = .ok (.iload_n 1, 1) := by decide +kernel
theorem dX6_readHeat_37 : decode cX6_readHeat 37 = .ok (.ishr, 1) := by decide +kernel
theorem dX6_readHeat_38 : decode cX6_readHeat 38 = .ok (.iconst 1, 1) := by decide +kernel
theorem dX6_readHeat_39 : decode cX6_readHeat 39 = .ok (.iand, 1) := by decide +kernel
theorem dX6_readHeat_40 : decode cX6_readHeat 40 = .ok (.iconst 1, 1) := by decide +kernel
theorem dX6_readHeat_41 : decode cX6_readHeat 41 = .ok (.if_icmp .ne 12, 3) := by decide +kernel
theorem dX6_readHeat_44 : decode cX6_readHeat 44 = .ok (.aload_n 0, 1) := by decide +kernel
theorem dX6_readHeat_45 : decode cX6_readHeat 45 = .ok (.iconst 4, 1) := by decide +kernel
theorem dX6_readHeat_46 : decode cX6_readHeat 46 = .ok (.aload_n 0, 1) := by decide +kernel
theorem dX6_readHeat_47 : decode cX6_readHeat 47 = .ok (.getfield 80, 3) := by decide +kernel
theorem dX6_readHeat_50 : decode cX6_readHeat 50 = .ok (.invokevirtual 57, 3) := by decide +kernel
theorem dX6_readHeat_53 : decode cX6_readHeat 53 = .ok (.aload_n 0, 1) := by decide +kernel
theorem dX6_readHeat_54 : decode cX6_readHeat 54 = .ok (.iconst 0, 1) := by decide +kernel
theorem dX6_readHeat_55 : decode cX6_readHeat 55 = .ok (.bipush 9, 2) := by decide +kernel
theorem dX6_readHeat_57 : decode cX6_readHeat 57 = .ok (.invokevirtual 70, 3) := by decide +kernel
theorem dX6_readHeat_60 : decode cX6_readHeat 60 = .ok (.istore_n 2, 1) := by decide +kernel
theorem dX6_readHeat_61 : decode cX6_readHeat 61 = .ok (.aload_n 0, 1) := by decide +kernel
theorem dX6_readHeat_62 : decode cX6_readHeat 62 = .ok (.invokevirtual 74, 3) := by decide +kernel
theorem dX6_readHeat_65 : decode cX6_readHeat 65 = .ok (.aload_n 0, 1) := by decide +kernel
theorem dX6_readHeat_66 : decode cX6_readHeat 66 = .ok (.getfield 35, 3) := by decide +kernel
theorem dX6_readHeat_69 : decode cX6_readHeat 69 = .ok (.ifCond .ne 25, 3) := by decide +kernel
theorem dX6_readHeat_72 : decode cX6_readHeat 72 = .ok (.aload_n 0, 1) := by decide +kernel
theorem dX6_readHeat_73 : decode cX6_readHeat 73 = .ok (.getfield 18, 3) := by decide +kernel
theorem dX6_readHeat_76 : decode cX6_readHeat 76 = .ok (.getfield 83, 3) := by decide +kernel
theorem dX6_readHeat_79 : decode cX6_readHeat 79 = .ok (.iload_n 1, 1) := by decide +kernel
theorem dX6_readHeat_80 : decode cX6_readHeat 80 = .ok (.iload_n 2, 1) := by decide +kernel
theorem dX6_readHeat_81 : decode cX6_readHeat 81 = .ok (.iastore, 1) := by decide +kernel
theorem dX6_readHeat_82 : decode cX6_readHeat 82 = .ok (.aload_n 0, 1) := by decide +kernel
theorem dX6_readHeat_83 : decode cX6_readHeat 83 = .ok (.dup, 1) := by decide +kernel
theorem dX6_readHeat_84 : decode cX6_readHeat 84 = .ok (.getfield 38, 3) := by decide +kernel
theorem dX6_readHeat_87 : decode cX6_readHeat 87 = .ok (.iconst 1, 1) := by decide +kernel
theorem dX6_readHeat_88 : decode cX6_readHeat 88 = .ok (.iload_n 1, 1) := by decide +kernel
theorem dX6_readHeat_89 : decode cX6_readHeat 89 = .ok (.ishl, 1) := by decide +kernel
theorem dX6_readHeat_90 : decode cX6_readHeat 90 = .ok (.ior, 1) := by decide +kernel
theorem dX6_readHeat_91 : decode cX6_readHeat 91 = .ok (.putfield 38, 3) := by decide +kernel
theorem dX6_readHeat_94 : decode cX6_readHeat 94 = .ok (.return_, 1) := by decide +kernel
theorem dX6_readSleeper_0 : decode cX6_readSleeper 0 = .ok (.aload_n 0, 1) := by decide +kernel
theorem dX6_readSleeper_1 : decode cX6_readSleeper 1 = .ok (.getfield 18, 3) := by decide +kernel
theorem dX6_readSleeper_4 : decode cX6_readSleeper 4 = .ok (.getfield 86, 3) := by decide +kernel
theorem dX6_readSleeper_7 : decode cX6_readSleeper 7 = .ok (.aload_n 0, 1) := by decide +kernel
theorem dX6_readSleeper_8 : decode cX6_readSleeper 8 = .ok (.getfield 18, 3) := by decide +kernel
theorem dX6_readSleeper_11 : decode cX6_readSleeper 11 = .ok (.getfield 51, 3) := by decide +kernel
theorem dX6_readSleeper_14 : decode cX6_readSleeper 14 = .ok (.if_icmp .lt 13, 3) := by decide +kernel
theorem dX6_readSleeper_17 : decode cX6_readSleeper 17 = .ok (.aload_n 0, 1) := by decide +kernel
theorem dX6_readSleeper_18 : decode cX6_readSleeper 18 = .ok (.iconst 3, 1) := by decide +kernel
theorem dX6_readSleeper_19 : decode cX6_readSleeper 19 = .ok (.aload_n 0, 1) := by decide +kernel
theorem dX6_readSleeper_20 : decode cX6_readSleeper 20 = .ok (.getfield 32, 3) := by decide +kernel
theorem dX6_readSleeper_23 : decode cX6_readSleeper 23 = .ok (.invokevirtual 57, 3) := by decide +kernel
theorem dX6_readSleeper_26 : decode cX6_readSleeper 26 = .ok (.return_, 1) := by decide +kernel
theorem dX6_readSleeper_27 : decode cX6_readSleeper 27 = .ok (.aload_n 0, 1) := by decide +kernel
theorem dX6_readSleeper_28 : decode cX6_readSleeper 28 = .ok (.dup, 1) := by decide +kernel
theorem dX6_readSleeper_29 : decode cX6_readSleeper 29 = .ok (.getfield 32, 3) := by decide +kernel
theorem dX6_readSleeper_32 : decode cX6_readSleeper 32 = .ok (.iconst 1, 1) := by decide +kernel
theorem dX6_readSleeper_33 : decode cX6_readSleeper 33 = .ok (.iadd, 1) := by decide +kernel
theorem dX6_readSleeper_34 : decode cX6_readSleeper 34 = .ok (.putfield 32, 3) := by decide +kernel
theorem dX6_readSleeper_37 : decode cX6_readSleeper 37 = .ok (.aload_n 0, 1) := by decide +kernel
theorem dX6_readSleeper_38 : decode cX6_readSleeper 38 = .ok (.iconst 1, 1) := by decide +kernel
theorem dX6_readSleeper_39 : decode cX6_readSleeper 39 = .ok (.bipush 99, 2) := by decide +kernel
theorem dX6_readSleeper_41 : decode cX6_readSleeper 41 = .ok (.invokevirtual 70, 3) := by decide +kernel
theorem dX6_readSleeper_44 : decode cX6_readSleeper 44 = .ok (.istore_n 1, 1) := by decide +kernel
theorem dX6_readSleeper_45 : decode cX6_readSleeper 45 = .ok (.aload_n 0, 1) := by decide +kernel
theorem dX6_readSleeper_46 : decode cX6_readSleeper 46 = .ok (.iconst 0, 1) := by decide +kernel
theorem dX6_readSleeper_47 : decode cX6_readSleeper 47 = .ok (.bipush 9, 2) := by decide +kernel
theorem dX6_readSleeper_49 : decode cX6_readSleeper 49 = .ok (.invokevirtual 70, 3) := by decide +kernel
theorem dX6_readSleeper_52 : decode cX6_readSleeper 52 = .ok (.istore_n 2, 1) := by decide +kernel
theorem dX6_readSleeper_53 : decode cX6_readSleeper 53 = .ok (.aload_n 0, 1) := by decide +kernel
theorem dX6_readSleeper_54 : decode cX6_readSleeper 54 = .ok (.iconst 0, 1) := by decide +kernel
theorem dX6_readSleeper_55 : decode cX6_readSleeper 55 = .ok (.bipush 20, 2) := by decide +kernel
theorem dX6_readSleeper_57 : decode cX6_readSleeper 57 = .ok (.invokevirtual 70, 3) := by decide +kernel
theorem dX6_readSleeper_60 : decode cX6_readSleeper 60 = .ok (.istore_n 3, 1) := by decide +kernel
theorem dX6_readSleeper_61 : decode cX6_readSleeper 61 = .ok (.aload_n 0, 1) := by decide +kernel
theorem dX6_readSleeper_62 : decode cX6_readSleeper 62 = .ok (.iconst 0, 1) := by decide +kernel
theorem dX6_readSleeper_63 : decode cX6_readSleeper 63 = .ok (.bipush 98, 2) := by decide +kernel
theorem dX6_readSleeper_65 : decode cX6_readSleeper 65 = .ok (.invokevirtual 70, 3) := by decide +kernel
theorem dX6_readSleeper_68 : decode cX6_readSleeper 68 = .ok (.istore 4, 2) := by decide +kernel
theorem dX6_readSleeper_70 : decode cX6_readSleeper 70 = .ok (.aload_n 0, 1) := by decide +kernel
theorem dX6_readSleeper_71 : decode cX6_readSleeper 71 = .ok (.getfield 35, 3) := by decide +kernel
theorem dX6_readSleeper_74 : decode cX6_readSleeper 74 = .ok (.ifCond .ne 18, 3) := by decide +kernel
theorem dX6_readSleeper_77 : decode cX6_readSleeper 77 = .ok (.iload 4, 2) := by decide +kernel
theorem dX6_readSleeper_79 : decode cX6_readSleeper 79 = .ok (.iload_n 1, 1) := by decide +kernel
theorem dX6_readSleeper_80 : decode cX6_readSleeper 80 = .ok (.if_icmp .lt 12, 3) := by decide +kernel
theorem dX6_readSleeper_83 : decode cX6_readSleeper 83 = .ok (.aload_n 0, 1) := by decide +kernel
theorem dX6_readSleeper_84 : decode cX6_readSleeper 84 = .ok (.iconst 4, 1) := by decide +kernel
theorem dX6_readSleeper_85 : decode cX6_readSleeper 85 = .ok (.aload_n 0, 1) := by decide +kernel
theorem dX6_readSleeper_86 : decode cX6_readSleeper 86 = .ok (.getfield 80, 3) := by decide +kernel
theorem dX6_readSleeper_89 : decode cX6_readSleeper 89 = .ok (.invokevirtual 57, 3) := by decide +kernel
theorem dX6_readSleeper_92 : decode cX6_readSleeper 92 = .ok (.aload_n 0, 1) := by decide +kernel
theorem dX6_readSleeper_93 : decode cX6_readSleeper 93 = .ok (.invokevirtual 74, 3) := by decide +kernel
theorem dX6_readSleeper_96 : decode cX6_readSleeper 96 = .ok (.aload_n 0, 1) := by decide +kernel
theorem dX6_readSleeper_97 : decode cX6_readSleeper 97 = .ok (.getfield 35, 3) := by decide +kernel
theorem dX6_readSleeper_100 : decode cX6_readSleeper 100 = .ok (.ifCond .ne 68, 3) := by decide +kernel
theorem dX6_readSleeper_103 : decode cX6_readSleeper 103 = .ok (.aload_n 0, 1) := by decide +kernel
theorem dX6_readSleeper_104 : decode cX6_readSleeper 104 = .ok (.getfield 18, 3) := by decide +kernel
theorem dX6_readSleeper_107 : decode cX6_readSleeper 107 = .ok (.getfield 86, 3) := by decide +kernel
theorem dX6_readSleeper_110 : decode cX6_readSleeper 110 = .ok (.istore 5, 2) := by decide +kernel
theorem dX6_readSleeper_112 : decode cX6_readSleeper 112 = .ok (.aload_n 0, 1) := by decide +kernel
theorem dX6_readSleeper_113 : decode cX6_readSleeper 113 = .ok (.getfield 18, 3) := by decide +kernel
theorem dX6_readSleeper_116 : decode cX6_readSleeper 116 = .ok (.getfield 89, 3) := by decide +kernel
theorem dX6_readSleeper_119 : decode cX6_readSleeper 119 = .ok (.iload 5, 2) := by decide +kernel
theorem dX6_readSleeper_121 : decode cX6_readSleeper 121 = .ok (.iload_n 1, 1) := by decide +kernel
theorem dX6_readSleeper_122 : decode cX6_readSleeper 122 = .ok (.iastore, 1) := by decide +kernel
theorem dX6_readSleeper_123 : decode cX6_readSleeper 123 = .ok (.aload_n 0, 1) := by decide +kernel
theorem dX6_readSleeper_124 : decode cX6_readSleeper 124 = .ok (.getfield 18, 3) := by decide +kernel
theorem dX6_readSleeper_127 : decode cX6_readSleeper 127 = .ok (.getfield 92, 3) := by decide +kernel
theorem dX6_readSleeper_130 : decode cX6_readSleeper 130 = .ok (.iload 5, 2) := by decide +kernel
theorem dX6_readSleeper_132 : decode cX6_readSleeper 132 = .ok (.iload_n 2, 1) := by decide +kernel
theorem dX6_readSleeper_133 : decode cX6_readSleeper 133 = .ok (.iastore, 1) := by decide +kernel
theorem dX6_readSleeper_134 : decode cX6_readSleeper 134 = .ok (.aload_n 0, 1) := by decide +kernel
theorem dX6_readSleeper_135 : decode cX6_readSleeper 135 = .ok (.getfield 18, 3) := by decide +kernel
theorem dX6_readSleeper_138 : decode cX6_readSleeper 138 = .ok (.getfield 95, 3) := by decide +kernel
theorem dX6_readSleeper_141 : decode cX6_readSleeper 141 = .ok (.iload 5, 2) := by decide +kernel
theorem dX6_readSleeper_143 : decode cX6_readSleeper 143 = .ok (.iload_n 3, 1) := by decide +kernel
theorem dX6_readSleeper_144 : decode cX6_readSleeper 144 = .ok (.iastore, 1) := by decide +kernel
theorem dX6_readSleeper_145 : decode cX6_readSleeper 145 = .ok (.aload_n 0, 1) := by decide +kernel
theorem dX6_readSleeper_146 : decode cX6_readSleeper 146 = .ok (.getfield 18, 3) := by decide +kernel
theorem dX6_readSleeper_149 : decode cX6_readSleeper 149 = .ok (.getfield 98, 3) := by decide +kernel
theorem dX6_readSleeper_152 : decode cX6_readSleeper 152 = .ok (.iload 5, 2) := by decide +kernel
theorem dX6_readSleeper_154 : decode cX6_readSleeper 154 = .ok (.iload 4, 2) := by decide +kernel
theorem dX6_readSleeper_156 : decode cX6_readSleeper 156 = .ok (.iastore, 1) := by decide +kernel
theorem dX6_readSleeper_157 : decode cX6_readSleeper 157 = .ok (.aload_n 0, 1) := by decide +kernel
theorem dX6_readSleeper_158 : decode cX6_readSleeper 158 = .ok (.getfield 18, 3) := by decide +kernel
theorem dX6_readSleeper_161 : decode cX6_readSleeper 161 = .ok (.iload 5, 2) := by decide +kernel
theorem dX6_readSleeper_163 : decode cX6_readSleeper 163 = .ok (.iconst 1, 1) := by decide +kernel
theorem dX6_readSleeper_164 : decode cX6_readSleeper 164 = .ok (.iadd, 1) := by decide +kernel
theorem dX6_readSleeper_165 : decode cX6_readSleeper 165 = .ok (.putfield 86, 3) := by decide +kernel
theorem dX6_readSleeper_168 : decode cX6_readSleeper 168 = .ok (.return_, 1) := by decide +kernel
theorem dX6_readLaw_0 : decode cX6_readLaw 0 = .ok (.aload_n 0, 1) := by decide +kernel
theorem dX6_readLaw_1 : decode cX6_readLaw 1 = .ok (.getfield 41, 3) := by decide +kernel
theorem dX6_readLaw_4 : decode cX6_readLaw 4 = .ok (.ifCond .eq 13, 3) := by decide +kernel
theorem dX6_readLaw_7 : decode cX6_readLaw 7 = .ok (.aload_n 0, 1) := by decide +kernel
theorem dX6_readLaw_8 : decode cX6_readLaw 8 = .ok (.iconst 3, 1) := by decide +kernel
theorem dX6_readLaw_9 : decode cX6_readLaw 9 = .ok (.aload_n 0, 1) := by decide +kernel
theorem dX6_readLaw_10 : decode cX6_readLaw 10 = .ok (.getfield 32, 3) := by decide +kernel
theorem dX6_readLaw_13 : decode cX6_readLaw 13 = .ok (.invokevirtual 57, 3) := by decide +kernel
theorem dX6_readLaw_16 : decode cX6_readLaw 16 = .ok (.return_, 1) := by decide +kernel
theorem dX6_readLaw_17 : decode cX6_readLaw 17 = .ok (.aload_n 0, 1) := by decide +kernel
theorem dX6_readLaw_18 : decode cX6_readLaw 18 = .ok (.dup, 1) := by decide +kernel
theorem dX6_readLaw_19 : decode cX6_readLaw 19 = .ok (.getfield 32, 3) := by decide +kernel
theorem dX6_readLaw_22 : decode cX6_readLaw 22 = .ok (.iconst 1, 1) := by decide +kernel
theorem dX6_readLaw_23 : decode cX6_readLaw 23 = .ok (.iadd, 1) := by decide +kernel
theorem dX6_readLaw_24 : decode cX6_readLaw 24 = .ok (.putfield 32, 3) := by decide +kernel
theorem dX6_readLaw_27 : decode cX6_readLaw 27 = .ok (.aload_n 0, 1) := by decide +kernel
theorem dX6_readLaw_28 : decode cX6_readLaw 28 = .ok (.iconst 1, 1) := by decide +kernel
theorem dX6_readLaw_29 : decode cX6_readLaw 29 = .ok (.putfield 41, 3) := by decide +kernel
theorem dX6_readLaw_32 : decode cX6_readLaw 32 = .ok (.aload_n 0, 1) := by decide +kernel
theorem dX6_readLaw_33 : decode cX6_readLaw 33 = .ok (.getfield 18, 3) := by decide +kernel
theorem dX6_readLaw_36 : decode cX6_readLaw 36 = .ok (.getfield 101, 3) := by decide +kernel
theorem dX6_readLaw_39 : decode cX6_readLaw 39 = .ok (.iconst 0, 1) := by decide +kernel
theorem dX6_readLaw_40 : decode cX6_readLaw 40 = .ok (.aload_n 0, 1) := by decide +kernel
theorem dX6_readLaw_41 : decode cX6_readLaw 41 = .ok (.iconst 0, 1) := by decide +kernel
theorem dX6_readLaw_42 : decode cX6_readLaw 42 = .ok (.iconst 3, 1) := by decide +kernel
theorem dX6_readLaw_43 : decode cX6_readLaw 43 = .ok (.invokevirtual 70, 3) := by decide +kernel
theorem dX6_readLaw_46 : decode cX6_readLaw 46 = .ok (.iastore, 1) := by decide +kernel
theorem dX6_readLaw_47 : decode cX6_readLaw 47 = .ok (.iconst 1, 1) := by decide +kernel
theorem dX6_readLaw_48 : decode cX6_readLaw 48 = .ok (.istore_n 1, 1) := by decide +kernel
theorem dX6_readLaw_49 : decode cX6_readLaw 49 = .ok (.iconst 1, 1) := by decide +kernel
theorem dX6_readLaw_50 : decode cX6_readLaw 50 = .ok (.istore_n 2, 1) := by decide +kernel
theorem dX6_readLaw_51 : decode cX6_readLaw 51 = .ok (.iload_n 2, 1) := by decide +kernel
theorem dX6_readLaw_52 : decode cX6_readLaw 52 = .ok (.bipush 8, 2) := by decide +kernel
theorem dX6_readLaw_54 : decode cX6_readLaw 54 = .ok (.if_icmp .ge 46, 3) := by decide +kernel
theorem dX6_readLaw_57 : decode cX6_readLaw 57 = .ok (.aload_n 0, 1) := by decide +kernel
theorem dX6_readLaw_58 : decode cX6_readLaw 58 = .ok (.bipush 44, 2) := by decide +kernel
theorem dX6_readLaw_60 : decode cX6_readLaw 60 = .ok (.invokevirtual 104, 3) := by decide +kernel
theorem dX6_readLaw_63 : decode cX6_readLaw 63 = .ok (.ifCond .eq 37, 3) := by decide +kernel
theorem dX6_readLaw_66 : decode cX6_readLaw 66 = .ok (.aload_n 0, 1) := by decide +kernel
theorem dX6_readLaw_67 : decode cX6_readLaw 67 = .ok (.dup, 1) := by decide +kernel
theorem dX6_readLaw_68 : decode cX6_readLaw 68 = .ok (.getfield 32, 3) := by decide +kernel
theorem dX6_readLaw_71 : decode cX6_readLaw 71 = .ok (.iconst 1, 1) := by decide +kernel
theorem dX6_readLaw_72 : decode cX6_readLaw 72 = .ok (.iadd, 1) := by decide +kernel
theorem dX6_readLaw_73 : decode cX6_readLaw 73 = .ok (.putfield 32, 3) := by decide +kernel
theorem dX6_readLaw_76 : decode cX6_readLaw 76 = .ok (.aload_n 0, 1) := by decide +kernel
theorem dX6_readLaw_77 : decode cX6_readLaw 77 = .ok (.getfield 18, 3) := by decide +kernel
theorem dX6_readLaw_80 : decode cX6_readLaw 80 = .ok (.getfield 101, 3) := by decide +kernel
theorem dX6_readLaw_83 : decode cX6_readLaw 83 = .ok (.iload_n 2, 1) := by decide +kernel
theorem dX6_readLaw_84 : decode cX6_readLaw 84 = .ok (.aload_n 0, 1) := by decide +kernel
theorem dX6_readLaw_85 : decode cX6_readLaw 85 = .ok (.iconst 0, 1) := by decide +kernel
theorem dX6_readLaw_86 : decode cX6_readLaw 86 = .ok (.iconst 3, 1) := by decide +kernel
theorem dX6_readLaw_87 : decode cX6_readLaw 87 = .ok (.invokevirtual 70, 3) := by decide +kernel
theorem dX6_readLaw_90 : decode cX6_readLaw 90 = .ok (.iastore, 1) := by decide +kernel
theorem dX6_readLaw_91 : decode cX6_readLaw 91 = .ok (.iinc 1 1, 3) := by decide +kernel
theorem dX6_readLaw_94 : decode cX6_readLaw 94 = .ok (.iinc 2 1, 3) := by decide +kernel
theorem dX6_readLaw_97 : decode cX6_readLaw 97 = .ok (.goto (-46), 3) := by decide +kernel
theorem dX6_readLaw_100 : decode cX6_readLaw 100 = .ok (.aload_n 0, 1) := by decide +kernel
theorem dX6_readLaw_101 : decode cX6_readLaw 101 = .ok (.getfield 18, 3) := by decide +kernel
theorem dX6_readLaw_104 : decode cX6_readLaw 104 = .ok (.iload_n 1, 1) := by decide +kernel
theorem dX6_readLaw_105 : decode cX6_readLaw 105 = .ok (.putfield 108, 3) := by decide +kernel
theorem dX6_readLaw_108 : decode cX6_readLaw 108 = .ok (.aload_n 0, 1) := by decide +kernel
theorem dX6_readLaw_109 : decode cX6_readLaw 109 = .ok (.invokevirtual 74, 3) := by decide +kernel
theorem dX6_readLaw_112 : decode cX6_readLaw 112 = .ok (.return_, 1) := by decide +kernel
theorem dX6_nextIs_0 : decode cX6_nextIs 0 = .ok (.aload_n 0, 1) := by decide +kernel
theorem dX6_nextIs_1 : decode cX6_nextIs 1 = .ok (.getfield 35, 3) := by decide +kernel
theorem dX6_nextIs_4 : decode cX6_nextIs 4 = .ok (.ifCond .eq 5, 3) := by decide +kernel
theorem dX6_nextIs_7 : decode cX6_nextIs 7 = .ok (.iconst 0, 1) := by decide +kernel
theorem dX6_nextIs_8 : decode cX6_nextIs 8 = .ok (.ireturn, 1) := by decide +kernel
theorem dX6_nextIs_9 : decode cX6_nextIs 9 = .ok (.aload_n 0, 1) := by decide +kernel
theorem dX6_nextIs_10 : decode cX6_nextIs 10 = .ok (.invokevirtual 45, 3) := by decide +kernel
theorem dX6_nextIs_13 : decode cX6_nextIs 13 = .ok (.aload_n 0, 1) := by decide +kernel
theorem dX6_nextIs_14 : decode cX6_nextIs 14 = .ok (.getfield 32, 3) := by decide +kernel
theorem dX6_nextIs_17 : decode cX6_nextIs 17 = .ok (.aload_n 0, 1) := by decide +kernel
theorem dX6_nextIs_18 : decode cX6_nextIs 18 = .ok (.getfield 26, 3) := by decide +kernel
theorem dX6_nextIs_21 : decode cX6_nextIs 21 = .ok (.if_icmp .ge 20, 3) := by decide +kernel
theorem dX6_nextIs_24 : decode cX6_nextIs 24 = .ok (.aload_n 0, 1) := by decide +kernel
theorem dX6_nextIs_25 : decode cX6_nextIs 25 = .ok (.getfield 9, 3) := by decide +kernel
theorem dX6_nextIs_28 : decode cX6_nextIs 28 = .ok (.aload_n 0, 1) := by decide +kernel
theorem dX6_nextIs_29 : decode cX6_nextIs 29 = .ok (.getfield 32, 3) := by decide +kernel
theorem dX6_nextIs_32 : decode cX6_nextIs 32 = .ok (.iaload, 1) := by decide +kernel
theorem dX6_nextIs_33 : decode cX6_nextIs 33 = .ok (.iload_n 1, 1) := by decide +kernel
theorem dX6_nextIs_34 : decode cX6_nextIs 34 = .ok (.if_icmp .ne 7, 3) := by decide +kernel
theorem dX6_nextIs_37 : decode cX6_nextIs 37 = .ok (.iconst 1, 1) := by decide +kernel
theorem dX6_nextIs_38 : decode cX6_nextIs 38 = .ok (.goto 4, 3) := by decide +kernel
theorem dX6_nextIs_41 : decode cX6_nextIs 41 = .ok (.iconst 0, 1) := by decide +kernel
theorem dX6_nextIs_42 : decode cX6_nextIs 42 = .ok (.ireturn, 1) := by decide +kernel
theorem dX6_readEnd_0 : decode cX6_readEnd 0 = .ok (.aload_n 0, 1) := by decide +kernel
theorem dX6_readEnd_1 : decode cX6_readEnd 1 = .ok (.bipush 59, 2) := by decide +kernel
theorem dX6_readEnd_3 : decode cX6_readEnd 3 = .ok (.invokevirtual 104, 3) := by decide +kernel
theorem dX6_readEnd_6 : decode cX6_readEnd 6 = .ok (.ifCond .eq 16, 3) := by decide +kernel
theorem dX6_readEnd_9 : decode cX6_readEnd 9 = .ok (.aload_n 0, 1) := by decide +kernel
theorem dX6_readEnd_10 : decode cX6_readEnd 10 = .ok (.dup, 1) := by decide +kernel
theorem dX6_readEnd_11 : decode cX6_readEnd 11 = .ok (.getfield 32, 3) := by decide +kernel
theorem dX6_readEnd_14 : decode cX6_readEnd 14 = .ok (.iconst 1, 1) := by decide +kernel
theorem dX6_readEnd_15 : decode cX6_readEnd 15 = .ok (.iadd, 1) := by decide +kernel
theorem dX6_readEnd_16 : decode cX6_readEnd 16 = .ok (.putfield 32, 3) := by decide +kernel
theorem dX6_readEnd_19 : decode cX6_readEnd 19 = .ok (.goto 12, 3) := by decide +kernel
theorem dX6_readEnd_22 : decode cX6_readEnd 22 = .ok (.aload_n 0, 1) := by decide +kernel
theorem dX6_readEnd_23 : decode cX6_readEnd 23 = .ok (.iconst 1, 1) := by decide +kernel
theorem dX6_readEnd_24 : decode cX6_readEnd 24 = .ok (.aload_n 0, 1) := by decide +kernel
theorem dX6_readEnd_25 : decode cX6_readEnd 25 = .ok (.getfield 32, 3) := by decide +kernel
theorem dX6_readEnd_28 : decode cX6_readEnd 28 = .ok (.invokevirtual 57, 3) := by decide +kernel
theorem dX6_readEnd_31 : decode cX6_readEnd 31 = .ok (.return_, 1) := by decide +kernel
theorem dX6_readNumber_0 : decode cX6_readNumber 0 = .ok (.aload_n 0, 1) := by decide +kernel
theorem dX6_readNumber_1 : decode cX6_readNumber 1 = .ok (.getfield 35, 3) := by decide +kernel
theorem dX6_readNumber_4 : decode cX6_readNumber 4 = .ok (.ifCond .eq 5, 3) := by decide +kernel
theorem dX6_readNumber_7 : decode cX6_readNumber 7 = .ok (.iconst 0, 1) := by decide +kernel
theorem dX6_readNumber_8 : decode cX6_readNumber 8 = .ok (.ireturn, 1) := by decide +kernel
theorem dX6_readNumber_9 : decode cX6_readNumber 9 = .ok (.aload_n 0, 1) := by decide +kernel
theorem dX6_readNumber_10 : decode cX6_readNumber 10 = .ok (.invokevirtual 45, 3) := by decide +kernel
theorem dX6_readNumber_13 : decode cX6_readNumber 13 = .ok (.aload_n 0, 1) := by decide +kernel
theorem dX6_readNumber_14 : decode cX6_readNumber 14 = .ok (.aload_n 0, 1) := by decide +kernel
theorem dX6_readNumber_15 : decode cX6_readNumber 15 = .ok (.getfield 32, 3) := by decide +kernel
theorem dX6_readNumber_18 : decode cX6_readNumber 18 = .ok (.putfield 80, 3) := by decide +kernel
theorem dX6_readNumber_21 : decode cX6_readNumber 21 = .ok (.iconst 0, 1) := by decide +kernel
theorem dX6_readNumber_22 : decode cX6_readNumber 22 = .ok (.istore_n 3, 1) := by decide +kernel
theorem dX6_readNumber_23 : decode cX6_readNumber 23 = .ok (.aload_n 0, 1) := by decide +kernel
theorem dX6_readNumber_24 : decode cX6_readNumber 24 = .ok (.getfield 32, 3) := by decide +kernel
theorem dX6_readNumber_27 : decode cX6_readNumber 27 = .ok (.aload_n 0, 1) := by decide +kernel
theorem dX6_readNumber_28 : decode cX6_readNumber 28 = .ok (.getfield 26, 3) := by decide +kernel
theorem dX6_readNumber_31 : decode cX6_readNumber 31 = .ok (.if_icmp .ge 75, 3) := by decide +kernel
theorem dX6_readNumber_34 : decode cX6_readNumber 34 = .ok (.aload_n 0, 1) := by decide +kernel
theorem dX6_readNumber_35 : decode cX6_readNumber 35 = .ok (.getfield 9, 3) := by decide +kernel
theorem dX6_readNumber_38 : decode cX6_readNumber 38 = .ok (.aload_n 0, 1) := by decide +kernel
theorem dX6_readNumber_39 : decode cX6_readNumber 39 = .ok (.getfield 32, 3) := by decide +kernel
theorem dX6_readNumber_42 : decode cX6_readNumber 42 = .ok (.iaload, 1) := by decide +kernel
theorem dX6_readNumber_43 : decode cX6_readNumber 43 = .ok (.bipush 48, 2) := by decide +kernel
theorem dX6_readNumber_45 : decode cX6_readNumber 45 = .ok (.if_icmp .lt 61, 3) := by decide +kernel
theorem dX6_readNumber_48 : decode cX6_readNumber 48 = .ok (.aload_n 0, 1) := by decide +kernel
theorem dX6_readNumber_49 : decode cX6_readNumber 49 = .ok (.getfield 9, 3) := by decide +kernel
theorem dX6_readNumber_52 : decode cX6_readNumber 52 = .ok (.aload_n 0, 1) := by decide +kernel
theorem dX6_readNumber_53 : decode cX6_readNumber 53 = .ok (.getfield 32, 3) := by decide +kernel
theorem dX6_readNumber_56 : decode cX6_readNumber 56 = .ok (.iaload, 1) := by decide +kernel
theorem dX6_readNumber_57 : decode cX6_readNumber 57 = .ok (.bipush 57, 2) := by decide +kernel
theorem dX6_readNumber_59 : decode cX6_readNumber 59 = .ok (.if_icmp .gt 47, 3) := by decide +kernel
theorem dX6_readNumber_62 : decode cX6_readNumber 62 = .ok (.aload_n 0, 1) := by decide +kernel
theorem dX6_readNumber_63 : decode cX6_readNumber 63 = .ok (.getfield 32, 3) := by decide +kernel
theorem dX6_readNumber_66 : decode cX6_readNumber 66 = .ok (.aload_n 0, 1) := by decide +kernel
theorem dX6_readNumber_67 : decode cX6_readNumber 67 = .ok (.getfield 80, 3) := by decide +kernel
theorem dX6_readNumber_70 : decode cX6_readNumber 70 = .ok (.isub, 1) := by decide +kernel
theorem dX6_readNumber_71 : decode cX6_readNumber 71 = .ok (.iconst 3, 1) := by decide +kernel
theorem dX6_readNumber_72 : decode cX6_readNumber 72 = .ok (.if_icmp .ge 21, 3) := by decide +kernel
theorem dX6_readNumber_75 : decode cX6_readNumber 75 = .ok (.iload_n 3, 1) := by decide +kernel
theorem dX6_readNumber_76 : decode cX6_readNumber 76 = .ok (.bipush 10, 2) := by decide +kernel
theorem dX6_readNumber_78 : decode cX6_readNumber 78 = .ok (.imul, 1) := by decide +kernel
theorem dX6_readNumber_79 : decode cX6_readNumber 79 = .ok (.aload_n 0, 1) := by decide +kernel
theorem dX6_readNumber_80 : decode cX6_readNumber 80 = .ok (.getfield 9, 3) := by decide +kernel
theorem dX6_readNumber_83 : decode cX6_readNumber 83 = .ok (.aload_n 0, 1) := by decide +kernel
theorem dX6_readNumber_84 : decode cX6_readNumber 84 = .ok (.getfield 32, 3) := by decide +kernel
theorem dX6_readNumber_87 : decode cX6_readNumber 87 = .ok (.iaload, 1) := by decide +kernel
theorem dX6_readNumber_88 : decode cX6_readNumber 88 = .ok (.iadd, 1) := by decide +kernel
theorem dX6_readNumber_89 : decode cX6_readNumber 89 = .ok (.bipush 48, 2) := by decide +kernel
theorem dX6_readNumber_91 : decode cX6_readNumber 91 = .ok (.isub, 1) := by decide +kernel
theorem dX6_readNumber_92 : decode cX6_readNumber 92 = .ok (.istore_n 3, 1) := by decide +kernel
theorem dX6_readNumber_93 : decode cX6_readNumber 93 = .ok (.aload_n 0, 1) := by decide +kernel
theorem dX6_readNumber_94 : decode cX6_readNumber 94 = .ok (.dup, 1) := by decide +kernel
theorem dX6_readNumber_95 : decode cX6_readNumber 95 = .ok (.getfield 32, 3) := by decide +kernel
theorem dX6_readNumber_98 : decode cX6_readNumber 98 = .ok (.iconst 1, 1) := by decide +kernel
theorem dX6_readNumber_99 : decode cX6_readNumber 99 = .ok (.iadd, 1) := by decide +kernel
theorem dX6_readNumber_100 : decode cX6_readNumber 100 = .ok (.putfield 32, 3) := by decide +kernel
theorem dX6_readNumber_103 : decode cX6_readNumber 103 = .ok (.goto (-80), 3) := by decide +kernel
theorem dX6_readNumber_106 : decode cX6_readNumber 106 = .ok (.aload_n 0, 1) := by decide +kernel
theorem dX6_readNumber_107 : decode cX6_readNumber 107 = .ok (.getfield 32, 3) := by decide +kernel
theorem dX6_readNumber_110 : decode cX6_readNumber 110 = .ok (.aload_n 0, 1) := by decide +kernel
theorem dX6_readNumber_111 : decode cX6_readNumber 111 = .ok (.getfield 80, 3) := by decide +kernel
theorem dX6_readNumber_114 : decode cX6_readNumber 114 = .ok (.if_icmp .ne 15, 3) := by decide +kernel
theorem dX6_readNumber_117 : decode cX6_readNumber 117 = .ok (.aload_n 0, 1) := by decide +kernel
theorem dX6_readNumber_118 : decode cX6_readNumber 118 = .ok (.iconst 1, 1) := by decide +kernel
theorem dX6_readNumber_119 : decode cX6_readNumber 119 = .ok (.aload_n 0, 1) := by decide +kernel
theorem dX6_readNumber_120 : decode cX6_readNumber 120 = .ok (.getfield 32, 3) := by decide +kernel
theorem dX6_readNumber_123 : decode cX6_readNumber 123 = .ok (.invokevirtual 57, 3) := by decide +kernel
theorem dX6_readNumber_126 : decode cX6_readNumber 126 = .ok (.goto 35, 3) := by decide +kernel
theorem dX6_readNumber_129 : decode cX6_readNumber 129 = .ok (.aload_n 0, 1) := by decide +kernel
theorem dX6_readNumber_130 : decode cX6_readNumber 130 = .ok (.getfield 32, 3) := by decide +kernel
theorem dX6_readNumber_133 : decode cX6_readNumber 133 = .ok (.aload_n 0, 1) := by decide +kernel
theorem dX6_readNumber_134 : decode cX6_readNumber 134 = .ok (.getfield 80, 3) := by decide +kernel
theorem dX6_readNumber_137 : decode cX6_readNumber 137 = .ok (.isub, 1) := by decide +kernel
theorem dX6_readNumber_138 : decode cX6_readNumber 138 = .ok (.iconst 3, 1) := by decide +kernel
theorem dX6_readNumber_139 : decode cX6_readNumber 139 = .ok (.if_icmp .gt 13, 3) := by decide +kernel
theorem dX6_readNumber_142 : decode cX6_readNumber 142 = .ok (.iload_n 3, 1) := by decide +kernel
theorem dX6_readNumber_143 : decode cX6_readNumber 143 = .ok (.iload_n 1, 1) := by decide +kernel
theorem dX6_readNumber_144 : decode cX6_readNumber 144 = .ok (.if_icmp .lt 8, 3) := by decide +kernel
theorem dX6_readNumber_147 : decode cX6_readNumber 147 = .ok (.iload_n 3, 1) := by decide +kernel
theorem dX6_readNumber_148 : decode cX6_readNumber 148 = .ok (.iload_n 2, 1) := by decide +kernel
theorem dX6_readNumber_149 : decode cX6_readNumber 149 = .ok (.if_icmp .le 12, 3) := by decide +kernel
theorem dX6_readNumber_152 : decode cX6_readNumber 152 = .ok (.aload_n 0, 1) := by decide +kernel
theorem dX6_readNumber_153 : decode cX6_readNumber 153 = .ok (.iconst 2, 1) := by decide +kernel
theorem dX6_readNumber_154 : decode cX6_readNumber 154 = .ok (.aload_n 0, 1) := by decide +kernel
theorem dX6_readNumber_155 : decode cX6_readNumber 155 = .ok (.getfield 80, 3) := by decide +kernel
theorem dX6_readNumber_158 : decode cX6_readNumber 158 = .ok (.invokevirtual 57, 3) := by decide +kernel
theorem dX6_readNumber_161 : decode cX6_readNumber 161 = .ok (.iload_n 3, 1) := by decide +kernel
theorem dX6_readNumber_162 : decode cX6_readNumber 162 = .ok (.ireturn, 1) := by decide +kernel
theorem dX6_skipBlanks_0 : decode cX6_skipBlanks 0 = .ok (.aload_n 0, 1) := by decide +kernel
theorem dX6_skipBlanks_1 : decode cX6_skipBlanks 1 = .ok (.getfield 32, 3) := by decide +kernel
theorem dX6_skipBlanks_4 : decode cX6_skipBlanks 4 = .ok (.aload_n 0, 1) := by decide +kernel
theorem dX6_skipBlanks_5 : decode cX6_skipBlanks 5 = .ok (.getfield 26, 3) := by decide +kernel
theorem dX6_skipBlanks_8 : decode cX6_skipBlanks 8 = .ok (.if_icmp .ge 30, 3) := by decide +kernel
theorem dX6_skipBlanks_11 : decode cX6_skipBlanks 11 = .ok (.aload_n 0, 1) := by decide +kernel
theorem dX6_skipBlanks_12 : decode cX6_skipBlanks 12 = .ok (.getfield 9, 3) := by decide +kernel
theorem dX6_skipBlanks_15 : decode cX6_skipBlanks 15 = .ok (.aload_n 0, 1) := by decide +kernel
theorem dX6_skipBlanks_16 : decode cX6_skipBlanks 16 = .ok (.getfield 32, 3) := by decide +kernel
theorem dX6_skipBlanks_19 : decode cX6_skipBlanks 19 = .ok (.iaload, 1) := by decide +kernel
theorem dX6_skipBlanks_20 : decode cX6_skipBlanks 20 = .ok (.bipush 32, 2) := by decide +kernel
theorem dX6_skipBlanks_22 : decode cX6_skipBlanks 22 = .ok (.if_icmp .ne 16, 3) := by decide +kernel
theorem dX6_skipBlanks_25 : decode cX6_skipBlanks 25 = .ok (.aload_n 0, 1) := by decide +kernel
theorem dX6_skipBlanks_26 : decode cX6_skipBlanks 26 = .ok (.dup, 1) := by decide +kernel
theorem dX6_skipBlanks_27 : decode cX6_skipBlanks 27 = .ok (.getfield 32, 3) := by decide +kernel
theorem dX6_skipBlanks_30 : decode cX6_skipBlanks 30 = .ok (.iconst 1, 1) := by decide +kernel
theorem dX6_skipBlanks_31 : decode cX6_skipBlanks 31 = .ok (.iadd, 1) := by decide +kernel
theorem dX6_skipBlanks_32 : decode cX6_skipBlanks 32 = .ok (.putfield 32, 3) := by decide +kernel
theorem dX6_skipBlanks_35 : decode cX6_skipBlanks 35 = .ok (.goto (-35), 3) := by decide +kernel
theorem dX6_skipBlanks_38 : decode cX6_skipBlanks 38 = .ok (.return_, 1) := by decide +kernel
theorem dX6_blame_0 : decode cX6_blame 0 = .ok (.aload_n 0, 1) := by decide +kernel
theorem dX6_blame_1 : decode cX6_blame 1 = .ok (.getfield 35, 3) := by decide +kernel
theorem dX6_blame_4 : decode cX6_blame 4 = .ok (.ifCond .ne 13, 3) := by decide +kernel
theorem dX6_blame_7 : decode cX6_blame 7 = .ok (.aload_n 0, 1) := by decide +kernel
theorem dX6_blame_8 : decode cX6_blame 8 = .ok (.iload_n 1, 1) := by decide +kernel
theorem dX6_blame_9 : decode cX6_blame 9 = .ok (.putfield 35, 3) := by decide +kernel
theorem dX6_blame_12 : decode cX6_blame 12 = .ok (.aload_n 0, 1) := by decide +kernel
theorem dX6_blame_13 : decode cX6_blame 13 = .ok (.iload_n 2, 1) := by decide +kernel
theorem dX6_blame_14 : decode cX6_blame 14 = .ok (.putfield 22, 3) := by decide +kernel
theorem dX6_blame_17 : decode cX6_blame 17 = .ok (.return_, 1) := by decide +kernel
theorem dX7_init_0 : decode cX7_init 0 = .ok (.aload_n 0, 1) := by decide +kernel
theorem dX7_init_1 : decode cX7_init 1 = .ok (.invokespecial 3, 3) := by decide +kernel
theorem dX7_init_4 : decode cX7_init 4 = .ok (.aload_n 0, 1) := by decide +kernel
theorem dX7_init_5 : decode cX7_init 5 = .ok (.aload_n 1, 1) := by decide +kernel
theorem dX7_init_6 : decode cX7_init 6 = .ok (.putfield 9, 3) := by decide +kernel
theorem dX7_init_9 : decode cX7_init 9 = .ok (.return_, 1) := by decide +kernel
theorem dX7_seek_0 : decode cX7_seek 0 = .ok (.iconst 1, 1) := by decide +kernel
theorem dX7_seek_1 : decode cX7_seek 1 = .ok (.istore_n 3, 1) := by decide +kernel
theorem dX7_seek_2 : decode cX7_seek 2 = .ok (.iload_n 3, 1) := by decide +kernel
theorem dX7_seek_3 : decode cX7_seek 3 = .ok (.iconst 4, 1) := by decide +kernel
theorem dX7_seek_4 : decode cX7_seek 4 = .ok (.if_icmp .gt 52, 3) := by decide +kernel
theorem dX7_seek_7 : decode cX7_seek 7 = .ok (.iconst 0, 1) := by decide +kernel
theorem dX7_seek_8 : decode cX7_seek 8 = .ok (.istore 4, 2) := by decide +kernel
theorem dX7_seek_10 : decode cX7_seek 10 = .ok (.iload 4, 2) := by decide +kernel
theorem dX7_seek_12 : decode cX7_seek 12 = .ok (.iconst 1, 1) := by decide +kernel
theorem dX7_seek_13 : decode cX7_seek 13 = .ok (.iconst 2, 1) := by decide +kernel
theorem dX7_seek_14 : decode cX7_seek 14 = .ok (.iload_n 3, 1) := by decide +kernel
theorem dX7_seek_15 : decode cX7_seek 15 = .ok (.imul, 1) := by decide +kernel
theorem dX7_seek_16 : decode cX7_seek 16 = .ok (.ishl, 1) := by decide +kernel
theorem dX7_seek_17 : decode cX7_seek 17 = .ok (.if_icmp .ge 33, 3) := by decide +kernel
theorem dX7_seek_20 : decode cX7_seek 20 = .ok (.aload_n 0, 1) := by decide +kernel
theorem dX7_seek_21 : decode cX7_seek 21 = .ok (.aload_n 1, 1) := by decide +kernel
theorem dX7_seek_22 : decode cX7_seek 22 = .ok (.iload_n 2, 1) := by decide +kernel
theorem dX7_seek_23 : decode cX7_seek 23 = .ok (.iload 4, 2) := by decide +kernel
theorem dX7_seek_25 : decode cX7_seek 25 = .ok (.iload_n 3, 1) := by decide +kernel
theorem dX7_seek_26 : decode cX7_seek 26 = .ok (.invokevirtual 15, 3) := by decide +kernel
theorem dX7_seek_29 : decode cX7_seek 29 = .ok (.ifCond .eq 15, 3) := by decide +kernel
theorem dX7_seek_32 : decode cX7_seek 32 = .ok (.aload_n 0, 1) := by decide +kernel
theorem dX7_seek_33 : decode cX7_seek 33 = .ok (.iload_n 3, 1) := by decide +kernel
theorem dX7_seek_34 : decode cX7_seek 34 = .ok (.putfield 19, 3) := by decide +kernel
theorem dX7_seek_37 : decode cX7_seek 37 = .ok (.aload_n 0, 1) := by decide +kernel
theorem dX7_seek_38 : decode cX7_seek 38 = .ok (.iload 4, 2) := by decide +kernel
theorem dX7_seek_40 : decode cX7_seek 40 = .ok (.putfield 23, 3) := by decide +kernel
theorem dX7_seek_43 : decode cX7_seek 43 = .ok (.return_, 1) := by decide +kernel
theorem dX7_seek_44 : decode cX7_seek 44 = .ok (.iinc 4 1, 3) := by decide +kernel
theorem dX7_seek_47 : decode cX7_seek 47 = .ok (.goto (-37), 3) := by decide +kernel
theorem dX7_seek_50 : decode cX7_seek 50 = .ok (.iinc 3 1, 3) := by decide +kernel
theorem dX7_seek_53 : decode cX7_seek 53 = .ok (.goto (-51), 3) := by decide +kernel
theorem dX7_seek_56 : decode cX7_seek 56 = .ok (.aload_n 0, 1) := by decide +kernel
theorem dX7_seek_57 : decode cX7_seek 57 = .ok (.iconst (-1), 1) := by decide +kernel
theorem dX7_seek_58 : decode cX7_seek 58 = .ok (.putfield 19, 3) := by decide +kernel
theorem dX7_seek_61 : decode cX7_seek 61 = .ok (.aload_n 0, 1) := by decide +kernel
theorem dX7_seek_62 : decode cX7_seek 62 = .ok (.iconst 0, 1) := by decide +kernel
theorem dX7_seek_63 : decode cX7_seek 63 = .ok (.putfield 23, 3) := by decide +kernel
theorem dX7_seek_66 : decode cX7_seek 66 = .ok (.return_, 1) := by decide +kernel
theorem dX7_nobodyWakes_0 : decode cX7_nobodyWakes 0 = .ok (.aload_n 0, 1) := by decide +kernel
theorem dX7_nobodyWakes_1 : decode cX7_nobodyWakes 1 = .ok (.getfield 9, 3) := by decide +kernel
theorem dX7_nobodyWakes_4 : decode cX7_nobodyWakes 4 = .ok (.aload_n 1, 1) := by decide +kernel
theorem dX7_nobodyWakes_5 : decode cX7_nobodyWakes 5 = .ok (.invokevirtual 26, 3) := by decide +kernel
theorem dX7_nobodyWakes_8 : decode cX7_nobodyWakes 8 = .ok (.iconst 0, 1) := by decide +kernel
theorem dX7_nobodyWakes_9 : decode cX7_nobodyWakes 9 = .ok (.istore 5, 2) := by decide +kernel
theorem dX7_nobodyWakes_11 : decode cX7_nobodyWakes 11 = .ok (.iconst 0, 1) := by decide +kernel
theorem dX7_nobodyWakes_12 : decode cX7_nobodyWakes 12 = .ok (.istore 6, 2) := by decide +kernel
theorem dX7_nobodyWakes_14 : decode cX7_nobodyWakes 14 = .ok (.iload 6, 2) := by decide +kernel
theorem dX7_nobodyWakes_16 : decode cX7_nobodyWakes 16 = .ok (.iload_n 2, 1) := by decide +kernel
theorem dX7_nobodyWakes_17 : decode cX7_nobodyWakes 17 = .ok (.if_icmp .ge 55, 3) := by decide +kernel
theorem dX7_nobodyWakes_20 : decode cX7_nobodyWakes 20 = .ok (.aload_n 0, 1) := by decide +kernel
theorem dX7_nobodyWakes_21 : decode cX7_nobodyWakes 21 = .ok (.getfield 9, 3) := by decide +kernel
theorem dX7_nobodyWakes_24 : decode cX7_nobodyWakes 24 = .ok (.iload_n 3, 1) := by decide +kernel
theorem dX7_nobodyWakes_25 : decode cX7_nobodyWakes 25 = .ok (.iload 4, 2) := by decide +kernel
theorem dX7_nobodyWakes_27 : decode cX7_nobodyWakes 27 = .ok (.iload 5, 2) := by decide +kernel
theorem dX7_nobodyWakes_29 : decode cX7_nobodyWakes 29 = .ok (.invokestatic 32, 3) := by decide +kernel
theorem dX7_nobodyWakes_32 : decode cX7_nobodyWakes 32 = .ok (.invokevirtual 36, 3) := by decide +kernel
theorem dX7_nobodyWakes_35 : decode cX7_nobodyWakes 35 = .ok (.aload_n 0, 1) := by decide +kernel
theorem dX7_nobodyWakes_36 : decode cX7_nobodyWakes 36 = .ok (.getfield 9, 3) := by decide +kernel
theorem dX7_nobodyWakes_39 : decode cX7_nobodyWakes 39 = .ok (.invokevirtual 40, 3) := by decide +kernel
theorem dX7_nobodyWakes_42 : decode cX7_nobodyWakes 42 = .ok (.ifCond .eq 5, 3) := by decide +kernel
theorem dX7_nobodyWakes_45 : decode cX7_nobodyWakes 45 = .ok (.iconst 0, 1) := by decide +kernel
theorem dX7_nobodyWakes_46 : decode cX7_nobodyWakes 46 = .ok (.ireturn, 1) := by decide +kernel
theorem dX7_nobodyWakes_47 : decode cX7_nobodyWakes 47 = .ok (.iload 5, 2) := by decide +kernel
theorem dX7_nobodyWakes_49 : decode cX7_nobodyWakes 49 = .ok (.iconst 1, 1) := by decide +kernel
theorem dX7_nobodyWakes_50 : decode cX7_nobodyWakes 50 = .ok (.iadd, 1) := by decide +kernel
theorem dX7_nobodyWakes_51 : decode cX7_nobodyWakes 51 = .ok (.iload 4, 2) := by decide +kernel
theorem dX7_nobodyWakes_53 : decode cX7_nobodyWakes 53 = .ok (.if_icmp .ge 10, 3) := by decide +kernel
theorem dX7_nobodyWakes_56 : decode cX7_nobodyWakes 56 = .ok (.iload 5, 2) := by decide +kernel
theorem dX7_nobodyWakes_58 : decode cX7_nobodyWakes 58 = .ok (.iconst 1, 1) := by decide +kernel
theorem dX7_nobodyWakes_59 : decode cX7_nobodyWakes 59 = .ok (.iadd, 1) := by decide +kernel
theorem dX7_nobodyWakes_60 : decode cX7_nobodyWakes 60 = .ok (.goto 4, 3) := by decide +kernel
theorem dX7_nobodyWakes_63 : decode cX7_nobodyWakes 63 = .ok (.iconst 0, 1) := by decide +kernel
theorem dX7_nobodyWakes_64 : decode cX7_nobodyWakes 64 = .ok (.istore 5, 2) := by decide +kernel
theorem dX7_nobodyWakes_66 : decode cX7_nobodyWakes 66 = .ok (.iinc 6 1, 3) := by decide +kernel
theorem dX7_nobodyWakes_69 : decode cX7_nobodyWakes 69 = .ok (.goto (-55), 3) := by decide +kernel
theorem dX7_nobodyWakes_72 : decode cX7_nobodyWakes 72 = .ok (.iconst 1, 1) := by decide +kernel
theorem dX7_nobodyWakes_73 : decode cX7_nobodyWakes 73 = .ok (.ireturn, 1) := by decide +kernel
theorem dX8_init_0 : decode cX8_init 0 = .ok (.aload_n 0, 1) := by decide +kernel
theorem dX8_init_1 : decode cX8_init 1 = .ok (.invokespecial 3, 3) := by decide +kernel
theorem dX8_init_4 : decode cX8_init 4 = .ok (.aload_n 0, 1) := by decide +kernel
theorem dX8_init_5 : decode cX8_init 5 = .ok (.sipush 201, 3) := by decide +kernel
theorem dX8_init_8 : decode cX8_init 8 = .ok (.newarray .long, 2) := by decide +kernel
theorem dX8_init_10 : decode cX8_init 10 = .ok (.putfield 9, 3) := by decide +kernel
theorem dX8_init_13 : decode cX8_init 13 = .ok (.aload_n 0, 1) := by decide +kernel
theorem dX8_init_14 : decode cX8_init 14 = .ok (.aload_n 1, 1) := by decide +kernel
theorem dX8_init_15 : decode cX8_init 15 = .ok (.putfield 15, 3) := by decide +kernel
theorem dX8_init_18 : decode cX8_init 18 = .ok (.return_, 1) := by decide +kernel
theorem dX8_seek_0 : decode cX8_seek 0 = .ok (.aload_n 0, 1) := by decide +kernel
theorem dX8_seek_1 : decode cX8_seek 1 = .ok (.iconst (-1), 1) := by decide +kernel
theorem dX8_seek_2 : decode cX8_seek 2 = .ok (.putfield 19, 3) := by decide +kernel
theorem dX8_seek_5 : decode cX8_seek 5 = .ok (.aload_n 0, 1) := by decide +kernel
theorem dX8_seek_6 : decode cX8_seek 6 = .ok (.iconst 0, 1) := by decide +kernel
theorem dX8_seek_7 : decode cX8_seek 7 = .ok (.putfield 23, 3) := by decide +kernel
theorem dX8_seek_10 : decode cX8_seek 10 = .ok (.aload_n 0, 1) := by decide +kernel
theorem dX8_seek_11 : decode cX8_seek 11 = .ok (.getfield 15, 3) := by decide +kernel
theorem dX8_seek_14 : decode cX8_seek 14 = .ok (.aload_n 1, 1) := by decide +kernel
theorem dX8_seek_15 : decode cX8_seek 15 = .ok (.invokevirtual 26, 3) := by decide +kernel
theorem dX8_seek_18 : decode cX8_seek 18 = .ok (.aload_n 0, 1) := by decide +kernel
theorem dX8_seek_19 : decode cX8_seek 19 = .ok (.getfield 9, 3) := by decide +kernel
theorem dX8_seek_22 : decode cX8_seek 22 = .ok (.iconst 0, 1) := by decide +kernel
theorem dX8_seek_23 : decode cX8_seek 23 = .ok (.aload_n 0, 1) := by decide +kernel
theorem dX8_seek_24 : decode cX8_seek 24 = .ok (.getfield 15, 3) := by decide +kernel
theorem dX8_seek_27 : decode cX8_seek 27 = .ok (.invokevirtual 32, 3) := by decide +kernel
theorem dX8_seek_30 : decode cX8_seek 30 = .ok (.lastore, 1) := by decide +kernel
theorem dX8_seek_31 : decode cX8_seek 31 = .ok (.iconst 1, 1) := by decide +kernel
theorem dX8_seek_32 : decode cX8_seek 32 = .ok (.istore_n 2, 1) := by decide +kernel
theorem dX8_seek_33 : decode cX8_seek 33 = .ok (.iload_n 2, 1) := by decide +kernel
theorem dX8_seek_34 : decode cX8_seek 34 = .ok (.sipush 200, 3) := by decide +kernel
theorem dX8_seek_37 : decode cX8_seek 37 = .ok (.if_icmp .gt 72, 3) := by decide +kernel
theorem dX8_seek_40 : decode cX8_seek 40 = .ok (.iconst 0, 1) := by decide +kernel
theorem dX8_seek_41 : decode cX8_seek 41 = .ok (.istore_n 3, 1) := by decide +kernel
theorem dX8_seek_42 : decode cX8_seek 42 = .ok (.iload_n 3, 1) := by decide +kernel
theorem dX8_seek_43 : decode cX8_seek 43 = .ok (.aload_n 1, 1) := by decide +kernel
theorem dX8_seek_44 : decode cX8_seek 44 = .ok (.getfield 36, 3) := by decide +kernel
theorem dX8_seek_47 : decode cX8_seek 47 = .ok (.getfield 40, 3) := by decide +kernel
theorem dX8_seek_50 : decode cX8_seek 50 = .ok (.if_icmp .ge 16, 3) := by decide +kernel
theorem dX8_seek_53 : decode cX8_seek 53 = .ok (.aload_n 0, 1) := by decide +kernel
theorem dX8_seek_54 : decode cX8_seek 54 = .ok (.getfield 15, 3) := by decide +kernel
theorem dX8_seek_57 : decode cX8_seek 57 = .ok (.invokevirtual 45, 3) := by decide +kernel
theorem dX8_seek_60 : decode cX8_seek 60 = .ok (.iinc 3 1, 3) := by decide +kernel
theorem dX8_seek_63 : decode cX8_seek 63 = .ok (.goto (-21), 3) := by decide +kernel
theorem dX8_seek_66 : decode cX8_seek 66 = .ok (.aload_n 0, 1) := by decide +kernel
theorem dX8_seek_67 : decode cX8_seek 67 = .ok (.getfield 9, 3) := by decide +kernel
theorem dX8_seek_70 : decode cX8_seek 70 = .ok (.iload_n 2, 1) := by decide +kernel
theorem dX8_seek_71 : decode cX8_seek 71 = .ok (.aload_n 0, 1) := by decide +kernel
theorem dX8_seek_72 : decode cX8_seek 72 = .ok (.getfield 15, 3) := by decide +kernel
theorem dX8_seek_75 : decode cX8_seek 75 = .ok (.invokevirtual 32, 3) := by decide +kernel
theorem dX8_seek_78 : decode cX8_seek 78 = .ok (.lastore, 1) := by decide +kernel
theorem dX8_seek_79 : decode cX8_seek 79 = .ok (.aload_n 0, 1) := by decide +kernel
theorem dX8_seek_80 : decode cX8_seek 80 = .ok (.iload_n 2, 1) := by decide +kernel
theorem dX8_seek_81 : decode cX8_seek 81 = .ok (.invokevirtual 48, 3) := by decide +kernel
theorem dX8_seek_84 : decode cX8_seek 84 = .ok (.istore_n 3, 1) := by decide +kernel
theorem dX8_seek_85 : decode cX8_seek 85 = .ok (.iload_n 3, 1) := by decide +kernel
theorem dX8_seek_86 : decode cX8_seek 86 = .ok (.iconst (-1), 1) := by decide +kernel
theorem dX8_seek_87 : decode cX8_seek 87 = .ok (.if_icmp .eq 16, 3) := by decide +kernel
theorem dX8_seek_90 : decode cX8_seek 90 = .ok (.aload_n 0, 1) := by decide +kernel
theorem dX8_seek_91 : decode cX8_seek 91 = .ok (.iload_n 3, 1) := by decide +kernel
theorem dX8_seek_92 : decode cX8_seek 92 = .ok (.putfield 23, 3) := by decide +kernel
theorem dX8_seek_95 : decode cX8_seek 95 = .ok (.aload_n 0, 1) := by decide +kernel
theorem dX8_seek_96 : decode cX8_seek 96 = .ok (.iload_n 2, 1) := by decide +kernel
theorem dX8_seek_97 : decode cX8_seek 97 = .ok (.iload_n 3, 1) := by decide +kernel
theorem dX8_seek_98 : decode cX8_seek 98 = .ok (.isub, 1) := by decide +kernel
theorem dX8_seek_99 : decode cX8_seek 99 = .ok (.putfield 19, 3) := by decide +kernel
theorem dX8_seek_102 : decode cX8_seek 102 = .ok (.return_, 1) := by decide +kernel
theorem dX8_seek_103 : decode cX8_seek 103 = .ok (.iinc 2 1, 3) := by decide +kernel
theorem dX8_seek_106 : decode cX8_seek 106 = .ok (.goto (-73), 3) := by decide +kernel
theorem dX8_seek_109 : decode cX8_seek 109 = .ok (.return_, 1) := by decide +kernel
theorem dX8_likeBefore_0 : decode cX8_likeBefore 0 = .ok (.iconst 0, 1) := by decide +kernel
theorem dX8_likeBefore_1 : decode cX8_likeBefore 1 = .ok (.istore_n 2, 1) := by decide +kernel
theorem dX8_likeBefore_2 : decode cX8_likeBefore 2 = .ok (.iload_n 2, 1) := by decide +kernel
theorem dX8_likeBefore_3 : decode cX8_likeBefore 3 = .ok (.iload_n 1, 1) := by decide +kernel
theorem dX8_likeBefore_4 : decode cX8_likeBefore 4 = .ok (.if_icmp .ge 27, 3) := by decide +kernel
theorem dX8_likeBefore_7 : decode cX8_likeBefore 7 = .ok (.aload_n 0, 1) := by decide +kernel
theorem dX8_likeBefore_8 : decode cX8_likeBefore 8 = .ok (.getfield 9, 3) := by decide +kernel
theorem dX8_likeBefore_11 : decode cX8_likeBefore 11 = .ok (.iload_n 2, 1) := by decide +kernel
theorem dX8_likeBefore_12 : decode cX8_likeBefore 12 = .ok (.laload, 1) := by decide +kernel
theorem dX8_likeBefore_13 : decode cX8_likeBefore 13 = .ok (.aload_n 0, 1) := by decide +kernel
theorem dX8_likeBefore_14 : decode cX8_likeBefore 14 = .ok (.getfield 9, 3) := by decide +kernel
theorem dX8_likeBefore_17 : decode cX8_likeBefore 17 = .ok (.iload_n 1, 1) := by decide +kernel
theorem dX8_likeBefore_18 : decode cX8_likeBefore 18 = .ok (.laload, 1) := by decide +kernel
theorem dX8_likeBefore_19 : decode cX8_likeBefore 19 = .ok (.lcmp, 1) := by decide +kernel
theorem dX8_likeBefore_20 : decode cX8_likeBefore 20 = .ok (.ifCond .ne 5, 3) := by decide +kernel
theorem dX8_likeBefore_23 : decode cX8_likeBefore 23 = .ok (.iload_n 2, 1) := by decide +kernel
theorem dX8_likeBefore_24 : decode cX8_likeBefore 24 = .ok (.ireturn, 1) := by decide +kernel
theorem dX8_likeBefore_25 : decode cX8_likeBefore 25 = .ok (.iinc 2 1, 3) := by decide +kernel
theorem dX8_likeBefore_28 : decode cX8_likeBefore 28 = .ok (.goto (-26), 3) := by decide +kernel
theorem dX8_likeBefore_31 : decode cX8_likeBefore 31 = .ok (.iconst (-1), 1) := by decide +kernel
theorem dX8_likeBefore_32 : decode cX8_likeBefore 32 = .ok (.ireturn, 1) := by decide +kernel
theorem dX8_hoursInWarmest_0 : decode cX8_hoursInWarmest 0 = .ok (.aload_n 1, 1) := by decide +kernel
theorem dX8_hoursInWarmest_1 : decode cX8_hoursInWarmest 1 = .ok (.getfield 36, 3) := by decide +kernel
theorem dX8_hoursInWarmest_4 : decode cX8_hoursInWarmest 4 = .ok (.invokevirtual 52, 3) := by decide +kernel
theorem dX8_hoursInWarmest_7 : decode cX8_hoursInWarmest 7 = .ok (.istore_n 3, 1) := by decide +kernel
theorem dX8_hoursInWarmest_8 : decode cX8_hoursInWarmest 8 = .ok (.aload_n 1, 1) := by decide +kernel
theorem dX8_hoursInWarmest_9 : decode cX8_hoursInWarmest 9 = .ok (.getfield 36, 3) := by decide +kernel
theorem dX8_hoursInWarmest_12 : decode cX8_hoursInWarmest 12 = .ok (.getfield 40, 3) := by decide +kernel
theorem dX8_hoursInWarmest_15 : decode cX8_hoursInWarmest 15 = .ok (.istore 4, 2) := by decide +kernel
theorem dX8_hoursInWarmest_17 : decode cX8_hoursInWarmest 17 = .ok (.aload_n 0, 1) := by decide +kernel
theorem dX8_hoursInWarmest_18 : decode cX8_hoursInWarmest 18 = .ok (.getfield 15, 3) := by decide +kernel
theorem dX8_hoursInWarmest_21 : decode cX8_hoursInWarmest 21 = .ok (.aload_n 1, 1) := by decide +kernel
theorem dX8_hoursInWarmest_22 : decode cX8_hoursInWarmest 22 = .ok (.invokevirtual 26, 3) := by decide +kernel
theorem dX8_hoursInWarmest_25 : decode cX8_hoursInWarmest 25 = .ok (.iconst 0, 1) := by decide +kernel
theorem dX8_hoursInWarmest_26 : decode cX8_hoursInWarmest 26 = .ok (.istore 5, 2) := by decide +kernel
theorem dX8_hoursInWarmest_28 : decode cX8_hoursInWarmest 28 = .ok (.iload 5, 2) := by decide +kernel
theorem dX8_hoursInWarmest_30 : decode cX8_hoursInWarmest 30 = .ok (.aload_n 0, 1) := by decide +kernel
theorem dX8_hoursInWarmest_31 : decode cX8_hoursInWarmest 31 = .ok (.getfield 23, 3) := by decide +kernel
theorem dX8_hoursInWarmest_34 : decode cX8_hoursInWarmest 34 = .ok (.iload 4, 2) := by decide +kernel
theorem dX8_hoursInWarmest_36 : decode cX8_hoursInWarmest 36 = .ok (.imul, 1) := by decide +kernel
theorem dX8_hoursInWarmest_37 : decode cX8_hoursInWarmest 37 = .ok (.if_icmp .ge 16, 3) := by decide +kernel
theorem dX8_hoursInWarmest_40 : decode cX8_hoursInWarmest 40 = .ok (.aload_n 0, 1) := by decide +kernel
theorem dX8_hoursInWarmest_41 : decode cX8_hoursInWarmest 41 = .ok (.getfield 15, 3) := by decide +kernel
theorem dX8_hoursInWarmest_44 : decode cX8_hoursInWarmest 44 = .ok (.invokevirtual 45, 3) := by decide +kernel
theorem dX8_hoursInWarmest_47 : decode cX8_hoursInWarmest 47 = .ok (.iinc 5 1, 3) := by decide +kernel
theorem dX8_hoursInWarmest_50 : decode cX8_hoursInWarmest 50 = .ok (.goto (-22), 3) := by decide +kernel
theorem dX8_hoursInWarmest_53 : decode cX8_hoursInWarmest 53 = .ok (.iconst 0, 1) := by decide +kernel
theorem dX8_hoursInWarmest_54 : decode cX8_hoursInWarmest 54 = .ok (.istore 5, 2) := by decide +kernel
theorem dX8_hoursInWarmest_56 : decode cX8_hoursInWarmest 56 = .ok (.iconst 0, 1) := by decide +kernel
theorem dX8_hoursInWarmest_57 : decode cX8_hoursInWarmest 57 = .ok (.istore 6, 2) := by decide +kernel
theorem dX8_hoursInWarmest_59 : decode cX8_hoursInWarmest 59 = .ok (.iload 6, 2) := by decide +kernel
theorem dX8_hoursInWarmest_61 : decode cX8_hoursInWarmest 61 = .ok (.aload_n 0, 1) := by decide +kernel
theorem dX8_hoursInWarmest_62 : decode cX8_hoursInWarmest 62 = .ok (.getfield 19, 3) := by decide +kernel
theorem dX8_hoursInWarmest_65 : decode cX8_hoursInWarmest 65 = .ok (.iload 4, 2) := by decide +kernel
theorem dX8_hoursInWarmest_67 : decode cX8_hoursInWarmest 67 = .ok (.imul, 1) := by decide +kernel
theorem dX8_hoursInWarmest_68 : decode cX8_hoursInWarmest 68 = .ok (.if_icmp .ge 32, 3) := by decide +kernel
theorem dX8_hoursInWarmest_71 : decode cX8_hoursInWarmest 71 = .ok (.aload_n 0, 1) := by decide +kernel
theorem dX8_hoursInWarmest_72 : decode cX8_hoursInWarmest 72 = .ok (.getfield 15, 3) := by decide +kernel
theorem dX8_hoursInWarmest_75 : decode cX8_hoursInWarmest 75 = .ok (.invokevirtual 45, 3) := by decide +kernel
theorem dX8_hoursInWarmest_78 : decode cX8_hoursInWarmest 78 = .ok (.aload_n 0, 1) := by decide +kernel
theorem dX8_hoursInWarmest_79 : decode cX8_hoursInWarmest 79 = .ok (.getfield 15, 3) := by decide +kernel
theorem dX8_hoursInWarmest_82 : decode cX8_hoursInWarmest 82 = .ok (.getfield 56, 3) := by decide +kernel
theorem dX8_hoursInWarmest_85 : decode cX8_hoursInWarmest 85 = .ok (.iload_n 3, 1) := by decide +kernel
theorem dX8_hoursInWarmest_86 : decode cX8_hoursInWarmest 86 = .ok (.iaload, 1) := by decide +kernel
theorem dX8_hoursInWarmest_87 : decode cX8_hoursInWarmest 87 = .ok (.iload_n 2, 1) := by decide +kernel
theorem dX8_hoursInWarmest_88 : decode cX8_hoursInWarmest 88 = .ok (.if_icmp .ne 6, 3) := by decide +kernel
theorem dX8_hoursInWarmest_91 : decode cX8_hoursInWarmest 91 = .ok (.iinc 5 1, 3) := by decide +kernel
theorem dX8_hoursInWarmest_94 : decode cX8_hoursInWarmest 94 = .ok (.iinc 6 1, 3) := by decide +kernel
theorem dX8_hoursInWarmest_97 : decode cX8_hoursInWarmest 97 = .ok (.goto (-38), 3) := by decide +kernel
theorem dX8_hoursInWarmest_100 : decode cX8_hoursInWarmest 100 = .ok (.iload 5, 2) := by decide +kernel
theorem dX8_hoursInWarmest_102 : decode cX8_hoursInWarmest 102 = .ok (.ireturn, 1) := by decide +kernel
theorem dX9_init_0 : decode cX9_init 0 = .ok (.aload_n 0, 1) := by decide +kernel
theorem dX9_init_1 : decode cX9_init 1 = .ok (.invokespecial 3, 3) := by decide +kernel
theorem dX9_init_4 : decode cX9_init 4 = .ok (.aload_n 0, 1) := by decide +kernel
theorem dX9_init_5 : decode cX9_init 5 = .ok (.bipush 6, 2) := by decide +kernel
theorem dX9_init_7 : decode cX9_init 7 = .ok (.newarray .int, 2) := by decide +kernel
theorem dX9_init_9 : decode cX9_init 9 = .ok (.putfield 9, 3) := by decide +kernel
theorem dX9_init_12 : decode cX9_init 12 = .ok (.aload_n 0, 1) := by decide +kernel
theorem dX9_init_13 : decode cX9_init 13 = .ok (.bipush 6, 2) := by decide +kernel
theorem dX9_init_15 : decode cX9_init 15 = .ok (.newarray .int, 2) := by decide +kernel
theorem dX9_init_17 : decode cX9_init 17 = .ok (.putfield 15, 3) := by decide +kernel
theorem dX9_init_20 : decode cX9_init 20 = .ok (.return_, 1) := by decide +kernel
theorem dX9_empty_0 : decode cX9_empty 0 = .ok (.aload_n 0, 1) := by decide +kernel
theorem dX9_empty_1 : decode cX9_empty 1 = .ok (.iconst 0, 1) := by decide +kernel
theorem dX9_empty_2 : decode cX9_empty 2 = .ok (.putfield 18, 3) := by decide +kernel
theorem dX9_empty_5 : decode cX9_empty 5 = .ok (.return_, 1) := by decide +kernel
theorem dX9_add_0 : decode cX9_add 0 = .ok (.aload_n 0, 1) := by decide +kernel
theorem dX9_add_1 : decode cX9_add 1 = .ok (.getfield 18, 3) := by decide +kernel
theorem dX9_add_4 : decode cX9_add 4 = .ok (.bipush 6, 2) := by decide +kernel
theorem dX9_add_6 : decode cX9_add 6 = .ok (.if_icmp .lt 5, 3) := by decide +kernel
theorem dX9_add_9 : decode cX9_add 9 = .ok (.iconst 0, 1) := by decide +kernel
theorem dX9_add_10 : decode cX9_add 10 = .ok (.ireturn, 1) := by decide +kernel
theorem dX9_add_11 : decode cX9_add 11 = .ok (.aload_n 0, 1) := by decide +kernel
theorem dX9_add_12 : decode cX9_add 12 = .ok (.getfield 9, 3) := by decide +kernel
theorem dX9_add_15 : decode cX9_add 15 = .ok (.aload_n 0, 1) := by decide +kernel
theorem dX9_add_16 : decode cX9_add 16 = .ok (.getfield 18, 3) := by decide +kernel
theorem dX9_add_19 : decode cX9_add 19 = .ok (.iload_n 1, 1) := by decide +kernel
theorem dX9_add_20 : decode cX9_add 20 = .ok (.iastore, 1) := by decide +kernel
theorem dX9_add_21 : decode cX9_add 21 = .ok (.aload_n 0, 1) := by decide +kernel
theorem dX9_add_22 : decode cX9_add 22 = .ok (.getfield 15, 3) := by decide +kernel
theorem dX9_add_25 : decode cX9_add 25 = .ok (.aload_n 0, 1) := by decide +kernel
theorem dX9_add_26 : decode cX9_add 26 = .ok (.getfield 18, 3) := by decide +kernel
theorem dX9_add_29 : decode cX9_add 29 = .ok (.iload_n 2, 1) := by decide +kernel
theorem dX9_add_30 : decode cX9_add 30 = .ok (.iastore, 1) := by decide +kernel
theorem dX9_add_31 : decode cX9_add 31 = .ok (.aload_n 0, 1) := by decide +kernel
theorem dX9_add_32 : decode cX9_add 32 = .ok (.dup, 1) := by decide +kernel
theorem dX9_add_33 : decode cX9_add 33 = .ok (.getfield 18, 3) := by decide +kernel
theorem dX9_add_36 : decode cX9_add 36 = .ok (.iconst 1, 1) := by decide +kernel
theorem dX9_add_37 : decode cX9_add 37 = .ok (.iadd, 1) := by decide +kernel
theorem dX9_add_38 : decode cX9_add 38 = .ok (.putfield 18, 3) := by decide +kernel
theorem dX9_add_41 : decode cX9_add 41 = .ok (.iconst 1, 1) := by decide +kernel
theorem dX9_add_42 : decode cX9_add 42 = .ok (.ireturn, 1) := by decide +kernel
theorem dX9_seek_0 : decode cX9_seek 0 = .ok (.aload_n 0, 1) := by decide +kernel
theorem dX9_seek_1 : decode cX9_seek 1 = .ok (.iconst 0, 1) := by decide +kernel
theorem dX9_seek_2 : decode cX9_seek 2 = .ok (.putfield 22, 3) := by decide +kernel
theorem dX9_seek_5 : decode cX9_seek 5 = .ok (.aload_n 0, 1) := by decide +kernel
theorem dX9_seek_6 : decode cX9_seek 6 = .ok (.iconst 0, 1) := by decide +kernel
theorem dX9_seek_7 : decode cX9_seek 7 = .ok (.putfield 25, 3) := by decide +kernel
theorem dX9_seek_10 : decode cX9_seek 10 = .ok (.aload_n 0, 1) := by decide +kernel
theorem dX9_seek_11 : decode cX9_seek 11 = .ok (.iconst 0, 1) := by decide +kernel
theorem dX9_seek_12 : decode cX9_seek 12 = .ok (.putfield 28, 3) := by decide +kernel
theorem dX9_seek_15 : decode cX9_seek 15 = .ok (.iconst 0, 1) := by decide +kernel
theorem dX9_seek_16 : decode cX9_seek 16 = .ok (.istore_n 3, 1) := by decide +kernel
theorem dX9_seek_17 : decode cX9_seek 17 = .ok (.iload_n 3, 1) := by decide +kernel
theorem dX9_seek_18 : decode cX9_seek 18 = .ok (.iconst 1, 1) := by decide +kernel
theorem dX9_seek_19 : decode cX9_seek 19 = .ok (.iconst 2, 1) := by decide +kernel
theorem dX9_seek_20 : decode cX9_seek 20 = .ok (.iload_n 2, 1) := by decide +kernel
theorem dX9_seek_21 : decode cX9_seek 21 = .ok (.imul, 1) := by decide +kernel
theorem dX9_seek_22 : decode cX9_seek 22 = .ok (.ishl, 1) := by decide +kernel
theorem dX9_seek_23 : decode cX9_seek 23 = .ok (.if_icmp .ge 78, 3) := by decide +kernel
theorem dX9_seek_26 : decode cX9_seek 26 = .ok (.aload_n 0, 1) := by decide +kernel
theorem dX9_seek_27 : decode cX9_seek 27 = .ok (.aload_n 1, 1) := by decide +kernel
theorem dX9_seek_28 : decode cX9_seek 28 = .ok (.iload_n 3, 1) := by decide +kernel
theorem dX9_seek_29 : decode cX9_seek 29 = .ok (.iload_n 2, 1) := by decide +kernel
theorem dX9_seek_30 : decode cX9_seek 30 = .ok (.invokevirtual 31, 3) := by decide +kernel
theorem dX9_seek_33 : decode cX9_seek 33 = .ok (.ifCond .eq 62, 3) := by decide +kernel
theorem dX9_seek_36 : decode cX9_seek 36 = .ok (.iload_n 3, 1) := by decide +kernel
theorem dX9_seek_37 : decode cX9_seek 37 = .ok (.iload_n 2, 1) := by decide +kernel
theorem dX9_seek_38 : decode cX9_seek 38 = .ok (.invokestatic 35, 3) := by decide +kernel
theorem dX9_seek_41 : decode cX9_seek 41 = .ok (.istore 4, 2) := by decide +kernel
theorem dX9_seek_43 : decode cX9_seek 43 = .ok (.aload_n 0, 1) := by decide +kernel
theorem dX9_seek_44 : decode cX9_seek 44 = .ok (.aload_n 0, 1) := by decide +kernel
theorem dX9_seek_45 : decode cX9_seek 45 = .ok (.getfield 22, 3) := by decide +kernel
theorem dX9_seek_48 : decode cX9_seek 48 = .ok (.ifCond .ne 7, 3) := by decide +kernel
theorem dX9_seek_51 : decode cX9_seek 51 = .ok (.iload_n 3, 1) := by decide +kernel
theorem dX9_seek_52 : decode cX9_seek 52 = .ok (.goto 7, 3) := by decide +kernel
theorem dX9_seek_55 : decode cX9_seek 55 = .ok (.aload_n 0, 1) := by decide +kernel
theorem dX9_seek_56 : decode cX9_seek 56 = .ok (.getfield 25, 3) := by decide +kernel
theorem dX9_seek_59 : decode cX9_seek 59 = .ok (.putfield 25, 3) := by decide +kernel
theorem dX9_seek_62 : decode cX9_seek 62 = .ok (.aload_n 0, 1) := by decide +kernel
theorem dX9_seek_63 : decode cX9_seek 63 = .ok (.aload_n 0, 1) := by decide +kernel
theorem dX9_seek_64 : decode cX9_seek 64 = .ok (.getfield 22, 3) := by decide +kernel
theorem dX9_seek_67 : decode cX9_seek 67 = .ok (.ifCond .ne 8, 3) := by decide +kernel
theorem dX9_seek_70 : decode cX9_seek 70 = .ok (.iload 4, 2) := by decide +kernel
theorem dX9_seek_72 : decode cX9_seek 72 = .ok (.goto 10, 3) := by decide +kernel
theorem dX9_seek_75 : decode cX9_seek 75 = .ok (.aload_n 0, 1) := by decide +kernel
theorem dX9_seek_76 : decode cX9_seek 76 = .ok (.getfield 28, 3) := by decide +kernel
theorem dX9_seek_79 : decode cX9_seek 79 = .ok (.iload 4, 2) := by decide +kernel
theorem dX9_seek_81 : decode cX9_seek 81 = .ok (.iand, 1) := by decide +kernel
theorem dX9_seek_82 : decode cX9_seek 82 = .ok (.putfield 28, 3) := by decide +kernel
theorem dX9_seek_85 : decode cX9_seek 85 = .ok (.aload_n 0, 1) := by decide +kernel
theorem dX9_seek_86 : decode cX9_seek 86 = .ok (.dup, 1) := by decide +kernel
theorem dX9_seek_87 : decode cX9_seek 87 = .ok (.getfield 22, 3) := by decide +kernel
theorem dX9_seek_90 : decode cX9_seek 90 = .ok (.iconst 1, 1) := by decide +kernel
theorem dX9_seek_91 : decode cX9_seek 91 = .ok (.iadd, 1) := by decide +kernel
theorem dX9_seek_92 : decode cX9_seek 92 = .ok (.putfield 22, 3) := by decide +kernel
theorem dX9_seek_95 : decode cX9_seek 95 = .ok (.iinc 3 1, 3) := by decide +kernel
theorem dX9_seek_98 : decode cX9_seek 98 = .ok (.goto (-81), 3) := by decide +kernel
theorem dX9_seek_101 : decode cX9_seek 101 = .ok (.return_, 1) := by decide +kernel
theorem dX9_fits_0 : decode cX9_fits 0 = .ok (.iconst 0, 1) := by decide +kernel
theorem dX9_fits_1 : decode cX9_fits 1 = .ok (.istore 4, 2) := by decide +kernel
theorem dX9_fits_3 : decode cX9_fits 3 = .ok (.iload 4, 2) := by decide +kernel
theorem dX9_fits_5 : decode cX9_fits 5 = .ok (.aload_n 0, 1) := by decide +kernel
theorem dX9_fits_6 : decode cX9_fits 6 = .ok (.getfield 18, 3) := by decide +kernel
theorem dX9_fits_9 : decode cX9_fits 9 = .ok (.if_icmp .ge 77, 3) := by decide +kernel
theorem dX9_fits_12 : decode cX9_fits 12 = .ok (.aload_n 1, 1) := by decide +kernel
theorem dX9_fits_13 : decode cX9_fits 13 = .ok (.aload_n 0, 1) := by decide +kernel
theorem dX9_fits_14 : decode cX9_fits 14 = .ok (.getfield 9, 3) := by decide +kernel
theorem dX9_fits_17 : decode cX9_fits 17 = .ok (.iload 4, 2) := by decide +kernel
theorem dX9_fits_19 : decode cX9_fits 19 = .ok (.iaload, 1) := by decide +kernel
theorem dX9_fits_20 : decode cX9_fits 20 = .ok (.invokevirtual 39, 3) := by decide +kernel
theorem dX9_fits_23 : decode cX9_fits 23 = .ok (.istore 5, 2) := by decide +kernel
theorem dX9_fits_25 : decode cX9_fits 25 = .ok (.iload 5, 2) := by decide +kernel
theorem dX9_fits_27 : decode cX9_fits 27 = .ok (.iconst (-1), 1) := by decide +kernel
theorem dX9_fits_28 : decode cX9_fits 28 = .ok (.if_icmp .ne 5, 3) := by decide +kernel
theorem dX9_fits_31 : decode cX9_fits 31 = .ok (.iconst 0, 1) := by decide +kernel
theorem dX9_fits_32 : decode cX9_fits 32 = .ok (.ireturn, 1) := by decide +kernel
theorem dX9_fits_33 : decode cX9_fits 33 = .ok (.iconst 0, 1) := by decide +kernel
theorem dX9_fits_34 : decode cX9_fits 34 = .ok (.istore 6, 2) := by decide +kernel
theorem dX9_fits_36 : decode cX9_fits 36 = .ok (.iload 6, 2) := by decide +kernel
theorem dX9_fits_38 : decode cX9_fits 38 = .ok (.iload_n 3, 1) := by decide +kernel
theorem dX9_fits_39 : decode cX9_fits 39 = .ok (.if_icmp .ge 27, 3) := by decide +kernel
theorem dX9_fits_42 : decode cX9_fits 42 = .ok (.aload_n 1, 1) := by decide +kernel
theorem dX9_fits_43 : decode cX9_fits 43 = .ok (.getfield 45, 3) := by decide +kernel
theorem dX9_fits_46 : decode cX9_fits 46 = .ok (.iload 5, 2) := by decide +kernel
theorem dX9_fits_48 : decode cX9_fits 48 = .ok (.iload_n 2, 1) := by decide +kernel
theorem dX9_fits_49 : decode cX9_fits 49 = .ok (.iload_n 3, 1) := by decide +kernel
theorem dX9_fits_50 : decode cX9_fits 50 = .ok (.iload 6, 2) := by decide +kernel
theorem dX9_fits_52 : decode cX9_fits 52 = .ok (.invokestatic 49, 3) := by decide +kernel
theorem dX9_fits_55 : decode cX9_fits 55 = .ok (.invokevirtual 53, 3) := by decide +kernel
theorem dX9_fits_58 : decode cX9_fits 58 = .ok (.istore 5, 2) := by decide +kernel
theorem dX9_fits_60 : decode cX9_fits 60 = .ok (.iinc 6 1, 3) := by decide +kernel
theorem dX9_fits_63 : decode cX9_fits 63 = .ok (.goto (-27), 3) := by decide +kernel
theorem dX9_fits_66 : decode cX9_fits 66 = .ok (.iload 5, 2) := by decide +kernel
theorem dX9_fits_68 : decode cX9_fits 68 = .ok (.aload_n 0, 1) := by decide +kernel
theorem dX9_fits_69 : decode cX9_fits 69 = .ok (.getfield 15, 3) := by decide +kernel
theorem dX9_fits_72 : decode cX9_fits 72 = .ok (.iload 4, 2) := by decide +kernel
theorem dX9_fits_74 : decode cX9_fits 74 = .ok (.iaload, 1) := by decide +kernel
theorem dX9_fits_75 : decode cX9_fits 75 = .ok (.if_icmp .eq 5, 3) := by decide +kernel
theorem dX9_fits_78 : decode cX9_fits 78 = .ok (.iconst 0, 1) := by decide +kernel
theorem dX9_fits_79 : decode cX9_fits 79 = .ok (.ireturn, 1) := by decide +kernel
theorem dX9_fits_80 : decode cX9_fits 80 = .ok (.iinc 4 1, 3) := by decide +kernel
theorem dX9_fits_83 : decode cX9_fits 83 = .ok (.goto (-80), 3) := by decide +kernel
theorem dX9_fits_86 : decode cX9_fits 86 = .ok (.iconst 1, 1) := by decide +kernel
theorem dX9_fits_87 : decode cX9_fits 87 = .ok (.ireturn, 1) := by decide +kernel
theorem dX9_wordsIn_0 : decode cX9_wordsIn 0 = .ok (.iconst 0, 1) := by decide +kernel
theorem dX9_wordsIn_1 : decode cX9_wordsIn 1 = .ok (.istore_n 2, 1) := by decide +kernel
theorem dX9_wordsIn_2 : decode cX9_wordsIn 2 = .ok (.iconst 0, 1) := by decide +kernel
theorem dX9_wordsIn_3 : decode cX9_wordsIn 3 = .ok (.istore_n 3, 1) := by decide +kernel
theorem dX9_wordsIn_4 : decode cX9_wordsIn 4 = .ok (.iload_n 3, 1) := by decide +kernel
theorem dX9_wordsIn_5 : decode cX9_wordsIn 5 = .ok (.iload_n 1, 1) := by decide +kernel
theorem dX9_wordsIn_6 : decode cX9_wordsIn 6 = .ok (.if_icmp .ge 20, 3) := by decide +kernel
theorem dX9_wordsIn_9 : decode cX9_wordsIn 9 = .ok (.iload_n 2, 1) := by decide +kernel
theorem dX9_wordsIn_10 : decode cX9_wordsIn 10 = .ok (.iconst 1, 1) := by decide +kernel
theorem dX9_wordsIn_11 : decode cX9_wordsIn 11 = .ok (.iload_n 0, 1) := by decide +kernel
theorem dX9_wordsIn_12 : decode cX9_wordsIn 12 = .ok (.iload_n 1, 1) := by decide +kernel
theorem dX9_wordsIn_13 : decode cX9_wordsIn 13 = .ok (.iload_n 3, 1) := by decide +kernel
theorem dX9_wordsIn_14 : decode cX9_wordsIn 14 = .ok (.invokestatic 49, 3) := by decide +kernel
theorem dX9_wordsIn_17 : decode cX9_wordsIn 17 = .ok (.ishl, 1) := by decide +kernel
theorem dX9_wordsIn_18 : decode cX9_wordsIn 18 = .ok (.ior, 1) := by decide +kernel
theorem dX9_wordsIn_19 : decode cX9_wordsIn 19 = .ok (.istore_n 2, 1) := by decide +kernel
theorem dX9_wordsIn_20 : decode cX9_wordsIn 20 = .ok (.iinc 3 1, 3) := by decide +kernel
theorem dX9_wordsIn_23 : decode cX9_wordsIn 23 = .ok (.goto (-19), 3) := by decide +kernel
theorem dX9_wordsIn_26 : decode cX9_wordsIn 26 = .ok (.iload_n 2, 1) := by decide +kernel
theorem dX9_wordsIn_27 : decode cX9_wordsIn 27 = .ok (.ireturn, 1) := by decide +kernel
theorem dX10_init_0 : decode cX10_init 0 = .ok (.aload_n 0, 1) := by decide +kernel
theorem dX10_init_1 : decode cX10_init 1 = .ok (.invokespecial 3, 3) := by decide +kernel
theorem dX10_init_4 : decode cX10_init 4 = .ok (.aload_n 0, 1) := by decide +kernel
theorem dX10_init_5 : decode cX10_init 5 = .ok (.bipush 6, 2) := by decide +kernel
theorem dX10_init_7 : decode cX10_init 7 = .ok (.anewarray 9, 3) := by decide +kernel
theorem dX10_init_10 : decode cX10_init 10 = .ok (.putfield 11, 3) := by decide +kernel
theorem dX10_init_13 : decode cX10_init 13 = .ok (.aload_n 0, 1) := by decide +kernel
theorem dX10_init_14 : decode cX10_init 14 = .ok (.iconst 5, 1) := by decide +kernel
theorem dX10_init_15 : decode cX10_init 15 = .ok (.newarray .int, 2) := by decide +kernel
theorem dX10_init_17 : decode cX10_init 17 = .ok (.putfield 17, 3) := by decide +kernel
theorem dX10_init_20 : decode cX10_init 20 = .ok (.aload_n 0, 1) := by decide +kernel
theorem dX10_init_21 : decode cX10_init 21 = .ok (.iconst 5, 1) := by decide +kernel
theorem dX10_init_22 : decode cX10_init 22 = .ok (.newarray .int, 2) := by decide +kernel
theorem dX10_init_24 : decode cX10_init 24 = .ok (.putfield 21, 3) := by decide +kernel
theorem dX10_init_27 : decode cX10_init 27 = .ok (.iconst 0, 1) := by decide +kernel
theorem dX10_init_28 : decode cX10_init 28 = .ok (.istore_n 2, 1) := by decide +kernel
theorem dX10_init_29 : decode cX10_init 29 = .ok (.iload_n 2, 1) := by decide +kernel
theorem dX10_init_30 : decode cX10_init 30 = .ok (.iconst 5, 1) := by decide +kernel
theorem dX10_init_31 : decode cX10_init 31 = .ok (.if_icmp .gt 23, 3) := by decide +kernel
theorem dX10_init_34 : decode cX10_init 34 = .ok (.aload_n 0, 1) := by decide +kernel
theorem dX10_init_35 : decode cX10_init 35 = .ok (.getfield 11, 3) := by decide +kernel
theorem dX10_init_38 : decode cX10_init 38 = .ok (.iload_n 2, 1) := by decide +kernel
theorem dX10_init_39 : decode cX10_init 39 = .ok (.new 9, 3) := by decide +kernel
theorem dX10_init_42 : decode cX10_init 42 = .ok (.dup, 1) := by decide +kernel
theorem dX10_init_43 : decode cX10_init 43 = .ok (.aload_n 1, 1) := by decide +kernel
theorem dX10_init_44 : decode cX10_init 44 = .ok (.invokespecial 24, 3) := by decide +kernel
theorem dX10_init_47 : decode cX10_init 47 = .ok (.aastore, 1) := by decide +kernel
theorem dX10_init_48 : decode cX10_init 48 = .ok (.iinc 2 1, 3) := by decide +kernel
theorem dX10_init_51 : decode cX10_init 51 = .ok (.goto (-22), 3) := by decide +kernel
theorem dX10_init_54 : decode cX10_init 54 = .ok (.return_, 1) := by decide +kernel
theorem dX10_seek_0 : decode cX10_seek 0 = .ok (.aload_n 0, 1) := by decide +kernel
theorem dX10_seek_1 : decode cX10_seek 1 = .ok (.iconst (-1), 1) := by decide +kernel
theorem dX10_seek_2 : decode cX10_seek 2 = .ok (.putfield 27, 3) := by decide +kernel
theorem dX10_seek_5 : decode cX10_seek 5 = .ok (.aload_n 0, 1) := by decide +kernel
theorem dX10_seek_6 : decode cX10_seek 6 = .ok (.iconst 0, 1) := by decide +kernel
theorem dX10_seek_7 : decode cX10_seek 7 = .ok (.putfield 31, 3) := by decide +kernel
theorem dX10_seek_10 : decode cX10_seek 10 = .ok (.aload_n 0, 1) := by decide +kernel
theorem dX10_seek_11 : decode cX10_seek 11 = .ok (.getfield 11, 3) := by decide +kernel
theorem dX10_seek_14 : decode cX10_seek 14 = .ok (.iconst 0, 1) := by decide +kernel
theorem dX10_seek_15 : decode cX10_seek 15 = .ok (.aaload, 1) := by decide +kernel
theorem dX10_seek_16 : decode cX10_seek 16 = .ok (.aload_n 1, 1) := by decide +kernel
theorem dX10_seek_17 : decode cX10_seek 17 = .ok (.invokevirtual 34, 3) := by decide +kernel
theorem dX10_seek_20 : decode cX10_seek 20 = .ok (.aload_n 0, 1) := by decide +kernel
theorem dX10_seek_21 : decode cX10_seek 21 = .ok (.iconst 0, 1) := by decide +kernel
theorem dX10_seek_22 : decode cX10_seek 22 = .ok (.iload_n 2, 1) := by decide +kernel
theorem dX10_seek_23 : decode cX10_seek 23 = .ok (.iconst 0, 1) := by decide +kernel
theorem dX10_seek_24 : decode cX10_seek 24 = .ok (.invokestatic 38, 3) := by decide +kernel
theorem dX10_seek_27 : decode cX10_seek 27 = .ok (.return_, 1) := by decide +kernel
theorem dX10_tryWords_0 : decode cX10_tryWords 0 = .ok (.iload_n 1, 1) := by decide +kernel
theorem dX10_tryWords_1 : decode cX10_tryWords 1 = .ok (.iload_n 2, 1) := by decide +kernel
theorem dX10_tryWords_2 : decode cX10_tryWords 2 = .ok (.if_icmp .ge 8, 3) := by decide +kernel
theorem dX10_tryWords_5 : decode cX10_tryWords 5 = .ok (.iload_n 1, 1) := by decide +kernel
theorem dX10_tryWords_6 : decode cX10_tryWords 6 = .ok (.iconst 5, 1) := by decide +kernel
theorem dX10_tryWords_7 : decode cX10_tryWords 7 = .ok (.if_icmp .lt 10, 3) := by decide +kernel
theorem dX10_tryWords_10 : decode cX10_tryWords 10 = .ok (.aload_n 0, 1) := by decide +kernel
theorem dX10_tryWords_11 : decode cX10_tryWords 11 = .ok (.iload_n 1, 1) := by decide +kernel
theorem dX10_tryWords_12 : decode cX10_tryWords 12 = .ok (.iload_n 3, 1) := by decide +kernel
theorem dX10_tryWords_13 : decode cX10_tryWords 13 = .ok (.invokevirtual 42, 3) := by decide +kernel
theorem dX10_tryWords_16 : decode cX10_tryWords 16 = .ok (.return_, 1) := by decide +kernel
theorem dX10_tryWords_17 : decode cX10_tryWords 17 = .ok (.aload_n 0, 1) := by decide +kernel
theorem dX10_tryWords_18 : decode cX10_tryWords 18 = .ok (.getfield 11, 3) := by decide +kernel
theorem dX10_tryWords_21 : decode cX10_tryWords 21 = .ok (.iload_n 1, 1) := by decide +kernel
theorem dX10_tryWords_22 : decode cX10_tryWords 22 = .ok (.iconst 1, 1) := by decide +kernel
theorem dX10_tryWords_23 : decode cX10_tryWords 23 = .ok (.iadd, 1) := by decide +kernel
theorem dX10_tryWords_24 : decode cX10_tryWords 24 = .ok (.aaload, 1) := by decide +kernel
theorem dX10_tryWords_25 : decode cX10_tryWords 25 = .ok (.astore 4, 2) := by decide +kernel
theorem dX10_tryWords_27 : decode cX10_tryWords 27 = .ok (.iconst 0, 1) := by decide +kernel
theorem dX10_tryWords_28 : decode cX10_tryWords 28 = .ok (.istore 5, 2) := by decide +kernel
theorem dX10_tryWords_30 : decode cX10_tryWords 30 = .ok (.iload 5, 2) := by decide +kernel
theorem dX10_tryWords_32 : decode cX10_tryWords 32 = .ok (.iconst 4, 1) := by decide +kernel
theorem dX10_tryWords_33 : decode cX10_tryWords 33 = .ok (.if_icmp .ge 63, 3) := by decide +kernel
theorem dX10_tryWords_36 : decode cX10_tryWords 36 = .ok (.aload 4, 2) := by decide +kernel
theorem dX10_tryWords_38 : decode cX10_tryWords 38 = .ok (.aload_n 0, 1) := by decide +kernel
theorem dX10_tryWords_39 : decode cX10_tryWords 39 = .ok (.getfield 11, 3) := by decide +kernel
theorem dX10_tryWords_42 : decode cX10_tryWords 42 = .ok (.iload_n 1, 1) := by decide +kernel
theorem dX10_tryWords_43 : decode cX10_tryWords 43 = .ok (.aaload, 1) := by decide +kernel
theorem dX10_tryWords_44 : decode cX10_tryWords 44 = .ok (.invokevirtual 34, 3) := by decide +kernel
theorem dX10_tryWords_47 : decode cX10_tryWords 47 = .ok (.aload 4, 2) := by decide +kernel
theorem dX10_tryWords_49 : decode cX10_tryWords 49 = .ok (.iload 5, 2) := by decide +kernel
theorem dX10_tryWords_51 : decode cX10_tryWords 51 = .ok (.invokevirtual 46, 3) := by decide +kernel
theorem dX10_tryWords_54 : decode cX10_tryWords 54 = .ok (.aload 4, 2) := by decide +kernel
theorem dX10_tryWords_56 : decode cX10_tryWords 56 = .ok (.invokevirtual 50, 3) := by decide +kernel
theorem dX10_tryWords_59 : decode cX10_tryWords 59 = .ok (.ifCond .ne 31, 3) := by decide +kernel
theorem dX10_tryWords_62 : decode cX10_tryWords 62 = .ok (.aload_n 0, 1) := by decide +kernel
theorem dX10_tryWords_63 : decode cX10_tryWords 63 = .ok (.getfield 17, 3) := by decide +kernel
theorem dX10_tryWords_66 : decode cX10_tryWords 66 = .ok (.iload_n 1, 1) := by decide +kernel
theorem dX10_tryWords_67 : decode cX10_tryWords 67 = .ok (.iload 5, 2) := by decide +kernel
theorem dX10_tryWords_69 : decode cX10_tryWords 69 = .ok (.iastore, 1) := by decide +kernel
theorem dX10_tryWords_70 : decode cX10_tryWords 70 = .ok (.aload_n 0, 1) := by decide +kernel
theorem dX10_tryWords_71 : decode cX10_tryWords 71 = .ok (.iload_n 1, 1) := by decide +kernel
theorem dX10_tryWords_72 : decode cX10_tryWords 72 = .ok (.iconst 1, 1) := by decide +kernel
theorem dX10_tryWords_73 : decode cX10_tryWords 73 = .ok (.iadd, 1) := by decide +kernel
theorem dX10_tryWords_74 : decode cX10_tryWords 74 = .ok (.iload_n 2, 1) := by decide +kernel
theorem dX10_tryWords_75 : decode cX10_tryWords 75 = .ok (.iload 5, 2) := by decide +kernel
theorem dX10_tryWords_77 : decode cX10_tryWords 77 = .ok (.ifCond .ne 7, 3) := by decide +kernel
theorem dX10_tryWords_80 : decode cX10_tryWords 80 = .ok (.iload_n 3, 1) := by decide +kernel
theorem dX10_tryWords_81 : decode cX10_tryWords 81 = .ok (.goto 6, 3) := by decide +kernel
theorem dX10_tryWords_84 : decode cX10_tryWords 84 = .ok (.iload_n 3, 1) := by decide +kernel
theorem dX10_tryWords_85 : decode cX10_tryWords 85 = .ok (.iconst 1, 1) := by decide +kernel
theorem dX10_tryWords_86 : decode cX10_tryWords 86 = .ok (.iadd, 1) := by decide +kernel
theorem dX10_tryWords_87 : decode cX10_tryWords 87 = .ok (.invokestatic 38, 3) := by decide +kernel
theorem dX10_tryWords_90 : decode cX10_tryWords 90 = .ok (.iinc 5 1, 3) := by decide +kernel
theorem dX10_tryWords_93 : decode cX10_tryWords 93 = .ok (.goto (-63), 3) := by decide +kernel
theorem dX10_tryWords_96 : decode cX10_tryWords 96 = .ok (.return_, 1) := by decide +kernel
theorem dX10_compare_0 : decode cX10_compare 0 = .ok (.aload_n 0, 1) := by decide +kernel
theorem dX10_compare_1 : decode cX10_compare 1 = .ok (.getfield 11, 3) := by decide +kernel
theorem dX10_compare_4 : decode cX10_compare 4 = .ok (.iload_n 1, 1) := by decide +kernel
theorem dX10_compare_5 : decode cX10_compare 5 = .ok (.aaload, 1) := by decide +kernel
theorem dX10_compare_6 : decode cX10_compare 6 = .ok (.invokevirtual 54, 3) := by decide +kernel
theorem dX10_compare_9 : decode cX10_compare 9 = .ok (.istore_n 3, 1) := by decide +kernel
theorem dX10_compare_10 : decode cX10_compare 10 = .ok (.iload_n 3, 1) := by decide +kernel
theorem dX10_compare_11 : decode cX10_compare 11 = .ok (.aload_n 0, 1) := by decide +kernel
theorem dX10_compare_12 : decode cX10_compare 12 = .ok (.getfield 27, 3) := by decide +kernel
theorem dX10_compare_15 : decode cX10_compare 15 = .ok (.if_icmp .gt 19, 3) := by decide +kernel
theorem dX10_compare_18 : decode cX10_compare 18 = .ok (.iload_n 3, 1) := by decide +kernel
theorem dX10_compare_19 : decode cX10_compare 19 = .ok (.aload_n 0, 1) := by decide +kernel
theorem dX10_compare_20 : decode cX10_compare 20 = .ok (.getfield 27, 3) := by decide +kernel
theorem dX10_compare_23 : decode cX10_compare 23 = .ok (.if_icmp .ne 35, 3) := by decide +kernel
theorem dX10_compare_26 : decode cX10_compare 26 = .ok (.iload_n 2, 1) := by decide +kernel
theorem dX10_compare_27 : decode cX10_compare 27 = .ok (.aload_n 0, 1) := by decide +kernel
theorem dX10_compare_28 : decode cX10_compare 28 = .ok (.getfield 31, 3) := by decide +kernel
theorem dX10_compare_31 : decode cX10_compare 31 = .ok (.if_icmp .ge 27, 3) := by decide +kernel
theorem dX10_compare_34 : decode cX10_compare 34 = .ok (.aload_n 0, 1) := by decide +kernel
theorem dX10_compare_35 : decode cX10_compare 35 = .ok (.iload_n 3, 1) := by decide +kernel
theorem dX10_compare_36 : decode cX10_compare 36 = .ok (.putfield 27, 3) := by decide +kernel
theorem dX10_compare_39 : decode cX10_compare 39 = .ok (.aload_n 0, 1) := by decide +kernel
theorem dX10_compare_40 : decode cX10_compare 40 = .ok (.iload_n 2, 1) := by decide +kernel
theorem dX10_compare_41 : decode cX10_compare 41 = .ok (.putfield 31, 3) := by decide +kernel
theorem dX10_compare_44 : decode cX10_compare 44 = .ok (.aload_n 0, 1) := by decide +kernel
theorem dX10_compare_45 : decode cX10_compare 45 = .ok (.getfield 17, 3) := by decide +kernel
theorem dX10_compare_48 : decode cX10_compare 48 = .ok (.iconst 0, 1) := by decide +kernel
theorem dX10_compare_49 : decode cX10_compare 49 = .ok (.aload_n 0, 1) := by decide +kernel
theorem dX10_compare_50 : decode cX10_compare 50 = .ok (.getfield 21, 3) := by decide +kernel
theorem dX10_compare_53 : decode cX10_compare 53 = .ok (.iconst 0, 1) := by decide +kernel
theorem dX10_compare_54 : decode cX10_compare 54 = .ok (.iconst 5, 1) := by decide +kernel
theorem dX10_compare_55 : decode cX10_compare 55 = .ok (.invokestatic 56, 3) := by decide +kernel
theorem dX10_compare_58 : decode cX10_compare 58 = .ok (.return_, 1) := by decide +kernel
theorem dJ6_numberOfTrailingZeros_0f7a4_0 : decode cJ6_numberOfTrailingZeros_0f7a4 0 = .ok (.iload_n 0, 1) := by decide +kernel
theorem dJ6_numberOfTrailingZeros_0f7a4_1 : decode cJ6_numberOfTrailingZeros_0f7a4 1 = .ok (.iconst (-1), 1) := by decide +kernel
theorem dJ6_numberOfTrailingZeros_0f7a4_2 : decode cJ6_numberOfTrailingZeros_0f7a4 2 = .ok (.ixor, 1) := by decide +kernel
theorem dJ6_numberOfTrailingZeros_0f7a4_3 : decode cJ6_numberOfTrailingZeros_0f7a4 3 = .ok (.iload_n 0, 1) := by decide +kernel
theorem dJ6_numberOfTrailingZeros_0f7a4_4 : decode cJ6_numberOfTrailingZeros_0f7a4 4 = .ok (.iconst 1, 1) := by decide +kernel
theorem dJ6_numberOfTrailingZeros_0f7a4_5 : decode cJ6_numberOfTrailingZeros_0f7a4 5 = .ok (.isub, 1) := by decide +kernel
theorem dJ6_numberOfTrailingZeros_0f7a4_6 : decode cJ6_numberOfTrailingZeros_0f7a4 6 = .ok (.iand, 1) := by decide +kernel
theorem dJ6_numberOfTrailingZeros_0f7a4_7 : decode cJ6_numberOfTrailingZeros_0f7a4 7 = .ok (.istore_n 0, 1) := by decide +kernel
theorem dJ6_numberOfTrailingZeros_0f7a4_8 : decode cJ6_numberOfTrailingZeros_0f7a4 8 = .ok (.iload_n 0, 1) := by decide +kernel
theorem dJ6_numberOfTrailingZeros_0f7a4_9 : decode cJ6_numberOfTrailingZeros_0f7a4 9 = .ok (.ifCond .gt 8, 3) := by decide +kernel
theorem dJ6_numberOfTrailingZeros_0f7a4_12 : decode cJ6_numberOfTrailingZeros_0f7a4 12 = .ok (.iload_n 0, 1) := by decide +kernel
theorem dJ6_numberOfTrailingZeros_0f7a4_13 : decode cJ6_numberOfTrailingZeros_0f7a4 13 = .ok (.bipush 32, 2) := by decide +kernel
theorem dJ6_numberOfTrailingZeros_0f7a4_15 : decode cJ6_numberOfTrailingZeros_0f7a4 15 = .ok (.iand, 1) := by decide +kernel
theorem dJ6_numberOfTrailingZeros_0f7a4_16 : decode cJ6_numberOfTrailingZeros_0f7a4 16 = .ok (.ireturn, 1) := by decide +kernel
theorem dJ6_numberOfTrailingZeros_0f7a4_17 : decode cJ6_numberOfTrailingZeros_0f7a4 17 = .ok (.iconst 1, 1) := by decide +kernel
theorem dJ6_numberOfTrailingZeros_0f7a4_18 : decode cJ6_numberOfTrailingZeros_0f7a4 18 = .ok (.istore_n 1, 1) := by decide +kernel
theorem dJ6_numberOfTrailingZeros_0f7a4_19 : decode cJ6_numberOfTrailingZeros_0f7a4 19 = .ok (.iload_n 0, 1) := by decide +kernel
theorem dJ6_numberOfTrailingZeros_0f7a4_20 : decode cJ6_numberOfTrailingZeros_0f7a4 20 = .ok (.ldc_w 264, 3) := by decide +kernel
theorem dJ6_numberOfTrailingZeros_0f7a4_23 : decode cJ6_numberOfTrailingZeros_0f7a4 23 = .ok (.if_icmp .le 11, 3) := by decide +kernel
theorem dJ6_numberOfTrailingZeros_0f7a4_26 : decode cJ6_numberOfTrailingZeros_0f7a4 26 = .ok (.iinc 1 16, 3) := by decide +kernel
theorem dJ6_numberOfTrailingZeros_0f7a4_29 : decode cJ6_numberOfTrailingZeros_0f7a4 29 = .ok (.iload_n 0, 1) := by decide +kernel
theorem dJ6_numberOfTrailingZeros_0f7a4_30 : decode cJ6_numberOfTrailingZeros_0f7a4 30 = .ok (.bipush 16, 2) := by decide +kernel
theorem dJ6_numberOfTrailingZeros_0f7a4_32 : decode cJ6_numberOfTrailingZeros_0f7a4 32 = .ok (.iushr, 1) := by decide +kernel
theorem dJ6_numberOfTrailingZeros_0f7a4_33 : decode cJ6_numberOfTrailingZeros_0f7a4 33 = .ok (.istore_n 0, 1) := by decide +kernel
theorem dJ6_numberOfTrailingZeros_0f7a4_34 : decode cJ6_numberOfTrailingZeros_0f7a4 34 = .ok (.iload_n 0, 1) := by decide +kernel
theorem dJ6_numberOfTrailingZeros_0f7a4_35 : decode cJ6_numberOfTrailingZeros_0f7a4 35 = .ok (.sipush 256, 3) := by decide +kernel
theorem dJ6_numberOfTrailingZeros_0f7a4_38 : decode cJ6_numberOfTrailingZeros_0f7a4 38 = .ok (.if_icmp .le 11, 3) := by decide +kernel
theorem dJ6_numberOfTrailingZeros_0f7a4_41 : decode cJ6_numberOfTrailingZeros_0f7a4 41 = .ok (.iinc 1 8, 3) := by decide +kernel
theorem dJ6_numberOfTrailingZeros_0f7a4_44 : decode cJ6_numberOfTrailingZeros_0f7a4 44 = .ok (.iload_n 0, 1) := by decide +kernel
theorem dJ6_numberOfTrailingZeros_0f7a4_45 : decode cJ6_numberOfTrailingZeros_0f7a4 45 = .ok (.bipush 8, 2) := by decide +kernel
theorem dJ6_numberOfTrailingZeros_0f7a4_47 : decode cJ6_numberOfTrailingZeros_0f7a4 47 = .ok (.iushr, 1) := by decide +kernel
theorem dJ6_numberOfTrailingZeros_0f7a4_48 : decode cJ6_numberOfTrailingZeros_0f7a4 48 = .ok (.istore_n 0, 1) := by decide +kernel
theorem dJ6_numberOfTrailingZeros_0f7a4_49 : decode cJ6_numberOfTrailingZeros_0f7a4 49 = .ok (.iload_n 0, 1) := by decide +kernel
theorem dJ6_numberOfTrailingZeros_0f7a4_50 : decode cJ6_numberOfTrailingZeros_0f7a4 50 = .ok (.bipush 16, 2) := by decide +kernel
theorem dJ6_numberOfTrailingZeros_0f7a4_52 : decode cJ6_numberOfTrailingZeros_0f7a4 52 = .ok (.if_icmp .le 10, 3) := by decide +kernel
theorem dJ6_numberOfTrailingZeros_0f7a4_55 : decode cJ6_numberOfTrailingZeros_0f7a4 55 = .ok (.iinc 1 4, 3) := by decide +kernel
theorem dJ6_numberOfTrailingZeros_0f7a4_58 : decode cJ6_numberOfTrailingZeros_0f7a4 58 = .ok (.iload_n 0, 1) := by decide +kernel
theorem dJ6_numberOfTrailingZeros_0f7a4_59 : decode cJ6_numberOfTrailingZeros_0f7a4 59 = .ok (.iconst 4, 1) := by decide +kernel
theorem dJ6_numberOfTrailingZeros_0f7a4_60 : decode cJ6_numberOfTrailingZeros_0f7a4 60 = .ok (.iushr, 1) := by decide +kernel
theorem dJ6_numberOfTrailingZeros_0f7a4_61 : decode cJ6_numberOfTrailingZeros_0f7a4 61 = .ok (.istore_n 0, 1) := by decide +kernel
theorem dJ6_numberOfTrailingZeros_0f7a4_62 : decode cJ6_numberOfTrailingZeros_0f7a4 62 = .ok (.iload_n 0, 1) := by decide +kernel
theorem dJ6_numberOfTrailingZeros_0f7a4_63 : decode cJ6_numberOfTrailingZeros_0f7a4 63 = .ok (.iconst 4, 1) := by decide +kernel
theorem dJ6_numberOfTrailingZeros_0f7a4_64 : decode cJ6_numberOfTrailingZeros_0f7a4 64 = .ok (.if_icmp .le 10, 3) := by decide +kernel
theorem dJ6_numberOfTrailingZeros_0f7a4_67 : decode cJ6_numberOfTrailingZeros_0f7a4 67 = .ok (.iinc 1 2, 3) := by decide +kernel
theorem dJ6_numberOfTrailingZeros_0f7a4_70 : decode cJ6_numberOfTrailingZeros_0f7a4 70 = .ok (.iload_n 0, 1) := by decide +kernel
theorem dJ6_numberOfTrailingZeros_0f7a4_71 : decode cJ6_numberOfTrailingZeros_0f7a4 71 = .ok (.iconst 2, 1) := by decide +kernel
theorem dJ6_numberOfTrailingZeros_0f7a4_72 : decode cJ6_numberOfTrailingZeros_0f7a4 72 = .ok (.iushr, 1) := by decide +kernel
theorem dJ6_numberOfTrailingZeros_0f7a4_73 : decode cJ6_numberOfTrailingZeros_0f7a4 73 = .ok (.istore_n 0, 1) := by decide +kernel
theorem dJ6_numberOfTrailingZeros_0f7a4_74 : decode cJ6_numberOfTrailingZeros_0f7a4 74 = .ok (.iload_n 1, 1) := by decide +kernel
theorem dJ6_numberOfTrailingZeros_0f7a4_75 : decode cJ6_numberOfTrailingZeros_0f7a4 75 = .ok (.iload_n 0, 1) := by decide +kernel
theorem dJ6_numberOfTrailingZeros_0f7a4_76 : decode cJ6_numberOfTrailingZeros_0f7a4 76 = .ok (.iconst 1, 1) := by decide +kernel
theorem dJ6_numberOfTrailingZeros_0f7a4_77 : decode cJ6_numberOfTrailingZeros_0f7a4 77 = .ok (.iushr, 1) := by decide +kernel
theorem dJ6_numberOfTrailingZeros_0f7a4_78 : decode cJ6_numberOfTrailingZeros_0f7a4 78 = .ok (.iadd, 1) := by decide +kernel
theorem dJ6_numberOfTrailingZeros_0f7a4_79 : decode cJ6_numberOfTrailingZeros_0f7a4 79 = .ok (.ireturn, 1) := by decide +kernel
theorem dJ6_bitCount_0f7a4_0 : decode cJ6_bitCount_0f7a4 0 = .ok (.iload_n 0, 1) := by decide +kernel
theorem dJ6_bitCount_0f7a4_1 : decode cJ6_bitCount_0f7a4 1 = .ok (.iload_n 0, 1) := by decide +kernel
theorem dJ6_bitCount_0f7a4_2 : decode cJ6_bitCount_0f7a4 2 = .ok (.iconst 1, 1) := by decide +kernel
theorem dJ6_bitCount_0f7a4_3 : decode cJ6_bitCount_0f7a4 3 = .ok (.iushr, 1) := by decide +kernel
theorem dJ6_bitCount_0f7a4_4 : decode cJ6_bitCount_0f7a4 4 = .ok (.ldc_w 265, 3) := by decide +kernel
theorem dJ6_bitCount_0f7a4_7 : decode cJ6_bitCount_0f7a4 7 = .ok (.iand, 1) := by decide +kernel
theorem dJ6_bitCount_0f7a4_8 : decode cJ6_bitCount_0f7a4 8 = .ok (.isub, 1) := by decide +kernel
theorem dJ6_bitCount_0f7a4_9 : decode cJ6_bitCount_0f7a4 9 = .ok (.istore_n 0, 1) := by decide +kernel
theorem dJ6_bitCount_0f7a4_10 : decode cJ6_bitCount_0f7a4 10 = .ok (.iload_n 0, 1) := by decide +kernel
theorem dJ6_bitCount_0f7a4_11 : decode cJ6_bitCount_0f7a4 11 = .ok (.ldc_w 266, 3) := by decide +kernel
theorem dJ6_bitCount_0f7a4_14 : decode cJ6_bitCount_0f7a4 14 = .ok (.iand, 1) := by decide +kernel
theorem dJ6_bitCount_0f7a4_15 : decode cJ6_bitCount_0f7a4 15 = .ok (.iload_n 0, 1) := by decide +kernel
theorem dJ6_bitCount_0f7a4_16 : decode cJ6_bitCount_0f7a4 16 = .ok (.iconst 2, 1) := by decide +kernel
theorem dJ6_bitCount_0f7a4_17 : decode cJ6_bitCount_0f7a4 17 = .ok (.iushr, 1) := by decide +kernel
theorem dJ6_bitCount_0f7a4_18 : decode cJ6_bitCount_0f7a4 18 = .ok (.ldc_w 266, 3) := by decide +kernel
theorem dJ6_bitCount_0f7a4_21 : decode cJ6_bitCount_0f7a4 21 = .ok (.iand, 1) := by decide +kernel
theorem dJ6_bitCount_0f7a4_22 : decode cJ6_bitCount_0f7a4 22 = .ok (.iadd, 1) := by decide +kernel
theorem dJ6_bitCount_0f7a4_23 : decode cJ6_bitCount_0f7a4 23 = .ok (.istore_n 0, 1) := by decide +kernel
theorem dJ6_bitCount_0f7a4_24 : decode cJ6_bitCount_0f7a4 24 = .ok (.iload_n 0, 1) := by decide +kernel
theorem dJ6_bitCount_0f7a4_25 : decode cJ6_bitCount_0f7a4 25 = .ok (.iload_n 0, 1) := by decide +kernel
theorem dJ6_bitCount_0f7a4_26 : decode cJ6_bitCount_0f7a4 26 = .ok (.iconst 4, 1) := by decide +kernel
theorem dJ6_bitCount_0f7a4_27 : decode cJ6_bitCount_0f7a4 27 = .ok (.iushr, 1) := by decide +kernel
theorem dJ6_bitCount_0f7a4_28 : decode cJ6_bitCount_0f7a4 28 = .ok (.iadd, 1) := by decide +kernel
theorem dJ6_bitCount_0f7a4_29 : decode cJ6_bitCount_0f7a4 29 = .ok (.ldc_w 267, 3) := by decide +kernel
theorem dJ6_bitCount_0f7a4_32 : decode cJ6_bitCount_0f7a4 32 = .ok (.iand, 1) := by decide +kernel
theorem dJ6_bitCount_0f7a4_33 : decode cJ6_bitCount_0f7a4 33 = .ok (.istore_n 0, 1) := by decide +kernel
theorem dJ6_bitCount_0f7a4_34 : decode cJ6_bitCount_0f7a4 34 = .ok (.iload_n 0, 1) := by decide +kernel
theorem dJ6_bitCount_0f7a4_35 : decode cJ6_bitCount_0f7a4 35 = .ok (.iload_n 0, 1) := by decide +kernel
theorem dJ6_bitCount_0f7a4_36 : decode cJ6_bitCount_0f7a4 36 = .ok (.bipush 8, 2) := by decide +kernel
theorem dJ6_bitCount_0f7a4_38 : decode cJ6_bitCount_0f7a4 38 = .ok (.iushr, 1) := by decide +kernel
theorem dJ6_bitCount_0f7a4_39 : decode cJ6_bitCount_0f7a4 39 = .ok (.iadd, 1) := by decide +kernel
theorem dJ6_bitCount_0f7a4_40 : decode cJ6_bitCount_0f7a4 40 = .ok (.istore_n 0, 1) := by decide +kernel
theorem dJ6_bitCount_0f7a4_41 : decode cJ6_bitCount_0f7a4 41 = .ok (.iload_n 0, 1) := by decide +kernel
theorem dJ6_bitCount_0f7a4_42 : decode cJ6_bitCount_0f7a4 42 = .ok (.iload_n 0, 1) := by decide +kernel
theorem dJ6_bitCount_0f7a4_43 : decode cJ6_bitCount_0f7a4 43 = .ok (.bipush 16, 2) := by decide +kernel
theorem dJ6_bitCount_0f7a4_45 : decode cJ6_bitCount_0f7a4 45 = .ok (.iushr, 1) := by decide +kernel
theorem dJ6_bitCount_0f7a4_46 : decode cJ6_bitCount_0f7a4 46 = .ok (.iadd, 1) := by decide +kernel
theorem dJ6_bitCount_0f7a4_47 : decode cJ6_bitCount_0f7a4 47 = .ok (.istore_n 0, 1) := by decide +kernel
theorem dJ6_bitCount_0f7a4_48 : decode cJ6_bitCount_0f7a4 48 = .ok (.iload_n 0, 1) := by decide +kernel
theorem dJ6_bitCount_0f7a4_49 : decode cJ6_bitCount_0f7a4 49 = .ok (.bipush 63, 2) := by decide +kernel
theorem dJ6_bitCount_0f7a4_51 : decode cJ6_bitCount_0f7a4 51 = .ok (.iand, 1) := by decide +kernel
theorem dJ6_bitCount_0f7a4_52 : decode cJ6_bitCount_0f7a4 52 = .ok (.ireturn, 1) := by decide +kernel
theorem dJ9_abs_0f7a4_0 : decode cJ9_abs_0f7a4 0 = .ok (.iload_n 0, 1) := by decide +kernel
theorem dJ9_abs_0f7a4_1 : decode cJ9_abs_0f7a4 1 = .ok (.ifCond .ge 8, 3) := by decide +kernel
theorem dJ9_abs_0f7a4_4 : decode cJ9_abs_0f7a4 4 = .ok (.iload_n 0, 1) := by decide +kernel
theorem dJ9_abs_0f7a4_5 : decode cJ9_abs_0f7a4 5 = .ok (.ineg, 1) := by decide +kernel
theorem dJ9_abs_0f7a4_6 : decode cJ9_abs_0f7a4 6 = .ok (.goto 4, 3) := by decide +kernel
theorem dJ9_abs_0f7a4_9 : decode cJ9_abs_0f7a4 9 = .ok (.iload_n 0, 1) := by decide +kernel
theorem dJ9_abs_0f7a4_10 : decode cJ9_abs_0f7a4 10 = .ok (.ireturn, 1) := by decide +kernel
theorem dJ9_max_7cf53_0 : decode cJ9_max_7cf53 0 = .ok (.iload_n 0, 1) := by decide +kernel
theorem dJ9_max_7cf53_1 : decode cJ9_max_7cf53 1 = .ok (.iload_n 1, 1) := by decide +kernel
theorem dJ9_max_7cf53_2 : decode cJ9_max_7cf53 2 = .ok (.if_icmp .lt 7, 3) := by decide +kernel
theorem dJ9_max_7cf53_5 : decode cJ9_max_7cf53 5 = .ok (.iload_n 0, 1) := by decide +kernel
theorem dJ9_max_7cf53_6 : decode cJ9_max_7cf53 6 = .ok (.goto 4, 3) := by decide +kernel
theorem dJ9_max_7cf53_9 : decode cJ9_max_7cf53 9 = .ok (.iload_n 1, 1) := by decide +kernel
theorem dJ9_max_7cf53_10 : decode cJ9_max_7cf53 10 = .ok (.ireturn, 1) := by decide +kernel
theorem dJ9_min_7cf53_0 : decode cJ9_min_7cf53 0 = .ok (.iload_n 0, 1) := by decide +kernel
theorem dJ9_min_7cf53_1 : decode cJ9_min_7cf53 1 = .ok (.iload_n 1, 1) := by decide +kernel
theorem dJ9_min_7cf53_2 : decode cJ9_min_7cf53 2 = .ok (.if_icmp .gt 7, 3) := by decide +kernel
theorem dJ9_min_7cf53_5 : decode cJ9_min_7cf53 5 = .ok (.iload_n 0, 1) := by decide +kernel
theorem dJ9_min_7cf53_6 : decode cJ9_min_7cf53 6 = .ok (.goto 4, 3) := by decide +kernel
theorem dJ9_min_7cf53_9 : decode cJ9_min_7cf53 9 = .ok (.iload_n 1, 1) := by decide +kernel
theorem dJ9_min_7cf53_10 : decode cJ9_min_7cf53 10 = .ok (.ireturn, 1) := by decide +kernel
