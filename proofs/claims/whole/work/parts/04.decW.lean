theorem dX11_init_0 : decode cX11_init 0 = .ok (.aload_n 0, 1) := by decide +kernel
theorem dX11_init_1 : decode cX11_init 1 = .ok (.invokespecial 1, 3) := by decide +kernel
theorem dX11_init_4 : decode cX11_init 4 = .ok (.new 7, 3) := by decide +kernel
theorem dX11_init_7 : decode cX11_init 7 = .ok (.dup, 1) := by decide +kernel
theorem dX11_init_8 : decode cX11_init 8 = .ok (.invokespecial 9, 3) := by decide +kernel
theorem dX11_init_11 : decode cX11_init 11 = .ok (.astore_n 1, 1) := by decide +kernel
theorem dX11_init_12 : decode cX11_init 12 = .ok (.new 10, 3) := by decide +kernel
theorem dX11_init_15 : decode cX11_init 15 = .ok (.dup, 1) := by decide +kernel
theorem dX11_init_16 : decode cX11_init 16 = .ok (.aload_n 1, 1) := by decide +kernel
theorem dX11_init_17 : decode cX11_init 17 = .ok (.invokespecial 12, 3) := by decide +kernel
theorem dX11_init_20 : decode cX11_init 20 = .ok (.astore_n 2, 1) := by decide +kernel
theorem dX11_init_21 : decode cX11_init 21 = .ok (.aload_n 0, 1) := by decide +kernel
theorem dX11_init_22 : decode cX11_init 22 = .ok (.new 15, 3) := by decide +kernel
theorem dX11_init_25 : decode cX11_init 25 = .ok (.dup, 1) := by decide +kernel
theorem dX11_init_26 : decode cX11_init 26 = .ok (.invokespecial 17, 3) := by decide +kernel
theorem dX11_init_29 : decode cX11_init 29 = .ok (.putfield 18, 3) := by decide +kernel
theorem dX11_init_32 : decode cX11_init 32 = .ok (.aload_n 0, 1) := by decide +kernel
theorem dX11_init_33 : decode cX11_init 33 = .ok (.aload_n 1, 1) := by decide +kernel
theorem dX11_init_34 : decode cX11_init 34 = .ok (.putfield 24, 3) := by decide +kernel
theorem dX11_init_37 : decode cX11_init 37 = .ok (.aload_n 0, 1) := by decide +kernel
theorem dX11_init_38 : decode cX11_init 38 = .ok (.new 10, 3) := by decide +kernel
theorem dX11_init_41 : decode cX11_init 41 = .ok (.dup, 1) := by decide +kernel
theorem dX11_init_42 : decode cX11_init 42 = .ok (.aload_n 1, 1) := by decide +kernel
theorem dX11_init_43 : decode cX11_init 43 = .ok (.invokespecial 12, 3) := by decide +kernel
theorem dX11_init_46 : decode cX11_init 46 = .ok (.putfield 28, 3) := by decide +kernel
theorem dX11_init_49 : decode cX11_init 49 = .ok (.aload_n 0, 1) := by decide +kernel
theorem dX11_init_50 : decode cX11_init 50 = .ok (.aload_n 2, 1) := by decide +kernel
theorem dX11_init_51 : decode cX11_init 51 = .ok (.putfield 32, 3) := by decide +kernel
theorem dX11_init_54 : decode cX11_init 54 = .ok (.aload_n 0, 1) := by decide +kernel
theorem dX11_init_55 : decode cX11_init 55 = .ok (.new 35, 3) := by decide +kernel
theorem dX11_init_58 : decode cX11_init 58 = .ok (.dup, 1) := by decide +kernel
theorem dX11_init_59 : decode cX11_init 59 = .ok (.invokespecial 37, 3) := by decide +kernel
theorem dX11_init_62 : decode cX11_init 62 = .ok (.putfield 38, 3) := by decide +kernel
theorem dX11_init_65 : decode cX11_init 65 = .ok (.aload_n 0, 1) := by decide +kernel
theorem dX11_init_66 : decode cX11_init 66 = .ok (.iconst 2, 1) := by decide +kernel
theorem dX11_init_67 : decode cX11_init 67 = .ok (.anewarray 42, 3) := by decide +kernel
theorem dX11_init_70 : decode cX11_init 70 = .ok (.putfield 44, 3) := by decide +kernel
theorem dX11_init_73 : decode cX11_init 73 = .ok (.iconst 0, 1) := by decide +kernel
theorem dX11_init_74 : decode cX11_init 74 = .ok (.istore_n 3, 1) := by decide +kernel
theorem dX11_init_75 : decode cX11_init 75 = .ok (.iload_n 3, 1) := by decide +kernel
theorem dX11_init_76 : decode cX11_init 76 = .ok (.iconst 2, 1) := by decide +kernel
theorem dX11_init_77 : decode cX11_init 77 = .ok (.if_icmp .ge 22, 3) := by decide +kernel
theorem dX11_init_80 : decode cX11_init 80 = .ok (.aload_n 0, 1) := by decide +kernel
theorem dX11_init_81 : decode cX11_init 81 = .ok (.getfield 44, 3) := by decide +kernel
theorem dX11_init_84 : decode cX11_init 84 = .ok (.iload_n 3, 1) := by decide +kernel
theorem dX11_init_85 : decode cX11_init 85 = .ok (.new 42, 3) := by decide +kernel
theorem dX11_init_88 : decode cX11_init 88 = .ok (.dup, 1) := by decide +kernel
theorem dX11_init_89 : decode cX11_init 89 = .ok (.invokespecial 48, 3) := by decide +kernel
theorem dX11_init_92 : decode cX11_init 92 = .ok (.aastore, 1) := by decide +kernel
theorem dX11_init_93 : decode cX11_init 93 = .ok (.iinc 3 1, 3) := by decide +kernel
theorem dX11_init_96 : decode cX11_init 96 = .ok (.goto (-21), 3) := by decide +kernel
theorem dX11_init_99 : decode cX11_init 99 = .ok (.aload_n 0, 1) := by decide +kernel
theorem dX11_init_100 : decode cX11_init 100 = .ok (.new 49, 3) := by decide +kernel
theorem dX11_init_103 : decode cX11_init 103 = .ok (.dup, 1) := by decide +kernel
theorem dX11_init_104 : decode cX11_init 104 = .ok (.aload_n 1, 1) := by decide +kernel
theorem dX11_init_105 : decode cX11_init 105 = .ok (.invokespecial 51, 3) := by decide +kernel
theorem dX11_init_108 : decode cX11_init 108 = .ok (.putfield 52, 3) := by decide +kernel
theorem dX11_init_111 : decode cX11_init 111 = .ok (.aload_n 0, 1) := by decide +kernel
theorem dX11_init_112 : decode cX11_init 112 = .ok (.new 56, 3) := by decide +kernel
theorem dX11_init_115 : decode cX11_init 115 = .ok (.dup, 1) := by decide +kernel
theorem dX11_init_116 : decode cX11_init 116 = .ok (.aload_n 2, 1) := by decide +kernel
theorem dX11_init_117 : decode cX11_init 117 = .ok (.invokespecial 58, 3) := by decide +kernel
theorem dX11_init_120 : decode cX11_init 120 = .ok (.putfield 61, 3) := by decide +kernel
theorem dX11_init_123 : decode cX11_init 123 = .ok (.aload_n 0, 1) := by decide +kernel
theorem dX11_init_124 : decode cX11_init 124 = .ok (.new 65, 3) := by decide +kernel
theorem dX11_init_127 : decode cX11_init 127 = .ok (.dup, 1) := by decide +kernel
theorem dX11_init_128 : decode cX11_init 128 = .ok (.aload_n 2, 1) := by decide +kernel
theorem dX11_init_129 : decode cX11_init 129 = .ok (.invokespecial 67, 3) := by decide +kernel
theorem dX11_init_132 : decode cX11_init 132 = .ok (.putfield 68, 3) := by decide +kernel
theorem dX11_init_135 : decode cX11_init 135 = .ok (.aload_n 0, 1) := by decide +kernel
theorem dX11_init_136 : decode cX11_init 136 = .ok (.new 72, 3) := by decide +kernel
theorem dX11_init_139 : decode cX11_init 139 = .ok (.dup, 1) := by decide +kernel
theorem dX11_init_140 : decode cX11_init 140 = .ok (.aload_n 2, 1) := by decide +kernel
theorem dX11_init_141 : decode cX11_init 141 = .ok (.invokespecial 74, 3) := by decide +kernel
theorem dX11_init_144 : decode cX11_init 144 = .ok (.putfield 75, 3) := by decide +kernel
theorem dX11_init_147 : decode cX11_init 147 = .ok (.aload_n 0, 1) := by decide +kernel
theorem dX11_init_148 : decode cX11_init 148 = .ok (.new 79, 3) := by decide +kernel
theorem dX11_init_151 : decode cX11_init 151 = .ok (.dup, 1) := by decide +kernel
theorem dX11_init_152 : decode cX11_init 152 = .ok (.invokespecial 81, 3) := by decide +kernel
theorem dX11_init_155 : decode cX11_init 155 = .ok (.putfield 82, 3) := by decide +kernel
theorem dX11_init_158 : decode cX11_init 158 = .ok (.aload_n 0, 1) := by decide +kernel
theorem dX11_init_159 : decode cX11_init 159 = .ok (.new 86, 3) := by decide +kernel
theorem dX11_init_162 : decode cX11_init 162 = .ok (.dup, 1) := by decide +kernel
theorem dX11_init_163 : decode cX11_init 163 = .ok (.invokespecial 88, 3) := by decide +kernel
theorem dX11_init_166 : decode cX11_init 166 = .ok (.putfield 89, 3) := by decide +kernel
theorem dX11_init_169 : decode cX11_init 169 = .ok (.aload_n 0, 1) := by decide +kernel
theorem dX11_init_170 : decode cX11_init 170 = .ok (.iconst 0, 1) := by decide +kernel
theorem dX11_init_171 : decode cX11_init 171 = .ok (.putfield 93, 3) := by decide +kernel
theorem dX11_init_174 : decode cX11_init 174 = .ok (.return_, 1) := by decide +kernel
theorem dX11_feed_0 : decode cX11_feed 0 = .ok (.iload_n 1, 1) := by decide +kernel
theorem dX11_feed_1 : decode cX11_feed 1 = .ok (.ifCond .lt 10, 3) := by decide +kernel
theorem dX11_feed_4 : decode cX11_feed 4 = .ok (.iload_n 1, 1) := by decide +kernel
theorem dX11_feed_5 : decode cX11_feed 5 = .ok (.sipush 255, 3) := by decide +kernel
theorem dX11_feed_8 : decode cX11_feed 8 = .ok (.if_icmp .le 6, 3) := by decide +kernel
theorem dX11_feed_11 : decode cX11_feed 11 = .ok (.ldc 97, 2) := by decide +kernel
theorem dX11_feed_13 : decode cX11_feed 13 = .ok (.ireturn, 1) := by decide +kernel
theorem dX11_feed_14 : decode cX11_feed 14 = .ok (.aload_n 0, 1) := by decide +kernel
theorem dX11_feed_15 : decode cX11_feed 15 = .ok (.getfield 18, 3) := by decide +kernel
theorem dX11_feed_18 : decode cX11_feed 18 = .ok (.iload_n 1, 1) := by decide +kernel
theorem dX11_feed_19 : decode cX11_feed 19 = .ok (.invokevirtual 98, 3) := by decide +kernel
theorem dX11_feed_22 : decode cX11_feed 22 = .ok (.ifCond .eq 13, 3) := by decide +kernel
theorem dX11_feed_25 : decode cX11_feed 25 = .ok (.aload_n 0, 1) := by decide +kernel
theorem dX11_feed_26 : decode cX11_feed 26 = .ok (.getfield 18, 3) := by decide +kernel
theorem dX11_feed_29 : decode cX11_feed 29 = .ok (.getfield 102, 3) := by decide +kernel
theorem dX11_feed_32 : decode cX11_feed 32 = .ok (.goto 5, 3) := by decide +kernel
theorem dX11_feed_35 : decode cX11_feed 35 = .ok (.ldc 105, 2) := by decide +kernel
theorem dX11_feed_37 : decode cX11_feed 37 = .ok (.ireturn, 1) := by decide +kernel
theorem dX11_bed_0 : decode cX11_bed 0 = .ok (.aload_n 0, 1) := by decide +kernel
theorem dX11_bed_1 : decode cX11_bed 1 = .ok (.getfield 18, 3) := by decide +kernel
theorem dX11_bed_4 : decode cX11_bed 4 = .ok (.invokevirtual 106, 3) := by decide +kernel
theorem dX11_bed_7 : decode cX11_bed 7 = .ok (.istore_n 1, 1) := by decide +kernel
theorem dX11_bed_8 : decode cX11_bed 8 = .ok (.iload_n 1, 1) := by decide +kernel
theorem dX11_bed_9 : decode cX11_bed 9 = .ok (.ifCond .eq 8, 3) := by decide +kernel
theorem dX11_bed_12 : decode cX11_bed 12 = .ok (.bipush (-10), 2) := by decide +kernel
theorem dX11_bed_14 : decode cX11_bed 14 = .ok (.iload_n 1, 1) := by decide +kernel
theorem dX11_bed_15 : decode cX11_bed 15 = .ok (.isub, 1) := by decide +kernel
theorem dX11_bed_16 : decode cX11_bed 16 = .ok (.ireturn, 1) := by decide +kernel
theorem dX11_bed_17 : decode cX11_bed 17 = .ok (.aload_n 0, 1) := by decide +kernel
theorem dX11_bed_18 : decode cX11_bed 18 = .ok (.getfield 24, 3) := by decide +kernel
theorem dX11_bed_21 : decode cX11_bed 21 = .ok (.aload_n 0, 1) := by decide +kernel
theorem dX11_bed_22 : decode cX11_bed 22 = .ok (.getfield 18, 3) := by decide +kernel
theorem dX11_bed_25 : decode cX11_bed 25 = .ok (.getfield 110, 3) := by decide +kernel
theorem dX11_bed_28 : decode cX11_bed 28 = .ok (.invokevirtual 113, 3) := by decide +kernel
theorem dX11_bed_31 : decode cX11_bed 31 = .ok (.aload_n 0, 1) := by decide +kernel
theorem dX11_bed_32 : decode cX11_bed 32 = .ok (.getfield 28, 3) := by decide +kernel
theorem dX11_bed_35 : decode cX11_bed 35 = .ok (.invokevirtual 116, 3) := by decide +kernel
theorem dX11_bed_38 : decode cX11_bed 38 = .ok (.aload_n 0, 1) := by decide +kernel
theorem dX11_bed_39 : decode cX11_bed 39 = .ok (.getfield 82, 3) := by decide +kernel
theorem dX11_bed_42 : decode cX11_bed 42 = .ok (.invokevirtual 119, 3) := by decide +kernel
theorem dX11_bed_45 : decode cX11_bed 45 = .ok (.aload_n 0, 1) := by decide +kernel
theorem dX11_bed_46 : decode cX11_bed 46 = .ok (.getfield 89, 3) := by decide +kernel
theorem dX11_bed_49 : decode cX11_bed 49 = .ok (.invokevirtual 122, 3) := by decide +kernel
theorem dX11_bed_52 : decode cX11_bed 52 = .ok (.aload_n 0, 1) := by decide +kernel
theorem dX11_bed_53 : decode cX11_bed 53 = .ok (.getfield 38, 3) := by decide +kernel
theorem dX11_bed_56 : decode cX11_bed 56 = .ok (.invokevirtual 123, 3) := by decide +kernel
theorem dX11_bed_59 : decode cX11_bed 59 = .ok (.iconst 0, 1) := by decide +kernel
theorem dX11_bed_60 : decode cX11_bed 60 = .ok (.istore_n 2, 1) := by decide +kernel
theorem dX11_bed_61 : decode cX11_bed 61 = .ok (.iload_n 2, 1) := by decide +kernel
theorem dX11_bed_62 : decode cX11_bed 62 = .ok (.iconst 2, 1) := by decide +kernel
theorem dX11_bed_63 : decode cX11_bed 63 = .ok (.if_icmp .ge 19, 3) := by decide +kernel
theorem dX11_bed_66 : decode cX11_bed 66 = .ok (.aload_n 0, 1) := by decide +kernel
theorem dX11_bed_67 : decode cX11_bed 67 = .ok (.getfield 44, 3) := by decide +kernel
theorem dX11_bed_70 : decode cX11_bed 70 = .ok (.iload_n 2, 1) := by decide +kernel
theorem dX11_bed_71 : decode cX11_bed 71 = .ok (.aaload, 1) := by decide +kernel
theorem dX11_bed_72 : decode cX11_bed 72 = .ok (.iconst 0, 1) := by decide +kernel
theorem dX11_bed_73 : decode cX11_bed 73 = .ok (.putfield 126, 3) := by decide +kernel
theorem dX11_bed_76 : decode cX11_bed 76 = .ok (.iinc 2 1, 3) := by decide +kernel
theorem dX11_bed_79 : decode cX11_bed 79 = .ok (.goto (-18), 3) := by decide +kernel
theorem dX11_bed_82 : decode cX11_bed 82 = .ok (.aload_n 0, 1) := by decide +kernel
theorem dX11_bed_83 : decode cX11_bed 83 = .ok (.getfield 24, 3) := by decide +kernel
theorem dX11_bed_86 : decode cX11_bed 86 = .ok (.getfield 130, 3) := by decide +kernel
theorem dX11_bed_89 : decode cX11_bed 89 = .ok (.ireturn, 1) := by decide +kernel
theorem dX11_fault_0 : decode cX11_fault 0 = .ok (.aload_n 0, 1) := by decide +kernel
theorem dX11_fault_1 : decode cX11_fault 1 = .ok (.getfield 18, 3) := by decide +kernel
theorem dX11_fault_4 : decode cX11_fault 4 = .ok (.getfield 133, 3) := by decide +kernel
theorem dX11_fault_7 : decode cX11_fault 7 = .ok (.ireturn, 1) := by decide +kernel
theorem dX11_told_0 : decode cX11_told 0 = .ok (.iload_n 1, 1) := by decide +kernel
theorem dX11_told_1 : decode cX11_told 1 = .ok (.tableswitch 167 0 11 #[63, 71, 87, 95, 103, 111, 119, 127, 135, 143, 151, 159], 63) := by decide +kernel
theorem dX11_told_64 : decode cX11_told 64 = .ok (.aload_n 0, 1) := by decide +kernel
theorem dX11_told_65 : decode cX11_told 65 = .ok (.getfield 24, 3) := by decide +kernel
theorem dX11_told_68 : decode cX11_told 68 = .ok (.getfield 136, 3) := by decide +kernel
theorem dX11_told_71 : decode cX11_told 71 = .ok (.ireturn, 1) := by decide +kernel
theorem dX11_told_72 : decode cX11_told 72 = .ok (.aload_n 0, 1) := by decide +kernel
theorem dX11_told_73 : decode cX11_told 73 = .ok (.getfield 24, 3) := by decide +kernel
theorem dX11_told_76 : decode cX11_told 76 = .ok (.getfield 139, 3) := by decide +kernel
theorem dX11_told_79 : decode cX11_told 79 = .ok (.ifCond .eq 7, 3) := by decide +kernel
theorem dX11_told_82 : decode cX11_told 82 = .ok (.iconst 1, 1) := by decide +kernel
theorem dX11_told_83 : decode cX11_told 83 = .ok (.goto 4, 3) := by decide +kernel
theorem dX11_told_86 : decode cX11_told 86 = .ok (.iconst 0, 1) := by decide +kernel
theorem dX11_told_87 : decode cX11_told 87 = .ok (.ireturn, 1) := by decide +kernel
theorem dX11_told_88 : decode cX11_told 88 = .ok (.aload_n 0, 1) := by decide +kernel
theorem dX11_told_89 : decode cX11_told 89 = .ok (.getfield 24, 3) := by decide +kernel
theorem dX11_told_92 : decode cX11_told 92 = .ok (.getfield 130, 3) := by decide +kernel
theorem dX11_told_95 : decode cX11_told 95 = .ok (.ireturn, 1) := by decide +kernel
theorem dX11_told_96 : decode cX11_told 96 = .ok (.aload_n 0, 1) := by decide +kernel
theorem dX11_told_97 : decode cX11_told 97 = .ok (.getfield 24, 3) := by decide +kernel
theorem dX11_told_100 : decode cX11_told 100 = .ok (.getfield 142, 3) := by decide +kernel
theorem dX11_told_103 : decode cX11_told 103 = .ok (.ireturn, 1) := by decide +kernel
theorem dX11_told_104 : decode cX11_told 104 = .ok (.aload_n 0, 1) := by decide +kernel
theorem dX11_told_105 : decode cX11_told 105 = .ok (.getfield 18, 3) := by decide +kernel
theorem dX11_told_108 : decode cX11_told 108 = .ok (.getfield 102, 3) := by decide +kernel
theorem dX11_told_111 : decode cX11_told 111 = .ok (.ireturn, 1) := by decide +kernel
theorem dX11_told_112 : decode cX11_told 112 = .ok (.aload_n 0, 1) := by decide +kernel
theorem dX11_told_113 : decode cX11_told 113 = .ok (.getfield 28, 3) := by decide +kernel
theorem dX11_told_116 : decode cX11_told 116 = .ok (.getfield 145, 3) := by decide +kernel
theorem dX11_told_119 : decode cX11_told 119 = .ok (.ireturn, 1) := by decide +kernel
theorem dX11_told_120 : decode cX11_told 120 = .ok (.aload_n 0, 1) := by decide +kernel
theorem dX11_told_121 : decode cX11_told 121 = .ok (.getfield 28, 3) := by decide +kernel
theorem dX11_told_124 : decode cX11_told 124 = .ok (.invokevirtual 148, 3) := by decide +kernel
theorem dX11_told_127 : decode cX11_told 127 = .ok (.ireturn, 1) := by decide +kernel
theorem dX11_told_128 : decode cX11_told 128 = .ok (.aload_n 0, 1) := by decide +kernel
theorem dX11_told_129 : decode cX11_told 129 = .ok (.getfield 28, 3) := by decide +kernel
theorem dX11_told_132 : decode cX11_told 132 = .ok (.invokevirtual 151, 3) := by decide +kernel
theorem dX11_told_135 : decode cX11_told 135 = .ok (.ireturn, 1) := by decide +kernel
theorem dX11_told_136 : decode cX11_told 136 = .ok (.aload_n 0, 1) := by decide +kernel
theorem dX11_told_137 : decode cX11_told 137 = .ok (.getfield 28, 3) := by decide +kernel
theorem dX11_told_140 : decode cX11_told 140 = .ok (.invokevirtual 154, 3) := by decide +kernel
theorem dX11_told_143 : decode cX11_told 143 = .ok (.ireturn, 1) := by decide +kernel
theorem dX11_told_144 : decode cX11_told 144 = .ok (.aload_n 0, 1) := by decide +kernel
theorem dX11_told_145 : decode cX11_told 145 = .ok (.getfield 82, 3) := by decide +kernel
theorem dX11_told_148 : decode cX11_told 148 = .ok (.getfield 157, 3) := by decide +kernel
theorem dX11_told_151 : decode cX11_told 151 = .ok (.ireturn, 1) := by decide +kernel
theorem dX11_told_152 : decode cX11_told 152 = .ok (.aload_n 0, 1) := by decide +kernel
theorem dX11_told_153 : decode cX11_told 153 = .ok (.getfield 89, 3) := by decide +kernel
theorem dX11_told_156 : decode cX11_told 156 = .ok (.getfield 160, 3) := by decide +kernel
theorem dX11_told_159 : decode cX11_told 159 = .ok (.ireturn, 1) := by decide +kernel
theorem dX11_told_160 : decode cX11_told 160 = .ok (.aload_n 0, 1) := by decide +kernel
theorem dX11_told_161 : decode cX11_told 161 = .ok (.getfield 38, 3) := by decide +kernel
theorem dX11_told_164 : decode cX11_told 164 = .ok (.getfield 161, 3) := by decide +kernel
theorem dX11_told_167 : decode cX11_told 167 = .ok (.ireturn, 1) := by decide +kernel
theorem dX11_told_168 : decode cX11_told 168 = .ok (.ldc 97, 2) := by decide +kernel
theorem dX11_told_170 : decode cX11_told 170 = .ok (.ireturn, 1) := by decide +kernel
theorem dX11_place_0 : decode cX11_place 0 = .ok (.aload_n 0, 1) := by decide +kernel
theorem dX11_place_1 : decode cX11_place 1 = .ok (.getfield 24, 3) := by decide +kernel
theorem dX11_place_4 : decode cX11_place 4 = .ok (.iload_n 1, 1) := by decide +kernel
theorem dX11_place_5 : decode cX11_place 5 = .ok (.invokevirtual 162, 3) := by decide +kernel
theorem dX11_place_8 : decode cX11_place 8 = .ok (.ifCond .ne 6, 3) := by decide +kernel
theorem dX11_place_11 : decode cX11_place 11 = .ok (.ldc 165, 2) := by decide +kernel
theorem dX11_place_13 : decode cX11_place 13 = .ok (.ireturn, 1) := by decide +kernel
theorem dX11_place_14 : decode cX11_place 14 = .ok (.iload_n 2, 1) := by decide +kernel
theorem dX11_place_15 : decode cX11_place 15 = .ok (.lookupswitch 45 #[(0, 25), (1, 35)], 25) := by decide +kernel
theorem dX11_place_40 : decode cX11_place 40 = .ok (.aload_n 0, 1) := by decide +kernel
theorem dX11_place_41 : decode cX11_place 41 = .ok (.getfield 24, 3) := by decide +kernel
theorem dX11_place_44 : decode cX11_place 44 = .ok (.getfield 166, 3) := by decide +kernel
theorem dX11_place_47 : decode cX11_place 47 = .ok (.iload_n 1, 1) := by decide +kernel
theorem dX11_place_48 : decode cX11_place 48 = .ok (.iaload, 1) := by decide +kernel
theorem dX11_place_49 : decode cX11_place 49 = .ok (.ireturn, 1) := by decide +kernel
theorem dX11_place_50 : decode cX11_place 50 = .ok (.aload_n 0, 1) := by decide +kernel
theorem dX11_place_51 : decode cX11_place 51 = .ok (.getfield 28, 3) := by decide +kernel
theorem dX11_place_54 : decode cX11_place 54 = .ok (.getfield 170, 3) := by decide +kernel
theorem dX11_place_57 : decode cX11_place 57 = .ok (.iload_n 1, 1) := by decide +kernel
theorem dX11_place_58 : decode cX11_place 58 = .ok (.iaload, 1) := by decide +kernel
theorem dX11_place_59 : decode cX11_place 59 = .ok (.ireturn, 1) := by decide +kernel
theorem dX11_place_60 : decode cX11_place 60 = .ok (.ldc 97, 2) := by decide +kernel
theorem dX11_place_62 : decode cX11_place 62 = .ok (.ireturn, 1) := by decide +kernel
theorem dX11_sleeper_0 : decode cX11_sleeper 0 = .ok (.aload_n 0, 1) := by decide +kernel
theorem dX11_sleeper_1 : decode cX11_sleeper 1 = .ok (.getfield 24, 3) := by decide +kernel
theorem dX11_sleeper_4 : decode cX11_sleeper 4 = .ok (.iload_n 1, 1) := by decide +kernel
theorem dX11_sleeper_5 : decode cX11_sleeper 5 = .ok (.invokevirtual 173, 3) := by decide +kernel
theorem dX11_sleeper_8 : decode cX11_sleeper 8 = .ok (.ifCond .ne 6, 3) := by decide +kernel
theorem dX11_sleeper_11 : decode cX11_sleeper 11 = .ok (.ldc 165, 2) := by decide +kernel
theorem dX11_sleeper_13 : decode cX11_sleeper 13 = .ok (.ireturn, 1) := by decide +kernel
theorem dX11_sleeper_14 : decode cX11_sleeper 14 = .ok (.iload_n 2, 1) := by decide +kernel
theorem dX11_sleeper_15 : decode cX11_sleeper 15 = .ok (.tableswitch 82 0 4 #[33, 43, 53, 63, 73], 33) := by decide +kernel
theorem dX11_sleeper_48 : decode cX11_sleeper 48 = .ok (.aload_n 0, 1) := by decide +kernel
theorem dX11_sleeper_49 : decode cX11_sleeper 49 = .ok (.getfield 28, 3) := by decide +kernel
theorem dX11_sleeper_52 : decode cX11_sleeper 52 = .ok (.getfield 176, 3) := by decide +kernel
theorem dX11_sleeper_55 : decode cX11_sleeper 55 = .ok (.iload_n 1, 1) := by decide +kernel
theorem dX11_sleeper_56 : decode cX11_sleeper 56 = .ok (.iaload, 1) := by decide +kernel
theorem dX11_sleeper_57 : decode cX11_sleeper 57 = .ok (.ireturn, 1) := by decide +kernel
theorem dX11_sleeper_58 : decode cX11_sleeper 58 = .ok (.aload_n 0, 1) := by decide +kernel
theorem dX11_sleeper_59 : decode cX11_sleeper 59 = .ok (.getfield 24, 3) := by decide +kernel
theorem dX11_sleeper_62 : decode cX11_sleeper 62 = .ok (.getfield 179, 3) := by decide +kernel
theorem dX11_sleeper_65 : decode cX11_sleeper 65 = .ok (.iload_n 1, 1) := by decide +kernel
theorem dX11_sleeper_66 : decode cX11_sleeper 66 = .ok (.iaload, 1) := by decide +kernel
theorem dX11_sleeper_67 : decode cX11_sleeper 67 = .ok (.ireturn, 1) := by decide +kernel
theorem dX11_sleeper_68 : decode cX11_sleeper 68 = .ok (.aload_n 0, 1) := by decide +kernel
theorem dX11_sleeper_69 : decode cX11_sleeper 69 = .ok (.getfield 24, 3) := by decide +kernel
theorem dX11_sleeper_72 : decode cX11_sleeper 72 = .ok (.getfield 182, 3) := by decide +kernel
theorem dX11_sleeper_75 : decode cX11_sleeper 75 = .ok (.iload_n 1, 1) := by decide +kernel
theorem dX11_sleeper_76 : decode cX11_sleeper 76 = .ok (.iaload, 1) := by decide +kernel
theorem dX11_sleeper_77 : decode cX11_sleeper 77 = .ok (.ireturn, 1) := by decide +kernel
theorem dX11_sleeper_78 : decode cX11_sleeper 78 = .ok (.aload_n 0, 1) := by decide +kernel
theorem dX11_sleeper_79 : decode cX11_sleeper 79 = .ok (.getfield 24, 3) := by decide +kernel
theorem dX11_sleeper_82 : decode cX11_sleeper 82 = .ok (.getfield 185, 3) := by decide +kernel
theorem dX11_sleeper_85 : decode cX11_sleeper 85 = .ok (.iload_n 1, 1) := by decide +kernel
theorem dX11_sleeper_86 : decode cX11_sleeper 86 = .ok (.iaload, 1) := by decide +kernel
theorem dX11_sleeper_87 : decode cX11_sleeper 87 = .ok (.ireturn, 1) := by decide +kernel
theorem dX11_sleeper_88 : decode cX11_sleeper 88 = .ok (.aload_n 0, 1) := by decide +kernel
theorem dX11_sleeper_89 : decode cX11_sleeper 89 = .ok (.getfield 28, 3) := by decide +kernel
theorem dX11_sleeper_92 : decode cX11_sleeper 92 = .ok (.iload_n 1, 1) := by decide +kernel
theorem dX11_sleeper_93 : decode cX11_sleeper 93 = .ok (.invokevirtual 188, 3) := by decide +kernel
theorem dX11_sleeper_96 : decode cX11_sleeper 96 = .ok (.ireturn, 1) := by decide +kernel
theorem dX11_sleeper_97 : decode cX11_sleeper 97 = .ok (.ldc 97, 2) := by decide +kernel
theorem dX11_sleeper_99 : decode cX11_sleeper 99 = .ok (.ireturn, 1) := by decide +kernel
theorem dX11_rule_0 : decode cX11_rule 0 = .ok (.iload_n 1, 1) := by decide +kernel
theorem dX11_rule_1 : decode cX11_rule 1 = .ok (.ifCond .lt 14, 3) := by decide +kernel
theorem dX11_rule_4 : decode cX11_rule 4 = .ok (.iload_n 1, 1) := by decide +kernel
theorem dX11_rule_5 : decode cX11_rule 5 = .ok (.aload_n 0, 1) := by decide +kernel
theorem dX11_rule_6 : decode cX11_rule 6 = .ok (.getfield 24, 3) := by decide +kernel
theorem dX11_rule_9 : decode cX11_rule 9 = .ok (.getfield 142, 3) := by decide +kernel
theorem dX11_rule_12 : decode cX11_rule 12 = .ok (.if_icmp .lt 7, 3) := by decide +kernel
theorem dX11_rule_15 : decode cX11_rule 15 = .ok (.iconst (-1), 1) := by decide +kernel
theorem dX11_rule_16 : decode cX11_rule 16 = .ok (.goto 12, 3) := by decide +kernel
theorem dX11_rule_19 : decode cX11_rule 19 = .ok (.aload_n 0, 1) := by decide +kernel
theorem dX11_rule_20 : decode cX11_rule 20 = .ok (.getfield 24, 3) := by decide +kernel
theorem dX11_rule_23 : decode cX11_rule 23 = .ok (.getfield 192, 3) := by decide +kernel
theorem dX11_rule_26 : decode cX11_rule 26 = .ok (.iload_n 1, 1) := by decide +kernel
theorem dX11_rule_27 : decode cX11_rule 27 = .ok (.iaload, 1) := by decide +kernel
theorem dX11_rule_28 : decode cX11_rule 28 = .ok (.ireturn, 1) := by decide +kernel
theorem dX11_hour_0 : decode cX11_hour 0 = .ok (.iload_n 1, 1) := by decide +kernel
theorem dX11_hour_1 : decode cX11_hour 1 = .ok (.invokestatic 195, 3) := by decide +kernel
theorem dX11_hour_4 : decode cX11_hour 4 = .ok (.ifCond .ne 6, 3) := by decide +kernel
theorem dX11_hour_7 : decode cX11_hour 7 = .ok (.ldc 165, 2) := by decide +kernel
theorem dX11_hour_9 : decode cX11_hour 9 = .ok (.ireturn, 1) := by decide +kernel
theorem dX11_hour_10 : decode cX11_hour 10 = .ok (.aload_n 0, 1) := by decide +kernel
theorem dX11_hour_11 : decode cX11_hour 11 = .ok (.invokevirtual 198, 3) := by decide +kernel
theorem dX11_hour_14 : decode cX11_hour 14 = .ok (.istore_n 2, 1) := by decide +kernel
theorem dX11_hour_15 : decode cX11_hour 15 = .ok (.iload_n 2, 1) := by decide +kernel
theorem dX11_hour_16 : decode cX11_hour 16 = .ok (.ifCond .eq 5, 3) := by decide +kernel
theorem dX11_hour_19 : decode cX11_hour 19 = .ok (.iload_n 2, 1) := by decide +kernel
theorem dX11_hour_20 : decode cX11_hour 20 = .ok (.ireturn, 1) := by decide +kernel
theorem dX11_hour_21 : decode cX11_hour 21 = .ok (.aload_n 0, 1) := by decide +kernel
theorem dX11_hour_22 : decode cX11_hour 22 = .ok (.iload_n 1, 1) := by decide +kernel
theorem dX11_hour_23 : decode cX11_hour 23 = .ok (.invokevirtual 201, 3) := by decide +kernel
theorem dX11_hour_26 : decode cX11_hour 26 = .ok (.aload_n 0, 1) := by decide +kernel
theorem dX11_hour_27 : decode cX11_hour 27 = .ok (.getfield 28, 3) := by decide +kernel
theorem dX11_hour_30 : decode cX11_hour 30 = .ok (.invokevirtual 154, 3) := by decide +kernel
theorem dX11_hour_33 : decode cX11_hour 33 = .ok (.ireturn, 1) := by decide +kernel
theorem dX11_night_0 : decode cX11_night 0 = .ok (.iload_n 1, 1) := by decide +kernel
theorem dX11_night_1 : decode cX11_night 1 = .ok (.iconst 1, 1) := by decide +kernel
theorem dX11_night_2 : decode cX11_night 2 = .ok (.if_icmp .lt 9, 3) := by decide +kernel
theorem dX11_night_5 : decode cX11_night 5 = .ok (.iload_n 1, 1) := by decide +kernel
theorem dX11_night_6 : decode cX11_night 6 = .ok (.bipush 99, 2) := by decide +kernel
theorem dX11_night_8 : decode cX11_night 8 = .ok (.if_icmp .le 6, 3) := by decide +kernel
theorem dX11_night_11 : decode cX11_night 11 = .ok (.ldc 97, 2) := by decide +kernel
theorem dX11_night_13 : decode cX11_night 13 = .ok (.ireturn, 1) := by decide +kernel
theorem dX11_night_14 : decode cX11_night 14 = .ok (.aload_n 0, 1) := by decide +kernel
theorem dX11_night_15 : decode cX11_night 15 = .ok (.invokevirtual 198, 3) := by decide +kernel
theorem dX11_night_18 : decode cX11_night 18 = .ok (.istore_n 2, 1) := by decide +kernel
theorem dX11_night_19 : decode cX11_night 19 = .ok (.iload_n 2, 1) := by decide +kernel
theorem dX11_night_20 : decode cX11_night 20 = .ok (.ifCond .eq 5, 3) := by decide +kernel
theorem dX11_night_23 : decode cX11_night 23 = .ok (.iload_n 2, 1) := by decide +kernel
theorem dX11_night_24 : decode cX11_night 24 = .ok (.ireturn, 1) := by decide +kernel
theorem dX11_night_25 : decode cX11_night 25 = .ok (.iconst 0, 1) := by decide +kernel
theorem dX11_night_26 : decode cX11_night 26 = .ok (.istore_n 3, 1) := by decide +kernel
theorem dX11_night_27 : decode cX11_night 27 = .ok (.iload_n 3, 1) := by decide +kernel
theorem dX11_night_28 : decode cX11_night 28 = .ok (.iload_n 1, 1) := by decide +kernel
theorem dX11_night_29 : decode cX11_night 29 = .ok (.if_icmp .ge 27, 3) := by decide +kernel
theorem dX11_night_32 : decode cX11_night 32 = .ok (.aload_n 0, 1) := by decide +kernel
theorem dX11_night_33 : decode cX11_night 33 = .ok (.aload_n 0, 1) := by decide +kernel
theorem dX11_night_34 : decode cX11_night 34 = .ok (.getfield 24, 3) := by decide +kernel
theorem dX11_night_37 : decode cX11_night 37 = .ok (.aload_n 0, 1) := by decide +kernel
theorem dX11_night_38 : decode cX11_night 38 = .ok (.getfield 28, 3) := by decide +kernel
theorem dX11_night_41 : decode cX11_night 41 = .ok (.getfield 145, 3) := by decide +kernel
theorem dX11_night_44 : decode cX11_night 44 = .ok (.invokevirtual 205, 3) := by decide +kernel
theorem dX11_night_47 : decode cX11_night 47 = .ok (.invokevirtual 201, 3) := by decide +kernel
theorem dX11_night_50 : decode cX11_night 50 = .ok (.iinc 3 1, 3) := by decide +kernel
theorem dX11_night_53 : decode cX11_night 53 = .ok (.goto (-26), 3) := by decide +kernel
theorem dX11_night_56 : decode cX11_night 56 = .ok (.aload_n 0, 1) := by decide +kernel
theorem dX11_night_57 : decode cX11_night 57 = .ok (.getfield 28, 3) := by decide +kernel
theorem dX11_night_60 : decode cX11_night 60 = .ok (.invokevirtual 154, 3) := by decide +kernel
theorem dX11_night_63 : decode cX11_night 63 = .ok (.ireturn, 1) := by decide +kernel
theorem dX11_getUp_0 : decode cX11_getUp 0 = .ok (.aload_n 0, 1) := by decide +kernel
theorem dX11_getUp_1 : decode cX11_getUp 1 = .ok (.getfield 24, 3) := by decide +kernel
theorem dX11_getUp_4 : decode cX11_getUp 4 = .ok (.iload_n 1, 1) := by decide +kernel
theorem dX11_getUp_5 : decode cX11_getUp 5 = .ok (.invokevirtual 173, 3) := by decide +kernel
theorem dX11_getUp_8 : decode cX11_getUp 8 = .ok (.ifCond .ne 6, 3) := by decide +kernel
theorem dX11_getUp_11 : decode cX11_getUp 11 = .ok (.ldc 165, 2) := by decide +kernel
theorem dX11_getUp_13 : decode cX11_getUp 13 = .ok (.ireturn, 1) := by decide +kernel
theorem dX11_getUp_14 : decode cX11_getUp 14 = .ok (.aload_n 0, 1) := by decide +kernel
theorem dX11_getUp_15 : decode cX11_getUp 15 = .ok (.getfield 28, 3) := by decide +kernel
theorem dX11_getUp_18 : decode cX11_getUp 18 = .ok (.iload_n 1, 1) := by decide +kernel
theorem dX11_getUp_19 : decode cX11_getUp 19 = .ok (.invokevirtual 188, 3) := by decide +kernel
theorem dX11_getUp_22 : decode cX11_getUp 22 = .ok (.istore_n 2, 1) := by decide +kernel
theorem dX11_getUp_23 : decode cX11_getUp 23 = .ok (.iload_n 2, 1) := by decide +kernel
theorem dX11_getUp_24 : decode cX11_getUp 24 = .ok (.iconst (-1), 1) := by decide +kernel
theorem dX11_getUp_25 : decode cX11_getUp 25 = .ok (.if_icmp .ne 6, 3) := by decide +kernel
theorem dX11_getUp_28 : decode cX11_getUp 28 = .ok (.ldc 208, 2) := by decide +kernel
theorem dX11_getUp_30 : decode cX11_getUp 30 = .ok (.ireturn, 1) := by decide +kernel
theorem dX11_getUp_31 : decode cX11_getUp 31 = .ok (.aload_n 0, 1) := by decide +kernel
theorem dX11_getUp_32 : decode cX11_getUp 32 = .ok (.getfield 38, 3) := by decide +kernel
theorem dX11_getUp_35 : decode cX11_getUp 35 = .ok (.aload_n 0, 1) := by decide +kernel
theorem dX11_getUp_36 : decode cX11_getUp 36 = .ok (.getfield 28, 3) := by decide +kernel
theorem dX11_getUp_39 : decode cX11_getUp 39 = .ok (.invokevirtual 209, 3) := by decide +kernel
theorem dX11_getUp_42 : decode cX11_getUp 42 = .ok (.aload_n 0, 1) := by decide +kernel
theorem dX11_getUp_43 : decode cX11_getUp 43 = .ok (.getfield 28, 3) := by decide +kernel
theorem dX11_getUp_46 : decode cX11_getUp 46 = .ok (.iload_n 2, 1) := by decide +kernel
theorem dX11_getUp_47 : decode cX11_getUp 47 = .ok (.invokevirtual 212, 3) := by decide +kernel
theorem dX11_getUp_50 : decode cX11_getUp 50 = .ok (.iload_n 2, 1) := by decide +kernel
theorem dX11_getUp_51 : decode cX11_getUp 51 = .ok (.ireturn, 1) := by decide +kernel
theorem dX11_comeIn_0 : decode cX11_comeIn 0 = .ok (.aload_n 0, 1) := by decide +kernel
theorem dX11_comeIn_1 : decode cX11_comeIn 1 = .ok (.getfield 24, 3) := by decide +kernel
theorem dX11_comeIn_4 : decode cX11_comeIn 4 = .ok (.iload_n 1, 1) := by decide +kernel
theorem dX11_comeIn_5 : decode cX11_comeIn 5 = .ok (.invokevirtual 173, 3) := by decide +kernel
theorem dX11_comeIn_8 : decode cX11_comeIn 8 = .ok (.ifCond .ne 6, 3) := by decide +kernel
theorem dX11_comeIn_11 : decode cX11_comeIn 11 = .ok (.ldc 165, 2) := by decide +kernel
theorem dX11_comeIn_13 : decode cX11_comeIn 13 = .ok (.ireturn, 1) := by decide +kernel
theorem dX11_comeIn_14 : decode cX11_comeIn 14 = .ok (.aload_n 0, 1) := by decide +kernel
theorem dX11_comeIn_15 : decode cX11_comeIn 15 = .ok (.getfield 28, 3) := by decide +kernel
theorem dX11_comeIn_18 : decode cX11_comeIn 18 = .ok (.invokevirtual 215, 3) := by decide +kernel
theorem dX11_comeIn_21 : decode cX11_comeIn 21 = .ok (.istore_n 2, 1) := by decide +kernel
theorem dX11_comeIn_22 : decode cX11_comeIn 22 = .ok (.aload_n 0, 1) := by decide +kernel
theorem dX11_comeIn_23 : decode cX11_comeIn 23 = .ok (.getfield 28, 3) := by decide +kernel
theorem dX11_comeIn_26 : decode cX11_comeIn 26 = .ok (.iload_n 1, 1) := by decide +kernel
theorem dX11_comeIn_27 : decode cX11_comeIn 27 = .ok (.invokevirtual 188, 3) := by decide +kernel
theorem dX11_comeIn_30 : decode cX11_comeIn 30 = .ok (.iconst (-1), 1) := by decide +kernel
theorem dX11_comeIn_31 : decode cX11_comeIn 31 = .ok (.if_icmp .ne 8, 3) := by decide +kernel
theorem dX11_comeIn_34 : decode cX11_comeIn 34 = .ok (.iload_n 2, 1) := by decide +kernel
theorem dX11_comeIn_35 : decode cX11_comeIn 35 = .ok (.iconst (-1), 1) := by decide +kernel
theorem dX11_comeIn_36 : decode cX11_comeIn 36 = .ok (.if_icmp .ne 6, 3) := by decide +kernel
theorem dX11_comeIn_39 : decode cX11_comeIn 39 = .ok (.ldc 208, 2) := by decide +kernel
theorem dX11_comeIn_41 : decode cX11_comeIn 41 = .ok (.ireturn, 1) := by decide +kernel
theorem dX11_comeIn_42 : decode cX11_comeIn 42 = .ok (.aload_n 0, 1) := by decide +kernel
theorem dX11_comeIn_43 : decode cX11_comeIn 43 = .ok (.getfield 38, 3) := by decide +kernel
theorem dX11_comeIn_46 : decode cX11_comeIn 46 = .ok (.aload_n 0, 1) := by decide +kernel
theorem dX11_comeIn_47 : decode cX11_comeIn 47 = .ok (.getfield 28, 3) := by decide +kernel
theorem dX11_comeIn_50 : decode cX11_comeIn 50 = .ok (.invokevirtual 209, 3) := by decide +kernel
theorem dX11_comeIn_53 : decode cX11_comeIn 53 = .ok (.aload_n 0, 1) := by decide +kernel
theorem dX11_comeIn_54 : decode cX11_comeIn 54 = .ok (.getfield 28, 3) := by decide +kernel
theorem dX11_comeIn_57 : decode cX11_comeIn 57 = .ok (.getfield 170, 3) := by decide +kernel
theorem dX11_comeIn_60 : decode cX11_comeIn 60 = .ok (.iload_n 2, 1) := by decide +kernel
theorem dX11_comeIn_61 : decode cX11_comeIn 61 = .ok (.iload_n 1, 1) := by decide +kernel
theorem dX11_comeIn_62 : decode cX11_comeIn 62 = .ok (.iastore, 1) := by decide +kernel
theorem dX11_comeIn_63 : decode cX11_comeIn 63 = .ok (.iload_n 2, 1) := by decide +kernel
theorem dX11_comeIn_64 : decode cX11_comeIn 64 = .ok (.ireturn, 1) := by decide +kernel
theorem dX11_drift_0 : decode cX11_drift 0 = .ok (.iload_n 1, 1) := by decide +kernel
theorem dX11_drift_1 : decode cX11_drift 1 = .ok (.iconst 1, 1) := by decide +kernel
theorem dX11_drift_2 : decode cX11_drift 2 = .ok (.if_icmp .lt 9, 3) := by decide +kernel
theorem dX11_drift_5 : decode cX11_drift 5 = .ok (.iload_n 1, 1) := by decide +kernel
theorem dX11_drift_6 : decode cX11_drift 6 = .ok (.bipush 99, 2) := by decide +kernel
theorem dX11_drift_8 : decode cX11_drift 8 = .ok (.if_icmp .le 6, 3) := by decide +kernel
theorem dX11_drift_11 : decode cX11_drift 11 = .ok (.ldc 97, 2) := by decide +kernel
theorem dX11_drift_13 : decode cX11_drift 13 = .ok (.ireturn, 1) := by decide +kernel
theorem dX11_drift_14 : decode cX11_drift 14 = .ok (.aload_n 0, 1) := by decide +kernel
theorem dX11_drift_15 : decode cX11_drift 15 = .ok (.invokevirtual 198, 3) := by decide +kernel
theorem dX11_drift_18 : decode cX11_drift 18 = .ok (.istore_n 2, 1) := by decide +kernel
theorem dX11_drift_19 : decode cX11_drift 19 = .ok (.iload_n 2, 1) := by decide +kernel
theorem dX11_drift_20 : decode cX11_drift 20 = .ok (.ifCond .eq 5, 3) := by decide +kernel
theorem dX11_drift_23 : decode cX11_drift 23 = .ok (.iload_n 2, 1) := by decide +kernel
theorem dX11_drift_24 : decode cX11_drift 24 = .ok (.ireturn, 1) := by decide +kernel
theorem dX11_drift_25 : decode cX11_drift 25 = .ok (.iconst 0, 1) := by decide +kernel
theorem dX11_drift_26 : decode cX11_drift 26 = .ok (.istore_n 3, 1) := by decide +kernel
theorem dX11_drift_27 : decode cX11_drift 27 = .ok (.iload_n 3, 1) := by decide +kernel
theorem dX11_drift_28 : decode cX11_drift 28 = .ok (.iload_n 1, 1) := by decide +kernel
theorem dX11_drift_29 : decode cX11_drift 29 = .ok (.if_icmp .ge 46, 3) := by decide +kernel
theorem dX11_drift_32 : decode cX11_drift 32 = .ok (.aload_n 0, 1) := by decide +kernel
theorem dX11_drift_33 : decode cX11_drift 33 = .ok (.invokevirtual 218, 3) := by decide +kernel
theorem dX11_drift_36 : decode cX11_drift 36 = .ok (.istore 4, 2) := by decide +kernel
theorem dX11_drift_38 : decode cX11_drift 38 = .ok (.aload_n 0, 1) := by decide +kernel
theorem dX11_drift_39 : decode cX11_drift 39 = .ok (.iload 4, 2) := by decide +kernel
theorem dX11_drift_41 : decode cX11_drift 41 = .ok (.invokestatic 195, 3) := by decide +kernel
theorem dX11_drift_44 : decode cX11_drift 44 = .ok (.ifCond .eq 8, 3) := by decide +kernel
theorem dX11_drift_47 : decode cX11_drift 47 = .ok (.iload 4, 2) := by decide +kernel
theorem dX11_drift_49 : decode cX11_drift 49 = .ok (.goto 17, 3) := by decide +kernel
theorem dX11_drift_52 : decode cX11_drift 52 = .ok (.aload_n 0, 1) := by decide +kernel
theorem dX11_drift_53 : decode cX11_drift 53 = .ok (.getfield 24, 3) := by decide +kernel
theorem dX11_drift_56 : decode cX11_drift 56 = .ok (.aload_n 0, 1) := by decide +kernel
theorem dX11_drift_57 : decode cX11_drift 57 = .ok (.getfield 28, 3) := by decide +kernel
theorem dX11_drift_60 : decode cX11_drift 60 = .ok (.getfield 145, 3) := by decide +kernel
theorem dX11_drift_63 : decode cX11_drift 63 = .ok (.invokevirtual 205, 3) := by decide +kernel
theorem dX11_drift_66 : decode cX11_drift 66 = .ok (.invokevirtual 201, 3) := by decide +kernel
theorem dX11_drift_69 : decode cX11_drift 69 = .ok (.iinc 3 1, 3) := by decide +kernel
theorem dX11_drift_72 : decode cX11_drift 72 = .ok (.goto (-45), 3) := by decide +kernel
theorem dX11_drift_75 : decode cX11_drift 75 = .ok (.aload_n 0, 1) := by decide +kernel
theorem dX11_drift_76 : decode cX11_drift 76 = .ok (.getfield 28, 3) := by decide +kernel
theorem dX11_drift_79 : decode cX11_drift 79 = .ok (.invokevirtual 154, 3) := by decide +kernel
theorem dX11_drift_82 : decode cX11_drift 82 = .ok (.ireturn, 1) := by decide +kernel
theorem dX11_undo_0 : decode cX11_undo 0 = .ok (.iload_n 1, 1) := by decide +kernel
theorem dX11_undo_1 : decode cX11_undo 1 = .ok (.iconst 1, 1) := by decide +kernel
theorem dX11_undo_2 : decode cX11_undo 2 = .ok (.if_icmp .lt 9, 3) := by decide +kernel
theorem dX11_undo_5 : decode cX11_undo 5 = .ok (.iload_n 1, 1) := by decide +kernel
theorem dX11_undo_6 : decode cX11_undo 6 = .ok (.bipush 30, 2) := by decide +kernel
theorem dX11_undo_8 : decode cX11_undo 8 = .ok (.if_icmp .le 6, 3) := by decide +kernel
theorem dX11_undo_11 : decode cX11_undo 11 = .ok (.ldc 97, 2) := by decide +kernel
theorem dX11_undo_13 : decode cX11_undo 13 = .ok (.ireturn, 1) := by decide +kernel
theorem dX11_undo_14 : decode cX11_undo 14 = .ok (.iload_n 1, 1) := by decide +kernel
theorem dX11_undo_15 : decode cX11_undo 15 = .ok (.aload_n 0, 1) := by decide +kernel
theorem dX11_undo_16 : decode cX11_undo 16 = .ok (.getfield 38, 3) := by decide +kernel
theorem dX11_undo_19 : decode cX11_undo 19 = .ok (.getfield 161, 3) := by decide +kernel
theorem dX11_undo_22 : decode cX11_undo 22 = .ok (.if_icmp .le 6, 3) := by decide +kernel
theorem dX11_undo_25 : decode cX11_undo 25 = .ok (.ldc 208, 2) := by decide +kernel
theorem dX11_undo_27 : decode cX11_undo 27 = .ok (.ireturn, 1) := by decide +kernel
theorem dX11_undo_28 : decode cX11_undo 28 = .ok (.aload_n 0, 1) := by decide +kernel
theorem dX11_undo_29 : decode cX11_undo 29 = .ok (.getfield 38, 3) := by decide +kernel
theorem dX11_undo_32 : decode cX11_undo 32 = .ok (.iload_n 1, 1) := by decide +kernel
theorem dX11_undo_33 : decode cX11_undo 33 = .ok (.aload_n 0, 1) := by decide +kernel
theorem dX11_undo_34 : decode cX11_undo 34 = .ok (.getfield 28, 3) := by decide +kernel
theorem dX11_undo_37 : decode cX11_undo 37 = .ok (.invokevirtual 221, 3) := by decide +kernel
theorem dX11_undo_40 : decode cX11_undo 40 = .ok (.aload_n 0, 1) := by decide +kernel
theorem dX11_undo_41 : decode cX11_undo 41 = .ok (.getfield 28, 3) := by decide +kernel
theorem dX11_undo_44 : decode cX11_undo 44 = .ok (.getfield 145, 3) := by decide +kernel
theorem dX11_undo_47 : decode cX11_undo 47 = .ok (.ireturn, 1) := by decide +kernel
theorem dX11_firstAwake_0 : decode cX11_firstAwake 0 = .ok (.iload_n 1, 1) := by decide +kernel
theorem dX11_firstAwake_1 : decode cX11_firstAwake 1 = .ok (.ifCond .eq 11, 3) := by decide +kernel
theorem dX11_firstAwake_4 : decode cX11_firstAwake 4 = .ok (.iload_n 1, 1) := by decide +kernel
theorem dX11_firstAwake_5 : decode cX11_firstAwake 5 = .ok (.iconst 1, 1) := by decide +kernel
theorem dX11_firstAwake_6 : decode cX11_firstAwake 6 = .ok (.if_icmp .eq 6, 3) := by decide +kernel
theorem dX11_firstAwake_9 : decode cX11_firstAwake 9 = .ok (.ldc 97, 2) := by decide +kernel
theorem dX11_firstAwake_11 : decode cX11_firstAwake 11 = .ok (.ireturn, 1) := by decide +kernel
theorem dX11_firstAwake_12 : decode cX11_firstAwake 12 = .ok (.aload_n 0, 1) := by decide +kernel
theorem dX11_firstAwake_13 : decode cX11_firstAwake 13 = .ok (.getfield 32, 3) := by decide +kernel
theorem dX11_firstAwake_16 : decode cX11_firstAwake 16 = .ok (.aload_n 0, 1) := by decide +kernel
theorem dX11_firstAwake_17 : decode cX11_firstAwake 17 = .ok (.getfield 28, 3) := by decide +kernel
theorem dX11_firstAwake_20 : decode cX11_firstAwake 20 = .ok (.invokevirtual 225, 3) := by decide +kernel
theorem dX11_firstAwake_23 : decode cX11_firstAwake 23 = .ok (.iconst 0, 1) := by decide +kernel
theorem dX11_firstAwake_24 : decode cX11_firstAwake 24 = .ok (.istore_n 2, 1) := by decide +kernel
theorem dX11_firstAwake_25 : decode cX11_firstAwake 25 = .ok (.iload_n 2, 1) := by decide +kernel
theorem dX11_firstAwake_26 : decode cX11_firstAwake 26 = .ok (.bipush 99, 2) := by decide +kernel
theorem dX11_firstAwake_28 : decode cX11_firstAwake 28 = .ok (.if_icmp .gt 41, 3) := by decide +kernel
theorem dX11_firstAwake_31 : decode cX11_firstAwake 31 = .ok (.aload_n 0, 1) := by decide +kernel
theorem dX11_firstAwake_32 : decode cX11_firstAwake 32 = .ok (.getfield 32, 3) := by decide +kernel
theorem dX11_firstAwake_35 : decode cX11_firstAwake 35 = .ok (.invokevirtual 151, 3) := by decide +kernel
theorem dX11_firstAwake_38 : decode cX11_firstAwake 38 = .ok (.istore_n 3, 1) := by decide +kernel
theorem dX11_firstAwake_39 : decode cX11_firstAwake 39 = .ok (.iload_n 3, 1) := by decide +kernel
theorem dX11_firstAwake_40 : decode cX11_firstAwake 40 = .ok (.ifCond .eq 16, 3) := by decide +kernel
theorem dX11_firstAwake_43 : decode cX11_firstAwake 43 = .ok (.iload_n 1, 1) := by decide +kernel
theorem dX11_firstAwake_44 : decode cX11_firstAwake 44 = .ok (.ifCond .ne 7, 3) := by decide +kernel
theorem dX11_firstAwake_47 : decode cX11_firstAwake 47 = .ok (.iload_n 2, 1) := by decide +kernel
theorem dX11_firstAwake_48 : decode cX11_firstAwake 48 = .ok (.goto 7, 3) := by decide +kernel
theorem dX11_firstAwake_51 : decode cX11_firstAwake 51 = .ok (.iload_n 3, 1) := by decide +kernel
theorem dX11_firstAwake_52 : decode cX11_firstAwake 52 = .ok (.invokestatic 227, 3) := by decide +kernel
theorem dX11_firstAwake_55 : decode cX11_firstAwake 55 = .ok (.ireturn, 1) := by decide +kernel
theorem dX11_firstAwake_56 : decode cX11_firstAwake 56 = .ok (.aload_n 0, 1) := by decide +kernel
theorem dX11_firstAwake_57 : decode cX11_firstAwake 57 = .ok (.getfield 32, 3) := by decide +kernel
theorem dX11_firstAwake_60 : decode cX11_firstAwake 60 = .ok (.invokevirtual 232, 3) := by decide +kernel
theorem dX11_firstAwake_63 : decode cX11_firstAwake 63 = .ok (.iinc 2 1, 3) := by decide +kernel
theorem dX11_firstAwake_66 : decode cX11_firstAwake 66 = .ok (.goto (-41), 3) := by decide +kernel
theorem dX11_firstAwake_69 : decode cX11_firstAwake 69 = .ok (.iconst (-1), 1) := by decide +kernel
theorem dX11_firstAwake_70 : decode cX11_firstAwake 70 = .ok (.ireturn, 1) := by decide +kernel
theorem dX11_turnsFor_0 : decode cX11_turnsFor 0 = .ok (.iload_n 1, 1) := by decide +kernel
theorem dX11_turnsFor_1 : decode cX11_turnsFor 1 = .ok (.iconst 1, 1) := by decide +kernel
theorem dX11_turnsFor_2 : decode cX11_turnsFor 2 = .ok (.if_icmp .lt 8, 3) := by decide +kernel
theorem dX11_turnsFor_5 : decode cX11_turnsFor 5 = .ok (.iload_n 1, 1) := by decide +kernel
theorem dX11_turnsFor_6 : decode cX11_turnsFor 6 = .ok (.iconst 5, 1) := by decide +kernel
theorem dX11_turnsFor_7 : decode cX11_turnsFor 7 = .ok (.if_icmp .le 6, 3) := by decide +kernel
theorem dX11_turnsFor_10 : decode cX11_turnsFor 10 = .ok (.ldc 97, 2) := by decide +kernel
theorem dX11_turnsFor_12 : decode cX11_turnsFor 12 = .ok (.ireturn, 1) := by decide +kernel
theorem dX11_turnsFor_13 : decode cX11_turnsFor 13 = .ok (.aload_n 0, 1) := by decide +kernel
theorem dX11_turnsFor_14 : decode cX11_turnsFor 14 = .ok (.getfield 28, 3) := by decide +kernel
theorem dX11_turnsFor_17 : decode cX11_turnsFor 17 = .ok (.invokevirtual 235, 3) := by decide +kernel
theorem dX11_turnsFor_20 : decode cX11_turnsFor 20 = .ok (.ifCond .ne 6, 3) := by decide +kernel
theorem dX11_turnsFor_23 : decode cX11_turnsFor 23 = .ok (.ldc 208, 2) := by decide +kernel
theorem dX11_turnsFor_25 : decode cX11_turnsFor 25 = .ok (.ireturn, 1) := by decide +kernel
theorem dX11_turnsFor_26 : decode cX11_turnsFor 26 = .ok (.aload_n 0, 1) := by decide +kernel
theorem dX11_turnsFor_27 : decode cX11_turnsFor 27 = .ok (.getfield 52, 3) := by decide +kernel
theorem dX11_turnsFor_30 : decode cX11_turnsFor 30 = .ok (.aload_n 0, 1) := by decide +kernel
theorem dX11_turnsFor_31 : decode cX11_turnsFor 31 = .ok (.getfield 28, 3) := by decide +kernel
theorem dX11_turnsFor_34 : decode cX11_turnsFor 34 = .ok (.iload_n 1, 1) := by decide +kernel
theorem dX11_turnsFor_35 : decode cX11_turnsFor 35 = .ok (.invokevirtual 238, 3) := by decide +kernel
theorem dX11_turnsFor_38 : decode cX11_turnsFor 38 = .ok (.iload_n 2, 1) := by decide +kernel
theorem dX11_turnsFor_39 : decode cX11_turnsFor 39 = .ok (.iconst (-1), 1) := by decide +kernel
theorem dX11_turnsFor_40 : decode cX11_turnsFor 40 = .ok (.if_icmp .eq 14, 3) := by decide +kernel
theorem dX11_turnsFor_43 : decode cX11_turnsFor 43 = .ok (.aload_n 0, 1) := by decide +kernel
theorem dX11_turnsFor_44 : decode cX11_turnsFor 44 = .ok (.getfield 52, 3) := by decide +kernel
theorem dX11_turnsFor_47 : decode cX11_turnsFor 47 = .ok (.getfield 242, 3) := by decide +kernel
theorem dX11_turnsFor_50 : decode cX11_turnsFor 50 = .ok (.iconst (-1), 1) := by decide +kernel
theorem dX11_turnsFor_51 : decode cX11_turnsFor 51 = .ok (.if_icmp .ne 11, 3) := by decide +kernel
theorem dX11_turnsFor_54 : decode cX11_turnsFor 54 = .ok (.aload_n 0, 1) := by decide +kernel
theorem dX11_turnsFor_55 : decode cX11_turnsFor 55 = .ok (.getfield 52, 3) := by decide +kernel
theorem dX11_turnsFor_58 : decode cX11_turnsFor 58 = .ok (.getfield 242, 3) := by decide +kernel
theorem dX11_turnsFor_61 : decode cX11_turnsFor 61 = .ok (.ireturn, 1) := by decide +kernel
theorem dX11_turnsFor_62 : decode cX11_turnsFor 62 = .ok (.iload_n 2, 1) := by decide +kernel
theorem dX11_turnsFor_63 : decode cX11_turnsFor 63 = .ok (.ifCond .lt 8, 3) := by decide +kernel
theorem dX11_turnsFor_66 : decode cX11_turnsFor 66 = .ok (.iload_n 2, 1) := by decide +kernel
theorem dX11_turnsFor_67 : decode cX11_turnsFor 67 = .ok (.iload_n 1, 1) := by decide +kernel
theorem dX11_turnsFor_68 : decode cX11_turnsFor 68 = .ok (.if_icmp .lt 7, 3) := by decide +kernel
theorem dX11_turnsFor_71 : decode cX11_turnsFor 71 = .ok (.iconst (-1), 1) := by decide +kernel
theorem dX11_turnsFor_72 : decode cX11_turnsFor 72 = .ok (.goto 12, 3) := by decide +kernel
theorem dX11_turnsFor_75 : decode cX11_turnsFor 75 = .ok (.aload_n 0, 1) := by decide +kernel
theorem dX11_turnsFor_76 : decode cX11_turnsFor 76 = .ok (.getfield 52, 3) := by decide +kernel
theorem dX11_turnsFor_79 : decode cX11_turnsFor 79 = .ok (.getfield 244, 3) := by decide +kernel
theorem dX11_turnsFor_82 : decode cX11_turnsFor 82 = .ok (.iload_n 2, 1) := by decide +kernel
theorem dX11_turnsFor_83 : decode cX11_turnsFor 83 = .ok (.iaload, 1) := by decide +kernel
theorem dX11_turnsFor_84 : decode cX11_turnsFor 84 = .ok (.ireturn, 1) := by decide +kernel
theorem dX11_rhyme_0 : decode cX11_rhyme 0 = .ok (.iload_n 1, 1) := by decide +kernel
theorem dX11_rhyme_1 : decode cX11_rhyme 1 = .ok (.iconst 1, 1) := by decide +kernel
theorem dX11_rhyme_2 : decode cX11_rhyme 2 = .ok (.if_icmp .lt 9, 3) := by decide +kernel
theorem dX11_rhyme_5 : decode cX11_rhyme 5 = .ok (.iload_n 1, 1) := by decide +kernel
theorem dX11_rhyme_6 : decode cX11_rhyme 6 = .ok (.bipush 30, 2) := by decide +kernel
theorem dX11_rhyme_8 : decode cX11_rhyme 8 = .ok (.if_icmp .le 6, 3) := by decide +kernel
theorem dX11_rhyme_11 : decode cX11_rhyme 11 = .ok (.ldc 97, 2) := by decide +kernel
theorem dX11_rhyme_13 : decode cX11_rhyme 13 = .ok (.ireturn, 1) := by decide +kernel
theorem dX11_rhyme_14 : decode cX11_rhyme 14 = .ok (.aload_n 0, 1) := by decide +kernel
theorem dX11_rhyme_15 : decode cX11_rhyme 15 = .ok (.getfield 28, 3) := by decide +kernel
theorem dX11_rhyme_18 : decode cX11_rhyme 18 = .ok (.invokevirtual 235, 3) := by decide +kernel
theorem dX11_rhyme_21 : decode cX11_rhyme 21 = .ok (.ifCond .ne 6, 3) := by decide +kernel
theorem dX11_rhyme_24 : decode cX11_rhyme 24 = .ok (.ldc 208, 2) := by decide +kernel
theorem dX11_rhyme_26 : decode cX11_rhyme 26 = .ok (.ireturn, 1) := by decide +kernel
theorem dX11_rhyme_27 : decode cX11_rhyme 27 = .ok (.aload_n 0, 1) := by decide +kernel
theorem dX11_rhyme_28 : decode cX11_rhyme 28 = .ok (.getfield 61, 3) := by decide +kernel
theorem dX11_rhyme_31 : decode cX11_rhyme 31 = .ok (.aload_n 0, 1) := by decide +kernel
theorem dX11_rhyme_32 : decode cX11_rhyme 32 = .ok (.getfield 28, 3) := by decide +kernel
theorem dX11_rhyme_35 : decode cX11_rhyme 35 = .ok (.iload_n 1, 1) := by decide +kernel
theorem dX11_rhyme_36 : decode cX11_rhyme 36 = .ok (.invokevirtual 247, 3) := by decide +kernel
theorem dX11_rhyme_39 : decode cX11_rhyme 39 = .ok (.iload_n 2, 1) := by decide +kernel
theorem dX11_rhyme_40 : decode cX11_rhyme 40 = .ok (.iconst (-1), 1) := by decide +kernel
theorem dX11_rhyme_41 : decode cX11_rhyme 41 = .ok (.if_icmp .eq 14, 3) := by decide +kernel
theorem dX11_rhyme_44 : decode cX11_rhyme 44 = .ok (.aload_n 0, 1) := by decide +kernel
theorem dX11_rhyme_45 : decode cX11_rhyme 45 = .ok (.getfield 61, 3) := by decide +kernel
theorem dX11_rhyme_48 : decode cX11_rhyme 48 = .ok (.getfield 248, 3) := by decide +kernel
theorem dX11_rhyme_51 : decode cX11_rhyme 51 = .ok (.iconst (-1), 1) := by decide +kernel
theorem dX11_rhyme_52 : decode cX11_rhyme 52 = .ok (.if_icmp .ne 11, 3) := by decide +kernel
theorem dX11_rhyme_55 : decode cX11_rhyme 55 = .ok (.aload_n 0, 1) := by decide +kernel
theorem dX11_rhyme_56 : decode cX11_rhyme 56 = .ok (.getfield 61, 3) := by decide +kernel
theorem dX11_rhyme_59 : decode cX11_rhyme 59 = .ok (.getfield 248, 3) := by decide +kernel
theorem dX11_rhyme_62 : decode cX11_rhyme 62 = .ok (.ireturn, 1) := by decide +kernel
theorem dX11_rhyme_63 : decode cX11_rhyme 63 = .ok (.iload_n 2, 1) := by decide +kernel
theorem dX11_rhyme_64 : decode cX11_rhyme 64 = .ok (.ifCond .lt 14, 3) := by decide +kernel
theorem dX11_rhyme_67 : decode cX11_rhyme 67 = .ok (.iload_n 2, 1) := by decide +kernel
theorem dX11_rhyme_68 : decode cX11_rhyme 68 = .ok (.aload_n 0, 1) := by decide +kernel
theorem dX11_rhyme_69 : decode cX11_rhyme 69 = .ok (.getfield 61, 3) := by decide +kernel
theorem dX11_rhyme_72 : decode cX11_rhyme 72 = .ok (.getfield 248, 3) := by decide +kernel
theorem dX11_rhyme_75 : decode cX11_rhyme 75 = .ok (.if_icmp .lt 7, 3) := by decide +kernel
theorem dX11_rhyme_78 : decode cX11_rhyme 78 = .ok (.iconst (-1), 1) := by decide +kernel
theorem dX11_rhyme_79 : decode cX11_rhyme 79 = .ok (.goto 21, 3) := by decide +kernel
theorem dX11_rhyme_82 : decode cX11_rhyme 82 = .ok (.aload_n 0, 1) := by decide +kernel
theorem dX11_rhyme_83 : decode cX11_rhyme 83 = .ok (.getfield 61, 3) := by decide +kernel
theorem dX11_rhyme_86 : decode cX11_rhyme 86 = .ok (.getfield 249, 3) := by decide +kernel
theorem dX11_rhyme_89 : decode cX11_rhyme 89 = .ok (.aload_n 0, 1) := by decide +kernel
theorem dX11_rhyme_90 : decode cX11_rhyme 90 = .ok (.getfield 61, 3) := by decide +kernel
theorem dX11_rhyme_93 : decode cX11_rhyme 93 = .ok (.getfield 248, 3) := by decide +kernel
theorem dX11_rhyme_96 : decode cX11_rhyme 96 = .ok (.iload_n 2, 1) := by decide +kernel
theorem dX11_rhyme_97 : decode cX11_rhyme 97 = .ok (.invokestatic 252, 3) := by decide +kernel
theorem dX11_rhyme_100 : decode cX11_rhyme 100 = .ok (.ireturn, 1) := by decide +kernel
theorem dX11_laid_0 : decode cX11_laid 0 = .ok (.iload_n 1, 1) := by decide +kernel
theorem dX11_laid_1 : decode cX11_laid 1 = .ok (.iconst 1, 1) := by decide +kernel
theorem dX11_laid_2 : decode cX11_laid 2 = .ok (.if_icmp .lt 9, 3) := by decide +kernel
theorem dX11_laid_5 : decode cX11_laid 5 = .ok (.iload_n 1, 1) := by decide +kernel
theorem dX11_laid_6 : decode cX11_laid 6 = .ok (.bipush 9, 2) := by decide +kernel
theorem dX11_laid_8 : decode cX11_laid 8 = .ok (.if_icmp .le 6, 3) := by decide +kernel
theorem dX11_laid_11 : decode cX11_laid 11 = .ok (.ldc 97, 2) := by decide +kernel
theorem dX11_laid_13 : decode cX11_laid 13 = .ok (.ireturn, 1) := by decide +kernel
theorem dX11_laid_14 : decode cX11_laid 14 = .ok (.aload_n 0, 1) := by decide +kernel
theorem dX11_laid_15 : decode cX11_laid 15 = .ok (.getfield 68, 3) := by decide +kernel
theorem dX11_laid_18 : decode cX11_laid 18 = .ok (.aload_n 0, 1) := by decide +kernel
theorem dX11_laid_19 : decode cX11_laid 19 = .ok (.getfield 28, 3) := by decide +kernel
theorem dX11_laid_22 : decode cX11_laid 22 = .ok (.iload_n 1, 1) := by decide +kernel
theorem dX11_laid_23 : decode cX11_laid 23 = .ok (.invokevirtual 256, 3) := by decide +kernel
theorem dX11_laid_26 : decode cX11_laid 26 = .ok (.iload_n 2, 1) := by decide +kernel
theorem dX11_laid_27 : decode cX11_laid 27 = .ok (.iconst (-1), 1) := by decide +kernel
theorem dX11_laid_28 : decode cX11_laid 28 = .ok (.if_icmp .ne 11, 3) := by decide +kernel
theorem dX11_laid_31 : decode cX11_laid 31 = .ok (.aload_n 0, 1) := by decide +kernel
theorem dX11_laid_32 : decode cX11_laid 32 = .ok (.getfield 68, 3) := by decide +kernel
theorem dX11_laid_35 : decode cX11_laid 35 = .ok (.getfield 257, 3) := by decide +kernel
theorem dX11_laid_38 : decode cX11_laid 38 = .ok (.ireturn, 1) := by decide +kernel
theorem dX11_laid_39 : decode cX11_laid 39 = .ok (.iload_n 2, 1) := by decide +kernel
theorem dX11_laid_40 : decode cX11_laid 40 = .ok (.ifCond .lt 14, 3) := by decide +kernel
theorem dX11_laid_43 : decode cX11_laid 43 = .ok (.iload_n 2, 1) := by decide +kernel
theorem dX11_laid_44 : decode cX11_laid 44 = .ok (.aload_n 0, 1) := by decide +kernel
theorem dX11_laid_45 : decode cX11_laid 45 = .ok (.getfield 68, 3) := by decide +kernel
theorem dX11_laid_48 : decode cX11_laid 48 = .ok (.getfield 258, 3) := by decide +kernel
theorem dX11_laid_51 : decode cX11_laid 51 = .ok (.if_icmp .lt 7, 3) := by decide +kernel
theorem dX11_laid_54 : decode cX11_laid 54 = .ok (.iconst (-1), 1) := by decide +kernel
theorem dX11_laid_55 : decode cX11_laid 55 = .ok (.goto 12, 3) := by decide +kernel
theorem dX11_laid_58 : decode cX11_laid 58 = .ok (.aload_n 0, 1) := by decide +kernel
theorem dX11_laid_59 : decode cX11_laid 59 = .ok (.getfield 68, 3) := by decide +kernel
theorem dX11_laid_62 : decode cX11_laid 62 = .ok (.getfield 259, 3) := by decide +kernel
theorem dX11_laid_65 : decode cX11_laid 65 = .ok (.iload_n 2, 1) := by decide +kernel
theorem dX11_laid_66 : decode cX11_laid 66 = .ok (.iaload, 1) := by decide +kernel
theorem dX11_laid_67 : decode cX11_laid 67 = .ok (.ireturn, 1) := by decide +kernel
theorem dX11_change_0 : decode cX11_change 0 = .ok (.aload_n 0, 1) := by decide +kernel
theorem dX11_change_1 : decode cX11_change 1 = .ok (.getfield 68, 3) := by decide +kernel
theorem dX11_change_4 : decode cX11_change 4 = .ok (.aload_n 0, 1) := by decide +kernel
theorem dX11_change_5 : decode cX11_change 5 = .ok (.getfield 28, 3) := by decide +kernel
theorem dX11_change_8 : decode cX11_change 8 = .ok (.invokevirtual 260, 3) := by decide +kernel
theorem dX11_change_11 : decode cX11_change 11 = .ok (.iload_n 1, 1) := by decide +kernel
theorem dX11_change_12 : decode cX11_change 12 = .ok (.iconst (-1), 1) := by decide +kernel
theorem dX11_change_13 : decode cX11_change 13 = .ok (.if_icmp .ne 11, 3) := by decide +kernel
theorem dX11_change_16 : decode cX11_change 16 = .ok (.aload_n 0, 1) := by decide +kernel
theorem dX11_change_17 : decode cX11_change 17 = .ok (.getfield 68, 3) := by decide +kernel
theorem dX11_change_20 : decode cX11_change 20 = .ok (.getfield 263, 3) := by decide +kernel
theorem dX11_change_23 : decode cX11_change 23 = .ok (.ireturn, 1) := by decide +kernel
theorem dX11_change_24 : decode cX11_change 24 = .ok (.iload_n 1, 1) := by decide +kernel
theorem dX11_change_25 : decode cX11_change 25 = .ok (.ifCond .lt 14, 3) := by decide +kernel
theorem dX11_change_28 : decode cX11_change 28 = .ok (.iload_n 1, 1) := by decide +kernel
theorem dX11_change_29 : decode cX11_change 29 = .ok (.aload_n 0, 1) := by decide +kernel
theorem dX11_change_30 : decode cX11_change 30 = .ok (.getfield 68, 3) := by decide +kernel
theorem dX11_change_33 : decode cX11_change 33 = .ok (.getfield 263, 3) := by decide +kernel
theorem dX11_change_36 : decode cX11_change 36 = .ok (.if_icmp .lt 7, 3) := by decide +kernel
theorem dX11_change_39 : decode cX11_change 39 = .ok (.iconst (-1), 1) := by decide +kernel
theorem dX11_change_40 : decode cX11_change 40 = .ok (.goto 12, 3) := by decide +kernel
theorem dX11_change_43 : decode cX11_change 43 = .ok (.aload_n 0, 1) := by decide +kernel
theorem dX11_change_44 : decode cX11_change 44 = .ok (.getfield 68, 3) := by decide +kernel
theorem dX11_change_47 : decode cX11_change 47 = .ok (.getfield 266, 3) := by decide +kernel
theorem dX11_change_50 : decode cX11_change 50 = .ok (.iload_n 1, 1) := by decide +kernel
theorem dX11_change_51 : decode cX11_change 51 = .ok (.iaload, 1) := by decide +kernel
theorem dX11_change_52 : decode cX11_change 52 = .ok (.ireturn, 1) := by decide +kernel
theorem dX11_steady_0 : decode cX11_steady 0 = .ok (.iload_n 1, 1) := by decide +kernel
theorem dX11_steady_1 : decode cX11_steady 1 = .ok (.iconst (-1), 1) := by decide +kernel
theorem dX11_steady_2 : decode cX11_steady 2 = .ok (.if_icmp .eq 17, 3) := by decide +kernel
theorem dX11_steady_5 : decode cX11_steady 5 = .ok (.aload_n 0, 1) := by decide +kernel
theorem dX11_steady_6 : decode cX11_steady 6 = .ok (.getfield 24, 3) := by decide +kernel
theorem dX11_steady_9 : decode cX11_steady 9 = .ok (.iload_n 1, 1) := by decide +kernel
theorem dX11_steady_10 : decode cX11_steady 10 = .ok (.invokevirtual 173, 3) := by decide +kernel
theorem dX11_steady_13 : decode cX11_steady 13 = .ok (.ifCond .ne 6, 3) := by decide +kernel
theorem dX11_steady_16 : decode cX11_steady 16 = .ok (.ldc 165, 2) := by decide +kernel
theorem dX11_steady_18 : decode cX11_steady 18 = .ok (.ireturn, 1) := by decide +kernel
theorem dX11_steady_19 : decode cX11_steady 19 = .ok (.aload_n 0, 1) := by decide +kernel
theorem dX11_steady_20 : decode cX11_steady 20 = .ok (.getfield 24, 3) := by decide +kernel
theorem dX11_steady_23 : decode cX11_steady 23 = .ok (.getfield 136, 3) := by decide +kernel
theorem dX11_steady_26 : decode cX11_steady 26 = .ok (.ifCond .ne 6, 3) := by decide +kernel
theorem dX11_steady_29 : decode cX11_steady 29 = .ok (.ldc 208, 2) := by decide +kernel
theorem dX11_steady_31 : decode cX11_steady 31 = .ok (.ireturn, 1) := by decide +kernel
theorem dX11_steady_32 : decode cX11_steady 32 = .ok (.aload_n 0, 1) := by decide +kernel
theorem dX11_steady_33 : decode cX11_steady 33 = .ok (.getfield 75, 3) := by decide +kernel
theorem dX11_steady_36 : decode cX11_steady 36 = .ok (.aload_n 0, 1) := by decide +kernel
theorem dX11_steady_37 : decode cX11_steady 37 = .ok (.getfield 28, 3) := by decide +kernel
theorem dX11_steady_40 : decode cX11_steady 40 = .ok (.invokevirtual 269, 3) := by decide +kernel
theorem dX11_steady_43 : decode cX11_steady 43 = .ok (.iload_n 1, 1) := by decide +kernel
theorem dX11_steady_44 : decode cX11_steady 44 = .ok (.iconst (-1), 1) := by decide +kernel
theorem dX11_steady_45 : decode cX11_steady 45 = .ok (.if_icmp .eq 14, 3) := by decide +kernel
theorem dX11_steady_48 : decode cX11_steady 48 = .ok (.aload_n 0, 1) := by decide +kernel
theorem dX11_steady_49 : decode cX11_steady 49 = .ok (.getfield 75, 3) := by decide +kernel
theorem dX11_steady_52 : decode cX11_steady 52 = .ok (.getfield 271, 3) := by decide +kernel
theorem dX11_steady_55 : decode cX11_steady 55 = .ok (.iconst (-1), 1) := by decide +kernel
theorem dX11_steady_56 : decode cX11_steady 56 = .ok (.if_icmp .ne 11, 3) := by decide +kernel
theorem dX11_steady_59 : decode cX11_steady 59 = .ok (.aload_n 0, 1) := by decide +kernel
theorem dX11_steady_60 : decode cX11_steady 60 = .ok (.getfield 75, 3) := by decide +kernel
theorem dX11_steady_63 : decode cX11_steady 63 = .ok (.getfield 271, 3) := by decide +kernel
theorem dX11_steady_66 : decode cX11_steady 66 = .ok (.ireturn, 1) := by decide +kernel
theorem dX11_steady_67 : decode cX11_steady 67 = .ok (.aload_n 0, 1) := by decide +kernel
theorem dX11_steady_68 : decode cX11_steady 68 = .ok (.getfield 75, 3) := by decide +kernel
theorem dX11_steady_71 : decode cX11_steady 71 = .ok (.aload_n 0, 1) := by decide +kernel
theorem dX11_steady_72 : decode cX11_steady 72 = .ok (.getfield 28, 3) := by decide +kernel
theorem dX11_steady_75 : decode cX11_steady 75 = .ok (.iload_n 1, 1) := by decide +kernel
theorem dX11_steady_76 : decode cX11_steady 76 = .ok (.invokevirtual 272, 3) := by decide +kernel
theorem dX11_steady_79 : decode cX11_steady 79 = .ok (.ireturn, 1) := by decide +kernel
theorem dX11_twoBeds_0 : decode cX11_twoBeds 0 = .ok (.iload_n 1, 1) := by decide +kernel
theorem dX11_twoBeds_1 : decode cX11_twoBeds 1 = .ok (.ifCond .eq 11, 3) := by decide +kernel
theorem dX11_twoBeds_4 : decode cX11_twoBeds 4 = .ok (.iload_n 1, 1) := by decide +kernel
theorem dX11_twoBeds_5 : decode cX11_twoBeds 5 = .ok (.iconst 1, 1) := by decide +kernel
theorem dX11_twoBeds_6 : decode cX11_twoBeds 6 = .ok (.if_icmp .eq 6, 3) := by decide +kernel
theorem dX11_twoBeds_9 : decode cX11_twoBeds 9 = .ok (.ldc 97, 2) := by decide +kernel
theorem dX11_twoBeds_11 : decode cX11_twoBeds 11 = .ok (.ireturn, 1) := by decide +kernel
theorem dX11_twoBeds_12 : decode cX11_twoBeds 12 = .ok (.iconst (-1), 1) := by decide +kernel
theorem dX11_twoBeds_13 : decode cX11_twoBeds 13 = .ok (.istore_n 2, 1) := by decide +kernel
theorem dX11_twoBeds_14 : decode cX11_twoBeds 14 = .ok (.iconst (-1), 1) := by decide +kernel
theorem dX11_twoBeds_15 : decode cX11_twoBeds 15 = .ok (.istore_n 3, 1) := by decide +kernel
theorem dX11_twoBeds_16 : decode cX11_twoBeds 16 = .ok (.iconst 1, 1) := by decide +kernel
theorem dX11_twoBeds_17 : decode cX11_twoBeds 17 = .ok (.istore 4, 2) := by decide +kernel
theorem dX11_twoBeds_19 : decode cX11_twoBeds 19 = .ok (.iload 4, 2) := by decide +kernel
theorem dX11_twoBeds_21 : decode cX11_twoBeds 21 = .ok (.iconst 1, 1) := by decide +kernel
theorem dX11_twoBeds_22 : decode cX11_twoBeds 22 = .ok (.aload_n 0, 1) := by decide +kernel
theorem dX11_twoBeds_23 : decode cX11_twoBeds 23 = .ok (.getfield 24, 3) := by decide +kernel
theorem dX11_twoBeds_26 : decode cX11_twoBeds 26 = .ok (.getfield 130, 3) := by decide +kernel
theorem dX11_twoBeds_29 : decode cX11_twoBeds 29 = .ok (.ishl, 1) := by decide +kernel
theorem dX11_twoBeds_30 : decode cX11_twoBeds 30 = .ok (.if_icmp .ge 37, 3) := by decide +kernel
theorem dX11_twoBeds_33 : decode cX11_twoBeds 33 = .ok (.aload_n 0, 1) := by decide +kernel
theorem dX11_twoBeds_34 : decode cX11_twoBeds 34 = .ok (.getfield 24, 3) := by decide +kernel
theorem dX11_twoBeds_37 : decode cX11_twoBeds 37 = .ok (.iload 4, 2) := by decide +kernel
theorem dX11_twoBeds_39 : decode cX11_twoBeds 39 = .ok (.invokevirtual 276, 3) := by decide +kernel
theorem dX11_twoBeds_42 : decode cX11_twoBeds 42 = .ok (.istore 5, 2) := by decide +kernel
theorem dX11_twoBeds_44 : decode cX11_twoBeds 44 = .ok (.iload_n 2, 1) := by decide +kernel
theorem dX11_twoBeds_45 : decode cX11_twoBeds 45 = .ok (.iconst (-1), 1) := by decide +kernel
theorem dX11_twoBeds_46 : decode cX11_twoBeds 46 = .ok (.if_icmp .eq 9, 3) := by decide +kernel
theorem dX11_twoBeds_49 : decode cX11_twoBeds 49 = .ok (.iload 5, 2) := by decide +kernel
theorem dX11_twoBeds_51 : decode cX11_twoBeds 51 = .ok (.iload_n 2, 1) := by decide +kernel
theorem dX11_twoBeds_52 : decode cX11_twoBeds 52 = .ok (.if_icmp .ge 9, 3) := by decide +kernel
theorem dX11_twoBeds_55 : decode cX11_twoBeds 55 = .ok (.iload 5, 2) := by decide +kernel
theorem dX11_twoBeds_57 : decode cX11_twoBeds 57 = .ok (.istore_n 2, 1) := by decide +kernel
theorem dX11_twoBeds_58 : decode cX11_twoBeds 58 = .ok (.iload 4, 2) := by decide +kernel
theorem dX11_twoBeds_60 : decode cX11_twoBeds 60 = .ok (.istore_n 3, 1) := by decide +kernel
theorem dX11_twoBeds_61 : decode cX11_twoBeds 61 = .ok (.iinc 4 2, 3) := by decide +kernel
theorem dX11_twoBeds_64 : decode cX11_twoBeds 64 = .ok (.goto (-45), 3) := by decide +kernel
theorem dX11_twoBeds_67 : decode cX11_twoBeds 67 = .ok (.iload_n 1, 1) := by decide +kernel
theorem dX11_twoBeds_68 : decode cX11_twoBeds 68 = .ok (.ifCond .ne 7, 3) := by decide +kernel
theorem dX11_twoBeds_71 : decode cX11_twoBeds 71 = .ok (.iload_n 2, 1) := by decide +kernel
theorem dX11_twoBeds_72 : decode cX11_twoBeds 72 = .ok (.goto 4, 3) := by decide +kernel
theorem dX11_twoBeds_75 : decode cX11_twoBeds 75 = .ok (.iload_n 3, 1) := by decide +kernel
theorem dX11_twoBeds_76 : decode cX11_twoBeds 76 = .ok (.ireturn, 1) := by decide +kernel
theorem dX11_nobodyUp_0 : decode cX11_nobodyUp 0 = .ok (.iload_n 1, 1) := by decide +kernel
theorem dX11_nobodyUp_1 : decode cX11_nobodyUp 1 = .ok (.iconst 1, 1) := by decide +kernel
theorem dX11_nobodyUp_2 : decode cX11_nobodyUp 2 = .ok (.if_icmp .lt 20, 3) := by decide +kernel
theorem dX11_nobodyUp_5 : decode cX11_nobodyUp 5 = .ok (.iload_n 1, 1) := by decide +kernel
theorem dX11_nobodyUp_6 : decode cX11_nobodyUp 6 = .ok (.bipush 50, 2) := by decide +kernel
theorem dX11_nobodyUp_8 : decode cX11_nobodyUp 8 = .ok (.if_icmp .gt 14, 3) := by decide +kernel
theorem dX11_nobodyUp_11 : decode cX11_nobodyUp 11 = .ok (.iload_n 2, 1) := by decide +kernel
theorem dX11_nobodyUp_12 : decode cX11_nobodyUp 12 = .ok (.ifCond .lt 10, 3) := by decide +kernel
theorem dX11_nobodyUp_15 : decode cX11_nobodyUp 15 = .ok (.iload_n 2, 1) := by decide +kernel
theorem dX11_nobodyUp_16 : decode cX11_nobodyUp 16 = .ok (.sipush 1000, 3) := by decide +kernel
theorem dX11_nobodyUp_19 : decode cX11_nobodyUp 19 = .ok (.if_icmp .le 6, 3) := by decide +kernel
theorem dX11_nobodyUp_22 : decode cX11_nobodyUp 22 = .ok (.ldc 97, 2) := by decide +kernel
theorem dX11_nobodyUp_24 : decode cX11_nobodyUp 24 = .ok (.ireturn, 1) := by decide +kernel
theorem dX11_nobodyUp_25 : decode cX11_nobodyUp 25 = .ok (.iload_n 1, 1) := by decide +kernel
theorem dX11_nobodyUp_26 : decode cX11_nobodyUp 26 = .ok (.aload_n 0, 1) := by decide +kernel
theorem dX11_nobodyUp_27 : decode cX11_nobodyUp 27 = .ok (.getfield 28, 3) := by decide +kernel
theorem dX11_nobodyUp_30 : decode cX11_nobodyUp 30 = .ok (.invokevirtual 235, 3) := by decide +kernel
theorem dX11_nobodyUp_33 : decode cX11_nobodyUp 33 = .ok (.invokestatic 279, 3) := by decide +kernel
theorem dX11_nobodyUp_36 : decode cX11_nobodyUp 36 = .ok (.imul, 1) := by decide +kernel
theorem dX11_nobodyUp_37 : decode cX11_nobodyUp 37 = .ok (.istore_n 3, 1) := by decide +kernel
theorem dX11_nobodyUp_38 : decode cX11_nobodyUp 38 = .ok (.ldc2_w 282, 3) := by decide +kernel
theorem dX11_nobodyUp_41 : decode cX11_nobodyUp 41 = .ok (.lstore 4, 2) := by decide +kernel
theorem dX11_nobodyUp_43 : decode cX11_nobodyUp 43 = .ok (.iconst 0, 1) := by decide +kernel
theorem dX11_nobodyUp_44 : decode cX11_nobodyUp 44 = .ok (.istore 6, 2) := by decide +kernel
theorem dX11_nobodyUp_46 : decode cX11_nobodyUp 46 = .ok (.iload 6, 2) := by decide +kernel
theorem dX11_nobodyUp_48 : decode cX11_nobodyUp 48 = .ok (.iload_n 3, 1) := by decide +kernel
theorem dX11_nobodyUp_49 : decode cX11_nobodyUp 49 = .ok (.if_icmp .ge 24, 3) := by decide +kernel
theorem dX11_nobodyUp_52 : decode cX11_nobodyUp 52 = .ok (.lload 4, 2) := by decide +kernel
theorem dX11_nobodyUp_54 : decode cX11_nobodyUp 54 = .ok (.sipush 1000, 3) := by decide +kernel
theorem dX11_nobodyUp_57 : decode cX11_nobodyUp 57 = .ok (.iload_n 2, 1) := by decide +kernel
theorem dX11_nobodyUp_58 : decode cX11_nobodyUp 58 = .ok (.isub, 1) := by decide +kernel
theorem dX11_nobodyUp_59 : decode cX11_nobodyUp 59 = .ok (.i2l, 1) := by decide +kernel
theorem dX11_nobodyUp_60 : decode cX11_nobodyUp 60 = .ok (.lmul, 1) := by decide +kernel
theorem dX11_nobodyUp_61 : decode cX11_nobodyUp 61 = .ok (.ldc2_w 284, 3) := by decide +kernel
theorem dX11_nobodyUp_64 : decode cX11_nobodyUp 64 = .ok (.ldiv, 1) := by decide +kernel
theorem dX11_nobodyUp_65 : decode cX11_nobodyUp 65 = .ok (.lstore 4, 2) := by decide +kernel
theorem dX11_nobodyUp_67 : decode cX11_nobodyUp 67 = .ok (.iinc 6 1, 3) := by decide +kernel
theorem dX11_nobodyUp_70 : decode cX11_nobodyUp 70 = .ok (.goto (-24), 3) := by decide +kernel
theorem dX11_nobodyUp_73 : decode cX11_nobodyUp 73 = .ok (.lload 4, 2) := by decide +kernel
theorem dX11_nobodyUp_75 : decode cX11_nobodyUp 75 = .ok (.l2i, 1) := by decide +kernel
theorem dX11_nobodyUp_76 : decode cX11_nobodyUp 76 = .ok (.ireturn, 1) := by decide +kernel
theorem dX11_morning_0 : decode cX11_morning 0 = .ok (.aload_n 0, 1) := by decide +kernel
theorem dX11_morning_1 : decode cX11_morning 1 = .ok (.getfield 24, 3) := by decide +kernel
theorem dX11_morning_4 : decode cX11_morning 4 = .ok (.iload_n 1, 1) := by decide +kernel
theorem dX11_morning_5 : decode cX11_morning 5 = .ok (.invokevirtual 173, 3) := by decide +kernel
theorem dX11_morning_8 : decode cX11_morning 8 = .ok (.ifCond .eq 14, 3) := by decide +kernel
theorem dX11_morning_11 : decode cX11_morning 11 = .ok (.aload_n 0, 1) := by decide +kernel
theorem dX11_morning_12 : decode cX11_morning 12 = .ok (.getfield 24, 3) := by decide +kernel
theorem dX11_morning_15 : decode cX11_morning 15 = .ok (.iload_n 2, 1) := by decide +kernel
theorem dX11_morning_16 : decode cX11_morning 16 = .ok (.invokevirtual 162, 3) := by decide +kernel
theorem dX11_morning_19 : decode cX11_morning 19 = .ok (.ifCond .ne 6, 3) := by decide +kernel
theorem dX11_morning_22 : decode cX11_morning 22 = .ok (.ldc 165, 2) := by decide +kernel
theorem dX11_morning_24 : decode cX11_morning 24 = .ok (.ireturn, 1) := by decide +kernel
theorem dX11_morning_25 : decode cX11_morning 25 = .ok (.aload_n 0, 1) := by decide +kernel
theorem dX11_morning_26 : decode cX11_morning 26 = .ok (.getfield 82, 3) := by decide +kernel
theorem dX11_morning_29 : decode cX11_morning 29 = .ok (.iload_n 1, 1) := by decide +kernel
theorem dX11_morning_30 : decode cX11_morning 30 = .ok (.iload_n 2, 1) := by decide +kernel
theorem dX11_morning_31 : decode cX11_morning 31 = .ok (.invokevirtual 286, 3) := by decide +kernel
theorem dX11_morning_34 : decode cX11_morning 34 = .ok (.ifCond .eq 13, 3) := by decide +kernel
theorem dX11_morning_37 : decode cX11_morning 37 = .ok (.aload_n 0, 1) := by decide +kernel
theorem dX11_morning_38 : decode cX11_morning 38 = .ok (.getfield 82, 3) := by decide +kernel
theorem dX11_morning_41 : decode cX11_morning 41 = .ok (.getfield 157, 3) := by decide +kernel
theorem dX11_morning_44 : decode cX11_morning 44 = .ok (.goto 5, 3) := by decide +kernel
theorem dX11_morning_47 : decode cX11_morning 47 = .ok (.ldc 105, 2) := by decide +kernel
theorem dX11_morning_49 : decode cX11_morning 49 = .ok (.ireturn, 1) := by decide +kernel
theorem dX11_counted_0 : decode cX11_counted 0 = .ok (.iload_n 1, 1) := by decide +kernel
theorem dX11_counted_1 : decode cX11_counted 1 = .ok (.iconst 1, 1) := by decide +kernel
theorem dX11_counted_2 : decode cX11_counted 2 = .ok (.if_icmp .lt 8, 3) := by decide +kernel
theorem dX11_counted_5 : decode cX11_counted 5 = .ok (.iload_n 1, 1) := by decide +kernel
theorem dX11_counted_6 : decode cX11_counted 6 = .ok (.iconst 5, 1) := by decide +kernel
theorem dX11_counted_7 : decode cX11_counted 7 = .ok (.if_icmp .le 6, 3) := by decide +kernel
theorem dX11_counted_10 : decode cX11_counted 10 = .ok (.ldc 97, 2) := by decide +kernel
theorem dX11_counted_12 : decode cX11_counted 12 = .ok (.ireturn, 1) := by decide +kernel
theorem dX11_counted_13 : decode cX11_counted 13 = .ok (.aload_n 0, 1) := by decide +kernel
theorem dX11_counted_14 : decode cX11_counted 14 = .ok (.getfield 24, 3) := by decide +kernel
theorem dX11_counted_17 : decode cX11_counted 17 = .ok (.getfield 136, 3) := by decide +kernel
theorem dX11_counted_20 : decode cX11_counted 20 = .ok (.ifCond .ne 6, 3) := by decide +kernel
theorem dX11_counted_23 : decode cX11_counted 23 = .ok (.ldc 208, 2) := by decide +kernel
theorem dX11_counted_25 : decode cX11_counted 25 = .ok (.ireturn, 1) := by decide +kernel
theorem dX11_counted_26 : decode cX11_counted 26 = .ok (.aload_n 0, 1) := by decide +kernel
theorem dX11_counted_27 : decode cX11_counted 27 = .ok (.getfield 82, 3) := by decide +kernel
theorem dX11_counted_30 : decode cX11_counted 30 = .ok (.aload_n 0, 1) := by decide +kernel
theorem dX11_counted_31 : decode cX11_counted 31 = .ok (.getfield 28, 3) := by decide +kernel
theorem dX11_counted_34 : decode cX11_counted 34 = .ok (.iload_n 1, 1) := by decide +kernel
theorem dX11_counted_35 : decode cX11_counted 35 = .ok (.invokevirtual 289, 3) := by decide +kernel
theorem dX11_counted_38 : decode cX11_counted 38 = .ok (.iload_n 2, 1) := by decide +kernel
theorem dX11_counted_39 : decode cX11_counted 39 = .ok (.iconst (-1), 1) := by decide +kernel
theorem dX11_counted_40 : decode cX11_counted 40 = .ok (.if_icmp .ne 11, 3) := by decide +kernel
theorem dX11_counted_43 : decode cX11_counted 43 = .ok (.aload_n 0, 1) := by decide +kernel
theorem dX11_counted_44 : decode cX11_counted 44 = .ok (.getfield 82, 3) := by decide +kernel
theorem dX11_counted_47 : decode cX11_counted 47 = .ok (.getfield 290, 3) := by decide +kernel
theorem dX11_counted_50 : decode cX11_counted 50 = .ok (.ireturn, 1) := by decide +kernel
theorem dX11_counted_51 : decode cX11_counted 51 = .ok (.iload_n 2, 1) := by decide +kernel
theorem dX11_counted_52 : decode cX11_counted 52 = .ok (.ifCond .lt 18, 3) := by decide +kernel
theorem dX11_counted_55 : decode cX11_counted 55 = .ok (.iload_n 2, 1) := by decide +kernel
theorem dX11_counted_56 : decode cX11_counted 56 = .ok (.iload_n 1, 1) := by decide +kernel
theorem dX11_counted_57 : decode cX11_counted 57 = .ok (.if_icmp .ge 13, 3) := by decide +kernel
theorem dX11_counted_60 : decode cX11_counted 60 = .ok (.aload_n 0, 1) := by decide +kernel
theorem dX11_counted_61 : decode cX11_counted 61 = .ok (.getfield 82, 3) := by decide +kernel
theorem dX11_counted_64 : decode cX11_counted 64 = .ok (.getfield 290, 3) := by decide +kernel
theorem dX11_counted_67 : decode cX11_counted 67 = .ok (.ifCond .ne 7, 3) := by decide +kernel
theorem dX11_counted_70 : decode cX11_counted 70 = .ok (.iconst (-1), 1) := by decide +kernel
theorem dX11_counted_71 : decode cX11_counted 71 = .ok (.goto 15, 3) := by decide +kernel
theorem dX11_counted_74 : decode cX11_counted 74 = .ok (.aload_n 0, 1) := by decide +kernel
theorem dX11_counted_75 : decode cX11_counted 75 = .ok (.getfield 82, 3) := by decide +kernel
theorem dX11_counted_78 : decode cX11_counted 78 = .ok (.getfield 293, 3) := by decide +kernel
theorem dX11_counted_81 : decode cX11_counted 81 = .ok (.iload_n 1, 1) := by decide +kernel
theorem dX11_counted_82 : decode cX11_counted 82 = .ok (.iload_n 2, 1) := by decide +kernel
theorem dX11_counted_83 : decode cX11_counted 83 = .ok (.invokestatic 252, 3) := by decide +kernel
theorem dX11_counted_86 : decode cX11_counted 86 = .ok (.ireturn, 1) := by decide +kernel
theorem dX11_sure_0 : decode cX11_sure 0 = .ok (.iload_n 1, 1) := by decide +kernel
theorem dX11_sure_1 : decode cX11_sure 1 = .ok (.iconst 1, 1) := by decide +kernel
theorem dX11_sure_2 : decode cX11_sure 2 = .ok (.if_icmp .lt 8, 3) := by decide +kernel
theorem dX11_sure_5 : decode cX11_sure 5 = .ok (.iload_n 1, 1) := by decide +kernel
theorem dX11_sure_6 : decode cX11_sure 6 = .ok (.iconst 5, 1) := by decide +kernel
theorem dX11_sure_7 : decode cX11_sure 7 = .ok (.if_icmp .le 6, 3) := by decide +kernel
theorem dX11_sure_10 : decode cX11_sure 10 = .ok (.ldc 97, 2) := by decide +kernel
theorem dX11_sure_12 : decode cX11_sure 12 = .ok (.ireturn, 1) := by decide +kernel
theorem dX11_sure_13 : decode cX11_sure 13 = .ok (.aload_n 0, 1) := by decide +kernel
theorem dX11_sure_14 : decode cX11_sure 14 = .ok (.getfield 24, 3) := by decide +kernel
theorem dX11_sure_17 : decode cX11_sure 17 = .ok (.getfield 136, 3) := by decide +kernel
theorem dX11_sure_20 : decode cX11_sure 20 = .ok (.ifCond .ne 6, 3) := by decide +kernel
theorem dX11_sure_23 : decode cX11_sure 23 = .ok (.ldc 208, 2) := by decide +kernel
theorem dX11_sure_25 : decode cX11_sure 25 = .ok (.ireturn, 1) := by decide +kernel
theorem dX11_sure_26 : decode cX11_sure 26 = .ok (.aload_n 0, 1) := by decide +kernel
theorem dX11_sure_27 : decode cX11_sure 27 = .ok (.getfield 82, 3) := by decide +kernel
theorem dX11_sure_30 : decode cX11_sure 30 = .ok (.aload_n 0, 1) := by decide +kernel
theorem dX11_sure_31 : decode cX11_sure 31 = .ok (.getfield 28, 3) := by decide +kernel
theorem dX11_sure_34 : decode cX11_sure 34 = .ok (.iload_n 1, 1) := by decide +kernel
theorem dX11_sure_35 : decode cX11_sure 35 = .ok (.invokevirtual 289, 3) := by decide +kernel
theorem dX11_sure_38 : decode cX11_sure 38 = .ok (.aload_n 0, 1) := by decide +kernel
theorem dX11_sure_39 : decode cX11_sure 39 = .ok (.getfield 82, 3) := by decide +kernel
theorem dX11_sure_42 : decode cX11_sure 42 = .ok (.getfield 296, 3) := by decide +kernel
theorem dX11_sure_45 : decode cX11_sure 45 = .ok (.ireturn, 1) := by decide +kernel
theorem dX11_write_0 : decode cX11_write 0 = .ok (.iload_n 1, 1) := by decide +kernel
theorem dX11_write_1 : decode cX11_write 1 = .ok (.invokestatic 195, 3) := by decide +kernel
theorem dX11_write_4 : decode cX11_write 4 = .ok (.ifCond .ne 6, 3) := by decide +kernel
theorem dX11_write_7 : decode cX11_write 7 = .ok (.ldc 165, 2) := by decide +kernel
theorem dX11_write_9 : decode cX11_write 9 = .ok (.ireturn, 1) := by decide +kernel
theorem dX11_write_10 : decode cX11_write 10 = .ok (.aload_n 0, 1) := by decide +kernel
theorem dX11_write_11 : decode cX11_write 11 = .ok (.getfield 89, 3) := by decide +kernel
theorem dX11_write_14 : decode cX11_write 14 = .ok (.iload_n 1, 1) := by decide +kernel
theorem dX11_write_15 : decode cX11_write 15 = .ok (.invokevirtual 299, 3) := by decide +kernel
theorem dX11_write_18 : decode cX11_write 18 = .ok (.ifCond .eq 13, 3) := by decide +kernel
theorem dX11_write_21 : decode cX11_write 21 = .ok (.aload_n 0, 1) := by decide +kernel
theorem dX11_write_22 : decode cX11_write 22 = .ok (.getfield 89, 3) := by decide +kernel
theorem dX11_write_25 : decode cX11_write 25 = .ok (.getfield 160, 3) := by decide +kernel
theorem dX11_write_28 : decode cX11_write 28 = .ok (.goto 5, 3) := by decide +kernel
theorem dX11_write_31 : decode cX11_write 31 = .ok (.ldc 105, 2) := by decide +kernel
theorem dX11_write_33 : decode cX11_write 33 = .ok (.ireturn, 1) := by decide +kernel
theorem dX11_judge_0 : decode cX11_judge 0 = .ok (.iload_n 1, 1) := by decide +kernel
theorem dX11_judge_1 : decode cX11_judge 1 = .ok (.ifCond .eq 11, 3) := by decide +kernel
theorem dX11_judge_4 : decode cX11_judge 4 = .ok (.iload_n 1, 1) := by decide +kernel
theorem dX11_judge_5 : decode cX11_judge 5 = .ok (.iconst 1, 1) := by decide +kernel
theorem dX11_judge_6 : decode cX11_judge 6 = .ok (.if_icmp .eq 6, 3) := by decide +kernel
theorem dX11_judge_9 : decode cX11_judge 9 = .ok (.ldc 97, 2) := by decide +kernel
theorem dX11_judge_11 : decode cX11_judge 11 = .ok (.ireturn, 1) := by decide +kernel
theorem dX11_judge_12 : decode cX11_judge 12 = .ok (.aload_n 0, 1) := by decide +kernel
theorem dX11_judge_13 : decode cX11_judge 13 = .ok (.getfield 28, 3) := by decide +kernel
theorem dX11_judge_16 : decode cX11_judge 16 = .ok (.invokevirtual 235, 3) := by decide +kernel
theorem dX11_judge_19 : decode cX11_judge 19 = .ok (.ifCond .ne 6, 3) := by decide +kernel
theorem dX11_judge_22 : decode cX11_judge 22 = .ok (.ldc 208, 2) := by decide +kernel
theorem dX11_judge_24 : decode cX11_judge 24 = .ok (.ireturn, 1) := by decide +kernel
theorem dX11_judge_25 : decode cX11_judge 25 = .ok (.aload_n 0, 1) := by decide +kernel
theorem dX11_judge_26 : decode cX11_judge 26 = .ok (.getfield 32, 3) := by decide +kernel
theorem dX11_judge_29 : decode cX11_judge 29 = .ok (.aload_n 0, 1) := by decide +kernel
theorem dX11_judge_30 : decode cX11_judge 30 = .ok (.getfield 28, 3) := by decide +kernel
theorem dX11_judge_33 : decode cX11_judge 33 = .ok (.invokevirtual 225, 3) := by decide +kernel
theorem dX11_judge_36 : decode cX11_judge 36 = .ok (.aload_n 0, 1) := by decide +kernel
theorem dX11_judge_37 : decode cX11_judge 37 = .ok (.getfield 89, 3) := by decide +kernel
theorem dX11_judge_40 : decode cX11_judge 40 = .ok (.aload_n 0, 1) := by decide +kernel
theorem dX11_judge_41 : decode cX11_judge 41 = .ok (.getfield 32, 3) := by decide +kernel
theorem dX11_judge_44 : decode cX11_judge 44 = .ok (.invokevirtual 300, 3) := by decide +kernel
theorem dX11_judge_47 : decode cX11_judge 47 = .ok (.istore_n 2, 1) := by decide +kernel
theorem dX11_judge_48 : decode cX11_judge 48 = .ok (.iload_n 1, 1) := by decide +kernel
theorem dX11_judge_49 : decode cX11_judge 49 = .ok (.ifCond .ne 7, 3) := by decide +kernel
theorem dX11_judge_52 : decode cX11_judge 52 = .ok (.iload_n 2, 1) := by decide +kernel
theorem dX11_judge_53 : decode cX11_judge 53 = .ok (.goto 10, 3) := by decide +kernel
theorem dX11_judge_56 : decode cX11_judge 56 = .ok (.aload_n 0, 1) := by decide +kernel
theorem dX11_judge_57 : decode cX11_judge 57 = .ok (.getfield 32, 3) := by decide +kernel
theorem dX11_judge_60 : decode cX11_judge 60 = .ok (.invokevirtual 154, 3) := by decide +kernel
theorem dX11_judge_63 : decode cX11_judge 63 = .ok (.ireturn, 1) := by decide +kernel
theorem dX11_tear_0 : decode cX11_tear 0 = .ok (.aload_n 0, 1) := by decide +kernel
theorem dX11_tear_1 : decode cX11_tear 1 = .ok (.getfield 82, 3) := by decide +kernel
theorem dX11_tear_4 : decode cX11_tear 4 = .ok (.getfield 157, 3) := by decide +kernel
theorem dX11_tear_7 : decode cX11_tear 7 = .ok (.aload_n 0, 1) := by decide +kernel
theorem dX11_tear_8 : decode cX11_tear 8 = .ok (.getfield 89, 3) := by decide +kernel
theorem dX11_tear_11 : decode cX11_tear 11 = .ok (.getfield 160, 3) := by decide +kernel
theorem dX11_tear_14 : decode cX11_tear 14 = .ok (.iadd, 1) := by decide +kernel
theorem dX11_tear_15 : decode cX11_tear 15 = .ok (.istore_n 1, 1) := by decide +kernel
theorem dX11_tear_16 : decode cX11_tear 16 = .ok (.aload_n 0, 1) := by decide +kernel
theorem dX11_tear_17 : decode cX11_tear 17 = .ok (.getfield 82, 3) := by decide +kernel
theorem dX11_tear_20 : decode cX11_tear 20 = .ok (.invokevirtual 119, 3) := by decide +kernel
theorem dX11_tear_23 : decode cX11_tear 23 = .ok (.aload_n 0, 1) := by decide +kernel
theorem dX11_tear_24 : decode cX11_tear 24 = .ok (.getfield 89, 3) := by decide +kernel
theorem dX11_tear_27 : decode cX11_tear 27 = .ok (.invokevirtual 122, 3) := by decide +kernel
theorem dX11_tear_30 : decode cX11_tear 30 = .ok (.iload_n 1, 1) := by decide +kernel
theorem dX11_tear_31 : decode cX11_tear 31 = .ok (.ireturn, 1) := by decide +kernel
theorem dX11_seed_0 : decode cX11_seed 0 = .ok (.iload_n 1, 1) := by decide +kernel
theorem dX11_seed_1 : decode cX11_seed 1 = .ok (.ifCond .ge 6, 3) := by decide +kernel
theorem dX11_seed_4 : decode cX11_seed 4 = .ok (.ldc 97, 2) := by decide +kernel
theorem dX11_seed_6 : decode cX11_seed 6 = .ok (.ireturn, 1) := by decide +kernel
theorem dX11_seed_7 : decode cX11_seed 7 = .ok (.aload_n 0, 1) := by decide +kernel
theorem dX11_seed_8 : decode cX11_seed 8 = .ok (.getfield 93, 3) := by decide +kernel
theorem dX11_seed_11 : decode cX11_seed 11 = .ok (.istore_n 2, 1) := by decide +kernel
theorem dX11_seed_12 : decode cX11_seed 12 = .ok (.aload_n 0, 1) := by decide +kernel
theorem dX11_seed_13 : decode cX11_seed 13 = .ok (.iload_n 1, 1) := by decide +kernel
theorem dX11_seed_14 : decode cX11_seed 14 = .ok (.putfield 93, 3) := by decide +kernel
theorem dX11_seed_17 : decode cX11_seed 17 = .ok (.iload_n 2, 1) := by decide +kernel
theorem dX11_seed_18 : decode cX11_seed 18 = .ok (.ireturn, 1) := by decide +kernel
theorem dX11_keep_0 : decode cX11_keep 0 = .ok (.iload_n 1, 1) := by decide +kernel
theorem dX11_keep_1 : decode cX11_keep 1 = .ok (.ifCond .lt 8, 3) := by decide +kernel
theorem dX11_keep_4 : decode cX11_keep 4 = .ok (.iload_n 1, 1) := by decide +kernel
theorem dX11_keep_5 : decode cX11_keep 5 = .ok (.iconst 2, 1) := by decide +kernel
theorem dX11_keep_6 : decode cX11_keep 6 = .ok (.if_icmp .lt 6, 3) := by decide +kernel
theorem dX11_keep_9 : decode cX11_keep 9 = .ok (.ldc 165, 2) := by decide +kernel
theorem dX11_keep_11 : decode cX11_keep 11 = .ok (.ireturn, 1) := by decide +kernel
theorem dX11_keep_12 : decode cX11_keep 12 = .ok (.aload_n 0, 1) := by decide +kernel
theorem dX11_keep_13 : decode cX11_keep 13 = .ok (.getfield 44, 3) := by decide +kernel
theorem dX11_keep_16 : decode cX11_keep 16 = .ok (.iload_n 1, 1) := by decide +kernel
theorem dX11_keep_17 : decode cX11_keep 17 = .ok (.aaload, 1) := by decide +kernel
theorem dX11_keep_18 : decode cX11_keep 18 = .ok (.aload_n 0, 1) := by decide +kernel
theorem dX11_keep_19 : decode cX11_keep 19 = .ok (.getfield 28, 3) := by decide +kernel
theorem dX11_keep_22 : decode cX11_keep 22 = .ok (.aload_n 0, 1) := by decide +kernel
theorem dX11_keep_23 : decode cX11_keep 23 = .ok (.getfield 93, 3) := by decide +kernel
theorem dX11_keep_26 : decode cX11_keep 26 = .ok (.invokevirtual 304, 3) := by decide +kernel
theorem dX11_keep_29 : decode cX11_keep 29 = .ok (.aload_n 0, 1) := by decide +kernel
theorem dX11_keep_30 : decode cX11_keep 30 = .ok (.getfield 38, 3) := by decide +kernel
theorem dX11_keep_33 : decode cX11_keep 33 = .ok (.invokevirtual 123, 3) := by decide +kernel
theorem dX11_keep_36 : decode cX11_keep 36 = .ok (.iconst 1, 1) := by decide +kernel
theorem dX11_keep_37 : decode cX11_keep 37 = .ok (.ireturn, 1) := by decide +kernel
theorem dX11_goBack_0 : decode cX11_goBack 0 = .ok (.iload_n 1, 1) := by decide +kernel
theorem dX11_goBack_1 : decode cX11_goBack 1 = .ok (.ifCond .lt 8, 3) := by decide +kernel
theorem dX11_goBack_4 : decode cX11_goBack 4 = .ok (.iload_n 1, 1) := by decide +kernel
theorem dX11_goBack_5 : decode cX11_goBack 5 = .ok (.iconst 2, 1) := by decide +kernel
theorem dX11_goBack_6 : decode cX11_goBack 6 = .ok (.if_icmp .lt 6, 3) := by decide +kernel
theorem dX11_goBack_9 : decode cX11_goBack 9 = .ok (.ldc 165, 2) := by decide +kernel
theorem dX11_goBack_11 : decode cX11_goBack 11 = .ok (.ireturn, 1) := by decide +kernel
theorem dX11_goBack_12 : decode cX11_goBack 12 = .ok (.aload_n 0, 1) := by decide +kernel
theorem dX11_goBack_13 : decode cX11_goBack 13 = .ok (.getfield 44, 3) := by decide +kernel
theorem dX11_goBack_16 : decode cX11_goBack 16 = .ok (.iload_n 1, 1) := by decide +kernel
theorem dX11_goBack_17 : decode cX11_goBack 17 = .ok (.aaload, 1) := by decide +kernel
theorem dX11_goBack_18 : decode cX11_goBack 18 = .ok (.astore_n 2, 1) := by decide +kernel
theorem dX11_goBack_19 : decode cX11_goBack 19 = .ok (.aload_n 2, 1) := by decide +kernel
theorem dX11_goBack_20 : decode cX11_goBack 20 = .ok (.getfield 126, 3) := by decide +kernel
theorem dX11_goBack_23 : decode cX11_goBack 23 = .ok (.ifCond .ne 6, 3) := by decide +kernel
theorem dX11_goBack_26 : decode cX11_goBack 26 = .ok (.ldc 208, 2) := by decide +kernel
theorem dX11_goBack_28 : decode cX11_goBack 28 = .ok (.ireturn, 1) := by decide +kernel
theorem dX11_goBack_29 : decode cX11_goBack 29 = .ok (.aload_n 0, 1) := by decide +kernel
theorem dX11_goBack_30 : decode cX11_goBack 30 = .ok (.getfield 28, 3) := by decide +kernel
theorem dX11_goBack_33 : decode cX11_goBack 33 = .ok (.aload_n 2, 1) := by decide +kernel
theorem dX11_goBack_34 : decode cX11_goBack 34 = .ok (.getfield 307, 3) := by decide +kernel
theorem dX11_goBack_37 : decode cX11_goBack 37 = .ok (.aload_n 2, 1) := by decide +kernel
theorem dX11_goBack_38 : decode cX11_goBack 38 = .ok (.getfield 311, 3) := by decide +kernel
theorem dX11_goBack_41 : decode cX11_goBack 41 = .ok (.invokevirtual 312, 3) := by decide +kernel
theorem dX11_goBack_44 : decode cX11_goBack 44 = .ok (.aload_n 0, 1) := by decide +kernel
theorem dX11_goBack_45 : decode cX11_goBack 45 = .ok (.aload_n 2, 1) := by decide +kernel
theorem dX11_goBack_46 : decode cX11_goBack 46 = .ok (.getfield 316, 3) := by decide +kernel
theorem dX11_goBack_49 : decode cX11_goBack 49 = .ok (.putfield 93, 3) := by decide +kernel
theorem dX11_goBack_52 : decode cX11_goBack 52 = .ok (.aload_n 0, 1) := by decide +kernel
theorem dX11_goBack_53 : decode cX11_goBack 53 = .ok (.getfield 38, 3) := by decide +kernel
theorem dX11_goBack_56 : decode cX11_goBack 56 = .ok (.invokevirtual 123, 3) := by decide +kernel
theorem dX11_goBack_59 : decode cX11_goBack 59 = .ok (.iconst 1, 1) := by decide +kernel
theorem dX11_goBack_60 : decode cX11_goBack 60 = .ok (.ireturn, 1) := by decide +kernel
theorem dX11_isWord_0 : decode cX11_isWord 0 = .ok (.iload_n 0, 1) := by decide +kernel
theorem dX11_isWord_1 : decode cX11_isWord 1 = .ok (.ifCond .lt 12, 3) := by decide +kernel
theorem dX11_isWord_4 : decode cX11_isWord 4 = .ok (.iload_n 0, 1) := by decide +kernel
theorem dX11_isWord_5 : decode cX11_isWord 5 = .ok (.iconst 4, 1) := by decide +kernel
theorem dX11_isWord_6 : decode cX11_isWord 6 = .ok (.if_icmp .ge 7, 3) := by decide +kernel
theorem dX11_isWord_9 : decode cX11_isWord 9 = .ok (.iconst 1, 1) := by decide +kernel
theorem dX11_isWord_10 : decode cX11_isWord 10 = .ok (.goto 4, 3) := by decide +kernel
theorem dX11_isWord_13 : decode cX11_isWord 13 = .ok (.iconst 0, 1) := by decide +kernel
theorem dX11_isWord_14 : decode cX11_isWord 14 = .ok (.ireturn, 1) := by decide +kernel
theorem dX11_wordOf_0 : decode cX11_wordOf 0 = .ok (.iload_n 0, 1) := by decide +kernel
theorem dX11_wordOf_1 : decode cX11_wordOf 1 = .ok (.iconst 2, 1) := by decide +kernel
theorem dX11_wordOf_2 : decode cX11_wordOf 2 = .ok (.iload_n 1, 1) := by decide +kernel
theorem dX11_wordOf_3 : decode cX11_wordOf 3 = .ok (.iconst 1, 1) := by decide +kernel
theorem dX11_wordOf_4 : decode cX11_wordOf 4 = .ok (.isub, 1) := by decide +kernel
theorem dX11_wordOf_5 : decode cX11_wordOf 5 = .ok (.iload_n 2, 1) := by decide +kernel
theorem dX11_wordOf_6 : decode cX11_wordOf 6 = .ok (.isub, 1) := by decide +kernel
theorem dX11_wordOf_7 : decode cX11_wordOf 7 = .ok (.imul, 1) := by decide +kernel
theorem dX11_wordOf_8 : decode cX11_wordOf 8 = .ok (.ishr, 1) := by decide +kernel
theorem dX11_wordOf_9 : decode cX11_wordOf 9 = .ok (.iconst 3, 1) := by decide +kernel
theorem dX11_wordOf_10 : decode cX11_wordOf 10 = .ok (.iand, 1) := by decide +kernel
theorem dX11_wordOf_11 : decode cX11_wordOf 11 = .ok (.ireturn, 1) := by decide +kernel
theorem dX11_hoursRefused_0 : decode cX11_hoursRefused 0 = .ok (.aload_n 0, 1) := by decide +kernel
theorem dX11_hoursRefused_1 : decode cX11_hoursRefused 1 = .ok (.getfield 24, 3) := by decide +kernel
theorem dX11_hoursRefused_4 : decode cX11_hoursRefused 4 = .ok (.getfield 136, 3) := by decide +kernel
theorem dX11_hoursRefused_7 : decode cX11_hoursRefused 7 = .ok (.ifCond .ne 6, 3) := by decide +kernel
theorem dX11_hoursRefused_10 : decode cX11_hoursRefused 10 = .ok (.ldc 208, 2) := by decide +kernel
theorem dX11_hoursRefused_12 : decode cX11_hoursRefused 12 = .ok (.ireturn, 1) := by decide +kernel
theorem dX11_hoursRefused_13 : decode cX11_hoursRefused 13 = .ok (.aload_n 0, 1) := by decide +kernel
theorem dX11_hoursRefused_14 : decode cX11_hoursRefused 14 = .ok (.getfield 28, 3) := by decide +kernel
theorem dX11_hoursRefused_17 : decode cX11_hoursRefused 17 = .ok (.getfield 145, 3) := by decide +kernel
theorem dX11_hoursRefused_20 : decode cX11_hoursRefused 20 = .ok (.ldc_w 319, 3) := by decide +kernel
theorem dX11_hoursRefused_23 : decode cX11_hoursRefused 23 = .ok (.if_icmp .le 8, 3) := by decide +kernel
theorem dX11_hoursRefused_26 : decode cX11_hoursRefused 26 = .ok (.ldc 105, 2) := by decide +kernel
theorem dX11_hoursRefused_28 : decode cX11_hoursRefused 28 = .ok (.goto 4, 3) := by decide +kernel
theorem dX11_hoursRefused_31 : decode cX11_hoursRefused 31 = .ok (.iconst 0, 1) := by decide +kernel
theorem dX11_hoursRefused_32 : decode cX11_hoursRefused 32 = .ok (.ireturn, 1) := by decide +kernel
theorem dX11_goOn_0 : decode cX11_goOn 0 = .ok (.aload_n 0, 1) := by decide +kernel
theorem dX11_goOn_1 : decode cX11_goOn 1 = .ok (.getfield 38, 3) := by decide +kernel
theorem dX11_goOn_4 : decode cX11_goOn 4 = .ok (.aload_n 0, 1) := by decide +kernel
theorem dX11_goOn_5 : decode cX11_goOn 5 = .ok (.getfield 28, 3) := by decide +kernel
theorem dX11_goOn_8 : decode cX11_goOn 8 = .ok (.invokevirtual 209, 3) := by decide +kernel
theorem dX11_goOn_11 : decode cX11_goOn 11 = .ok (.aload_n 0, 1) := by decide +kernel
theorem dX11_goOn_12 : decode cX11_goOn 12 = .ok (.getfield 28, 3) := by decide +kernel
theorem dX11_goOn_15 : decode cX11_goOn 15 = .ok (.iload_n 1, 1) := by decide +kernel
theorem dX11_goOn_16 : decode cX11_goOn 16 = .ok (.invokevirtual 320, 3) := by decide +kernel
theorem dX11_goOn_19 : decode cX11_goOn 19 = .ok (.return_, 1) := by decide +kernel
theorem dX11_drawOfSix_0 : decode cX11_drawOfSix 0 = .ok (.aload_n 0, 1) := by decide +kernel
theorem dX11_drawOfSix_1 : decode cX11_drawOfSix 1 = .ok (.aload_n 0, 1) := by decide +kernel
theorem dX11_drawOfSix_2 : decode cX11_drawOfSix 2 = .ok (.getfield 93, 3) := by decide +kernel
theorem dX11_drawOfSix_5 : decode cX11_drawOfSix 5 = .ok (.i2l, 1) := by decide +kernel
theorem dX11_drawOfSix_6 : decode cX11_drawOfSix 6 = .ok (.ldc2_w 323, 3) := by decide +kernel
theorem dX11_drawOfSix_9 : decode cX11_drawOfSix 9 = .ok (.lmul, 1) := by decide +kernel
theorem dX11_drawOfSix_10 : decode cX11_drawOfSix 10 = .ok (.ldc2_w 325, 3) := by decide +kernel
theorem dX11_drawOfSix_13 : decode cX11_drawOfSix 13 = .ok (.ladd, 1) := by decide +kernel
theorem dX11_drawOfSix_14 : decode cX11_drawOfSix 14 = .ok (.ldc2_w 327, 3) := by decide +kernel
theorem dX11_drawOfSix_17 : decode cX11_drawOfSix 17 = .ok (.land, 1) := by decide +kernel
theorem dX11_drawOfSix_18 : decode cX11_drawOfSix 18 = .ok (.l2i, 1) := by decide +kernel
theorem dX11_drawOfSix_19 : decode cX11_drawOfSix 19 = .ok (.putfield 93, 3) := by decide +kernel
theorem dX11_drawOfSix_22 : decode cX11_drawOfSix 22 = .ok (.aload_n 0, 1) := by decide +kernel
theorem dX11_drawOfSix_23 : decode cX11_drawOfSix 23 = .ok (.getfield 93, 3) := by decide +kernel
theorem dX11_drawOfSix_26 : decode cX11_drawOfSix 26 = .ok (.ldc_w 329, 3) := by decide +kernel
theorem dX11_drawOfSix_29 : decode cX11_drawOfSix 29 = .ok (.idiv, 1) := by decide +kernel
theorem dX11_drawOfSix_30 : decode cX11_drawOfSix 30 = .ok (.bipush 6, 2) := by decide +kernel
theorem dX11_drawOfSix_32 : decode cX11_drawOfSix 32 = .ok (.irem, 1) := by decide +kernel
theorem dX11_drawOfSix_33 : decode cX11_drawOfSix 33 = .ok (.ireturn, 1) := by decide +kernel
