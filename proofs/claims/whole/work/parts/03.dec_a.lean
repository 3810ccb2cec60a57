theorem dX0_init_0 : decode cX0_init 0 = .ok (.aload_n 0, 1) := by decide +kernel
theorem dX0_init_1 : decode cX0_init 1 = .ok (.invokespecial 3, 3) := by decide +kernel
theorem dX0_init_4 : decode cX0_init 4 = .ok (.aload_n 0, 1) := by decide +kernel
theorem dX0_init_5 : decode cX0_init 5 = .ok (.iconst 4, 1) := by decide +kernel
theorem dX0_init_6 : decode cX0_init 6 = .ok (.newarray .int, 2) := by decide +kernel
theorem dX0_init_8 : decode cX0_init 8 = .ok (.putfield 9, 3) := by decide +kernel
theorem dX0_init_11 : decode cX0_init 11 = .ok (.aload_n 0, 1) := by decide +kernel
theorem dX0_init_12 : decode cX0_init 12 = .ok (.iload_n 1, 1) := by decide +kernel
theorem dX0_init_13 : decode cX0_init 13 = .ok (.putfield 15, 3) := by decide +kernel
theorem dX0_init_16 : decode cX0_init 16 = .ok (.return_, 1) := by decide +kernel
theorem dX0_come_0 : decode cX0_come 0 = .ok (.aload_n 0, 1) := by decide +kernel
theorem dX0_come_1 : decode cX0_come 1 = .ok (.iload_n 1, 1) := by decide +kernel
theorem dX0_come_2 : decode cX0_come 2 = .ok (.putfield 19, 3) := by decide +kernel
theorem dX0_come_5 : decode cX0_come 5 = .ok (.aload_n 0, 1) := by decide +kernel
theorem dX0_come_6 : decode cX0_come 6 = .ok (.iload_n 2, 1) := by decide +kernel
theorem dX0_come_7 : decode cX0_come 7 = .ok (.putfield 22, 3) := by decide +kernel
theorem dX0_come_10 : decode cX0_come 10 = .ok (.aload_n 0, 1) := by decide +kernel
theorem dX0_come_11 : decode cX0_come 11 = .ok (.iload_n 3, 1) := by decide +kernel
theorem dX0_come_12 : decode cX0_come 12 = .ok (.putfield 25, 3) := by decide +kernel
theorem dX0_come_15 : decode cX0_come 15 = .ok (.aload_n 0, 1) := by decide +kernel
theorem dX0_come_16 : decode cX0_come 16 = .ok (.iconst 0, 1) := by decide +kernel
theorem dX0_come_17 : decode cX0_come 17 = .ok (.putfield 28, 3) := by decide +kernel
theorem dX0_come_20 : decode cX0_come 20 = .ok (.aload_n 0, 1) := by decide +kernel
theorem dX0_come_21 : decode cX0_come 21 = .ok (.iconst 1, 1) := by decide +kernel
theorem dX0_come_22 : decode cX0_come 22 = .ok (.putfield 31, 3) := by decide +kernel
theorem dX0_come_25 : decode cX0_come 25 = .ok (.aload_n 0, 1) := by decide +kernel
theorem dX0_come_26 : decode cX0_come 26 = .ok (.getfield 9, 3) := by decide +kernel
theorem dX0_come_29 : decode cX0_come 29 = .ok (.iconst 0, 1) := by decide +kernel
theorem dX0_come_30 : decode cX0_come 30 = .ok (.invokestatic 35, 3) := by decide +kernel
theorem dX0_come_33 : decode cX0_come 33 = .ok (.return_, 1) := by decide +kernel
theorem dX0_become_0 : decode cX0_become 0 = .ok (.aload_n 0, 1) := by decide +kernel
theorem dX0_become_1 : decode cX0_become 1 = .ok (.aload_n 1, 1) := by decide +kernel
theorem dX0_become_2 : decode cX0_become 2 = .ok (.getfield 19, 3) := by decide +kernel
theorem dX0_become_5 : decode cX0_become 5 = .ok (.putfield 19, 3) := by decide +kernel
theorem dX0_become_8 : decode cX0_become 8 = .ok (.aload_n 0, 1) := by decide +kernel
theorem dX0_become_9 : decode cX0_become 9 = .ok (.aload_n 1, 1) := by decide +kernel
theorem dX0_become_10 : decode cX0_become 10 = .ok (.getfield 22, 3) := by decide +kernel
theorem dX0_become_13 : decode cX0_become 13 = .ok (.putfield 22, 3) := by decide +kernel
theorem dX0_become_16 : decode cX0_become 16 = .ok (.aload_n 0, 1) := by decide +kernel
theorem dX0_become_17 : decode cX0_become 17 = .ok (.aload_n 1, 1) := by decide +kernel
theorem dX0_become_18 : decode cX0_become 18 = .ok (.getfield 25, 3) := by decide +kernel
theorem dX0_become_21 : decode cX0_become 21 = .ok (.putfield 25, 3) := by decide +kernel
theorem dX0_become_24 : decode cX0_become 24 = .ok (.aload_n 0, 1) := by decide +kernel
theorem dX0_become_25 : decode cX0_become 25 = .ok (.aload_n 1, 1) := by decide +kernel
theorem dX0_become_26 : decode cX0_become 26 = .ok (.getfield 28, 3) := by decide +kernel
theorem dX0_become_29 : decode cX0_become 29 = .ok (.putfield 28, 3) := by decide +kernel
theorem dX0_become_32 : decode cX0_become 32 = .ok (.aload_n 0, 1) := by decide +kernel
theorem dX0_become_33 : decode cX0_become 33 = .ok (.aload_n 1, 1) := by decide +kernel
theorem dX0_become_34 : decode cX0_become 34 = .ok (.getfield 31, 3) := by decide +kernel
theorem dX0_become_37 : decode cX0_become 37 = .ok (.putfield 31, 3) := by decide +kernel
theorem dX0_become_40 : decode cX0_become 40 = .ok (.aload_n 1, 1) := by decide +kernel
theorem dX0_become_41 : decode cX0_become 41 = .ok (.getfield 9, 3) := by decide +kernel
theorem dX0_become_44 : decode cX0_become 44 = .ok (.iconst 0, 1) := by decide +kernel
theorem dX0_become_45 : decode cX0_become 45 = .ok (.aload_n 0, 1) := by decide +kernel
theorem dX0_become_46 : decode cX0_become 46 = .ok (.getfield 9, 3) := by decide +kernel
theorem dX0_become_49 : decode cX0_become 49 = .ok (.iconst 0, 1) := by decide +kernel
theorem dX0_become_50 : decode cX0_become 50 = .ok (.iconst 4, 1) := by decide +kernel
theorem dX0_become_51 : decode cX0_become 51 = .ok (.invokestatic 41, 3) := by decide +kernel
theorem dX0_become_54 : decode cX0_become 54 = .ok (.return_, 1) := by decide +kernel
theorem dX0_missed_0 : decode cX0_missed 0 = .ok (.aload_n 0, 1) := by decide +kernel
theorem dX0_missed_1 : decode cX0_missed 1 = .ok (.getfield 28, 3) := by decide +kernel
theorem dX0_missed_4 : decode cX0_missed 4 = .ok (.aload_n 0, 1) := by decide +kernel
theorem dX0_missed_5 : decode cX0_missed 5 = .ok (.getfield 25, 3) := by decide +kernel
theorem dX0_missed_8 : decode cX0_missed 8 = .ok (.iconst (-1), 1) := by decide +kernel
theorem dX0_missed_9 : decode cX0_missed 9 = .ok (.ixor, 1) := by decide +kernel
theorem dX0_missed_10 : decode cX0_missed 10 = .ok (.iand, 1) := by decide +kernel
theorem dX0_missed_11 : decode cX0_missed 11 = .ok (.ireturn, 1) := by decide +kernel
theorem dX1_init_0 : decode cX1_init 0 = .ok (.aload_n 0, 1) := by decide +kernel
theorem dX1_init_1 : decode cX1_init 1 = .ok (.invokespecial 3, 3) := by decide +kernel
theorem dX1_init_4 : decode cX1_init 4 = .ok (.aload_n 0, 1) := by decide +kernel
theorem dX1_init_5 : decode cX1_init 5 = .ok (.iconst 3, 1) := by decide +kernel
theorem dX1_init_6 : decode cX1_init 6 = .ok (.putfield 9, 3) := by decide +kernel
theorem dX1_init_9 : decode cX1_init 9 = .ok (.aload_n 0, 1) := by decide +kernel
theorem dX1_init_10 : decode cX1_init 10 = .ok (.bipush 100, 2) := by decide +kernel
theorem dX1_init_12 : decode cX1_init 12 = .ok (.newarray .int, 2) := by decide +kernel
theorem dX1_init_14 : decode cX1_init 14 = .ok (.putfield 15, 3) := by decide +kernel
theorem dX1_init_17 : decode cX1_init 17 = .ok (.return_, 1) := by decide +kernel
theorem dX1_clear_0 : decode cX1_clear 0 = .ok (.aload_n 0, 1) := by decide +kernel
theorem dX1_clear_1 : decode cX1_clear 1 = .ok (.iconst 3, 1) := by decide +kernel
theorem dX1_clear_2 : decode cX1_clear 2 = .ok (.putfield 9, 3) := by decide +kernel
theorem dX1_clear_5 : decode cX1_clear 5 = .ok (.aload_n 0, 1) := by decide +kernel
theorem dX1_clear_6 : decode cX1_clear 6 = .ok (.iconst 0, 1) := by decide +kernel
theorem dX1_clear_7 : decode cX1_clear 7 = .ok (.putfield 19, 3) := by decide +kernel
theorem dX1_clear_10 : decode cX1_clear 10 = .ok (.return_, 1) := by decide +kernel
theorem dX1_add_0 : decode cX1_add 0 = .ok (.aload_n 0, 1) := by decide +kernel
theorem dX1_add_1 : decode cX1_add 1 = .ok (.getfield 19, 3) := by decide +kernel
theorem dX1_add_4 : decode cX1_add 4 = .ok (.bipush 100, 2) := by decide +kernel
theorem dX1_add_6 : decode cX1_add 6 = .ok (.if_icmp .ge 23, 3) := by decide +kernel
theorem dX1_add_9 : decode cX1_add 9 = .ok (.aload_n 0, 1) := by decide +kernel
theorem dX1_add_10 : decode cX1_add 10 = .ok (.getfield 15, 3) := by decide +kernel
theorem dX1_add_13 : decode cX1_add 13 = .ok (.aload_n 0, 1) := by decide +kernel
theorem dX1_add_14 : decode cX1_add 14 = .ok (.getfield 19, 3) := by decide +kernel
theorem dX1_add_17 : decode cX1_add 17 = .ok (.iload_n 1, 1) := by decide +kernel
theorem dX1_add_18 : decode cX1_add 18 = .ok (.iastore, 1) := by decide +kernel
theorem dX1_add_19 : decode cX1_add 19 = .ok (.aload_n 0, 1) := by decide +kernel
theorem dX1_add_20 : decode cX1_add 20 = .ok (.dup, 1) := by decide +kernel
theorem dX1_add_21 : decode cX1_add 21 = .ok (.getfield 19, 3) := by decide +kernel
theorem dX1_add_24 : decode cX1_add 24 = .ok (.iconst 1, 1) := by decide +kernel
theorem dX1_add_25 : decode cX1_add 25 = .ok (.iadd, 1) := by decide +kernel
theorem dX1_add_26 : decode cX1_add 26 = .ok (.putfield 19, 3) := by decide +kernel
theorem dX1_add_29 : decode cX1_add 29 = .ok (.return_, 1) := by decide +kernel
theorem dX1_sway_0 : decode cX1_sway 0 = .ok (.iconst 0, 1) := by decide +kernel
theorem dX1_sway_1 : decode cX1_sway 1 = .ok (.istore_n 2, 1) := by decide +kernel
theorem dX1_sway_2 : decode cX1_sway 2 = .ok (.iconst 0, 1) := by decide +kernel
theorem dX1_sway_3 : decode cX1_sway 3 = .ok (.istore_n 3, 1) := by decide +kernel
theorem dX1_sway_4 : decode cX1_sway 4 = .ok (.iconst 0, 1) := by decide +kernel
theorem dX1_sway_5 : decode cX1_sway 5 = .ok (.istore 4, 2) := by decide +kernel
theorem dX1_sway_7 : decode cX1_sway 7 = .ok (.iload 4, 2) := by decide +kernel
theorem dX1_sway_9 : decode cX1_sway 9 = .ok (.aload_n 0, 1) := by decide +kernel
theorem dX1_sway_10 : decode cX1_sway 10 = .ok (.getfield 19, 3) := by decide +kernel
theorem dX1_sway_13 : decode cX1_sway 13 = .ok (.if_icmp .ge 158, 3) := by decide +kernel
theorem dX1_sway_16 : decode cX1_sway 16 = .ok (.aload_n 0, 1) := by decide +kernel
theorem dX1_sway_17 : decode cX1_sway 17 = .ok (.getfield 15, 3) := by decide +kernel
theorem dX1_sway_20 : decode cX1_sway 20 = .ok (.iload 4, 2) := by decide +kernel
theorem dX1_sway_22 : decode cX1_sway 22 = .ok (.iaload, 1) := by decide +kernel
theorem dX1_sway_23 : decode cX1_sway 23 = .ok (.istore 5, 2) := by decide +kernel
theorem dX1_sway_25 : decode cX1_sway 25 = .ok (.iload 5, 2) := by decide +kernel
theorem dX1_sway_27 : decode cX1_sway 27 = .ok (.ldc 22, 2) := by decide +kernel
theorem dX1_sway_29 : decode cX1_sway 29 = .ok (.if_icmp .lt 27, 3) := by decide +kernel
theorem dX1_sway_32 : decode cX1_sway 32 = .ok (.iload_n 2, 1) := by decide +kernel
theorem dX1_sway_33 : decode cX1_sway 33 = .ok (.iload_n 3, 1) := by decide +kernel
theorem dX1_sway_34 : decode cX1_sway 34 = .ok (.iconst 1, 1) := by decide +kernel
theorem dX1_sway_35 : decode cX1_sway 35 = .ok (.iand, 1) := by decide +kernel
theorem dX1_sway_36 : decode cX1_sway 36 = .ok (.iconst 1, 1) := by decide +kernel
theorem dX1_sway_37 : decode cX1_sway 37 = .ok (.if_icmp .ne 11, 3) := by decide +kernel
theorem dX1_sway_40 : decode cX1_sway 40 = .ok (.iload 5, 2) := by decide +kernel
theorem dX1_sway_42 : decode cX1_sway 42 = .ok (.ldc 23, 2) := by decide +kernel
theorem dX1_sway_44 : decode cX1_sway 44 = .ok (.isub, 1) := by decide +kernel
theorem dX1_sway_45 : decode cX1_sway 45 = .ok (.goto 4, 3) := by decide +kernel
theorem dX1_sway_48 : decode cX1_sway 48 = .ok (.iconst 0, 1) := by decide +kernel
theorem dX1_sway_49 : decode cX1_sway 49 = .ok (.iadd, 1) := by decide +kernel
theorem dX1_sway_50 : decode cX1_sway 50 = .ok (.istore_n 2, 1) := by decide +kernel
theorem dX1_sway_51 : decode cX1_sway 51 = .ok (.iconst 0, 1) := by decide +kernel
theorem dX1_sway_52 : decode cX1_sway 52 = .ok (.istore_n 3, 1) := by decide +kernel
theorem dX1_sway_53 : decode cX1_sway 53 = .ok (.goto 112, 3) := by decide +kernel
theorem dX1_sway_56 : decode cX1_sway 56 = .ok (.iload 5, 2) := by decide +kernel
theorem dX1_sway_58 : decode cX1_sway 58 = .ok (.ifCond .lt 63, 3) := by decide +kernel
theorem dX1_sway_61 : decode cX1_sway 61 = .ok (.aload_n 1, 1) := by decide +kernel
theorem dX1_sway_62 : decode cX1_sway 62 = .ok (.iload 5, 2) := by decide +kernel
theorem dX1_sway_64 : decode cX1_sway 64 = .ok (.bipush 14, 2) := by decide +kernel
theorem dX1_sway_66 : decode cX1_sway 66 = .ok (.ishr, 1) := by decide +kernel
theorem dX1_sway_67 : decode cX1_sway 67 = .ok (.bipush 7, 2) := by decide +kernel
theorem dX1_sway_69 : decode cX1_sway 69 = .ok (.iand, 1) := by decide +kernel
theorem dX1_sway_70 : decode cX1_sway 70 = .ok (.iaload, 1) := by decide +kernel
theorem dX1_sway_71 : decode cX1_sway 71 = .ok (.istore 6, 2) := by decide +kernel
theorem dX1_sway_73 : decode cX1_sway 73 = .ok (.iload 6, 2) := by decide +kernel
theorem dX1_sway_75 : decode cX1_sway 75 = .ok (.iload 5, 2) := by decide +kernel
theorem dX1_sway_77 : decode cX1_sway 77 = .ok (.bipush 7, 2) := by decide +kernel
theorem dX1_sway_79 : decode cX1_sway 79 = .ok (.ishr, 1) := by decide +kernel
theorem dX1_sway_80 : decode cX1_sway 80 = .ok (.bipush 127, 2) := by decide +kernel
theorem dX1_sway_82 : decode cX1_sway 82 = .ok (.iand, 1) := by decide +kernel
theorem dX1_sway_83 : decode cX1_sway 83 = .ok (.if_icmp .lt 17, 3) := by decide +kernel
theorem dX1_sway_86 : decode cX1_sway 86 = .ok (.iload 6, 2) := by decide +kernel
theorem dX1_sway_88 : decode cX1_sway 88 = .ok (.iload 5, 2) := by decide +kernel
theorem dX1_sway_90 : decode cX1_sway 90 = .ok (.bipush 127, 2) := by decide +kernel
theorem dX1_sway_92 : decode cX1_sway 92 = .ok (.iand, 1) := by decide +kernel
theorem dX1_sway_93 : decode cX1_sway 93 = .ok (.if_icmp .ge 7, 3) := by decide +kernel
theorem dX1_sway_96 : decode cX1_sway 96 = .ok (.iconst 1, 1) := by decide +kernel
theorem dX1_sway_97 : decode cX1_sway 97 = .ok (.goto 4, 3) := by decide +kernel
theorem dX1_sway_100 : decode cX1_sway 100 = .ok (.iconst 0, 1) := by decide +kernel
theorem dX1_sway_101 : decode cX1_sway 101 = .ok (.istore 7, 2) := by decide +kernel
theorem dX1_sway_103 : decode cX1_sway 103 = .ok (.iload_n 3, 1) := by decide +kernel
theorem dX1_sway_104 : decode cX1_sway 104 = .ok (.iconst 1, 1) := by decide +kernel
theorem dX1_sway_105 : decode cX1_sway 105 = .ok (.ishl, 1) := by decide +kernel
theorem dX1_sway_106 : decode cX1_sway 106 = .ok (.iload 7, 2) := by decide +kernel
theorem dX1_sway_108 : decode cX1_sway 108 = .ok (.ifCond .eq 7, 3) := by decide +kernel
theorem dX1_sway_111 : decode cX1_sway 111 = .ok (.iconst 1, 1) := by decide +kernel
theorem dX1_sway_112 : decode cX1_sway 112 = .ok (.goto 4, 3) := by decide +kernel
theorem dX1_sway_115 : decode cX1_sway 115 = .ok (.iconst 0, 1) := by decide +kernel
theorem dX1_sway_116 : decode cX1_sway 116 = .ok (.ior, 1) := by decide +kernel
theorem dX1_sway_117 : decode cX1_sway 117 = .ok (.istore_n 3, 1) := by decide +kernel
theorem dX1_sway_118 : decode cX1_sway 118 = .ok (.goto 47, 3) := by decide +kernel
theorem dX1_sway_121 : decode cX1_sway 121 = .ok (.iload 5, 2) := by decide +kernel
theorem dX1_sway_123 : decode cX1_sway 123 = .ok (.iconst (-1), 1) := by decide +kernel
theorem dX1_sway_124 : decode cX1_sway 124 = .ok (.if_icmp .ne 10, 3) := by decide +kernel
theorem dX1_sway_127 : decode cX1_sway 127 = .ok (.iload_n 3, 1) := by decide +kernel
theorem dX1_sway_128 : decode cX1_sway 128 = .ok (.iconst 1, 1) := by decide +kernel
theorem dX1_sway_129 : decode cX1_sway 129 = .ok (.ixor, 1) := by decide +kernel
theorem dX1_sway_130 : decode cX1_sway 130 = .ok (.istore_n 3, 1) := by decide +kernel
theorem dX1_sway_131 : decode cX1_sway 131 = .ok (.goto 34, 3) := by decide +kernel
theorem dX1_sway_134 : decode cX1_sway 134 = .ok (.iload_n 3, 1) := by decide +kernel
theorem dX1_sway_135 : decode cX1_sway 135 = .ok (.iconst 1, 1) := by decide +kernel
theorem dX1_sway_136 : decode cX1_sway 136 = .ok (.iand, 1) := by decide +kernel
theorem dX1_sway_137 : decode cX1_sway 137 = .ok (.istore 6, 2) := by decide +kernel
theorem dX1_sway_139 : decode cX1_sway 139 = .ok (.iload_n 3, 1) := by decide +kernel
theorem dX1_sway_140 : decode cX1_sway 140 = .ok (.iconst 1, 1) := by decide +kernel
theorem dX1_sway_141 : decode cX1_sway 141 = .ok (.iushr, 1) := by decide +kernel
theorem dX1_sway_142 : decode cX1_sway 142 = .ok (.istore_n 3, 1) := by decide +kernel
theorem dX1_sway_143 : decode cX1_sway 143 = .ok (.iload 5, 2) := by decide +kernel
theorem dX1_sway_145 : decode cX1_sway 145 = .ok (.bipush (-2), 2) := by decide +kernel
theorem dX1_sway_147 : decode cX1_sway 147 = .ok (.if_icmp .ne 13, 3) := by decide +kernel
theorem dX1_sway_150 : decode cX1_sway 150 = .ok (.iload_n 3, 1) := by decide +kernel
theorem dX1_sway_151 : decode cX1_sway 151 = .ok (.iload 6, 2) := by decide +kernel
theorem dX1_sway_153 : decode cX1_sway 153 = .ok (.bipush (-2), 2) := by decide +kernel
theorem dX1_sway_155 : decode cX1_sway 155 = .ok (.ior, 1) := by decide +kernel
theorem dX1_sway_156 : decode cX1_sway 156 = .ok (.iand, 1) := by decide +kernel
theorem dX1_sway_157 : decode cX1_sway 157 = .ok (.goto 7, 3) := by decide +kernel
theorem dX1_sway_160 : decode cX1_sway 160 = .ok (.iload_n 3, 1) := by decide +kernel
theorem dX1_sway_161 : decode cX1_sway 161 = .ok (.iload 6, 2) := by decide +kernel
theorem dX1_sway_163 : decode cX1_sway 163 = .ok (.ior, 1) := by decide +kernel
theorem dX1_sway_164 : decode cX1_sway 164 = .ok (.istore_n 3, 1) := by decide +kernel
theorem dX1_sway_165 : decode cX1_sway 165 = .ok (.iinc 4 1, 3) := by decide +kernel
theorem dX1_sway_168 : decode cX1_sway 168 = .ok (.goto (-161), 3) := by decide +kernel
theorem dX1_sway_171 : decode cX1_sway 171 = .ok (.iload_n 2, 1) := by decide +kernel
theorem dX1_sway_172 : decode cX1_sway 172 = .ok (.ireturn, 1) := by decide +kernel
theorem dX2_init_0 : decode cX2_init 0 = .ok (.aload_n 0, 1) := by decide +kernel
theorem dX2_init_1 : decode cX2_init 1 = .ok (.invokespecial 3, 3) := by decide +kernel
theorem dX2_init_4 : decode cX2_init 4 = .ok (.aload_n 0, 1) := by decide +kernel
theorem dX2_init_5 : decode cX2_init 5 = .ok (.bipush 12, 2) := by decide +kernel
theorem dX2_init_7 : decode cX2_init 7 = .ok (.newarray .int, 2) := by decide +kernel
theorem dX2_init_9 : decode cX2_init 9 = .ok (.putfield 9, 3) := by decide +kernel
theorem dX2_init_12 : decode cX2_init 12 = .ok (.aload_n 0, 1) := by decide +kernel
theorem dX2_init_13 : decode cX2_init 13 = .ok (.bipush 12, 2) := by decide +kernel
theorem dX2_init_15 : decode cX2_init 15 = .ok (.newarray .int, 2) := by decide +kernel
theorem dX2_init_17 : decode cX2_init 17 = .ok (.putfield 15, 3) := by decide +kernel
theorem dX2_init_20 : decode cX2_init 20 = .ok (.aload_n 0, 1) := by decide +kernel
theorem dX2_init_21 : decode cX2_init 21 = .ok (.bipush 6, 2) := by decide +kernel
theorem dX2_init_23 : decode cX2_init 23 = .ok (.anewarray 18, 3) := by decide +kernel
theorem dX2_init_26 : decode cX2_init 26 = .ok (.putfield 20, 3) := by decide +kernel
theorem dX2_init_29 : decode cX2_init 29 = .ok (.aload_n 0, 1) := by decide +kernel
theorem dX2_init_30 : decode cX2_init 30 = .ok (.new 24, 3) := by decide +kernel
theorem dX2_init_33 : decode cX2_init 33 = .ok (.dup, 1) := by decide +kernel
theorem dX2_init_34 : decode cX2_init 34 = .ok (.iconst 5, 1) := by decide +kernel
theorem dX2_init_35 : decode cX2_init 35 = .ok (.invokespecial 26, 3) := by decide +kernel
theorem dX2_init_38 : decode cX2_init 38 = .ok (.putfield 29, 3) := by decide +kernel
theorem dX2_init_41 : decode cX2_init 41 = .ok (.aload_n 0, 1) := by decide +kernel
theorem dX2_init_42 : decode cX2_init 42 = .ok (.new 24, 3) := by decide +kernel
theorem dX2_init_45 : decode cX2_init 45 = .ok (.dup, 1) := by decide +kernel
theorem dX2_init_46 : decode cX2_init 46 = .ok (.bipush 10, 2) := by decide +kernel
theorem dX2_init_48 : decode cX2_init 48 = .ok (.invokespecial 26, 3) := by decide +kernel
theorem dX2_init_51 : decode cX2_init 51 = .ok (.putfield 33, 3) := by decide +kernel
theorem dX2_init_54 : decode cX2_init 54 = .ok (.aload_n 0, 1) := by decide +kernel
theorem dX2_init_55 : decode cX2_init 55 = .ok (.new 24, 3) := by decide +kernel
theorem dX2_init_58 : decode cX2_init 58 = .ok (.dup, 1) := by decide +kernel
theorem dX2_init_59 : decode cX2_init 59 = .ok (.bipush 8, 2) := by decide +kernel
theorem dX2_init_61 : decode cX2_init 61 = .ok (.invokespecial 26, 3) := by decide +kernel
theorem dX2_init_64 : decode cX2_init 64 = .ok (.putfield 36, 3) := by decide +kernel
theorem dX2_init_67 : decode cX2_init 67 = .ok (.aload_n 0, 1) := by decide +kernel
theorem dX2_init_68 : decode cX2_init 68 = .ok (.aload_n 1, 1) := by decide +kernel
theorem dX2_init_69 : decode cX2_init 69 = .ok (.putfield 39, 3) := by decide +kernel
theorem dX2_init_72 : decode cX2_init 72 = .ok (.iconst 0, 1) := by decide +kernel
theorem dX2_init_73 : decode cX2_init 73 = .ok (.istore_n 2, 1) := by decide +kernel
theorem dX2_init_74 : decode cX2_init 74 = .ok (.iload_n 2, 1) := by decide +kernel
theorem dX2_init_75 : decode cX2_init 75 = .ok (.bipush 12, 2) := by decide +kernel
theorem dX2_init_77 : decode cX2_init 77 = .ok (.if_icmp .ge 19, 3) := by decide +kernel
theorem dX2_init_80 : decode cX2_init 80 = .ok (.aload_n 0, 1) := by decide +kernel
theorem dX2_init_81 : decode cX2_init 81 = .ok (.getfield 9, 3) := by decide +kernel
theorem dX2_init_84 : decode cX2_init 84 = .ok (.iload_n 2, 1) := by decide +kernel
theorem dX2_init_85 : decode cX2_init 85 = .ok (.iload_n 2, 1) := by decide +kernel
theorem dX2_init_86 : decode cX2_init 86 = .ok (.bipush 10, 2) := by decide +kernel
theorem dX2_init_88 : decode cX2_init 88 = .ok (.irem, 1) := by decide +kernel
theorem dX2_init_89 : decode cX2_init 89 = .ok (.iastore, 1) := by decide +kernel
theorem dX2_init_90 : decode cX2_init 90 = .ok (.iinc 2 1, 3) := by decide +kernel
theorem dX2_init_93 : decode cX2_init 93 = .ok (.goto (-19), 3) := by decide +kernel
theorem dX2_init_96 : decode cX2_init 96 = .ok (.iconst 0, 1) := by decide +kernel
theorem dX2_init_97 : decode cX2_init 97 = .ok (.istore_n 2, 1) := by decide +kernel
theorem dX2_init_98 : decode cX2_init 98 = .ok (.iload_n 2, 1) := by decide +kernel
theorem dX2_init_99 : decode cX2_init 99 = .ok (.bipush 6, 2) := by decide +kernel
theorem dX2_init_101 : decode cX2_init 101 = .ok (.if_icmp .ge 23, 3) := by decide +kernel
theorem dX2_init_104 : decode cX2_init 104 = .ok (.aload_n 0, 1) := by decide +kernel
theorem dX2_init_105 : decode cX2_init 105 = .ok (.getfield 20, 3) := by decide +kernel
theorem dX2_init_108 : decode cX2_init 108 = .ok (.iload_n 2, 1) := by decide +kernel
theorem dX2_init_109 : decode cX2_init 109 = .ok (.new 18, 3) := by decide +kernel
theorem dX2_init_112 : decode cX2_init 112 = .ok (.dup, 1) := by decide +kernel
theorem dX2_init_113 : decode cX2_init 113 = .ok (.iload_n 2, 1) := by decide +kernel
theorem dX2_init_114 : decode cX2_init 114 = .ok (.invokespecial 43, 3) := by decide +kernel
theorem dX2_init_117 : decode cX2_init 117 = .ok (.aastore, 1) := by decide +kernel
theorem dX2_init_118 : decode cX2_init 118 = .ok (.iinc 2 1, 3) := by decide +kernel
theorem dX2_init_121 : decode cX2_init 121 = .ok (.goto (-23), 3) := by decide +kernel
theorem dX2_init_124 : decode cX2_init 124 = .ok (.return_, 1) := by decide +kernel
theorem dX2_become_0 : decode cX2_become 0 = .ok (.aload_n 0, 1) := by decide +kernel
theorem dX2_become_1 : decode cX2_become 1 = .ok (.aload_n 1, 1) := by decide +kernel
theorem dX2_become_2 : decode cX2_become 2 = .ok (.invokevirtual 44, 3) := by decide +kernel
theorem dX2_become_5 : decode cX2_become 5 = .ok (.aload_n 0, 1) := by decide +kernel
theorem dX2_become_6 : decode cX2_become 6 = .ok (.getfield 29, 3) := by decide +kernel
theorem dX2_become_9 : decode cX2_become 9 = .ok (.aload_n 1, 1) := by decide +kernel
theorem dX2_become_10 : decode cX2_become 10 = .ok (.getfield 29, 3) := by decide +kernel
theorem dX2_become_13 : decode cX2_become 13 = .ok (.invokevirtual 48, 3) := by decide +kernel
theorem dX2_become_16 : decode cX2_become 16 = .ok (.aload_n 0, 1) := by decide +kernel
theorem dX2_become_17 : decode cX2_become 17 = .ok (.getfield 33, 3) := by decide +kernel
theorem dX2_become_20 : decode cX2_become 20 = .ok (.aload_n 1, 1) := by decide +kernel
theorem dX2_become_21 : decode cX2_become 21 = .ok (.getfield 33, 3) := by decide +kernel
theorem dX2_become_24 : decode cX2_become 24 = .ok (.invokevirtual 48, 3) := by decide +kernel
theorem dX2_become_27 : decode cX2_become 27 = .ok (.aload_n 0, 1) := by decide +kernel
theorem dX2_become_28 : decode cX2_become 28 = .ok (.getfield 36, 3) := by decide +kernel
theorem dX2_become_31 : decode cX2_become 31 = .ok (.aload_n 1, 1) := by decide +kernel
theorem dX2_become_32 : decode cX2_become 32 = .ok (.getfield 36, 3) := by decide +kernel
theorem dX2_become_35 : decode cX2_become 35 = .ok (.invokevirtual 48, 3) := by decide +kernel
theorem dX2_become_38 : decode cX2_become 38 = .ok (.return_, 1) := by decide +kernel
theorem dX2_goOnFrom_0 : decode cX2_goOnFrom 0 = .ok (.aload_n 1, 1) := by decide +kernel
theorem dX2_goOnFrom_1 : decode cX2_goOnFrom 1 = .ok (.getfield 9, 3) := by decide +kernel
theorem dX2_goOnFrom_4 : decode cX2_goOnFrom 4 = .ok (.iconst 0, 1) := by decide +kernel
theorem dX2_goOnFrom_5 : decode cX2_goOnFrom 5 = .ok (.aload_n 0, 1) := by decide +kernel
theorem dX2_goOnFrom_6 : decode cX2_goOnFrom 6 = .ok (.getfield 9, 3) := by decide +kernel
theorem dX2_goOnFrom_9 : decode cX2_goOnFrom 9 = .ok (.iconst 0, 1) := by decide +kernel
theorem dX2_goOnFrom_10 : decode cX2_goOnFrom 10 = .ok (.bipush 12, 2) := by decide +kernel
theorem dX2_goOnFrom_12 : decode cX2_goOnFrom 12 = .ok (.invokestatic 52, 3) := by decide +kernel
theorem dX2_goOnFrom_15 : decode cX2_goOnFrom 15 = .ok (.aload_n 1, 1) := by decide +kernel
theorem dX2_goOnFrom_16 : decode cX2_goOnFrom 16 = .ok (.getfield 15, 3) := by decide +kernel
theorem dX2_goOnFrom_19 : decode cX2_goOnFrom 19 = .ok (.iconst 0, 1) := by decide +kernel
theorem dX2_goOnFrom_20 : decode cX2_goOnFrom 20 = .ok (.aload_n 0, 1) := by decide +kernel
theorem dX2_goOnFrom_21 : decode cX2_goOnFrom 21 = .ok (.getfield 15, 3) := by decide +kernel
theorem dX2_goOnFrom_24 : decode cX2_goOnFrom 24 = .ok (.iconst 0, 1) := by decide +kernel
theorem dX2_goOnFrom_25 : decode cX2_goOnFrom 25 = .ok (.bipush 12, 2) := by decide +kernel
theorem dX2_goOnFrom_27 : decode cX2_goOnFrom 27 = .ok (.invokestatic 52, 3) := by decide +kernel
theorem dX2_goOnFrom_30 : decode cX2_goOnFrom 30 = .ok (.aload_n 0, 1) := by decide +kernel
theorem dX2_goOnFrom_31 : decode cX2_goOnFrom 31 = .ok (.aload_n 1, 1) := by decide +kernel
theorem dX2_goOnFrom_32 : decode cX2_goOnFrom 32 = .ok (.getfield 58, 3) := by decide +kernel
theorem dX2_goOnFrom_35 : decode cX2_goOnFrom 35 = .ok (.putfield 58, 3) := by decide +kernel
theorem dX2_goOnFrom_38 : decode cX2_goOnFrom 38 = .ok (.iconst 0, 1) := by decide +kernel
theorem dX2_goOnFrom_39 : decode cX2_goOnFrom 39 = .ok (.istore_n 2, 1) := by decide +kernel
theorem dX2_goOnFrom_40 : decode cX2_goOnFrom 40 = .ok (.iload_n 2, 1) := by decide +kernel
theorem dX2_goOnFrom_41 : decode cX2_goOnFrom 41 = .ok (.aload_n 0, 1) := by decide +kernel
theorem dX2_goOnFrom_42 : decode cX2_goOnFrom 42 = .ok (.getfield 58, 3) := by decide +kernel
theorem dX2_goOnFrom_45 : decode cX2_goOnFrom 45 = .ok (.if_icmp .ge 24, 3) := by decide +kernel
theorem dX2_goOnFrom_48 : decode cX2_goOnFrom 48 = .ok (.aload_n 0, 1) := by decide +kernel
theorem dX2_goOnFrom_49 : decode cX2_goOnFrom 49 = .ok (.getfield 20, 3) := by decide +kernel
theorem dX2_goOnFrom_52 : decode cX2_goOnFrom 52 = .ok (.iload_n 2, 1) := by decide +kernel
theorem dX2_goOnFrom_53 : decode cX2_goOnFrom 53 = .ok (.aaload, 1) := by decide +kernel
theorem dX2_goOnFrom_54 : decode cX2_goOnFrom 54 = .ok (.aload_n 1, 1) := by decide +kernel
theorem dX2_goOnFrom_55 : decode cX2_goOnFrom 55 = .ok (.getfield 20, 3) := by decide +kernel
theorem dX2_goOnFrom_58 : decode cX2_goOnFrom 58 = .ok (.iload_n 2, 1) := by decide +kernel
theorem dX2_goOnFrom_59 : decode cX2_goOnFrom 59 = .ok (.aaload, 1) := by decide +kernel
theorem dX2_goOnFrom_60 : decode cX2_goOnFrom 60 = .ok (.invokevirtual 62, 3) := by decide +kernel
theorem dX2_goOnFrom_63 : decode cX2_goOnFrom 63 = .ok (.iinc 2 1, 3) := by decide +kernel
theorem dX2_goOnFrom_66 : decode cX2_goOnFrom 66 = .ok (.goto (-26), 3) := by decide +kernel
theorem dX2_goOnFrom_69 : decode cX2_goOnFrom 69 = .ok (.aload_n 0, 1) := by decide +kernel
theorem dX2_goOnFrom_70 : decode cX2_goOnFrom 70 = .ok (.aload_n 1, 1) := by decide +kernel
theorem dX2_goOnFrom_71 : decode cX2_goOnFrom 71 = .ok (.getfield 65, 3) := by decide +kernel
theorem dX2_goOnFrom_74 : decode cX2_goOnFrom 74 = .ok (.putfield 65, 3) := by decide +kernel
theorem dX2_goOnFrom_77 : decode cX2_goOnFrom 77 = .ok (.aload_n 0, 1) := by decide +kernel
theorem dX2_goOnFrom_78 : decode cX2_goOnFrom 78 = .ok (.aload_n 1, 1) := by decide +kernel
theorem dX2_goOnFrom_79 : decode cX2_goOnFrom 79 = .ok (.getfield 39, 3) := by decide +kernel
theorem dX2_goOnFrom_82 : decode cX2_goOnFrom 82 = .ok (.putfield 39, 3) := by decide +kernel
theorem dX2_goOnFrom_85 : decode cX2_goOnFrom 85 = .ok (.return_, 1) := by decide +kernel
theorem dX2_take_0 : decode cX2_take 0 = .ok (.aload_n 1, 1) := by decide +kernel
theorem dX2_take_1 : decode cX2_take 1 = .ok (.dup, 1) := by decide +kernel
theorem dX2_take_2 : decode cX2_take 2 = .ok (.getfield 68, 3) := by decide +kernel
theorem dX2_take_5 : decode cX2_take 5 = .ok (.iconst 1, 1) := by decide +kernel
theorem dX2_take_6 : decode cX2_take 6 = .ok (.iload_n 2, 1) := by decide +kernel
theorem dX2_take_7 : decode cX2_take 7 = .ok (.ishl, 1) := by decide +kernel
theorem dX2_take_8 : decode cX2_take 8 = .ok (.iconst (-1), 1) := by decide +kernel
theorem dX2_take_9 : decode cX2_take 9 = .ok (.ixor, 1) := by decide +kernel
theorem dX2_take_10 : decode cX2_take 10 = .ok (.iand, 1) := by decide +kernel
theorem dX2_take_11 : decode cX2_take 11 = .ok (.putfield 68, 3) := by decide +kernel
theorem dX2_take_14 : decode cX2_take 14 = .ok (.aload_n 1, 1) := by decide +kernel
theorem dX2_take_15 : decode cX2_take 15 = .ok (.dup, 1) := by decide +kernel
theorem dX2_take_16 : decode cX2_take 16 = .ok (.getfield 71, 3) := by decide +kernel
theorem dX2_take_19 : decode cX2_take 19 = .ok (.iconst 1, 1) := by decide +kernel
theorem dX2_take_20 : decode cX2_take 20 = .ok (.iload_n 2, 1) := by decide +kernel
theorem dX2_take_21 : decode cX2_take 21 = .ok (.ishl, 1) := by decide +kernel
theorem dX2_take_22 : decode cX2_take 22 = .ok (.ior, 1) := by decide +kernel
theorem dX2_take_23 : decode cX2_take 23 = .ok (.putfield 71, 3) := by decide +kernel
theorem dX2_take_26 : decode cX2_take 26 = .ok (.aload_n 0, 1) := by decide +kernel
theorem dX2_take_27 : decode cX2_take 27 = .ok (.getfield 15, 3) := by decide +kernel
theorem dX2_take_30 : decode cX2_take 30 = .ok (.iload_n 2, 1) := by decide +kernel
theorem dX2_take_31 : decode cX2_take 31 = .ok (.aload_n 0, 1) := by decide +kernel
theorem dX2_take_32 : decode cX2_take 32 = .ok (.getfield 15, 3) := by decide +kernel
theorem dX2_take_35 : decode cX2_take 35 = .ok (.iload_n 2, 1) := by decide +kernel
theorem dX2_take_36 : decode cX2_take 36 = .ok (.iaload, 1) := by decide +kernel
theorem dX2_take_37 : decode cX2_take 37 = .ok (.iconst 1, 1) := by decide +kernel
theorem dX2_take_38 : decode cX2_take 38 = .ok (.iadd, 1) := by decide +kernel
theorem dX2_take_39 : decode cX2_take 39 = .ok (.bipush 99, 2) := by decide +kernel
theorem dX2_take_41 : decode cX2_take 41 = .ok (.invokestatic 74, 3) := by decide +kernel
theorem dX2_take_44 : decode cX2_take 44 = .ok (.iastore, 1) := by decide +kernel
theorem dX2_take_45 : decode cX2_take 45 = .ok (.return_, 1) := by decide +kernel
theorem dX2_letGo_0 : decode cX2_letGo 0 = .ok (.iconst 0, 1) := by decide +kernel
theorem dX2_letGo_1 : decode cX2_letGo 1 = .ok (.istore_n 1, 1) := by decide +kernel
theorem dX2_letGo_2 : decode cX2_letGo 2 = .ok (.iload_n 1, 1) := by decide +kernel
theorem dX2_letGo_3 : decode cX2_letGo 3 = .ok (.bipush 12, 2) := by decide +kernel
theorem dX2_letGo_5 : decode cX2_letGo 5 = .ok (.if_icmp .ge 27, 3) := by decide +kernel
theorem dX2_letGo_8 : decode cX2_letGo 8 = .ok (.aload_n 0, 1) := by decide +kernel
theorem dX2_letGo_9 : decode cX2_letGo 9 = .ok (.getfield 15, 3) := by decide +kernel
theorem dX2_letGo_12 : decode cX2_letGo 12 = .ok (.iload_n 1, 1) := by decide +kernel
theorem dX2_letGo_13 : decode cX2_letGo 13 = .ok (.aload_n 0, 1) := by decide +kernel
theorem dX2_letGo_14 : decode cX2_letGo 14 = .ok (.getfield 15, 3) := by decide +kernel
theorem dX2_letGo_17 : decode cX2_letGo 17 = .ok (.iload_n 1, 1) := by decide +kernel
theorem dX2_letGo_18 : decode cX2_letGo 18 = .ok (.iaload, 1) := by decide +kernel
theorem dX2_letGo_19 : decode cX2_letGo 19 = .ok (.iconst 1, 1) := by decide +kernel
theorem dX2_letGo_20 : decode cX2_letGo 20 = .ok (.isub, 1) := by decide +kernel
theorem dX2_letGo_21 : decode cX2_letGo 21 = .ok (.iconst 0, 1) := by decide +kernel
theorem dX2_letGo_22 : decode cX2_letGo 22 = .ok (.invokestatic 80, 3) := by decide +kernel
theorem dX2_letGo_25 : decode cX2_letGo 25 = .ok (.iastore, 1) := by decide +kernel
theorem dX2_letGo_26 : decode cX2_letGo 26 = .ok (.iinc 1 1, 3) := by decide +kernel
theorem dX2_letGo_29 : decode cX2_letGo 29 = .ok (.goto (-27), 3) := by decide +kernel
theorem dX2_letGo_32 : decode cX2_letGo 32 = .ok (.return_, 1) := by decide +kernel
theorem dX2_meantByAll_0 : decode cX2_meantByAll 0 = .ok (.iconst 0, 1) := by decide +kernel
theorem dX2_meantByAll_1 : decode cX2_meantByAll 1 = .ok (.istore_n 1, 1) := by decide +kernel
theorem dX2_meantByAll_2 : decode cX2_meantByAll 2 = .ok (.iconst 0, 1) := by decide +kernel
theorem dX2_meantByAll_3 : decode cX2_meantByAll 3 = .ok (.istore_n 2, 1) := by decide +kernel
theorem dX2_meantByAll_4 : decode cX2_meantByAll 4 = .ok (.iload_n 2, 1) := by decide +kernel
theorem dX2_meantByAll_5 : decode cX2_meantByAll 5 = .ok (.aload_n 0, 1) := by decide +kernel
theorem dX2_meantByAll_6 : decode cX2_meantByAll 6 = .ok (.getfield 58, 3) := by decide +kernel
theorem dX2_meantByAll_9 : decode cX2_meantByAll 9 = .ok (.if_icmp .ge 24, 3) := by decide +kernel
theorem dX2_meantByAll_12 : decode cX2_meantByAll 12 = .ok (.iload_n 1, 1) := by decide +kernel
theorem dX2_meantByAll_13 : decode cX2_meantByAll 13 = .ok (.aload_n 0, 1) := by decide +kernel
theorem dX2_meantByAll_14 : decode cX2_meantByAll 14 = .ok (.getfield 20, 3) := by decide +kernel
theorem dX2_meantByAll_17 : decode cX2_meantByAll 17 = .ok (.iload_n 2, 1) := by decide +kernel
theorem dX2_meantByAll_18 : decode cX2_meantByAll 18 = .ok (.aaload, 1) := by decide +kernel
theorem dX2_meantByAll_19 : decode cX2_meantByAll 19 = .ok (.getfield 68, 3) := by decide +kernel
theorem dX2_meantByAll_22 : decode cX2_meantByAll 22 = .ok (.invokestatic 83, 3) := by decide +kernel
theorem dX2_meantByAll_25 : decode cX2_meantByAll 25 = .ok (.iadd, 1) := by decide +kernel
theorem dX2_meantByAll_26 : decode cX2_meantByAll 26 = .ok (.istore_n 1, 1) := by decide +kernel
theorem dX2_meantByAll_27 : decode cX2_meantByAll 27 = .ok (.iinc 2 1, 3) := by decide +kernel
theorem dX2_meantByAll_30 : decode cX2_meantByAll 30 = .ok (.goto (-26), 3) := by decide +kernel
theorem dX2_meantByAll_33 : decode cX2_meantByAll 33 = .ok (.iload_n 1, 1) := by decide +kernel
theorem dX2_meantByAll_34 : decode cX2_meantByAll 34 = .ok (.ireturn, 1) := by decide +kernel
theorem dX2_whoIsIn_0 : decode cX2_whoIsIn 0 = .ok (.iconst 0, 1) := by decide +kernel
theorem dX2_whoIsIn_1 : decode cX2_whoIsIn 1 = .ok (.istore_n 1, 1) := by decide +kernel
theorem dX2_whoIsIn_2 : decode cX2_whoIsIn 2 = .ok (.iconst 0, 1) := by decide +kernel
theorem dX2_whoIsIn_3 : decode cX2_whoIsIn 3 = .ok (.istore_n 2, 1) := by decide +kernel
theorem dX2_whoIsIn_4 : decode cX2_whoIsIn 4 = .ok (.iload_n 2, 1) := by decide +kernel
theorem dX2_whoIsIn_5 : decode cX2_whoIsIn 5 = .ok (.aload_n 0, 1) := by decide +kernel
theorem dX2_whoIsIn_6 : decode cX2_whoIsIn 6 = .ok (.getfield 58, 3) := by decide +kernel
theorem dX2_whoIsIn_9 : decode cX2_whoIsIn 9 = .ok (.if_icmp .ge 31, 3) := by decide +kernel
theorem dX2_whoIsIn_12 : decode cX2_whoIsIn 12 = .ok (.iload_n 1, 1) := by decide +kernel
theorem dX2_whoIsIn_13 : decode cX2_whoIsIn 13 = .ok (.aload_n 0, 1) := by decide +kernel
theorem dX2_whoIsIn_14 : decode cX2_whoIsIn 14 = .ok (.getfield 20, 3) := by decide +kernel
theorem dX2_whoIsIn_17 : decode cX2_whoIsIn 17 = .ok (.iload_n 2, 1) := by decide +kernel
theorem dX2_whoIsIn_18 : decode cX2_whoIsIn 18 = .ok (.aaload, 1) := by decide +kernel
theorem dX2_whoIsIn_19 : decode cX2_whoIsIn 19 = .ok (.getfield 89, 3) := by decide +kernel
theorem dX2_whoIsIn_22 : decode cX2_whoIsIn 22 = .ok (.ifCond .eq 9, 3) := by decide +kernel
theorem dX2_whoIsIn_25 : decode cX2_whoIsIn 25 = .ok (.iconst 1, 1) := by decide +kernel
theorem dX2_whoIsIn_26 : decode cX2_whoIsIn 26 = .ok (.iload_n 2, 1) := by decide +kernel
theorem dX2_whoIsIn_27 : decode cX2_whoIsIn 27 = .ok (.ishl, 1) := by decide +kernel
theorem dX2_whoIsIn_28 : decode cX2_whoIsIn 28 = .ok (.goto 4, 3) := by decide +kernel
theorem dX2_whoIsIn_31 : decode cX2_whoIsIn 31 = .ok (.iconst 0, 1) := by decide +kernel
theorem dX2_whoIsIn_32 : decode cX2_whoIsIn 32 = .ok (.ior, 1) := by decide +kernel
theorem dX2_whoIsIn_33 : decode cX2_whoIsIn 33 = .ok (.istore_n 1, 1) := by decide +kernel
theorem dX2_whoIsIn_34 : decode cX2_whoIsIn 34 = .ok (.iinc 2 1, 3) := by decide +kernel
theorem dX2_whoIsIn_37 : decode cX2_whoIsIn 37 = .ok (.goto (-33), 3) := by decide +kernel
theorem dX2_whoIsIn_40 : decode cX2_whoIsIn 40 = .ok (.iload_n 1, 1) := by decide +kernel
theorem dX2_whoIsIn_41 : decode cX2_whoIsIn 41 = .ok (.ireturn, 1) := by decide +kernel
theorem dX2_inCellar_0 : decode cX2_inCellar 0 = .ok (.iconst 0, 1) := by decide +kernel
theorem dX2_inCellar_1 : decode cX2_inCellar 1 = .ok (.istore_n 1, 1) := by decide +kernel
theorem dX2_inCellar_2 : decode cX2_inCellar 2 = .ok (.iconst 0, 1) := by decide +kernel
theorem dX2_inCellar_3 : decode cX2_inCellar 3 = .ok (.istore_n 2, 1) := by decide +kernel
theorem dX2_inCellar_4 : decode cX2_inCellar 4 = .ok (.iload_n 2, 1) := by decide +kernel
theorem dX2_inCellar_5 : decode cX2_inCellar 5 = .ok (.bipush 12, 2) := by decide +kernel
theorem dX2_inCellar_7 : decode cX2_inCellar 7 = .ok (.if_icmp .ge 28, 3) := by decide +kernel
theorem dX2_inCellar_10 : decode cX2_inCellar 10 = .ok (.iload_n 1, 1) := by decide +kernel
theorem dX2_inCellar_11 : decode cX2_inCellar 11 = .ok (.aload_n 0, 1) := by decide +kernel
theorem dX2_inCellar_12 : decode cX2_inCellar 12 = .ok (.getfield 15, 3) := by decide +kernel
theorem dX2_inCellar_15 : decode cX2_inCellar 15 = .ok (.iload_n 2, 1) := by decide +kernel
theorem dX2_inCellar_16 : decode cX2_inCellar 16 = .ok (.iaload, 1) := by decide +kernel
theorem dX2_inCellar_17 : decode cX2_inCellar 17 = .ok (.ifCond .le 9, 3) := by decide +kernel
theorem dX2_inCellar_20 : decode cX2_inCellar 20 = .ok (.iconst 1, 1) := by decide +kernel
theorem dX2_inCellar_21 : decode cX2_inCellar 21 = .ok (.iload_n 2, 1) := by decide +kernel
theorem dX2_inCellar_22 : decode cX2_inCellar 22 = .ok (.ishl, 1) := by decide +kernel
theorem dX2_inCellar_23 : decode cX2_inCellar 23 = .ok (.goto 4, 3) := by decide +kernel
theorem dX2_inCellar_26 : decode cX2_inCellar 26 = .ok (.iconst 0, 1) := by decide +kernel
theorem dX2_inCellar_27 : decode cX2_inCellar 27 = .ok (.ior, 1) := by decide +kernel
theorem dX2_inCellar_28 : decode cX2_inCellar 28 = .ok (.istore_n 1, 1) := by decide +kernel
theorem dX2_inCellar_29 : decode cX2_inCellar 29 = .ok (.iinc 2 1, 3) := by decide +kernel
theorem dX2_inCellar_32 : decode cX2_inCellar 32 = .ok (.goto (-28), 3) := by decide +kernel
theorem dX2_inCellar_35 : decode cX2_inCellar 35 = .ok (.iload_n 1, 1) := by decide +kernel
theorem dX2_inCellar_36 : decode cX2_inCellar 36 = .ok (.ireturn, 1) := by decide +kernel
theorem dX2_storedInAll_0 : decode cX2_storedInAll 0 = .ok (.iconst 0, 1) := by decide +kernel
theorem dX2_storedInAll_1 : decode cX2_storedInAll 1 = .ok (.istore_n 1, 1) := by decide +kernel
theorem dX2_storedInAll_2 : decode cX2_storedInAll 2 = .ok (.iconst 0, 1) := by decide +kernel
theorem dX2_storedInAll_3 : decode cX2_storedInAll 3 = .ok (.istore_n 2, 1) := by decide +kernel
theorem dX2_storedInAll_4 : decode cX2_storedInAll 4 = .ok (.iload_n 2, 1) := by decide +kernel
theorem dX2_storedInAll_5 : decode cX2_storedInAll 5 = .ok (.bipush 12, 2) := by decide +kernel
theorem dX2_storedInAll_7 : decode cX2_storedInAll 7 = .ok (.if_icmp .ge 18, 3) := by decide +kernel
theorem dX2_storedInAll_10 : decode cX2_storedInAll 10 = .ok (.iload_n 1, 1) := by decide +kernel
theorem dX2_storedInAll_11 : decode cX2_storedInAll 11 = .ok (.aload_n 0, 1) := by decide +kernel
theorem dX2_storedInAll_12 : decode cX2_storedInAll 12 = .ok (.getfield 15, 3) := by decide +kernel
theorem dX2_storedInAll_15 : decode cX2_storedInAll 15 = .ok (.iload_n 2, 1) := by decide +kernel
theorem dX2_storedInAll_16 : decode cX2_storedInAll 16 = .ok (.iaload, 1) := by decide +kernel
theorem dX2_storedInAll_17 : decode cX2_storedInAll 17 = .ok (.iadd, 1) := by decide +kernel
theorem dX2_storedInAll_18 : decode cX2_storedInAll 18 = .ok (.istore_n 1, 1) := by decide +kernel
theorem dX2_storedInAll_19 : decode cX2_storedInAll 19 = .ok (.iinc 2 1, 3) := by decide +kernel
theorem dX2_storedInAll_22 : decode cX2_storedInAll 22 = .ok (.goto (-18), 3) := by decide +kernel
theorem dX2_storedInAll_25 : decode cX2_storedInAll 25 = .ok (.iload_n 1, 1) := by decide +kernel
theorem dX2_storedInAll_26 : decode cX2_storedInAll 26 = .ok (.ireturn, 1) := by decide +kernel
theorem dX3_init_0 : decode cX3_init 0 = .ok (.aload_n 0, 1) := by decide +kernel
theorem dX3_init_1 : decode cX3_init 1 = .ok (.invokespecial 3, 3) := by decide +kernel
theorem dX3_init_4 : decode cX3_init 4 = .ok (.aload_n 0, 1) := by decide +kernel
theorem dX3_init_5 : decode cX3_init 5 = .ok (.bipush 10, 2) := by decide +kernel
theorem dX3_init_7 : decode cX3_init 7 = .ok (.bipush 12, 2) := by decide +kernel
theorem dX3_init_9 : decode cX3_init 9 = .ok (.multianewarray 9 2, 4) := by decide +kernel
theorem dX3_init_13 : decode cX3_init 13 = .ok (.putfield 11, 3) := by decide +kernel
theorem dX3_init_16 : decode cX3_init 16 = .ok (.aload_n 0, 1) := by decide +kernel
theorem dX3_init_17 : decode cX3_init 17 = .ok (.bipush 10, 2) := by decide +kernel
theorem dX3_init_19 : decode cX3_init 19 = .ok (.newarray .int, 2) := by decide +kernel
theorem dX3_init_21 : decode cX3_init 21 = .ok (.putfield 16, 3) := by decide +kernel
theorem dX3_init_24 : decode cX3_init 24 = .ok (.aload_n 0, 1) := by decide +kernel
theorem dX3_init_25 : decode cX3_init 25 = .ok (.bipush 12, 2) := by decide +kernel
theorem dX3_init_27 : decode cX3_init 27 = .ok (.newarray .int, 2) := by decide +kernel
theorem dX3_init_29 : decode cX3_init 29 = .ok (.putfield 20, 3) := by decide +kernel
theorem dX3_init_32 : decode cX3_init 32 = .ok (.aload_n 0, 1) := by decide +kernel
theorem dX3_init_33 : decode cX3_init 33 = .ok (.bipush 8, 2) := by decide +kernel
theorem dX3_init_35 : decode cX3_init 35 = .ok (.newarray .int, 2) := by decide +kernel
theorem dX3_init_37 : decode cX3_init 37 = .ok (.putfield 23, 3) := by decide +kernel
theorem dX3_init_40 : decode cX3_init 40 = .ok (.aload_n 0, 1) := by decide +kernel
theorem dX3_init_41 : decode cX3_init 41 = .ok (.aload_n 1, 1) := by decide +kernel
theorem dX3_init_42 : decode cX3_init 42 = .ok (.putfield 26, 3) := by decide +kernel
theorem dX3_init_45 : decode cX3_init 45 = .ok (.aload_n 0, 1) := by decide +kernel
theorem dX3_init_46 : decode cX3_init 46 = .ok (.aload_n 2, 1) := by decide +kernel
theorem dX3_init_47 : decode cX3_init 47 = .ok (.putfield 30, 3) := by decide +kernel
theorem dX3_init_50 : decode cX3_init 50 = .ok (.aload_n 0, 1) := by decide +kernel
theorem dX3_init_51 : decode cX3_init 51 = .ok (.getfield 16, 3) := by decide +kernel
theorem dX3_init_54 : decode cX3_init 54 = .ok (.iconst (-1), 1) := by decide +kernel
theorem dX3_init_55 : decode cX3_init 55 = .ok (.invokestatic 34, 3) := by decide +kernel
theorem dX3_init_58 : decode cX3_init 58 = .ok (.return_, 1) := by decide +kernel
theorem dX3_settle_0 : decode cX3_settle 0 = .ok (.aload_n 0, 1) := by decide +kernel
theorem dX3_settle_1 : decode cX3_settle 1 = .ok (.aload_n 1, 1) := by decide +kernel
theorem dX3_settle_2 : decode cX3_settle 2 = .ok (.putfield 26, 3) := by decide +kernel
theorem dX3_settle_5 : decode cX3_settle 5 = .ok (.aload_n 0, 1) := by decide +kernel
theorem dX3_settle_6 : decode cX3_settle 6 = .ok (.aload_n 2, 1) := by decide +kernel
theorem dX3_settle_7 : decode cX3_settle 7 = .ok (.putfield 30, 3) := by decide +kernel
theorem dX3_settle_10 : decode cX3_settle 10 = .ok (.aload_n 0, 1) := by decide +kernel
theorem dX3_settle_11 : decode cX3_settle 11 = .ok (.getfield 16, 3) := by decide +kernel
theorem dX3_settle_14 : decode cX3_settle 14 = .ok (.iconst (-1), 1) := by decide +kernel
theorem dX3_settle_15 : decode cX3_settle 15 = .ok (.invokestatic 34, 3) := by decide +kernel
theorem dX3_settle_18 : decode cX3_settle 18 = .ok (.return_, 1) := by decide +kernel
theorem dX3_tempts_0 : decode cX3_tempts 0 = .ok (.aload_n 0, 1) := by decide +kernel
theorem dX3_tempts_1 : decode cX3_tempts 1 = .ok (.getfield 26, 3) := by decide +kernel
theorem dX3_tempts_4 : decode cX3_tempts 4 = .ok (.getfield 40, 3) := by decide +kernel
theorem dX3_tempts_7 : decode cX3_tempts 7 = .ok (.iload_n 1, 1) := by decide +kernel
theorem dX3_tempts_8 : decode cX3_tempts 8 = .ok (.iaload, 1) := by decide +kernel
theorem dX3_tempts_9 : decode cX3_tempts 9 = .ok (.istore_n 3, 1) := by decide +kernel
theorem dX3_tempts_10 : decode cX3_tempts 10 = .ok (.aload_n 0, 1) := by decide +kernel
theorem dX3_tempts_11 : decode cX3_tempts 11 = .ok (.iload_n 1, 1) := by decide +kernel
theorem dX3_tempts_12 : decode cX3_tempts 12 = .ok (.iload_n 3, 1) := by decide +kernel
theorem dX3_tempts_13 : decode cX3_tempts 13 = .ok (.iload_n 2, 1) := by decide +kernel
theorem dX3_tempts_14 : decode cX3_tempts 14 = .ok (.invokevirtual 45, 3) := by decide +kernel
theorem dX3_tempts_17 : decode cX3_tempts 17 = .ok (.iconst 5, 1) := by decide +kernel
theorem dX3_tempts_18 : decode cX3_tempts 18 = .ok (.iconst 2, 1) := by decide +kernel
theorem dX3_tempts_19 : decode cX3_tempts 19 = .ok (.iload_n 3, 1) := by decide +kernel
theorem dX3_tempts_20 : decode cX3_tempts 20 = .ok (.imul, 1) := by decide +kernel
theorem dX3_tempts_21 : decode cX3_tempts 21 = .ok (.iadd, 1) := by decide +kernel
theorem dX3_tempts_22 : decode cX3_tempts 22 = .ok (.aload_n 0, 1) := by decide +kernel
theorem dX3_tempts_23 : decode cX3_tempts 23 = .ok (.getfield 26, 3) := by decide +kernel
theorem dX3_tempts_26 : decode cX3_tempts 26 = .ok (.getfield 49, 3) := by decide +kernel
theorem dX3_tempts_29 : decode cX3_tempts 29 = .ok (.aload_n 0, 1) := by decide +kernel
theorem dX3_tempts_30 : decode cX3_tempts 30 = .ok (.getfield 23, 3) := by decide +kernel
theorem dX3_tempts_33 : decode cX3_tempts 33 = .ok (.invokevirtual 53, 3) := by decide +kernel
theorem dX3_tempts_36 : decode cX3_tempts 36 = .ok (.iadd, 1) := by decide +kernel
theorem dX3_tempts_37 : decode cX3_tempts 37 = .ok (.istore 4, 2) := by decide +kernel
theorem dX3_tempts_39 : decode cX3_tempts 39 = .ok (.iload_n 1, 1) := by decide +kernel
theorem dX3_tempts_40 : decode cX3_tempts 40 = .ok (.iconst 2, 1) := by decide +kernel
theorem dX3_tempts_41 : decode cX3_tempts 41 = .ok (.irem, 1) := by decide +kernel
theorem dX3_tempts_42 : decode cX3_tempts 42 = .ok (.ifCond .ne 16, 3) := by decide +kernel
theorem dX3_tempts_45 : decode cX3_tempts 45 = .ok (.iload 4, 2) := by decide +kernel
theorem dX3_tempts_47 : decode cX3_tempts 47 = .ok (.aload_n 0, 1) := by decide +kernel
theorem dX3_tempts_48 : decode cX3_tempts 48 = .ok (.getfield 30, 3) := by decide +kernel
theorem dX3_tempts_51 : decode cX3_tempts 51 = .ok (.getfield 59, 3) := by decide +kernel
theorem dX3_tempts_54 : decode cX3_tempts 54 = .ok (.iadd, 1) := by decide +kernel
theorem dX3_tempts_55 : decode cX3_tempts 55 = .ok (.goto 5, 3) := by decide +kernel
theorem dX3_tempts_58 : decode cX3_tempts 58 = .ok (.iload 4, 2) := by decide +kernel
theorem dX3_tempts_60 : decode cX3_tempts 60 = .ok (.istore 5, 2) := by decide +kernel
theorem dX3_tempts_62 : decode cX3_tempts 62 = .ok (.aload_n 0, 1) := by decide +kernel
theorem dX3_tempts_63 : decode cX3_tempts 63 = .ok (.getfield 30, 3) := by decide +kernel
theorem dX3_tempts_66 : decode cX3_tempts 66 = .ok (.getfield 59, 3) := by decide +kernel
theorem dX3_tempts_69 : decode cX3_tempts 69 = .ok (.iload_n 3, 1) := by decide +kernel
theorem dX3_tempts_70 : decode cX3_tempts 70 = .ok (.if_icmp .le 7, 3) := by decide +kernel
theorem dX3_tempts_73 : decode cX3_tempts 73 = .ok (.iconst 0, 1) := by decide +kernel
theorem dX3_tempts_74 : decode cX3_tempts 74 = .ok (.goto 5, 3) := by decide +kernel
theorem dX3_tempts_77 : decode cX3_tempts 77 = .ok (.iload 4, 2) := by decide +kernel
theorem dX3_tempts_79 : decode cX3_tempts 79 = .ok (.istore 6, 2) := by decide +kernel
theorem dX3_tempts_81 : decode cX3_tempts 81 = .ok (.aload_n 0, 1) := by decide +kernel
theorem dX3_tempts_82 : decode cX3_tempts 82 = .ok (.getfield 30, 3) := by decide +kernel
theorem dX3_tempts_85 : decode cX3_tempts 85 = .ok (.getfield 65, 3) := by decide +kernel
theorem dX3_tempts_88 : decode cX3_tempts 88 = .ok (.tableswitch 100 1 6 #[40, 43, 48, 51, 76, 85], 40) := by decide +kernel
theorem dX3_tempts_128 : decode cX3_tempts 128 = .ok (.iload 5, 2) := by decide +kernel
theorem dX3_tempts_130 : decode cX3_tempts 130 = .ok (.ireturn, 1) := by decide +kernel
theorem dX3_tempts_131 : decode cX3_tempts 131 = .ok (.iload 4, 2) := by decide +kernel
theorem dX3_tempts_133 : decode cX3_tempts 133 = .ok (.iconst 2, 1) := by decide +kernel
theorem dX3_tempts_134 : decode cX3_tempts 134 = .ok (.idiv, 1) := by decide +kernel
theorem dX3_tempts_135 : decode cX3_tempts 135 = .ok (.ireturn, 1) := by decide +kernel
theorem dX3_tempts_136 : decode cX3_tempts 136 = .ok (.iload 6, 2) := by decide +kernel
theorem dX3_tempts_138 : decode cX3_tempts 138 = .ok (.ireturn, 1) := by decide +kernel
theorem dX3_tempts_139 : decode cX3_tempts 139 = .ok (.aload_n 0, 1) := by decide +kernel
theorem dX3_tempts_140 : decode cX3_tempts 140 = .ok (.getfield 30, 3) := by decide +kernel
theorem dX3_tempts_143 : decode cX3_tempts 143 = .ok (.getfield 68, 3) := by decide +kernel
theorem dX3_tempts_146 : decode cX3_tempts 146 = .ok (.iload_n 1, 1) := by decide +kernel
theorem dX3_tempts_147 : decode cX3_tempts 147 = .ok (.invokestatic 71, 3) := by decide +kernel
theorem dX3_tempts_150 : decode cX3_tempts 150 = .ok (.ifCond .eq 11, 3) := by decide +kernel
theorem dX3_tempts_153 : decode cX3_tempts 153 = .ok (.iload 5, 2) := by decide +kernel
theorem dX3_tempts_155 : decode cX3_tempts 155 = .ok (.bipush 10, 2) := by decide +kernel
theorem dX3_tempts_157 : decode cX3_tempts 157 = .ok (.isub, 1) := by decide +kernel
theorem dX3_tempts_158 : decode cX3_tempts 158 = .ok (.goto 5, 3) := by decide +kernel
theorem dX3_tempts_161 : decode cX3_tempts 161 = .ok (.iload 5, 2) := by decide +kernel
theorem dX3_tempts_163 : decode cX3_tempts 163 = .ok (.ireturn, 1) := by decide +kernel
theorem dX3_tempts_164 : decode cX3_tempts 164 = .ok (.iload 4, 2) := by decide +kernel
theorem dX3_tempts_166 : decode cX3_tempts 166 = .ok (.iconst 2, 1) := by decide +kernel
theorem dX3_tempts_167 : decode cX3_tempts 167 = .ok (.idiv, 1) := by decide +kernel
theorem dX3_tempts_168 : decode cX3_tempts 168 = .ok (.iload_n 2, 1) := by decide +kernel
theorem dX3_tempts_169 : decode cX3_tempts 169 = .ok (.iconst 5, 1) := by decide +kernel
theorem dX3_tempts_170 : decode cX3_tempts 170 = .ok (.irem, 1) := by decide +kernel
theorem dX3_tempts_171 : decode cX3_tempts 171 = .ok (.iadd, 1) := by decide +kernel
theorem dX3_tempts_172 : decode cX3_tempts 172 = .ok (.ireturn, 1) := by decide +kernel
theorem dX3_tempts_173 : decode cX3_tempts 173 = .ok (.iload 6, 2) := by decide +kernel
theorem dX3_tempts_175 : decode cX3_tempts 175 = .ok (.aload_n 0, 1) := by decide +kernel
theorem dX3_tempts_176 : decode cX3_tempts 176 = .ok (.getfield 30, 3) := by decide +kernel
theorem dX3_tempts_179 : decode cX3_tempts 179 = .ok (.getfield 75, 3) := by decide +kernel
theorem dX3_tempts_182 : decode cX3_tempts 182 = .ok (.iload_n 1, 1) := by decide +kernel
theorem dX3_tempts_183 : decode cX3_tempts 183 = .ok (.iconst 4, 1) := by decide +kernel
theorem dX3_tempts_184 : decode cX3_tempts 184 = .ok (.irem, 1) := by decide +kernel
theorem dX3_tempts_185 : decode cX3_tempts 185 = .ok (.iaload, 1) := by decide +kernel
theorem dX3_tempts_186 : decode cX3_tempts 186 = .ok (.iadd, 1) := by decide +kernel
theorem dX3_tempts_187 : decode cX3_tempts 187 = .ok (.ireturn, 1) := by decide +kernel
theorem dX3_tempts_188 : decode cX3_tempts 188 = .ok (.iload 4, 2) := by decide +kernel
theorem dX3_tempts_190 : decode cX3_tempts 190 = .ok (.ireturn, 1) := by decide +kernel
theorem dX3_learn_0 : decode cX3_learn 0 = .ok (.aload_n 0, 1) := by decide +kernel
theorem dX3_learn_1 : decode cX3_learn 1 = .ok (.getfield 23, 3) := by decide +kernel
theorem dX3_learn_4 : decode cX3_learn 4 = .ok (.iconst 0, 1) := by decide +kernel
theorem dX3_learn_5 : decode cX3_learn 5 = .ok (.aload_n 0, 1) := by decide +kernel
theorem dX3_learn_6 : decode cX3_learn 6 = .ok (.getfield 30, 3) := by decide +kernel
theorem dX3_learn_9 : decode cX3_learn 9 = .ok (.getfield 78, 3) := by decide +kernel
theorem dX3_learn_12 : decode cX3_learn 12 = .ok (.iastore, 1) := by decide +kernel
theorem dX3_learn_13 : decode cX3_learn 13 = .ok (.aload_n 0, 1) := by decide +kernel
theorem dX3_learn_14 : decode cX3_learn 14 = .ok (.getfield 23, 3) := by decide +kernel
theorem dX3_learn_17 : decode cX3_learn 17 = .ok (.iconst 1, 1) := by decide +kernel
theorem dX3_learn_18 : decode cX3_learn 18 = .ok (.aload_n 0, 1) := by decide +kernel
theorem dX3_learn_19 : decode cX3_learn 19 = .ok (.getfield 30, 3) := by decide +kernel
theorem dX3_learn_22 : decode cX3_learn 22 = .ok (.getfield 65, 3) := by decide +kernel
theorem dX3_learn_25 : decode cX3_learn 25 = .ok (.iastore, 1) := by decide +kernel
theorem dX3_learn_26 : decode cX3_learn 26 = .ok (.aload_n 0, 1) := by decide +kernel
theorem dX3_learn_27 : decode cX3_learn 27 = .ok (.getfield 23, 3) := by decide +kernel
theorem dX3_learn_30 : decode cX3_learn 30 = .ok (.iconst 2, 1) := by decide +kernel
theorem dX3_learn_31 : decode cX3_learn 31 = .ok (.aload_n 0, 1) := by decide +kernel
theorem dX3_learn_32 : decode cX3_learn 32 = .ok (.getfield 30, 3) := by decide +kernel
theorem dX3_learn_35 : decode cX3_learn 35 = .ok (.getfield 59, 3) := by decide +kernel
theorem dX3_learn_38 : decode cX3_learn 38 = .ok (.iastore, 1) := by decide +kernel
theorem dX3_learn_39 : decode cX3_learn 39 = .ok (.aload_n 0, 1) := by decide +kernel
theorem dX3_learn_40 : decode cX3_learn 40 = .ok (.getfield 23, 3) := by decide +kernel
theorem dX3_learn_43 : decode cX3_learn 43 = .ok (.iconst 3, 1) := by decide +kernel
theorem dX3_learn_44 : decode cX3_learn 44 = .ok (.iload_n 1, 1) := by decide +kernel
theorem dX3_learn_45 : decode cX3_learn 45 = .ok (.iastore, 1) := by decide +kernel
theorem dX3_learn_46 : decode cX3_learn 46 = .ok (.aload_n 0, 1) := by decide +kernel
theorem dX3_learn_47 : decode cX3_learn 47 = .ok (.getfield 23, 3) := by decide +kernel
theorem dX3_learn_50 : decode cX3_learn 50 = .ok (.iconst 4, 1) := by decide +kernel
theorem dX3_learn_51 : decode cX3_learn 51 = .ok (.iload_n 2, 1) := by decide +kernel
theorem dX3_learn_52 : decode cX3_learn 52 = .ok (.iastore, 1) := by decide +kernel
theorem dX3_learn_53 : decode cX3_learn 53 = .ok (.aload_n 0, 1) := by decide +kernel
theorem dX3_learn_54 : decode cX3_learn 54 = .ok (.getfield 23, 3) := by decide +kernel
theorem dX3_learn_57 : decode cX3_learn 57 = .ok (.iconst 5, 1) := by decide +kernel
theorem dX3_learn_58 : decode cX3_learn 58 = .ok (.iload_n 3, 1) := by decide +kernel
theorem dX3_learn_59 : decode cX3_learn 59 = .ok (.bipush 10, 2) := by decide +kernel
theorem dX3_learn_61 : decode cX3_learn 61 = .ok (.irem, 1) := by decide +kernel
theorem dX3_learn_62 : decode cX3_learn 62 = .ok (.iastore, 1) := by decide +kernel
theorem dX3_learn_63 : decode cX3_learn 63 = .ok (.return_, 1) := by decide +kernel
theorem dX3_prey_0 : decode cX3_prey 0 = .ok (.iload_n 2, 1) := by decide +kernel
theorem dX3_prey_1 : decode cX3_prey 1 = .ok (.bipush 10, 2) := by decide +kernel
theorem dX3_prey_3 : decode cX3_prey 3 = .ok (.irem, 1) := by decide +kernel
theorem dX3_prey_4 : decode cX3_prey 4 = .ok (.istore_n 3, 1) := by decide +kernel
theorem dX3_prey_5 : decode cX3_prey 5 = .ok (.aload_n 0, 1) := by decide +kernel
theorem dX3_prey_6 : decode cX3_prey 6 = .ok (.getfield 30, 3) := by decide +kernel
theorem dX3_prey_9 : decode cX3_prey 9 = .ok (.getfield 81, 3) := by decide +kernel
theorem dX3_prey_12 : decode cX3_prey 12 = .ok (.ifCond .eq 7, 3) := by decide +kernel
theorem dX3_prey_15 : decode cX3_prey 15 = .ok (.iload_n 3, 1) := by decide +kernel
theorem dX3_prey_16 : decode cX3_prey 16 = .ok (.ifCond .ge 6, 3) := by decide +kernel
theorem dX3_prey_19 : decode cX3_prey 19 = .ok (.bipush (-5), 2) := by decide +kernel
theorem dX3_prey_21 : decode cX3_prey 21 = .ok (.ireturn, 1) := by decide +kernel
theorem dX3_prey_22 : decode cX3_prey 22 = .ok (.aload_n 0, 1) := by decide +kernel
theorem dX3_prey_23 : decode cX3_prey 23 = .ok (.getfield 16, 3) := by decide +kernel
theorem dX3_prey_26 : decode cX3_prey 26 = .ok (.iload_n 3, 1) := by decide +kernel
theorem dX3_prey_27 : decode cX3_prey 27 = .ok (.iaload, 1) := by decide +kernel
theorem dX3_prey_28 : decode cX3_prey 28 = .ok (.ifCond .ge 8, 3) := by decide +kernel
theorem dX3_prey_31 : decode cX3_prey 31 = .ok (.aload_n 0, 1) := by decide +kernel
theorem dX3_prey_32 : decode cX3_prey 32 = .ok (.iload_n 3, 1) := by decide +kernel
theorem dX3_prey_33 : decode cX3_prey 33 = .ok (.invokevirtual 85, 3) := by decide +kernel
theorem dX3_prey_36 : decode cX3_prey 36 = .ok (.iconst 0, 1) := by decide +kernel
theorem dX3_prey_37 : decode cX3_prey 37 = .ok (.istore 4, 2) := by decide +kernel
theorem dX3_prey_39 : decode cX3_prey 39 = .ok (.iload 4, 2) := by decide +kernel
theorem dX3_prey_41 : decode cX3_prey 41 = .ok (.aload_n 0, 1) := by decide +kernel
theorem dX3_prey_42 : decode cX3_prey 42 = .ok (.getfield 16, 3) := by decide +kernel
theorem dX3_prey_45 : decode cX3_prey 45 = .ok (.iload_n 3, 1) := by decide +kernel
theorem dX3_prey_46 : decode cX3_prey 46 = .ok (.iaload, 1) := by decide +kernel
theorem dX3_prey_47 : decode cX3_prey 47 = .ok (.if_icmp .ge 35, 3) := by decide +kernel
theorem dX3_prey_50 : decode cX3_prey 50 = .ok (.iload_n 1, 1) := by decide +kernel
theorem dX3_prey_51 : decode cX3_prey 51 = .ok (.aload_n 0, 1) := by decide +kernel
theorem dX3_prey_52 : decode cX3_prey 52 = .ok (.getfield 11, 3) := by decide +kernel
theorem dX3_prey_55 : decode cX3_prey 55 = .ok (.iload_n 3, 1) := by decide +kernel
theorem dX3_prey_56 : decode cX3_prey 56 = .ok (.aaload, 1) := by decide +kernel
theorem dX3_prey_57 : decode cX3_prey 57 = .ok (.iload 4, 2) := by decide +kernel
theorem dX3_prey_59 : decode cX3_prey 59 = .ok (.iaload, 1) := by decide +kernel
theorem dX3_prey_60 : decode cX3_prey 60 = .ok (.invokestatic 71, 3) := by decide +kernel
theorem dX3_prey_63 : decode cX3_prey 63 = .ok (.ifCond .eq 13, 3) := by decide +kernel
theorem dX3_prey_66 : decode cX3_prey 66 = .ok (.aload_n 0, 1) := by decide +kernel
theorem dX3_prey_67 : decode cX3_prey 67 = .ok (.getfield 11, 3) := by decide +kernel
theorem dX3_prey_70 : decode cX3_prey 70 = .ok (.iload_n 3, 1) := by decide +kernel
theorem dX3_prey_71 : decode cX3_prey 71 = .ok (.aaload, 1) := by decide +kernel
theorem dX3_prey_72 : decode cX3_prey 72 = .ok (.iload 4, 2) := by decide +kernel
theorem dX3_prey_74 : decode cX3_prey 74 = .ok (.iaload, 1) := by decide +kernel
theorem dX3_prey_75 : decode cX3_prey 75 = .ok (.ireturn, 1) := by decide +kernel
theorem dX3_prey_76 : decode cX3_prey 76 = .ok (.iinc 4 1, 3) := by decide +kernel
theorem dX3_prey_79 : decode cX3_prey 79 = .ok (.goto (-40), 3) := by decide +kernel
theorem dX3_prey_82 : decode cX3_prey 82 = .ok (.bipush (-5), 2) := by decide +kernel
theorem dX3_prey_84 : decode cX3_prey 84 = .ok (.ireturn, 1) := by decide +kernel
theorem dX3_rank_0 : decode cX3_rank 0 = .ok (.aload_n 0, 1) := by decide +kernel
theorem dX3_rank_1 : decode cX3_rank 1 = .ok (.getfield 11, 3) := by decide +kernel
theorem dX3_rank_4 : decode cX3_rank 4 = .ok (.iload_n 1, 1) := by decide +kernel
theorem dX3_rank_5 : decode cX3_rank 5 = .ok (.aaload, 1) := by decide +kernel
theorem dX3_rank_6 : decode cX3_rank 6 = .ok (.astore_n 2, 1) := by decide +kernel
theorem dX3_rank_7 : decode cX3_rank 7 = .ok (.iconst 0, 1) := by decide +kernel
theorem dX3_rank_8 : decode cX3_rank 8 = .ok (.istore_n 3, 1) := by decide +kernel
theorem dX3_rank_9 : decode cX3_rank 9 = .ok (.iconst 0, 1) := by decide +kernel
theorem dX3_rank_10 : decode cX3_rank 10 = .ok (.istore 4, 2) := by decide +kernel
theorem dX3_rank_12 : decode cX3_rank 12 = .ok (.iload 4, 2) := by decide +kernel
theorem dX3_rank_14 : decode cX3_rank 14 = .ok (.bipush 12, 2) := by decide +kernel
theorem dX3_rank_16 : decode cX3_rank 16 = .ok (.if_icmp .ge 95, 3) := by decide +kernel
theorem dX3_rank_19 : decode cX3_rank 19 = .ok (.aload_n 0, 1) := by decide +kernel
theorem dX3_rank_20 : decode cX3_rank 20 = .ok (.iload 4, 2) := by decide +kernel
theorem dX3_rank_22 : decode cX3_rank 22 = .ok (.iload_n 1, 1) := by decide +kernel
theorem dX3_rank_23 : decode cX3_rank 23 = .ok (.invokevirtual 89, 3) := by decide +kernel
theorem dX3_rank_26 : decode cX3_rank 26 = .ok (.istore 5, 2) := by decide +kernel
theorem dX3_rank_28 : decode cX3_rank 28 = .ok (.iload 5, 2) := by decide +kernel
theorem dX3_rank_30 : decode cX3_rank 30 = .ok (.ifCond .le 75, 3) := by decide +kernel
theorem dX3_rank_33 : decode cX3_rank 33 = .ok (.iload_n 3, 1) := by decide +kernel
theorem dX3_rank_34 : decode cX3_rank 34 = .ok (.istore 6, 2) := by decide +kernel
theorem dX3_rank_36 : decode cX3_rank 36 = .ok (.iload 6, 2) := by decide +kernel
theorem dX3_rank_38 : decode cX3_rank 38 = .ok (.ifCond .le 49, 3) := by decide +kernel
theorem dX3_rank_41 : decode cX3_rank 41 = .ok (.aload_n 0, 1) := by decide +kernel
theorem dX3_rank_42 : decode cX3_rank 42 = .ok (.getfield 20, 3) := by decide +kernel
theorem dX3_rank_45 : decode cX3_rank 45 = .ok (.iload 6, 2) := by decide +kernel
theorem dX3_rank_47 : decode cX3_rank 47 = .ok (.iconst 1, 1) := by decide +kernel
theorem dX3_rank_48 : decode cX3_rank 48 = .ok (.isub, 1) := by decide +kernel
theorem dX3_rank_49 : decode cX3_rank 49 = .ok (.iaload, 1) := by decide +kernel
theorem dX3_rank_50 : decode cX3_rank 50 = .ok (.iload 5, 2) := by decide +kernel
theorem dX3_rank_52 : decode cX3_rank 52 = .ok (.if_icmp .ge 35, 3) := by decide +kernel
theorem dX3_rank_55 : decode cX3_rank 55 = .ok (.aload_n 0, 1) := by decide +kernel
theorem dX3_rank_56 : decode cX3_rank 56 = .ok (.getfield 20, 3) := by decide +kernel
theorem dX3_rank_59 : decode cX3_rank 59 = .ok (.iload 6, 2) := by decide +kernel
theorem dX3_rank_61 : decode cX3_rank 61 = .ok (.aload_n 0, 1) := by decide +kernel
theorem dX3_rank_62 : decode cX3_rank 62 = .ok (.getfield 20, 3) := by decide +kernel
theorem dX3_rank_65 : decode cX3_rank 65 = .ok (.iload 6, 2) := by decide +kernel
theorem dX3_rank_67 : decode cX3_rank 67 = .ok (.iconst 1, 1) := by decide +kernel
theorem dX3_rank_68 : decode cX3_rank 68 = .ok (.isub, 1) := by decide +kernel
theorem dX3_rank_69 : decode cX3_rank 69 = .ok (.iaload, 1) := by decide +kernel
theorem dX3_rank_70 : decode cX3_rank 70 = .ok (.iastore, 1) := by decide +kernel
theorem dX3_rank_71 : decode cX3_rank 71 = .ok (.aload_n 2, 1) := by decide +kernel
theorem dX3_rank_72 : decode cX3_rank 72 = .ok (.iload 6, 2) := by decide +kernel
theorem dX3_rank_74 : decode cX3_rank 74 = .ok (.aload_n 2, 1) := by decide +kernel
theorem dX3_rank_75 : decode cX3_rank 75 = .ok (.iload 6, 2) := by decide +kernel
theorem dX3_rank_77 : decode cX3_rank 77 = .ok (.iconst 1, 1) := by decide +kernel
theorem dX3_rank_78 : decode cX3_rank 78 = .ok (.isub, 1) := by decide +kernel
theorem dX3_rank_79 : decode cX3_rank 79 = .ok (.iaload, 1) := by decide +kernel
theorem dX3_rank_80 : decode cX3_rank 80 = .ok (.iastore, 1) := by decide +kernel
theorem dX3_rank_81 : decode cX3_rank 81 = .ok (.iinc 6 (-1), 3) := by decide +kernel
theorem dX3_rank_84 : decode cX3_rank 84 = .ok (.goto (-48), 3) := by decide +kernel
theorem dX3_rank_87 : decode cX3_rank 87 = .ok (.aload_n 0, 1) := by decide +kernel
theorem dX3_rank_88 : decode cX3_rank 88 = .ok (.getfield 20, 3) := by decide +kernel
theorem dX3_rank_91 : decode cX3_rank 91 = .ok (.iload 6, 2) := by decide +kernel
theorem dX3_rank_93 : decode cX3_rank 93 = .ok (.iload 5, 2) := by decide +kernel
theorem dX3_rank_95 : decode cX3_rank 95 = .ok (.iastore, 1) := by decide +kernel
theorem dX3_rank_96 : decode cX3_rank 96 = .ok (.aload_n 2, 1) := by decide +kernel
theorem dX3_rank_97 : decode cX3_rank 97 = .ok (.iload 6, 2) := by decide +kernel
theorem dX3_rank_99 : decode cX3_rank 99 = .ok (.iload 4, 2) := by decide +kernel
theorem dX3_rank_101 : decode cX3_rank 101 = .ok (.iastore, 1) := by decide +kernel
theorem dX3_rank_102 : decode cX3_rank 102 = .ok (.iinc 3 1, 3) := by decide +kernel
theorem dX3_rank_105 : decode cX3_rank 105 = .ok (.iinc 4 1, 3) := by decide +kernel
theorem dX3_rank_108 : decode cX3_rank 108 = .ok (.goto (-96), 3) := by decide +kernel
theorem dX3_rank_111 : decode cX3_rank 111 = .ok (.aload_n 0, 1) := by decide +kernel
theorem dX3_rank_112 : decode cX3_rank 112 = .ok (.getfield 16, 3) := by decide +kernel
theorem dX3_rank_115 : decode cX3_rank 115 = .ok (.iload_n 1, 1) := by decide +kernel
theorem dX3_rank_116 : decode cX3_rank 116 = .ok (.iload_n 3, 1) := by decide +kernel
theorem dX3_rank_117 : decode cX3_rank 117 = .ok (.iastore, 1) := by decide +kernel
theorem dX3_rank_118 : decode cX3_rank 118 = .ok (.return_, 1) := by decide +kernel
theorem dX4_init_0 : decode cX4_init 0 = .ok (.aload_n 0, 1) := by decide +kernel
theorem dX4_init_1 : decode cX4_init 1 = .ok (.invokespecial 3, 3) := by decide +kernel
theorem dX4_init_4 : decode cX4_init 4 = .ok (.aload_n 0, 1) := by decide +kernel
theorem dX4_init_5 : decode cX4_init 5 = .ok (.bipush 100, 2) := by decide +kernel
theorem dX4_init_7 : decode cX4_init 7 = .ok (.newarray .int, 2) := by decide +kernel
theorem dX4_init_9 : decode cX4_init 9 = .ok (.putfield 9, 3) := by decide +kernel
theorem dX4_init_12 : decode cX4_init 12 = .ok (.return_, 1) := by decide +kernel
theorem dX4_takesIn_0 : decode cX4_takesIn 0 = .ok (.aload_n 0, 1) := by decide +kernel
theorem dX4_takesIn_1 : decode cX4_takesIn 1 = .ok (.getfield 15, 3) := by decide +kernel
theorem dX4_takesIn_4 : decode cX4_takesIn 4 = .ok (.bipush 100, 2) := by decide +kernel
theorem dX4_takesIn_6 : decode cX4_takesIn 6 = .ok (.if_icmp .lt 5, 3) := by decide +kernel
theorem dX4_takesIn_9 : decode cX4_takesIn 9 = .ok (.iconst 0, 1) := by decide +kernel
theorem dX4_takesIn_10 : decode cX4_takesIn 10 = .ok (.ireturn, 1) := by decide +kernel
theorem dX4_takesIn_11 : decode cX4_takesIn 11 = .ok (.aload_n 0, 1) := by decide +kernel
theorem dX4_takesIn_12 : decode cX4_takesIn 12 = .ok (.getfield 9, 3) := by decide +kernel
theorem dX4_takesIn_15 : decode cX4_takesIn 15 = .ok (.aload_n 0, 1) := by decide +kernel
theorem dX4_takesIn_16 : decode cX4_takesIn 16 = .ok (.getfield 15, 3) := by decide +kernel
theorem dX4_takesIn_19 : decode cX4_takesIn 19 = .ok (.iload_n 1, 1) := by decide +kernel
theorem dX4_takesIn_20 : decode cX4_takesIn 20 = .ok (.iastore, 1) := by decide +kernel
theorem dX4_takesIn_21 : decode cX4_takesIn 21 = .ok (.aload_n 0, 1) := by decide +kernel
theorem dX4_takesIn_22 : decode cX4_takesIn 22 = .ok (.dup, 1) := by decide +kernel
theorem dX4_takesIn_23 : decode cX4_takesIn 23 = .ok (.getfield 15, 3) := by decide +kernel
theorem dX4_takesIn_26 : decode cX4_takesIn 26 = .ok (.iconst 1, 1) := by decide +kernel
theorem dX4_takesIn_27 : decode cX4_takesIn 27 = .ok (.iadd, 1) := by decide +kernel
theorem dX4_takesIn_28 : decode cX4_takesIn 28 = .ok (.putfield 15, 3) := by decide +kernel
theorem dX4_takesIn_31 : decode cX4_takesIn 31 = .ok (.iconst 1, 1) := by decide +kernel
theorem dX4_takesIn_32 : decode cX4_takesIn 32 = .ok (.ireturn, 1) := by decide +kernel
theorem dX4_builds_0 : decode cX4_builds 0 = .ok (.aload_n 1, 1) := by decide +kernel
theorem dX4_builds_1 : decode cX4_builds 1 = .ok (.invokevirtual 19, 3) := by decide +kernel
theorem dX4_builds_4 : decode cX4_builds 4 = .ok (.aload_n 0, 1) := by decide +kernel
theorem dX4_builds_5 : decode cX4_builds 5 = .ok (.iconst 0, 1) := by decide +kernel
theorem dX4_builds_6 : decode cX4_builds 6 = .ok (.putfield 24, 3) := by decide +kernel
theorem dX4_builds_9 : decode cX4_builds 9 = .ok (.iconst 1, 1) := by decide +kernel
theorem dX4_builds_10 : decode cX4_builds 10 = .ok (.istore_n 2, 1) := by decide +kernel
theorem dX4_builds_11 : decode cX4_builds 11 = .ok (.iload_n 2, 1) := by decide +kernel
theorem dX4_builds_12 : decode cX4_builds 12 = .ok (.bipush 10, 2) := by decide +kernel
theorem dX4_builds_14 : decode cX4_builds 14 = .ok (.if_icmp .gt 49, 3) := by decide +kernel
theorem dX4_builds_17 : decode cX4_builds 17 = .ok (.aload_n 0, 1) := by decide +kernel
theorem dX4_builds_18 : decode cX4_builds 18 = .ok (.aload_n 1, 1) := by decide +kernel
theorem dX4_builds_19 : decode cX4_builds 19 = .ok (.invokevirtual 27, 3) := by decide +kernel
theorem dX4_builds_22 : decode cX4_builds 22 = .ok (.ifCond .ne 5, 3) := by decide +kernel
theorem dX4_builds_25 : decode cX4_builds 25 = .ok (.iconst 0, 1) := by decide +kernel
theorem dX4_builds_26 : decode cX4_builds 26 = .ok (.ireturn, 1) := by decide +kernel
theorem dX4_builds_27 : decode cX4_builds 27 = .ok (.aload_n 0, 1) := by decide +kernel
theorem dX4_builds_28 : decode cX4_builds 28 = .ok (.getfield 24, 3) := by decide +kernel
theorem dX4_builds_31 : decode cX4_builds 31 = .ok (.aload_n 0, 1) := by decide +kernel
theorem dX4_builds_32 : decode cX4_builds 32 = .ok (.getfield 15, 3) := by decide +kernel
theorem dX4_builds_35 : decode cX4_builds 35 = .ok (.if_icmp .ne 5, 3) := by decide +kernel
theorem dX4_builds_38 : decode cX4_builds 38 = .ok (.iconst 1, 1) := by decide +kernel
theorem dX4_builds_39 : decode cX4_builds 39 = .ok (.ireturn, 1) := by decide +kernel
theorem dX4_builds_40 : decode cX4_builds 40 = .ok (.iload_n 2, 1) := by decide +kernel
theorem dX4_builds_41 : decode cX4_builds 41 = .ok (.bipush 10, 2) := by decide +kernel
theorem dX4_builds_43 : decode cX4_builds 43 = .ok (.if_icmp .eq 12, 3) := by decide +kernel
theorem dX4_builds_46 : decode cX4_builds 46 = .ok (.aload_n 0, 1) := by decide +kernel
theorem dX4_builds_47 : decode cX4_builds 47 = .ok (.bipush 59, 2) := by decide +kernel
theorem dX4_builds_49 : decode cX4_builds 49 = .ok (.invokevirtual 31, 3) := by decide +kernel
theorem dX4_builds_52 : decode cX4_builds 52 = .ok (.ifCond .ne 5, 3) := by decide +kernel
theorem dX4_builds_55 : decode cX4_builds 55 = .ok (.iconst 0, 1) := by decide +kernel
theorem dX4_builds_56 : decode cX4_builds 56 = .ok (.ireturn, 1) := by decide +kernel
theorem dX4_builds_57 : decode cX4_builds 57 = .ok (.iinc 2 1, 3) := by decide +kernel
theorem dX4_builds_60 : decode cX4_builds 60 = .ok (.goto (-49), 3) := by decide +kernel
theorem dX4_builds_63 : decode cX4_builds 63 = .ok (.iconst 0, 1) := by decide +kernel
theorem dX4_builds_64 : decode cX4_builds 64 = .ok (.ireturn, 1) := by decide +kernel
theorem dX4_readsClause_0 : decode cX4_readsClause 0 = .ok (.aload_n 0, 1) := by decide +kernel
theorem dX4_readsClause_1 : decode cX4_readsClause 1 = .ok (.invokevirtual 35, 3) := by decide +kernel
theorem dX4_readsClause_4 : decode cX4_readsClause 4 = .ok (.istore_n 2, 1) := by decide +kernel
theorem dX4_readsClause_5 : decode cX4_readsClause 5 = .ok (.iload_n 2, 1) := by decide +kernel
theorem dX4_readsClause_6 : decode cX4_readsClause 6 = .ok (.bipush 102, 2) := by decide +kernel
theorem dX4_readsClause_8 : decode cX4_readsClause 8 = .ok (.if_icmp .ne 8, 3) := by decide +kernel
theorem dX4_readsClause_11 : decode cX4_readsClause 11 = .ok (.ldc 39, 2) := by decide +kernel
theorem dX4_readsClause_13 : decode cX4_readsClause 13 = .ok (.goto 16, 3) := by decide +kernel
theorem dX4_readsClause_16 : decode cX4_readsClause 16 = .ok (.iload_n 2, 1) := by decide +kernel
theorem dX4_readsClause_17 : decode cX4_readsClause 17 = .ok (.bipush 108, 2) := by decide +kernel
theorem dX4_readsClause_19 : decode cX4_readsClause 19 = .ok (.if_icmp .ne 8, 3) := by decide +kernel
theorem dX4_readsClause_22 : decode cX4_readsClause 22 = .ok (.ldc 41, 2) := by decide +kernel
theorem dX4_readsClause_24 : decode cX4_readsClause 24 = .ok (.goto 5, 3) := by decide +kernel
theorem dX4_readsClause_27 : decode cX4_readsClause 27 = .ok (.ldc 43, 2) := by decide +kernel
theorem dX4_readsClause_29 : decode cX4_readsClause 29 = .ok (.astore_n 3, 1) := by decide +kernel
theorem dX4_readsClause_30 : decode cX4_readsClause 30 = .ok (.iconst 0, 1) := by decide +kernel
theorem dX4_readsClause_31 : decode cX4_readsClause 31 = .ok (.istore 4, 2) := by decide +kernel
theorem dX4_readsClause_33 : decode cX4_readsClause 33 = .ok (.iload 4, 2) := by decide +kernel
theorem dX4_readsClause_35 : decode cX4_readsClause 35 = .ok (.aload_n 3, 1) := by decide +kernel
theorem dX4_readsClause_36 : decode cX4_readsClause 36 = .ok (.invokevirtual 45, 3) := by decide +kernel
theorem dX4_readsClause_39 : decode cX4_readsClause 39 = .ok (.if_icmp .ge 24, 3) := by decide +kernel
theorem dX4_readsClause_42 : decode cX4_readsClause 42 = .ok (.aload_n 0, 1) := by decide +kernel
theorem dX4_readsClause_43 : decode cX4_readsClause 43 = .ok (.aload_n 3, 1) := by decide +kernel
theorem dX4_readsClause_44 : decode cX4_readsClause 44 = .ok (.iload 4, 2) := by decide +kernel
theorem dX4_readsClause_46 : decode cX4_readsClause 46 = .ok (.invokevirtual 49, 3) := by decide +kernel
theorem dX4_readsClause_49 : decode cX4_readsClause 49 = .ok (.invokevirtual 31, 3) := by decide +kernel
theorem dX4_readsClause_52 : decode cX4_readsClause 52 = .ok (.ifCond .ne 5, 3) := by decide +kernel
theorem dX4_readsClause_55 : decode cX4_readsClause 55 = .ok (.iconst 0, 1) := by decide +kernel
theorem dX4_readsClause_56 : decode cX4_readsClause 56 = .ok (.ireturn, 1) := by decide +kernel
theorem dX4_readsClause_57 : decode cX4_readsClause 57 = .ok (.iinc 4 1, 3) := by decide +kernel
theorem dX4_readsClause_60 : decode cX4_readsClause 60 = .ok (.goto (-27), 3) := by decide +kernel
theorem dX4_readsClause_63 : decode cX4_readsClause 63 = .ok (.aload_n 0, 1) := by decide +kernel
theorem dX4_readsClause_64 : decode cX4_readsClause 64 = .ok (.invokevirtual 53, 3) := by decide +kernel
theorem dX4_readsClause_67 : decode cX4_readsClause 67 = .ok (.istore 4, 2) := by decide +kernel
theorem dX4_readsClause_69 : decode cX4_readsClause 69 = .ok (.iload 4, 2) := by decide +kernel
theorem dX4_readsClause_71 : decode cX4_readsClause 71 = .ok (.ifCond .ge 5, 3) := by decide +kernel
theorem dX4_readsClause_74 : decode cX4_readsClause 74 = .ok (.iconst 0, 1) := by decide +kernel
theorem dX4_readsClause_75 : decode cX4_readsClause 75 = .ok (.ireturn, 1) := by decide +kernel
theorem dX4_readsClause_76 : decode cX4_readsClause 76 = .ok (.iload_n 2, 1) := by decide +kernel
theorem dX4_readsClause_77 : decode cX4_readsClause 77 = .ok (.bipush 107, 2) := by decide +kernel
theorem dX4_readsClause_79 : decode cX4_readsClause 79 = .ok (.if_icmp .ne 11, 3) := by decide +kernel
theorem dX4_readsClause_82 : decode cX4_readsClause 82 = .ok (.aload_n 1, 1) := by decide +kernel
theorem dX4_readsClause_83 : decode cX4_readsClause 83 = .ok (.iload 4, 2) := by decide +kernel
theorem dX4_readsClause_85 : decode cX4_readsClause 85 = .ok (.putfield 56, 3) := by decide +kernel
theorem dX4_readsClause_88 : decode cX4_readsClause 88 = .ok (.iconst 1, 1) := by decide +kernel
theorem dX4_readsClause_89 : decode cX4_readsClause 89 = .ok (.ireturn, 1) := by decide +kernel
theorem dX4_readsClause_90 : decode cX4_readsClause 90 = .ok (.aload_n 0, 1) := by decide +kernel
theorem dX4_readsClause_91 : decode cX4_readsClause 91 = .ok (.bipush 32, 2) := by decide +kernel
theorem dX4_readsClause_93 : decode cX4_readsClause 93 = .ok (.invokevirtual 31, 3) := by decide +kernel
theorem dX4_readsClause_96 : decode cX4_readsClause 96 = .ok (.ifCond .eq 12, 3) := by decide +kernel
theorem dX4_readsClause_99 : decode cX4_readsClause 99 = .ok (.aload_n 0, 1) := by decide +kernel
theorem dX4_readsClause_100 : decode cX4_readsClause 100 = .ok (.aload_n 1, 1) := by decide +kernel
theorem dX4_readsClause_101 : decode cX4_readsClause 101 = .ok (.iconst 0, 1) := by decide +kernel
theorem dX4_readsClause_102 : decode cX4_readsClause 102 = .ok (.invokevirtual 59, 3) := by decide +kernel
theorem dX4_readsClause_105 : decode cX4_readsClause 105 = .ok (.ifCond .ne 5, 3) := by decide +kernel
theorem dX4_readsClause_108 : decode cX4_readsClause 108 = .ok (.iconst 0, 1) := by decide +kernel
theorem dX4_readsClause_109 : decode cX4_readsClause 109 = .ok (.ireturn, 1) := by decide +kernel
theorem dX4_readsClause_110 : decode cX4_readsClause 110 = .ok (.aload_n 1, 1) := by decide +kernel
theorem dX4_readsClause_111 : decode cX4_readsClause 111 = .ok (.iload_n 2, 1) := by decide +kernel
theorem dX4_readsClause_112 : decode cX4_readsClause 112 = .ok (.bipush 102, 2) := by decide +kernel
theorem dX4_readsClause_114 : decode cX4_readsClause 114 = .ok (.if_icmp .ne 11, 3) := by decide +kernel
theorem dX4_readsClause_117 : decode cX4_readsClause 117 = .ok (.ldc 63, 2) := by decide +kernel
theorem dX4_readsClause_119 : decode cX4_readsClause 119 = .ok (.iload 4, 2) := by decide +kernel
theorem dX4_readsClause_121 : decode cX4_readsClause 121 = .ok (.iadd, 1) := by decide +kernel
theorem dX4_readsClause_122 : decode cX4_readsClause 122 = .ok (.goto 8, 3) := by decide +kernel
theorem dX4_readsClause_125 : decode cX4_readsClause 125 = .ok (.ldc 63, 2) := by decide +kernel
theorem dX4_readsClause_127 : decode cX4_readsClause 127 = .ok (.iload 4, 2) := by decide +kernel
theorem dX4_readsClause_129 : decode cX4_readsClause 129 = .ok (.isub, 1) := by decide +kernel
theorem dX4_readsClause_130 : decode cX4_readsClause 130 = .ok (.invokevirtual 64, 3) := by decide +kernel
theorem dX4_readsClause_133 : decode cX4_readsClause 133 = .ok (.iconst 1, 1) := by decide +kernel
theorem dX4_readsClause_134 : decode cX4_readsClause 134 = .ok (.ireturn, 1) := by decide +kernel
theorem dX4_readsChoice_0 : decode cX4_readsChoice 0 = .ok (.iconst 0, 1) := by decide +kernel
theorem dX4_readsChoice_1 : decode cX4_readsChoice 1 = .ok (.istore_n 3, 1) := by decide +kernel
theorem dX4_readsChoice_2 : decode cX4_readsChoice 2 = .ok (.iconst 0, 1) := by decide +kernel
theorem dX4_readsChoice_3 : decode cX4_readsChoice 3 = .ok (.istore 4, 2) := by decide +kernel
theorem dX4_readsChoice_5 : decode cX4_readsChoice 5 = .ok (.iconst 0, 1) := by decide +kernel
theorem dX4_readsChoice_6 : decode cX4_readsChoice 6 = .ok (.istore 5, 2) := by decide +kernel
theorem dX4_readsChoice_8 : decode cX4_readsChoice 8 = .ok (.iload 5, 2) := by decide +kernel
theorem dX4_readsChoice_10 : decode cX4_readsChoice 10 = .ok (.bipush 100, 2) := by decide +kernel
theorem dX4_readsChoice_12 : decode cX4_readsChoice 12 = .ok (.if_icmp .ge 97, 3) := by decide +kernel
theorem dX4_readsChoice_15 : decode cX4_readsChoice 15 = .ok (.aload_n 0, 1) := by decide +kernel
theorem dX4_readsChoice_16 : decode cX4_readsChoice 16 = .ok (.aload_n 1, 1) := by decide +kernel
theorem dX4_readsChoice_17 : decode cX4_readsChoice 17 = .ok (.iload_n 2, 1) := by decide +kernel
theorem dX4_readsChoice_18 : decode cX4_readsChoice 18 = .ok (.invokevirtual 68, 3) := by decide +kernel
theorem dX4_readsChoice_21 : decode cX4_readsChoice 21 = .ok (.ifCond .ne 5, 3) := by decide +kernel
theorem dX4_readsChoice_24 : decode cX4_readsChoice 24 = .ok (.iconst 0, 1) := by decide +kernel
theorem dX4_readsChoice_25 : decode cX4_readsChoice 25 = .ok (.ireturn, 1) := by decide +kernel
theorem dX4_readsChoice_26 : decode cX4_readsChoice 26 = .ok (.iload_n 3, 1) := by decide +kernel
theorem dX4_readsChoice_27 : decode cX4_readsChoice 27 = .ok (.ifCond .eq 9, 3) := by decide +kernel
theorem dX4_readsChoice_30 : decode cX4_readsChoice 30 = .ok (.aload_n 1, 1) := by decide +kernel
theorem dX4_readsChoice_31 : decode cX4_readsChoice 31 = .ok (.bipush (-2), 2) := by decide +kernel
theorem dX4_readsChoice_33 : decode cX4_readsChoice 33 = .ok (.invokevirtual 64, 3) := by decide +kernel
theorem dX4_readsChoice_36 : decode cX4_readsChoice 36 = .ok (.aload_n 0, 1) := by decide +kernel
theorem dX4_readsChoice_37 : decode cX4_readsChoice 37 = .ok (.invokevirtual 35, 3) := by decide +kernel
theorem dX4_readsChoice_40 : decode cX4_readsChoice 40 = .ok (.bipush 38, 2) := by decide +kernel
theorem dX4_readsChoice_42 : decode cX4_readsChoice 42 = .ok (.if_icmp .ne 7, 3) := by decide +kernel
theorem dX4_readsChoice_45 : decode cX4_readsChoice 45 = .ok (.iconst 1, 1) := by decide +kernel
theorem dX4_readsChoice_46 : decode cX4_readsChoice 46 = .ok (.goto 4, 3) := by decide +kernel
theorem dX4_readsChoice_49 : decode cX4_readsChoice 49 = .ok (.iconst 0, 1) := by decide +kernel
theorem dX4_readsChoice_50 : decode cX4_readsChoice 50 = .ok (.istore_n 3, 1) := by decide +kernel
theorem dX4_readsChoice_51 : decode cX4_readsChoice 51 = .ok (.iload_n 3, 1) := by decide +kernel
theorem dX4_readsChoice_52 : decode cX4_readsChoice 52 = .ok (.ifCond .ne 30, 3) := by decide +kernel
theorem dX4_readsChoice_55 : decode cX4_readsChoice 55 = .ok (.iload 4, 2) := by decide +kernel
theorem dX4_readsChoice_57 : decode cX4_readsChoice 57 = .ok (.ifCond .eq 9, 3) := by decide +kernel
theorem dX4_readsChoice_60 : decode cX4_readsChoice 60 = .ok (.aload_n 1, 1) := by decide +kernel
theorem dX4_readsChoice_61 : decode cX4_readsChoice 61 = .ok (.bipush (-3), 2) := by decide +kernel
theorem dX4_readsChoice_63 : decode cX4_readsChoice 63 = .ok (.invokevirtual 64, 3) := by decide +kernel
theorem dX4_readsChoice_66 : decode cX4_readsChoice 66 = .ok (.aload_n 0, 1) := by decide +kernel
theorem dX4_readsChoice_67 : decode cX4_readsChoice 67 = .ok (.invokevirtual 35, 3) := by decide +kernel
theorem dX4_readsChoice_70 : decode cX4_readsChoice 70 = .ok (.bipush 124, 2) := by decide +kernel
theorem dX4_readsChoice_72 : decode cX4_readsChoice 72 = .ok (.if_icmp .ne 7, 3) := by decide +kernel
theorem dX4_readsChoice_75 : decode cX4_readsChoice 75 = .ok (.iconst 1, 1) := by decide +kernel
theorem dX4_readsChoice_76 : decode cX4_readsChoice 76 = .ok (.goto 4, 3) := by decide +kernel
theorem dX4_readsChoice_79 : decode cX4_readsChoice 79 = .ok (.iconst 0, 1) := by decide +kernel
theorem dX4_readsChoice_80 : decode cX4_readsChoice 80 = .ok (.istore 4, 2) := by decide +kernel
theorem dX4_readsChoice_82 : decode cX4_readsChoice 82 = .ok (.iload_n 3, 1) := by decide +kernel
theorem dX4_readsChoice_83 : decode cX4_readsChoice 83 = .ok (.ifCond .ne 10, 3) := by decide +kernel
theorem dX4_readsChoice_86 : decode cX4_readsChoice 86 = .ok (.iload 4, 2) := by decide +kernel
theorem dX4_readsChoice_88 : decode cX4_readsChoice 88 = .ok (.ifCond .ne 5, 3) := by decide +kernel
theorem dX4_readsChoice_91 : decode cX4_readsChoice 91 = .ok (.iconst 1, 1) := by decide +kernel
theorem dX4_readsChoice_92 : decode cX4_readsChoice 92 = .ok (.ireturn, 1) := by decide +kernel
theorem dX4_readsChoice_93 : decode cX4_readsChoice 93 = .ok (.aload_n 0, 1) := by decide +kernel
theorem dX4_readsChoice_94 : decode cX4_readsChoice 94 = .ok (.dup, 1) := by decide +kernel
theorem dX4_readsChoice_95 : decode cX4_readsChoice 95 = .ok (.getfield 24, 3) := by decide +kernel
theorem dX4_readsChoice_98 : decode cX4_readsChoice 98 = .ok (.iconst 1, 1) := by decide +kernel
theorem dX4_readsChoice_99 : decode cX4_readsChoice 99 = .ok (.iadd, 1) := by decide +kernel
theorem dX4_readsChoice_100 : decode cX4_readsChoice 100 = .ok (.putfield 24, 3) := by decide +kernel
theorem dX4_readsChoice_103 : decode cX4_readsChoice 103 = .ok (.iinc 5 1, 3) := by decide +kernel
theorem dX4_readsChoice_106 : decode cX4_readsChoice 106 = .ok (.goto (-98), 3) := by decide +kernel
theorem dX4_readsChoice_109 : decode cX4_readsChoice 109 = .ok (.iconst 0, 1) := by decide +kernel
theorem dX4_readsChoice_110 : decode cX4_readsChoice 110 = .ok (.ireturn, 1) := by decide +kernel
theorem dX4_readsOne_0 : decode cX4_readsOne 0 = .ok (.iload_n 2, 1) := by decide +kernel
theorem dX4_readsOne_1 : decode cX4_readsOne 1 = .ok (.iconst 4, 1) := by decide +kernel
theorem dX4_readsOne_2 : decode cX4_readsOne 2 = .ok (.if_icmp .ge 48, 3) := by decide +kernel
theorem dX4_readsOne_5 : decode cX4_readsOne 5 = .ok (.aload_n 0, 1) := by decide +kernel
theorem dX4_readsOne_6 : decode cX4_readsOne 6 = .ok (.invokevirtual 35, 3) := by decide +kernel
theorem dX4_readsOne_9 : decode cX4_readsOne 9 = .ok (.bipush 40, 2) := by decide +kernel
theorem dX4_readsOne_11 : decode cX4_readsOne 11 = .ok (.if_icmp .ne 39, 3) := by decide +kernel
theorem dX4_readsOne_14 : decode cX4_readsOne 14 = .ok (.aload_n 0, 1) := by decide +kernel
theorem dX4_readsOne_15 : decode cX4_readsOne 15 = .ok (.dup, 1) := by decide +kernel
theorem dX4_readsOne_16 : decode cX4_readsOne 16 = .ok (.getfield 24, 3) := by decide +kernel
theorem dX4_readsOne_19 : decode cX4_readsOne 19 = .ok (.iconst 1, 1) := by decide +kernel
theorem dX4_readsOne_20 : decode cX4_readsOne 20 = .ok (.iadd, 1) := by decide +kernel
theorem dX4_readsOne_21 : decode cX4_readsOne 21 = .ok (.putfield 24, 3) := by decide +kernel
theorem dX4_readsOne_24 : decode cX4_readsOne 24 = .ok (.aload_n 0, 1) := by decide +kernel
theorem dX4_readsOne_25 : decode cX4_readsOne 25 = .ok (.aload_n 1, 1) := by decide +kernel
theorem dX4_readsOne_26 : decode cX4_readsOne 26 = .ok (.iload_n 2, 1) := by decide +kernel
theorem dX4_readsOne_27 : decode cX4_readsOne 27 = .ok (.iconst 1, 1) := by decide +kernel
theorem dX4_readsOne_28 : decode cX4_readsOne 28 = .ok (.iadd, 1) := by decide +kernel
theorem dX4_readsOne_29 : decode cX4_readsOne 29 = .ok (.invokevirtual 59, 3) := by decide +kernel
theorem dX4_readsOne_32 : decode cX4_readsOne 32 = .ok (.ifCond .eq 16, 3) := by decide +kernel
theorem dX4_readsOne_35 : decode cX4_readsOne 35 = .ok (.aload_n 0, 1) := by decide +kernel
theorem dX4_readsOne_36 : decode cX4_readsOne 36 = .ok (.bipush 41, 2) := by decide +kernel
theorem dX4_readsOne_38 : decode cX4_readsOne 38 = .ok (.invokevirtual 31, 3) := by decide +kernel
theorem dX4_readsOne_41 : decode cX4_readsOne 41 = .ok (.ifCond .eq 7, 3) := by decide +kernel
theorem dX4_readsOne_44 : decode cX4_readsOne 44 = .ok (.iconst 1, 1) := by decide +kernel
theorem dX4_readsOne_45 : decode cX4_readsOne 45 = .ok (.goto 4, 3) := by decide +kernel
theorem dX4_readsOne_48 : decode cX4_readsOne 48 = .ok (.iconst 0, 1) := by decide +kernel
theorem dX4_readsOne_49 : decode cX4_readsOne 49 = .ok (.ireturn, 1) := by decide +kernel
theorem dX4_readsOne_50 : decode cX4_readsOne 50 = .ok (.iload_n 2, 1) := by decide +kernel
theorem dX4_readsOne_51 : decode cX4_readsOne 51 = .ok (.iconst 4, 1) := by decide +kernel
theorem dX4_readsOne_52 : decode cX4_readsOne 52 = .ok (.if_icmp .ge 42, 3) := by decide +kernel
theorem dX4_readsOne_55 : decode cX4_readsOne 55 = .ok (.aload_n 0, 1) := by decide +kernel
theorem dX4_readsOne_56 : decode cX4_readsOne 56 = .ok (.invokevirtual 35, 3) := by decide +kernel
theorem dX4_readsOne_59 : decode cX4_readsOne 59 = .ok (.bipush 33, 2) := by decide +kernel
theorem dX4_readsOne_61 : decode cX4_readsOne 61 = .ok (.if_icmp .ne 33, 3) := by decide +kernel
theorem dX4_readsOne_64 : decode cX4_readsOne 64 = .ok (.aload_n 0, 1) := by decide +kernel
theorem dX4_readsOne_65 : decode cX4_readsOne 65 = .ok (.dup, 1) := by decide +kernel
theorem dX4_readsOne_66 : decode cX4_readsOne 66 = .ok (.getfield 24, 3) := by decide +kernel
theorem dX4_readsOne_69 : decode cX4_readsOne 69 = .ok (.iconst 1, 1) := by decide +kernel
theorem dX4_readsOne_70 : decode cX4_readsOne 70 = .ok (.iadd, 1) := by decide +kernel
theorem dX4_readsOne_71 : decode cX4_readsOne 71 = .ok (.putfield 24, 3) := by decide +kernel
theorem dX4_readsOne_74 : decode cX4_readsOne 74 = .ok (.aload_n 0, 1) := by decide +kernel
theorem dX4_readsOne_75 : decode cX4_readsOne 75 = .ok (.aload_n 1, 1) := by decide +kernel
theorem dX4_readsOne_76 : decode cX4_readsOne 76 = .ok (.iload_n 2, 1) := by decide +kernel
theorem dX4_readsOne_77 : decode cX4_readsOne 77 = .ok (.iconst 1, 1) := by decide +kernel
theorem dX4_readsOne_78 : decode cX4_readsOne 78 = .ok (.iadd, 1) := by decide +kernel
theorem dX4_readsOne_79 : decode cX4_readsOne 79 = .ok (.invokevirtual 68, 3) := by decide +kernel
theorem dX4_readsOne_82 : decode cX4_readsOne 82 = .ok (.ifCond .ne 5, 3) := by decide +kernel
theorem dX4_readsOne_85 : decode cX4_readsOne 85 = .ok (.iconst 0, 1) := by decide +kernel
theorem dX4_readsOne_86 : decode cX4_readsOne 86 = .ok (.ireturn, 1) := by decide +kernel
theorem dX4_readsOne_87 : decode cX4_readsOne 87 = .ok (.aload_n 1, 1) := by decide +kernel
theorem dX4_readsOne_88 : decode cX4_readsOne 88 = .ok (.iconst (-1), 1) := by decide +kernel
theorem dX4_readsOne_89 : decode cX4_readsOne 89 = .ok (.invokevirtual 64, 3) := by decide +kernel
theorem dX4_readsOne_92 : decode cX4_readsOne 92 = .ok (.iconst 1, 1) := by decide +kernel
theorem dX4_readsOne_93 : decode cX4_readsOne 93 = .ok (.ireturn, 1) := by decide +kernel
theorem dX4_readsOne_94 : decode cX4_readsOne 94 = .ok (.aload_n 0, 1) := by decide +kernel
theorem dX4_readsOne_95 : decode cX4_readsOne 95 = .ok (.aload_n 1, 1) := by decide +kernel
theorem dX4_readsOne_96 : decode cX4_readsOne 96 = .ok (.invokevirtual 71, 3) := by decide +kernel
theorem dX4_readsOne_99 : decode cX4_readsOne 99 = .ok (.ireturn, 1) := by decide +kernel
theorem dX4_readsTest_0 : decode cX4_readsTest 0 = .ok (.aload_n 0, 1) := by decide +kernel
theorem dX4_readsTest_1 : decode cX4_readsTest 1 = .ok (.ldc 74, 2) := by decide +kernel
theorem dX4_readsTest_3 : decode cX4_readsTest 3 = .ok (.invokevirtual 76, 3) := by decide +kernel
theorem dX4_readsTest_6 : decode cX4_readsTest 6 = .ok (.istore_n 2, 1) := by decide +kernel
theorem dX4_readsTest_7 : decode cX4_readsTest 7 = .ok (.iload_n 2, 1) := by decide +kernel
theorem dX4_readsTest_8 : decode cX4_readsTest 8 = .ok (.ifCond .ge 5, 3) := by decide +kernel
theorem dX4_readsTest_11 : decode cX4_readsTest 11 = .ok (.iconst 0, 1) := by decide +kernel
theorem dX4_readsTest_12 : decode cX4_readsTest 12 = .ok (.ireturn, 1) := by decide +kernel
theorem dX4_readsTest_13 : decode cX4_readsTest 13 = .ok (.aload_n 0, 1) := by decide +kernel
theorem dX4_readsTest_14 : decode cX4_readsTest 14 = .ok (.ldc 80, 2) := by decide +kernel
theorem dX4_readsTest_16 : decode cX4_readsTest 16 = .ok (.invokevirtual 76, 3) := by decide +kernel
theorem dX4_readsTest_19 : decode cX4_readsTest 19 = .ok (.istore_n 3, 1) := by decide +kernel
theorem dX4_readsTest_20 : decode cX4_readsTest 20 = .ok (.iload_n 3, 1) := by decide +kernel
theorem dX4_readsTest_21 : decode cX4_readsTest 21 = .ok (.ifCond .ge 5, 3) := by decide +kernel
theorem dX4_readsTest_24 : decode cX4_readsTest 24 = .ok (.iconst 0, 1) := by decide +kernel
theorem dX4_readsTest_25 : decode cX4_readsTest 25 = .ok (.ireturn, 1) := by decide +kernel
theorem dX4_readsTest_26 : decode cX4_readsTest 26 = .ok (.aload_n 0, 1) := by decide +kernel
theorem dX4_readsTest_27 : decode cX4_readsTest 27 = .ok (.invokevirtual 53, 3) := by decide +kernel
theorem dX4_readsTest_30 : decode cX4_readsTest 30 = .ok (.istore 4, 2) := by decide +kernel
theorem dX4_readsTest_32 : decode cX4_readsTest 32 = .ok (.iload 4, 2) := by decide +kernel
theorem dX4_readsTest_34 : decode cX4_readsTest 34 = .ok (.ifCond .ge 5, 3) := by decide +kernel
theorem dX4_readsTest_37 : decode cX4_readsTest 37 = .ok (.iconst 0, 1) := by decide +kernel
theorem dX4_readsTest_38 : decode cX4_readsTest 38 = .ok (.ireturn, 1) := by decide +kernel
theorem dX4_readsTest_39 : decode cX4_readsTest 39 = .ok (.iload_n 3, 1) := by decide +kernel
theorem dX4_readsTest_40 : decode cX4_readsTest 40 = .ok (.ifCond .ne 7, 3) := by decide +kernel
theorem dX4_readsTest_43 : decode cX4_readsTest 43 = .ok (.iconst 0, 1) := by decide +kernel
theorem dX4_readsTest_44 : decode cX4_readsTest 44 = .ok (.goto 17, 3) := by decide +kernel
theorem dX4_readsTest_47 : decode cX4_readsTest 47 = .ok (.iload_n 3, 1) := by decide +kernel
theorem dX4_readsTest_48 : decode cX4_readsTest 48 = .ok (.iconst 1, 1) := by decide +kernel
theorem dX4_readsTest_49 : decode cX4_readsTest 49 = .ok (.if_icmp .ne 8, 3) := by decide +kernel
theorem dX4_readsTest_52 : decode cX4_readsTest 52 = .ok (.iload 4, 2) := by decide +kernel
theorem dX4_readsTest_54 : decode cX4_readsTest 54 = .ok (.goto 7, 3) := by decide +kernel
theorem dX4_readsTest_57 : decode cX4_readsTest 57 = .ok (.iload 4, 2) := by decide +kernel
theorem dX4_readsTest_59 : decode cX4_readsTest 59 = .ok (.iconst 1, 1) := by decide +kernel
theorem dX4_readsTest_60 : decode cX4_readsTest 60 = .ok (.iadd, 1) := by decide +kernel
theorem dX4_readsTest_61 : decode cX4_readsTest 61 = .ok (.istore 5, 2) := by decide +kernel
theorem dX4_readsTest_63 : decode cX4_readsTest 63 = .ok (.iload_n 3, 1) := by decide +kernel
theorem dX4_readsTest_64 : decode cX4_readsTest 64 = .ok (.ifCond .ne 8, 3) := by decide +kernel
theorem dX4_readsTest_67 : decode cX4_readsTest 67 = .ok (.iload 4, 2) := by decide +kernel
theorem dX4_readsTest_69 : decode cX4_readsTest 69 = .ok (.goto 17, 3) := by decide +kernel
theorem dX4_readsTest_72 : decode cX4_readsTest 72 = .ok (.iload_n 3, 1) := by decide +kernel
theorem dX4_readsTest_73 : decode cX4_readsTest 73 = .ok (.iconst 1, 1) := by decide +kernel
theorem dX4_readsTest_74 : decode cX4_readsTest 74 = .ok (.if_icmp .ne 10, 3) := by decide +kernel
theorem dX4_readsTest_77 : decode cX4_readsTest 77 = .ok (.iload 4, 2) := by decide +kernel
theorem dX4_readsTest_79 : decode cX4_readsTest 79 = .ok (.iconst 1, 1) := by decide +kernel
theorem dX4_readsTest_80 : decode cX4_readsTest 80 = .ok (.iadd, 1) := by decide +kernel
theorem dX4_readsTest_81 : decode cX4_readsTest 81 = .ok (.goto 5, 3) := by decide +kernel
theorem dX4_readsTest_84 : decode cX4_readsTest 84 = .ok (.bipush 127, 2) := by decide +kernel
theorem dX4_readsTest_86 : decode cX4_readsTest 86 = .ok (.istore 6, 2) := by decide +kernel
theorem dX4_readsTest_88 : decode cX4_readsTest 88 = .ok (.aload_n 1, 1) := by decide +kernel
theorem dX4_readsTest_89 : decode cX4_readsTest 89 = .ok (.iload_n 2, 1) := by decide +kernel
theorem dX4_readsTest_90 : decode cX4_readsTest 90 = .ok (.bipush 14, 2) := by decide +kernel
theorem dX4_readsTest_92 : decode cX4_readsTest 92 = .ok (.ishl, 1) := by decide +kernel
theorem dX4_readsTest_93 : decode cX4_readsTest 93 = .ok (.iload 5, 2) := by decide +kernel
theorem dX4_readsTest_95 : decode cX4_readsTest 95 = .ok (.bipush 7, 2) := by decide +kernel
theorem dX4_readsTest_97 : decode cX4_readsTest 97 = .ok (.ishl, 1) := by decide +kernel
theorem dX4_readsTest_98 : decode cX4_readsTest 98 = .ok (.ior, 1) := by decide +kernel
theorem dX4_readsTest_99 : decode cX4_readsTest 99 = .ok (.iload 6, 2) := by decide +kernel
theorem dX4_readsTest_101 : decode cX4_readsTest 101 = .ok (.ior, 1) := by decide +kernel
theorem dX4_readsTest_102 : decode cX4_readsTest 102 = .ok (.invokevirtual 64, 3) := by decide +kernel
theorem dX4_readsTest_105 : decode cX4_readsTest 105 = .ok (.iconst 1, 1) := by decide +kernel
theorem dX4_readsTest_106 : decode cX4_readsTest 106 = .ok (.ireturn, 1) := by decide +kernel
theorem dX4_readsAnyOf_0 : decode cX4_readsAnyOf 0 = .ok (.aload_n 0, 1) := by decide +kernel
theorem dX4_readsAnyOf_1 : decode cX4_readsAnyOf 1 = .ok (.getfield 24, 3) := by decide +kernel
theorem dX4_readsAnyOf_4 : decode cX4_readsAnyOf 4 = .ok (.aload_n 0, 1) := by decide +kernel
theorem dX4_readsAnyOf_5 : decode cX4_readsAnyOf 5 = .ok (.getfield 15, 3) := by decide +kernel
theorem dX4_readsAnyOf_8 : decode cX4_readsAnyOf 8 = .ok (.if_icmp .lt 5, 3) := by decide +kernel
theorem dX4_readsAnyOf_11 : decode cX4_readsAnyOf 11 = .ok (.iconst (-1), 1) := by decide +kernel
theorem dX4_readsAnyOf_12 : decode cX4_readsAnyOf 12 = .ok (.ireturn, 1) := by decide +kernel
theorem dX4_readsAnyOf_13 : decode cX4_readsAnyOf 13 = .ok (.aload_n 1, 1) := by decide +kernel
theorem dX4_readsAnyOf_14 : decode cX4_readsAnyOf 14 = .ok (.aload_n 0, 1) := by decide +kernel
theorem dX4_readsAnyOf_15 : decode cX4_readsAnyOf 15 = .ok (.getfield 9, 3) := by decide +kernel
theorem dX4_readsAnyOf_18 : decode cX4_readsAnyOf 18 = .ok (.aload_n 0, 1) := by decide +kernel
theorem dX4_readsAnyOf_19 : decode cX4_readsAnyOf 19 = .ok (.getfield 24, 3) := by decide +kernel
theorem dX4_readsAnyOf_22 : decode cX4_readsAnyOf 22 = .ok (.iaload, 1) := by decide +kernel
theorem dX4_readsAnyOf_23 : decode cX4_readsAnyOf 23 = .ok (.i2c, 1) := by decide +kernel
theorem dX4_readsAnyOf_24 : decode cX4_readsAnyOf 24 = .ok (.invokevirtual 82, 3) := by decide +kernel
theorem dX4_readsAnyOf_27 : decode cX4_readsAnyOf 27 = .ok (.istore_n 2, 1) := by decide +kernel
theorem dX4_readsAnyOf_28 : decode cX4_readsAnyOf 28 = .ok (.aload_n 0, 1) := by decide +kernel
theorem dX4_readsAnyOf_29 : decode cX4_readsAnyOf 29 = .ok (.dup, 1) := by decide +kernel
theorem dX4_readsAnyOf_30 : decode cX4_readsAnyOf 30 = .ok (.getfield 24, 3) := by decide +kernel
theorem dX4_readsAnyOf_33 : decode cX4_readsAnyOf 33 = .ok (.iload_n 2, 1) := by decide +kernel
theorem dX4_readsAnyOf_34 : decode cX4_readsAnyOf 34 = .ok (.ifCond .ge 7, 3) := by decide +kernel
theorem dX4_readsAnyOf_37 : decode cX4_readsAnyOf 37 = .ok (.iconst 0, 1) := by decide +kernel
theorem dX4_readsAnyOf_38 : decode cX4_readsAnyOf 38 = .ok (.goto 4, 3) := by decide +kernel
theorem dX4_readsAnyOf_41 : decode cX4_readsAnyOf 41 = .ok (.iconst 1, 1) := by decide +kernel
theorem dX4_readsAnyOf_42 : decode cX4_readsAnyOf 42 = .ok (.iadd, 1) := by decide +kernel
theorem dX4_readsAnyOf_43 : decode cX4_readsAnyOf 43 = .ok (.putfield 24, 3) := by decide +kernel
theorem dX4_readsAnyOf_46 : decode cX4_readsAnyOf 46 = .ok (.iload_n 2, 1) := by decide +kernel
theorem dX4_readsAnyOf_47 : decode cX4_readsAnyOf 47 = .ok (.ireturn, 1) := by decide +kernel
theorem dX4_readsNumber_0 : decode cX4_readsNumber 0 = .ok (.iconst (-1), 1) := by decide +kernel
theorem dX4_readsNumber_1 : decode cX4_readsNumber 1 = .ok (.istore_n 1, 1) := by decide +kernel
theorem dX4_readsNumber_2 : decode cX4_readsNumber 2 = .ok (.iconst 0, 1) := by decide +kernel
theorem dX4_readsNumber_3 : decode cX4_readsNumber 3 = .ok (.istore_n 2, 1) := by decide +kernel
theorem dX4_readsNumber_4 : decode cX4_readsNumber 4 = .ok (.iload_n 2, 1) := by decide +kernel
theorem dX4_readsNumber_5 : decode cX4_readsNumber 5 = .ok (.iconst 2, 1) := by decide +kernel
theorem dX4_readsNumber_6 : decode cX4_readsNumber 6 = .ok (.if_icmp .ge 84, 3) := by decide +kernel
theorem dX4_readsNumber_9 : decode cX4_readsNumber 9 = .ok (.aload_n 0, 1) := by decide +kernel
theorem dX4_readsNumber_10 : decode cX4_readsNumber 10 = .ok (.getfield 24, 3) := by decide +kernel
theorem dX4_readsNumber_13 : decode cX4_readsNumber 13 = .ok (.aload_n 0, 1) := by decide +kernel
theorem dX4_readsNumber_14 : decode cX4_readsNumber 14 = .ok (.getfield 15, 3) := by decide +kernel
theorem dX4_readsNumber_17 : decode cX4_readsNumber 17 = .ok (.if_icmp .ge 73, 3) := by decide +kernel
theorem dX4_readsNumber_20 : decode cX4_readsNumber 20 = .ok (.aload_n 0, 1) := by decide +kernel
theorem dX4_readsNumber_21 : decode cX4_readsNumber 21 = .ok (.getfield 9, 3) := by decide +kernel
theorem dX4_readsNumber_24 : decode cX4_readsNumber 24 = .ok (.aload_n 0, 1) := by decide +kernel
theorem dX4_readsNumber_25 : decode cX4_readsNumber 25 = .ok (.getfield 24, 3) := by decide +kernel
theorem dX4_readsNumber_28 : decode cX4_readsNumber 28 = .ok (.iaload, 1) := by decide +kernel
theorem dX4_readsNumber_29 : decode cX4_readsNumber 29 = .ok (.bipush 48, 2) := by decide +kernel
theorem dX4_readsNumber_31 : decode cX4_readsNumber 31 = .ok (.if_icmp .lt 59, 3) := by decide +kernel
theorem dX4_readsNumber_34 : decode cX4_readsNumber 34 = .ok (.aload_n 0, 1) := by decide +kernel
theorem dX4_readsNumber_35 : decode cX4_readsNumber 35 = .ok (.getfield 9, 3) := by decide +kernel
theorem dX4_readsNumber_38 : decode cX4_readsNumber 38 = .ok (.aload_n 0, 1) := by decide +kernel
theorem dX4_readsNumber_39 : decode cX4_readsNumber 39 = .ok (.getfield 24, 3) := by decide +kernel
theorem dX4_readsNumber_42 : decode cX4_readsNumber 42 = .ok (.iaload, 1) := by decide +kernel
theorem dX4_readsNumber_43 : decode cX4_readsNumber 43 = .ok (.bipush 57, 2) := by decide +kernel
theorem dX4_readsNumber_45 : decode cX4_readsNumber 45 = .ok (.if_icmp .gt 45, 3) := by decide +kernel
theorem dX4_readsNumber_48 : decode cX4_readsNumber 48 = .ok (.iload_n 1, 1) := by decide +kernel
theorem dX4_readsNumber_49 : decode cX4_readsNumber 49 = .ok (.ifCond .ge 7, 3) := by decide +kernel
theorem dX4_readsNumber_52 : decode cX4_readsNumber 52 = .ok (.iconst 0, 1) := by decide +kernel
theorem dX4_readsNumber_53 : decode cX4_readsNumber 53 = .ok (.goto 7, 3) := by decide +kernel
theorem dX4_readsNumber_56 : decode cX4_readsNumber 56 = .ok (.iload_n 1, 1) := by decide +kernel
theorem dX4_readsNumber_57 : decode cX4_readsNumber 57 = .ok (.bipush 10, 2) := by decide +kernel
theorem dX4_readsNumber_59 : decode cX4_readsNumber 59 = .ok (.imul, 1) := by decide +kernel
theorem dX4_readsNumber_60 : decode cX4_readsNumber 60 = .ok (.aload_n 0, 1) := by decide +kernel
theorem dX4_readsNumber_61 : decode cX4_readsNumber 61 = .ok (.getfield 9, 3) := by decide +kernel
theorem dX4_readsNumber_64 : decode cX4_readsNumber 64 = .ok (.aload_n 0, 1) := by decide +kernel
theorem dX4_readsNumber_65 : decode cX4_readsNumber 65 = .ok (.getfield 24, 3) := by decide +kernel
theorem dX4_readsNumber_68 : decode cX4_readsNumber 68 = .ok (.iaload, 1) := by decide +kernel
theorem dX4_readsNumber_69 : decode cX4_readsNumber 69 = .ok (.iadd, 1) := by decide +kernel
theorem dX4_readsNumber_70 : decode cX4_readsNumber 70 = .ok (.bipush 48, 2) := by decide +kernel
theorem dX4_readsNumber_72 : decode cX4_readsNumber 72 = .ok (.isub, 1) := by decide +kernel
theorem dX4_readsNumber_73 : decode cX4_readsNumber 73 = .ok (.istore_n 1, 1) := by decide +kernel
theorem dX4_readsNumber_74 : decode cX4_readsNumber 74 = .ok (.aload_n 0, 1) := by decide +kernel
theorem dX4_readsNumber_75 : decode cX4_readsNumber 75 = .ok (.dup, 1) := by decide +kernel
theorem dX4_readsNumber_76 : decode cX4_readsNumber 76 = .ok (.getfield 24, 3) := by decide +kernel
theorem dX4_readsNumber_79 : decode cX4_readsNumber 79 = .ok (.iconst 1, 1) := by decide +kernel
theorem dX4_readsNumber_80 : decode cX4_readsNumber 80 = .ok (.iadd, 1) := by decide +kernel
theorem dX4_readsNumber_81 : decode cX4_readsNumber 81 = .ok (.putfield 24, 3) := by decide +kernel
theorem dX4_readsNumber_84 : decode cX4_readsNumber 84 = .ok (.iinc 2 1, 3) := by decide +kernel
theorem dX4_readsNumber_87 : decode cX4_readsNumber 87 = .ok (.goto (-83), 3) := by decide +kernel
theorem dX4_readsNumber_90 : decode cX4_readsNumber 90 = .ok (.iload_n 1, 1) := by decide +kernel
theorem dX4_readsNumber_91 : decode cX4_readsNumber 91 = .ok (.ireturn, 1) := by decide +kernel
theorem dX4_next_0 : decode cX4_next 0 = .ok (.aload_n 0, 1) := by decide +kernel
theorem dX4_next_1 : decode cX4_next 1 = .ok (.getfield 24, 3) := by decide +kernel
theorem dX4_next_4 : decode cX4_next 4 = .ok (.aload_n 0, 1) := by decide +kernel
theorem dX4_next_5 : decode cX4_next 5 = .ok (.getfield 15, 3) := by decide +kernel
theorem dX4_next_8 : decode cX4_next 8 = .ok (.if_icmp .ge 15, 3) := by decide +kernel
theorem dX4_next_11 : decode cX4_next 11 = .ok (.aload_n 0, 1) := by decide +kernel
theorem dX4_next_12 : decode cX4_next 12 = .ok (.getfield 9, 3) := by decide +kernel
theorem dX4_next_15 : decode cX4_next 15 = .ok (.aload_n 0, 1) := by decide +kernel
theorem dX4_next_16 : decode cX4_next 16 = .ok (.getfield 24, 3) := by decide +kernel
theorem dX4_next_19 : decode cX4_next 19 = .ok (.iaload, 1) := by decide +kernel
theorem dX4_next_20 : decode cX4_next 20 = .ok (.goto 4, 3) := by decide +kernel
theorem dX4_next_23 : decode cX4_next 23 = .ok (.iconst (-1), 1) := by decide +kernel
theorem dX4_next_24 : decode cX4_next 24 = .ok (.ireturn, 1) := by decide +kernel
theorem dX4_takes_0 : decode cX4_takes 0 = .ok (.aload_n 0, 1) := by decide +kernel
theorem dX4_takes_1 : decode cX4_takes 1 = .ok (.invokevirtual 35, 3) := by decide +kernel
theorem dX4_takes_4 : decode cX4_takes 4 = .ok (.iload_n 1, 1) := by decide +kernel
theorem dX4_takes_5 : decode cX4_takes 5 = .ok (.if_icmp .ne 7, 3) := by decide +kernel
theorem dX4_takes_8 : decode cX4_takes 8 = .ok (.iconst 1, 1) := by decide +kernel
theorem dX4_takes_9 : decode cX4_takes 9 = .ok (.goto 4, 3) := by decide +kernel
theorem dX4_takes_12 : decode cX4_takes 12 = .ok (.iconst 0, 1) := by decide +kernel
theorem dX4_takes_13 : decode cX4_takes 13 = .ok (.istore_n 2, 1) := by decide +kernel
theorem dX4_takes_14 : decode cX4_takes 14 = .ok (.aload_n 0, 1) := by decide +kernel
theorem dX4_takes_15 : decode cX4_takes 15 = .ok (.dup, 1) := by decide +kernel
theorem dX4_takes_16 : decode cX4_takes 16 = .ok (.getfield 24, 3) := by decide +kernel
theorem dX4_takes_19 : decode cX4_takes 19 = .ok (.iload_n 2, 1) := by decide +kernel
theorem dX4_takes_20 : decode cX4_takes 20 = .ok (.ifCond .eq 7, 3) := by decide +kernel
theorem dX4_takes_23 : decode cX4_takes 23 = .ok (.iconst 1, 1) := by decide +kernel
theorem dX4_takes_24 : decode cX4_takes 24 = .ok (.goto 4, 3) := by decide +kernel
theorem dX4_takes_27 : decode cX4_takes 27 = .ok (.iconst 0, 1) := by decide +kernel
theorem dX4_takes_28 : decode cX4_takes 28 = .ok (.iadd, 1) := by decide +kernel
theorem dX4_takes_29 : decode cX4_takes 29 = .ok (.putfield 24, 3) := by decide +kernel
theorem dX4_takes_32 : decode cX4_takes 32 = .ok (.iload_n 2, 1) := by decide +kernel
theorem dX4_takes_33 : decode cX4_takes 33 = .ok (.ireturn, 1) := by decide +kernel
theorem dX5_init_0 : decode cX5_init 0 = .ok (.aload_n 0, 1) := by decide +kernel
theorem dX5_init_1 : decode cX5_init 1 = .ok (.invokespecial 3, 3) := by decide +kernel
theorem dX5_init_4 : decode cX5_init 4 = .ok (.aload_n 0, 1) := by decide +kernel
theorem dX5_init_5 : decode cX5_init 5 = .ok (.bipush 6, 2) := by decide +kernel
theorem dX5_init_7 : decode cX5_init 7 = .ok (.newarray .int, 2) := by decide +kernel
theorem dX5_init_9 : decode cX5_init 9 = .ok (.putfield 9, 3) := by decide +kernel
theorem dX5_init_12 : decode cX5_init 12 = .ok (.aload_n 0, 1) := by decide +kernel
theorem dX5_init_13 : decode cX5_init 13 = .ok (.bipush 64, 2) := by decide +kernel
theorem dX5_init_15 : decode cX5_init 15 = .ok (.newarray .int, 2) := by decide +kernel
theorem dX5_init_17 : decode cX5_init 17 = .ok (.putfield 15, 3) := by decide +kernel
theorem dX5_init_20 : decode cX5_init 20 = .ok (.return_, 1) := by decide +kernel
theorem dX5_longest_0 : decode cX5_longest 0 = .ok (.iconst 0, 1) := by decide +kernel
theorem dX5_longest_1 : decode cX5_longest 1 = .ok (.istore_n 2, 1) := by decide +kernel
theorem dX5_longest_2 : decode cX5_longest 2 = .ok (.iload_n 2, 1) := by decide +kernel
theorem dX5_longest_3 : decode cX5_longest 3 = .ok (.aload_n 1, 1) := by decide +kernel
theorem dX5_longest_4 : decode cX5_longest 4 = .ok (.getfield 18, 3) := by decide +kernel
theorem dX5_longest_7 : decode cX5_longest 7 = .ok (.if_icmp .ge 25, 3) := by decide +kernel
theorem dX5_longest_10 : decode cX5_longest 10 = .ok (.aload_n 0, 1) := by decide +kernel
theorem dX5_longest_11 : decode cX5_longest 11 = .ok (.getfield 9, 3) := by decide +kernel
theorem dX5_longest_14 : decode cX5_longest 14 = .ok (.iload_n 2, 1) := by decide +kernel
theorem dX5_longest_15 : decode cX5_longest 15 = .ok (.aload_n 1, 1) := by decide +kernel
theorem dX5_longest_16 : decode cX5_longest 16 = .ok (.aload_n 1, 1) := by decide +kernel
theorem dX5_longest_17 : decode cX5_longest 17 = .ok (.getfield 24, 3) := by decide +kernel
theorem dX5_longest_20 : decode cX5_longest 20 = .ok (.iload_n 2, 1) := by decide +kernel
theorem dX5_longest_21 : decode cX5_longest 21 = .ok (.aaload, 1) := by decide +kernel
theorem dX5_longest_22 : decode cX5_longest 22 = .ok (.invokestatic 28, 3) := by decide +kernel
theorem dX5_longest_25 : decode cX5_longest 25 = .ok (.iastore, 1) := by decide +kernel
theorem dX5_longest_26 : decode cX5_longest 26 = .ok (.iinc 2 1, 3) := by decide +kernel
theorem dX5_longest_29 : decode cX5_longest 29 = .ok (.goto (-27), 3) := by decide +kernel
theorem dX5_longest_32 : decode cX5_longest 32 = .ok (.iconst 0, 1) := by decide +kernel
theorem dX5_longest_33 : decode cX5_longest 33 = .ok (.istore_n 2, 1) := by decide +kernel
theorem dX5_longest_34 : decode cX5_longest 34 = .ok (.iconst 0, 1) := by decide +kernel
theorem dX5_longest_35 : decode cX5_longest 35 = .ok (.istore_n 3, 1) := by decide +kernel
theorem dX5_longest_36 : decode cX5_longest 36 = .ok (.iload_n 3, 1) := by decide +kernel
theorem dX5_longest_37 : decode cX5_longest 37 = .ok (.aload_n 1, 1) := by decide +kernel
theorem dX5_longest_38 : decode cX5_longest 38 = .ok (.getfield 18, 3) := by decide +kernel
theorem dX5_longest_41 : decode cX5_longest 41 = .ok (.if_icmp .ge 23, 3) := by decide +kernel
theorem dX5_longest_44 : decode cX5_longest 44 = .ok (.iload_n 2, 1) := by decide +kernel
theorem dX5_longest_45 : decode cX5_longest 45 = .ok (.aload_n 0, 1) := by decide +kernel
theorem dX5_longest_46 : decode cX5_longest 46 = .ok (.iload_n 3, 1) := by decide +kernel
theorem dX5_longest_47 : decode cX5_longest 47 = .ok (.aload_n 1, 1) := by decide +kernel
theorem dX5_longest_48 : decode cX5_longest 48 = .ok (.getfield 18, 3) := by decide +kernel
theorem dX5_longest_51 : decode cX5_longest 51 = .ok (.invokevirtual 32, 3) := by decide +kernel
theorem dX5_longest_54 : decode cX5_longest 54 = .ok (.invokestatic 36, 3) := by decide +kernel
theorem dX5_longest_57 : decode cX5_longest 57 = .ok (.istore_n 2, 1) := by decide +kernel
theorem dX5_longest_58 : decode cX5_longest 58 = .ok (.iinc 3 1, 3) := by decide +kernel
theorem dX5_longest_61 : decode cX5_longest 61 = .ok (.goto (-25), 3) := by decide +kernel
theorem dX5_longest_64 : decode cX5_longest 64 = .ok (.iload_n 2, 1) := by decide +kernel
theorem dX5_longest_65 : decode cX5_longest 65 = .ok (.ireturn, 1) := by decide +kernel
theorem dX5_takersOf_0 : decode cX5_takersOf 0 = .ok (.iconst 0, 1) := by decide +kernel
theorem dX5_takersOf_1 : decode cX5_takersOf 1 = .ok (.istore_n 2, 1) := by decide +kernel
theorem dX5_takersOf_2 : decode cX5_takersOf 2 = .ok (.iconst 0, 1) := by decide +kernel
theorem dX5_takersOf_3 : decode cX5_takersOf 3 = .ok (.istore_n 3, 1) := by decide +kernel
theorem dX5_takersOf_4 : decode cX5_takersOf 4 = .ok (.iload_n 3, 1) := by decide +kernel
theorem dX5_takersOf_5 : decode cX5_takersOf 5 = .ok (.aload_n 0, 1) := by decide +kernel
theorem dX5_takersOf_6 : decode cX5_takersOf 6 = .ok (.getfield 18, 3) := by decide +kernel
theorem dX5_takersOf_9 : decode cX5_takersOf 9 = .ok (.if_icmp .ge 36, 3) := by decide +kernel
theorem dX5_takersOf_12 : decode cX5_takersOf 12 = .ok (.iload_n 2, 1) := by decide +kernel
theorem dX5_takersOf_13 : decode cX5_takersOf 13 = .ok (.aload_n 1, 1) := by decide +kernel
theorem dX5_takersOf_14 : decode cX5_takersOf 14 = .ok (.getfield 41, 3) := by decide +kernel
theorem dX5_takersOf_17 : decode cX5_takersOf 17 = .ok (.aload_n 0, 1) := by decide +kernel
theorem dX5_takersOf_18 : decode cX5_takersOf 18 = .ok (.getfield 24, 3) := by decide +kernel
theorem dX5_takersOf_21 : decode cX5_takersOf 21 = .ok (.iload_n 3, 1) := by decide +kernel
theorem dX5_takersOf_22 : decode cX5_takersOf 22 = .ok (.aaload, 1) := by decide +kernel
theorem dX5_takersOf_23 : decode cX5_takersOf 23 = .ok (.invokevirtual 46, 3) := by decide +kernel
theorem dX5_takersOf_26 : decode cX5_takersOf 26 = .ok (.iand, 1) := by decide +kernel
theorem dX5_takersOf_27 : decode cX5_takersOf 27 = .ok (.ifCond .eq 9, 3) := by decide +kernel
theorem dX5_takersOf_30 : decode cX5_takersOf 30 = .ok (.iconst 1, 1) := by decide +kernel
theorem dX5_takersOf_31 : decode cX5_takersOf 31 = .ok (.iload_n 3, 1) := by decide +kernel
theorem dX5_takersOf_32 : decode cX5_takersOf 32 = .ok (.ishl, 1) := by decide +kernel
theorem dX5_takersOf_33 : decode cX5_takersOf 33 = .ok (.goto 4, 3) := by decide +kernel
theorem dX5_takersOf_36 : decode cX5_takersOf 36 = .ok (.iconst 0, 1) := by decide +kernel
theorem dX5_takersOf_37 : decode cX5_takersOf 37 = .ok (.ior, 1) := by decide +kernel
theorem dX5_takersOf_38 : decode cX5_takersOf 38 = .ok (.istore_n 2, 1) := by decide +kernel
theorem dX5_takersOf_39 : decode cX5_takersOf 39 = .ok (.iinc 3 1, 3) := by decide +kernel
theorem dX5_takersOf_42 : decode cX5_takersOf 42 = .ok (.goto (-38), 3) := by decide +kernel
theorem dX5_takersOf_45 : decode cX5_takersOf 45 = .ok (.iload_n 2, 1) := by decide +kernel
theorem dX5_takersOf_46 : decode cX5_takersOf 46 = .ok (.ireturn, 1) := by decide +kernel
theorem dX5_longestFrom_0 : decode cX5_longestFrom 0 = .ok (.aload_n 0, 1) := by decide +kernel
theorem dX5_longestFrom_1 : decode cX5_longestFrom 1 = .ok (.getfield 15, 3) := by decide +kernel
theorem dX5_longestFrom_4 : decode cX5_longestFrom 4 = .ok (.iconst 0, 1) := by decide +kernel
theorem dX5_longestFrom_5 : decode cX5_longestFrom 5 = .ok (.invokestatic 50, 3) := by decide +kernel
theorem dX5_longestFrom_8 : decode cX5_longestFrom 8 = .ok (.aload_n 0, 1) := by decide +kernel
theorem dX5_longestFrom_9 : decode cX5_longestFrom 9 = .ok (.getfield 15, 3) := by decide +kernel
theorem dX5_longestFrom_12 : decode cX5_longestFrom 12 = .ok (.iconst 1, 1) := by decide +kernel
theorem dX5_longestFrom_13 : decode cX5_longestFrom 13 = .ok (.iload_n 1, 1) := by decide +kernel
theorem dX5_longestFrom_14 : decode cX5_longestFrom 14 = .ok (.ishl, 1) := by decide +kernel
theorem dX5_longestFrom_15 : decode cX5_longestFrom 15 = .ok (.iconst 1, 1) := by decide +kernel
theorem dX5_longestFrom_16 : decode cX5_longestFrom 16 = .ok (.iload_n 1, 1) := by decide +kernel
theorem dX5_longestFrom_17 : decode cX5_longestFrom 17 = .ok (.ishl, 1) := by decide +kernel
theorem dX5_longestFrom_18 : decode cX5_longestFrom 18 = .ok (.iastore, 1) := by decide +kernel
theorem dX5_longestFrom_19 : decode cX5_longestFrom 19 = .ok (.iconst 0, 1) := by decide +kernel
theorem dX5_longestFrom_20 : decode cX5_longestFrom 20 = .ok (.istore_n 3, 1) := by decide +kernel
theorem dX5_longestFrom_21 : decode cX5_longestFrom 21 = .ok (.iconst 1, 1) := by decide +kernel
theorem dX5_longestFrom_22 : decode cX5_longestFrom 22 = .ok (.iload_n 1, 1) := by decide +kernel
theorem dX5_longestFrom_23 : decode cX5_longestFrom 23 = .ok (.ishl, 1) := by decide +kernel
theorem dX5_longestFrom_24 : decode cX5_longestFrom 24 = .ok (.istore 4, 2) := by decide +kernel
theorem dX5_longestFrom_26 : decode cX5_longestFrom 26 = .ok (.iload 4, 2) := by decide +kernel
theorem dX5_longestFrom_28 : decode cX5_longestFrom 28 = .ok (.iconst 1, 1) := by decide +kernel
theorem dX5_longestFrom_29 : decode cX5_longestFrom 29 = .ok (.iload_n 2, 1) := by decide +kernel
theorem dX5_longestFrom_30 : decode cX5_longestFrom 30 = .ok (.ishl, 1) := by decide +kernel
theorem dX5_longestFrom_31 : decode cX5_longestFrom 31 = .ok (.if_icmp .ge 86, 3) := by decide +kernel
theorem dX5_longestFrom_34 : decode cX5_longestFrom 34 = .ok (.iload_n 1, 1) := by decide +kernel
theorem dX5_longestFrom_35 : decode cX5_longestFrom 35 = .ok (.istore 5, 2) := by decide +kernel
theorem dX5_longestFrom_37 : decode cX5_longestFrom 37 = .ok (.iload 5, 2) := by decide +kernel
theorem dX5_longestFrom_39 : decode cX5_longestFrom 39 = .ok (.iload_n 2, 1) := by decide +kernel
theorem dX5_longestFrom_40 : decode cX5_longestFrom 40 = .ok (.if_icmp .ge 71, 3) := by decide +kernel
theorem dX5_longestFrom_43 : decode cX5_longestFrom 43 = .ok (.aload_n 0, 1) := by decide +kernel
theorem dX5_longestFrom_44 : decode cX5_longestFrom 44 = .ok (.getfield 15, 3) := by decide +kernel
theorem dX5_longestFrom_47 : decode cX5_longestFrom 47 = .ok (.iload 4, 2) := by decide +kernel
theorem dX5_longestFrom_49 : decode cX5_longestFrom 49 = .ok (.iaload, 1) := by decide +kernel
theorem dX5_longestFrom_50 : decode cX5_longestFrom 50 = .ok (.iload 5, 2) := by decide +kernel
theorem dX5_longestFrom_52 : decode cX5_longestFrom 52 = .ok (.invokestatic 56, 3) := by decide +kernel
theorem dX5_longestFrom_55 : decode cX5_longestFrom 55 = .ok (.ifCond .eq 50, 3) := by decide +kernel
theorem dX5_longestFrom_58 : decode cX5_longestFrom 58 = .ok (.aload_n 0, 1) := by decide +kernel
theorem dX5_longestFrom_59 : decode cX5_longestFrom 59 = .ok (.iload 4, 2) := by decide +kernel
theorem dX5_longestFrom_61 : decode cX5_longestFrom 61 = .ok (.aload_n 0, 1) := by decide +kernel
theorem dX5_longestFrom_62 : decode cX5_longestFrom 62 = .ok (.getfield 9, 3) := by decide +kernel
theorem dX5_longestFrom_65 : decode cX5_longestFrom 65 = .ok (.iload 5, 2) := by decide +kernel
theorem dX5_longestFrom_67 : decode cX5_longestFrom 67 = .ok (.iaload, 1) := by decide +kernel
theorem dX5_longestFrom_68 : decode cX5_longestFrom 68 = .ok (.iload 4, 2) := by decide +kernel
theorem dX5_longestFrom_70 : decode cX5_longestFrom 70 = .ok (.iconst (-1), 1) := by decide +kernel
theorem dX5_longestFrom_71 : decode cX5_longestFrom 71 = .ok (.ixor, 1) := by decide +kernel
theorem dX5_longestFrom_72 : decode cX5_longestFrom 72 = .ok (.iand, 1) := by decide +kernel
theorem dX5_longestFrom_73 : decode cX5_longestFrom 73 = .ok (.iload_n 1, 1) := by decide +kernel
theorem dX5_longestFrom_74 : decode cX5_longestFrom 74 = .ok (.invokevirtual 60, 3) := by decide +kernel
theorem dX5_longestFrom_77 : decode cX5_longestFrom 77 = .ok (.aload_n 0, 1) := by decide +kernel
theorem dX5_longestFrom_78 : decode cX5_longestFrom 78 = .ok (.getfield 9, 3) := by decide +kernel
theorem dX5_longestFrom_81 : decode cX5_longestFrom 81 = .ok (.iload 5, 2) := by decide +kernel
theorem dX5_longestFrom_83 : decode cX5_longestFrom 83 = .ok (.iaload, 1) := by decide +kernel
theorem dX5_longestFrom_84 : decode cX5_longestFrom 84 = .ok (.iload_n 1, 1) := by decide +kernel
theorem dX5_longestFrom_85 : decode cX5_longestFrom 85 = .ok (.invokestatic 56, 3) := by decide +kernel
theorem dX5_longestFrom_88 : decode cX5_longestFrom 88 = .ok (.ifCond .eq 15, 3) := by decide +kernel
theorem dX5_longestFrom_91 : decode cX5_longestFrom 91 = .ok (.iload_n 3, 1) := by decide +kernel
theorem dX5_longestFrom_92 : decode cX5_longestFrom 92 = .ok (.iload 4, 2) := by decide +kernel
theorem dX5_longestFrom_94 : decode cX5_longestFrom 94 = .ok (.invokestatic 64, 3) := by decide +kernel
theorem dX5_longestFrom_97 : decode cX5_longestFrom 97 = .ok (.invokestatic 36, 3) := by decide +kernel
theorem dX5_longestFrom_100 : decode cX5_longestFrom 100 = .ok (.goto 4, 3) := by decide +kernel
theorem dX5_longestFrom_103 : decode cX5_longestFrom 103 = .ok (.iload_n 3, 1) := by decide +kernel
theorem dX5_longestFrom_104 : decode cX5_longestFrom 104 = .ok (.istore_n 3, 1) := by decide +kernel
theorem dX5_longestFrom_105 : decode cX5_longestFrom 105 = .ok (.iinc 5 1, 3) := by decide +kernel
theorem dX5_longestFrom_108 : decode cX5_longestFrom 108 = .ok (.goto (-71), 3) := by decide +kernel
theorem dX5_longestFrom_111 : decode cX5_longestFrom 111 = .ok (.iinc 4 1, 3) := by decide +kernel
theorem dX5_longestFrom_114 : decode cX5_longestFrom 114 = .ok (.goto (-88), 3) := by decide +kernel
theorem dX5_longestFrom_117 : decode cX5_longestFrom 117 = .ok (.iload_n 3, 1) := by decide +kernel
theorem dX5_longestFrom_118 : decode cX5_longestFrom 118 = .ok (.ireturn, 1) := by decide +kernel
theorem dX5_goOn_0 : decode cX5_goOn 0 = .ok (.iload_n 3, 1) := by decide +kernel
theorem dX5_goOn_1 : decode cX5_goOn 1 = .ok (.iconst 1, 1) := by decide +kernel
theorem dX5_goOn_2 : decode cX5_goOn 2 = .ok (.iadd, 1) := by decide +kernel
theorem dX5_goOn_3 : decode cX5_goOn 3 = .ok (.istore 4, 2) := by decide +kernel
theorem dX5_goOn_5 : decode cX5_goOn 5 = .ok (.iload 4, 2) := by decide +kernel
theorem dX5_goOn_7 : decode cX5_goOn 7 = .ok (.bipush 6, 2) := by decide +kernel
theorem dX5_goOn_9 : decode cX5_goOn 9 = .ok (.if_icmp .ge 36, 3) := by decide +kernel
theorem dX5_goOn_12 : decode cX5_goOn 12 = .ok (.iload_n 2, 1) := by decide +kernel
theorem dX5_goOn_13 : decode cX5_goOn 13 = .ok (.iload 4, 2) := by decide +kernel
theorem dX5_goOn_15 : decode cX5_goOn 15 = .ok (.invokestatic 56, 3) := by decide +kernel
theorem dX5_goOn_18 : decode cX5_goOn 18 = .ok (.ifCond .eq 21, 3) := by decide +kernel
theorem dX5_goOn_21 : decode cX5_goOn 21 = .ok (.aload_n 0, 1) := by decide +kernel
theorem dX5_goOn_22 : decode cX5_goOn 22 = .ok (.getfield 15, 3) := by decide +kernel
theorem dX5_goOn_25 : decode cX5_goOn 25 = .ok (.iload_n 1, 1) := by decide +kernel
theorem dX5_goOn_26 : decode cX5_goOn 26 = .ok (.iconst 1, 1) := by decide +kernel
theorem dX5_goOn_27 : decode cX5_goOn 27 = .ok (.iload 4, 2) := by decide +kernel
theorem dX5_goOn_29 : decode cX5_goOn 29 = .ok (.ishl, 1) := by decide +kernel
theorem dX5_goOn_30 : decode cX5_goOn 30 = .ok (.ior, 1) := by decide +kernel
theorem dX5_goOn_31 : decode cX5_goOn 31 = .ok (.dup2, 1) := by decide +kernel
theorem dX5_goOn_32 : decode cX5_goOn 32 = .ok (.iaload, 1) := by decide +kernel
theorem dX5_goOn_33 : decode cX5_goOn 33 = .ok (.iconst 1, 1) := by decide +kernel
theorem dX5_goOn_34 : decode cX5_goOn 34 = .ok (.iload 4, 2) := by decide +kernel
theorem dX5_goOn_36 : decode cX5_goOn 36 = .ok (.ishl, 1) := by decide +kernel
theorem dX5_goOn_37 : decode cX5_goOn 37 = .ok (.ior, 1) := by decide +kernel
theorem dX5_goOn_38 : decode cX5_goOn 38 = .ok (.iastore, 1) := by decide +kernel
theorem dX5_goOn_39 : decode cX5_goOn 39 = .ok (.iinc 4 1, 3) := by decide +kernel
theorem dX5_goOn_42 : decode cX5_goOn 42 = .ok (.goto (-37), 3) := by decide +kernel
theorem dX5_goOn_45 : decode cX5_goOn 45 = .ok (.return_, 1) := by decide +kernel
theorem dX6_init_0 : decode cX6_init 0 = .ok (.aload_n 0, 1) := by decide +kernel
theorem dX6_init_1 : decode cX6_init 1 = .ok (.invokespecial 3, 3) := by decide +kernel
theorem dX6_init_4 : decode cX6_init 4 = .ok (.aload_n 0, 1) := by decide +kernel
theorem dX6_init_5 : decode cX6_init 5 = .ok (.iload_n 1, 1) := by decide +kernel
theorem dX6_init_6 : decode cX6_init 6 = .ok (.iconst 4, 1) := by decide +kernel
theorem dX6_init_7 : decode cX6_init 7 = .ok (.multianewarray 9 2, 4) := by decide +kernel
theorem dX6_init_11 : decode cX6_init 11 = .ok (.putfield 11, 3) := by decide +kernel
theorem dX6_init_14 : decode cX6_init 14 = .ok (.return_, 1) := by decide +kernel
theorem dX6_add_0 : decode cX6_add 0 = .ok (.aload_n 0, 1) := by decide +kernel
theorem dX6_add_1 : decode cX6_add 1 = .ok (.getfield 16, 3) := by decide +kernel
theorem dX6_add_4 : decode cX6_add 4 = .ok (.aload_n 0, 1) := by decide +kernel
theorem dX6_add_5 : decode cX6_add 5 = .ok (.getfield 11, 3) := by decide +kernel
theorem dX6_add_8 : decode cX6_add 8 = .ok (.arraylength, 1) := by decide +kernel
theorem dX6_add_9 : decode cX6_add 9 = .ok (.if_icmp .lt 6, 3) := by decide +kernel
theorem dX6_add_12 : decode cX6_add 12 = .ok (.bipush (-4), 2) := by decide +kernel
theorem dX6_add_14 : decode cX6_add 14 = .ok (.ireturn, 1) := by decide +kernel
theorem dX6_add_15 : decode cX6_add 15 = .ok (.aload_n 0, 1) := by decide +kernel
theorem dX6_add_16 : decode cX6_add 16 = .ok (.getfield 11, 3) := by decide +kernel
theorem dX6_add_19 : decode cX6_add 19 = .ok (.aload_n 0, 1) := by decide +kernel
theorem dX6_add_20 : decode cX6_add 20 = .ok (.getfield 16, 3) := by decide +kernel
theorem dX6_add_23 : decode cX6_add 23 = .ok (.aaload, 1) := by decide +kernel
theorem dX6_add_24 : decode cX6_add 24 = .ok (.astore 5, 2) := by decide +kernel
theorem dX6_add_26 : decode cX6_add 26 = .ok (.aload 5, 2) := by decide +kernel
theorem dX6_add_28 : decode cX6_add 28 = .ok (.iconst 0, 1) := by decide +kernel
theorem dX6_add_29 : decode cX6_add 29 = .ok (.iload_n 1, 1) := by decide +kernel
theorem dX6_add_30 : decode cX6_add 30 = .ok (.iastore, 1) := by decide +kernel
theorem dX6_add_31 : decode cX6_add 31 = .ok (.aload 5, 2) := by decide +kernel
theorem dX6_add_33 : decode cX6_add 33 = .ok (.iconst 1, 1) := by decide +kernel
theorem dX6_add_34 : decode cX6_add 34 = .ok (.iload_n 2, 1) := by decide +kernel
theorem dX6_add_35 : decode cX6_add 35 = .ok (.iastore, 1) := by decide +kernel
theorem dX6_add_36 : decode cX6_add 36 = .ok (.aload 5, 2) := by decide +kernel
theorem dX6_add_38 : decode cX6_add 38 = .ok (.iconst 2, 1) := by decide +kernel
theorem dX6_add_39 : decode cX6_add 39 = .ok (.iload_n 3, 1) := by decide +kernel
theorem dX6_add_40 : decode cX6_add 40 = .ok (.iastore, 1) := by decide +kernel
theorem dX6_add_41 : decode cX6_add 41 = .ok (.aload 5, 2) := by decide +kernel
theorem dX6_add_43 : decode cX6_add 43 = .ok (.iconst 3, 1) := by decide +kernel
theorem dX6_add_44 : decode cX6_add 44 = .ok (.iload 4, 2) := by decide +kernel
theorem dX6_add_46 : decode cX6_add 46 = .ok (.iastore, 1) := by decide +kernel
theorem dX6_add_47 : decode cX6_add 47 = .ok (.aload_n 0, 1) := by decide +kernel
theorem dX6_add_48 : decode cX6_add 48 = .ok (.dup, 1) := by decide +kernel
theorem dX6_add_49 : decode cX6_add 49 = .ok (.getfield 16, 3) := by decide +kernel
theorem dX6_add_52 : decode cX6_add 52 = .ok (.iconst 1, 1) := by decide +kernel
theorem dX6_add_53 : decode cX6_add 53 = .ok (.iadd, 1) := by decide +kernel
theorem dX6_add_54 : decode cX6_add 54 = .ok (.putfield 16, 3) := by decide +kernel
theorem dX6_add_57 : decode cX6_add 57 = .ok (.aload_n 0, 1) := by decide +kernel
theorem dX6_add_58 : decode cX6_add 58 = .ok (.getfield 16, 3) := by decide +kernel
theorem dX6_add_61 : decode cX6_add 61 = .ok (.ireturn, 1) := by decide +kernel
theorem dX6_become_0 : decode cX6_become 0 = .ok (.aload_n 0, 1) := by decide +kernel
theorem dX6_become_1 : decode cX6_become 1 = .ok (.aload_n 1, 1) := by decide +kernel
theorem dX6_become_2 : decode cX6_become 2 = .ok (.getfield 16, 3) := by decide +kernel
theorem dX6_become_5 : decode cX6_become 5 = .ok (.aload_n 0, 1) := by decide +kernel
theorem dX6_become_6 : decode cX6_become 6 = .ok (.getfield 11, 3) := by decide +kernel
theorem dX6_become_9 : decode cX6_become 9 = .ok (.arraylength, 1) := by decide +kernel
theorem dX6_become_10 : decode cX6_become 10 = .ok (.invokestatic 20, 3) := by decide +kernel
theorem dX6_become_13 : decode cX6_become 13 = .ok (.putfield 16, 3) := by decide +kernel
theorem dX6_become_16 : decode cX6_become 16 = .ok (.iconst 0, 1) := by decide +kernel
theorem dX6_become_17 : decode cX6_become 17 = .ok (.istore_n 2, 1) := by decide +kernel
theorem dX6_become_18 : decode cX6_become 18 = .ok (.iload_n 2, 1) := by decide +kernel
theorem dX6_become_19 : decode cX6_become 19 = .ok (.aload_n 0, 1) := by decide +kernel
theorem dX6_become_20 : decode cX6_become 20 = .ok (.getfield 16, 3) := by decide +kernel
theorem dX6_become_23 : decode cX6_become 23 = .ok (.if_icmp .ge 27, 3) := by decide +kernel
theorem dX6_become_26 : decode cX6_become 26 = .ok (.aload_n 1, 1) := by decide +kernel
theorem dX6_become_27 : decode cX6_become 27 = .ok (.getfield 11, 3) := by decide +kernel
theorem dX6_become_30 : decode cX6_become 30 = .ok (.iload_n 2, 1) := by decide +kernel
theorem dX6_become_31 : decode cX6_become 31 = .ok (.aaload, 1) := by decide +kernel
theorem dX6_become_32 : decode cX6_become 32 = .ok (.iconst 0, 1) := by decide +kernel
theorem dX6_become_33 : decode cX6_become 33 = .ok (.aload_n 0, 1) := by decide +kernel
theorem dX6_become_34 : decode cX6_become 34 = .ok (.getfield 11, 3) := by decide +kernel
theorem dX6_become_37 : decode cX6_become 37 = .ok (.iload_n 2, 1) := by decide +kernel
theorem dX6_become_38 : decode cX6_become 38 = .ok (.aaload, 1) := by decide +kernel
theorem dX6_become_39 : decode cX6_become 39 = .ok (.iconst 0, 1) := by decide +kernel
theorem dX6_become_40 : decode cX6_become 40 = .ok (.iconst 4, 1) := by decide +kernel
theorem dX6_become_41 : decode cX6_become 41 = .ok (.invokestatic 26, 3) := by decide +kernel
theorem dX6_become_44 : decode cX6_become 44 = .ok (.iinc 2 1, 3) := by decide +kernel
theorem dX6_become_47 : decode cX6_become 47 = .ok (.goto (-29), 3) := by decide +kernel
theorem dX6_become_50 : decode cX6_become 50 = .ok (.return_, 1) := by decide +kernel
theorem dX7_init_0 : decode cX7_init 0 = .ok (.aload_n 0, 1) := by decide +kernel
theorem dX7_init_1 : decode cX7_init 1 = .ok (.invokespecial 3, 3) := by decide +kernel
theorem dX7_init_4 : decode cX7_init 4 = .ok (.aload_n 0, 1) := by decide +kernel
theorem dX7_init_5 : decode cX7_init 5 = .ok (.bipush 13, 2) := by decide +kernel
theorem dX7_init_7 : decode cX7_init 7 = .ok (.newarray .int, 2) := by decide +kernel
theorem dX7_init_9 : decode cX7_init 9 = .ok (.putfield 9, 3) := by decide +kernel
theorem dX7_init_12 : decode cX7_init 12 = .ok (.aload_n 0, 1) := by decide +kernel
theorem dX7_init_13 : decode cX7_init 13 = .ok (.bipush 13, 2) := by decide +kernel
theorem dX7_init_15 : decode cX7_init 15 = .ok (.newarray .int, 2) := by decide +kernel
theorem dX7_init_17 : decode cX7_init 17 = .ok (.putfield 15, 3) := by decide +kernel
theorem dX7_init_20 : decode cX7_init 20 = .ok (.return_, 1) := by decide +kernel
theorem dX7_gather_0 : decode cX7_gather 0 = .ok (.aload_n 0, 1) := by decide +kernel
theorem dX7_gather_1 : decode cX7_gather 1 = .ok (.getfield 9, 3) := by decide +kernel
theorem dX7_gather_4 : decode cX7_gather 4 = .ok (.iconst 0, 1) := by decide +kernel
theorem dX7_gather_5 : decode cX7_gather 5 = .ok (.invokestatic 18, 3) := by decide +kernel
theorem dX7_gather_8 : decode cX7_gather 8 = .ok (.aload_n 0, 1) := by decide +kernel
theorem dX7_gather_9 : decode cX7_gather 9 = .ok (.getfield 15, 3) := by decide +kernel
theorem dX7_gather_12 : decode cX7_gather 12 = .ok (.iconst 0, 1) := by decide +kernel
theorem dX7_gather_13 : decode cX7_gather 13 = .ok (.invokestatic 18, 3) := by decide +kernel
theorem dX7_gather_16 : decode cX7_gather 16 = .ok (.aload_n 0, 1) := by decide +kernel
theorem dX7_gather_17 : decode cX7_gather 17 = .ok (.iconst 0, 1) := by decide +kernel
theorem dX7_gather_18 : decode cX7_gather 18 = .ok (.putfield 24, 3) := by decide +kernel
theorem dX7_gather_21 : decode cX7_gather 21 = .ok (.iconst 0, 1) := by decide +kernel
theorem dX7_gather_22 : decode cX7_gather 22 = .ok (.istore_n 3, 1) := by decide +kernel
theorem dX7_gather_23 : decode cX7_gather 23 = .ok (.iload_n 3, 1) := by decide +kernel
theorem dX7_gather_24 : decode cX7_gather 24 = .ok (.aload_n 1, 1) := by decide +kernel
theorem dX7_gather_25 : decode cX7_gather 25 = .ok (.getfield 28, 3) := by decide +kernel
theorem dX7_gather_28 : decode cX7_gather 28 = .ok (.if_icmp .ge 88, 3) := by decide +kernel
theorem dX7_gather_31 : decode cX7_gather 31 = .ok (.aload_n 1, 1) := by decide +kernel
theorem dX7_gather_32 : decode cX7_gather 32 = .ok (.getfield 33, 3) := by decide +kernel
theorem dX7_gather_35 : decode cX7_gather 35 = .ok (.iload_n 3, 1) := by decide +kernel
theorem dX7_gather_36 : decode cX7_gather 36 = .ok (.aaload, 1) := by decide +kernel
theorem dX7_gather_37 : decode cX7_gather 37 = .ok (.astore 4, 2) := by decide +kernel
theorem dX7_gather_39 : decode cX7_gather 39 = .ok (.aload 4, 2) := by decide +kernel
theorem dX7_gather_41 : decode cX7_gather 41 = .ok (.iconst 0, 1) := by decide +kernel
theorem dX7_gather_42 : decode cX7_gather 42 = .ok (.iaload, 1) := by decide +kernel
theorem dX7_gather_43 : decode cX7_gather 43 = .ok (.iload_n 2, 1) := by decide +kernel
theorem dX7_gather_44 : decode cX7_gather 44 = .ok (.if_icmp .ne 66, 3) := by decide +kernel
theorem dX7_gather_47 : decode cX7_gather 47 = .ok (.aload 4, 2) := by decide +kernel
theorem dX7_gather_49 : decode cX7_gather 49 = .ok (.iconst 1, 1) := by decide +kernel
theorem dX7_gather_50 : decode cX7_gather 50 = .ok (.iaload, 1) := by decide +kernel
theorem dX7_gather_51 : decode cX7_gather 51 = .ok (.bipush 12, 2) := by decide +kernel
theorem dX7_gather_53 : decode cX7_gather 53 = .ok (.invokestatic 37, 3) := by decide +kernel
theorem dX7_gather_56 : decode cX7_gather 56 = .ok (.ifCond .eq 54, 3) := by decide +kernel
theorem dX7_gather_59 : decode cX7_gather 59 = .ok (.aload 4, 2) := by decide +kernel
theorem dX7_gather_61 : decode cX7_gather 61 = .ok (.iconst 3, 1) := by decide +kernel
theorem dX7_gather_62 : decode cX7_gather 62 = .ok (.iaload, 1) := by decide +kernel
theorem dX7_gather_63 : decode cX7_gather 63 = .ok (.ifCond .eq 10, 3) := by decide +kernel
theorem dX7_gather_66 : decode cX7_gather 66 = .ok (.aload_n 0, 1) := by decide +kernel
theorem dX7_gather_67 : decode cX7_gather 67 = .ok (.getfield 9, 3) := by decide +kernel
theorem dX7_gather_70 : decode cX7_gather 70 = .ok (.goto 7, 3) := by decide +kernel
theorem dX7_gather_73 : decode cX7_gather 73 = .ok (.aload_n 0, 1) := by decide +kernel
theorem dX7_gather_74 : decode cX7_gather 74 = .ok (.getfield 15, 3) := by decide +kernel
theorem dX7_gather_77 : decode cX7_gather 77 = .ok (.astore 5, 2) := by decide +kernel
theorem dX7_gather_79 : decode cX7_gather 79 = .ok (.aload 5, 2) := by decide +kernel
theorem dX7_gather_81 : decode cX7_gather 81 = .ok (.aload 4, 2) := by decide +kernel
theorem dX7_gather_83 : decode cX7_gather 83 = .ok (.iconst 1, 1) := by decide +kernel
theorem dX7_gather_84 : decode cX7_gather 84 = .ok (.iaload, 1) := by decide +kernel
theorem dX7_gather_85 : decode cX7_gather 85 = .ok (.dup2, 1) := by decide +kernel
theorem dX7_gather_86 : decode cX7_gather 86 = .ok (.iaload, 1) := by decide +kernel
theorem dX7_gather_87 : decode cX7_gather 87 = .ok (.iconst 1, 1) := by decide +kernel
theorem dX7_gather_88 : decode cX7_gather 88 = .ok (.aload 4, 2) := by decide +kernel
theorem dX7_gather_90 : decode cX7_gather 90 = .ok (.iconst 2, 1) := by decide +kernel
theorem dX7_gather_91 : decode cX7_gather 91 = .ok (.iaload, 1) := by decide +kernel
theorem dX7_gather_92 : decode cX7_gather 92 = .ok (.ishl, 1) := by decide +kernel
theorem dX7_gather_93 : decode cX7_gather 93 = .ok (.ior, 1) := by decide +kernel
theorem dX7_gather_94 : decode cX7_gather 94 = .ok (.iastore, 1) := by decide +kernel
theorem dX7_gather_95 : decode cX7_gather 95 = .ok (.aload_n 0, 1) := by decide +kernel
theorem dX7_gather_96 : decode cX7_gather 96 = .ok (.aload_n 0, 1) := by decide +kernel
theorem dX7_gather_97 : decode cX7_gather 97 = .ok (.getfield 24, 3) := by decide +kernel
theorem dX7_gather_100 : decode cX7_gather 100 = .ok (.aload 4, 2) := by decide +kernel
theorem dX7_gather_102 : decode cX7_gather 102 = .ok (.iconst 1, 1) := by decide +kernel
theorem dX7_gather_103 : decode cX7_gather 103 = .ok (.iaload, 1) := by decide +kernel
theorem dX7_gather_104 : decode cX7_gather 104 = .ok (.invokestatic 41, 3) := by decide +kernel
theorem dX7_gather_107 : decode cX7_gather 107 = .ok (.putfield 24, 3) := by decide +kernel
theorem dX7_gather_110 : decode cX7_gather 110 = .ok (.iinc 3 1, 3) := by decide +kernel
theorem dX7_gather_113 : decode cX7_gather 113 = .ok (.goto (-90), 3) := by decide +kernel
theorem dX7_gather_116 : decode cX7_gather 116 = .ok (.return_, 1) := by decide +kernel
theorem dX7_fits_0 : decode cX7_fits 0 = .ok (.iload_n 2, 1) := by decide +kernel
theorem dX7_fits_1 : decode cX7_fits 1 = .ok (.istore 4, 2) := by decide +kernel
theorem dX7_fits_3 : decode cX7_fits 3 = .ok (.iconst 0, 1) := by decide +kernel
theorem dX7_fits_4 : decode cX7_fits 4 = .ok (.istore 5, 2) := by decide +kernel
theorem dX7_fits_6 : decode cX7_fits 6 = .ok (.iload 5, 2) := by decide +kernel
theorem dX7_fits_8 : decode cX7_fits 8 = .ok (.aload_n 0, 1) := by decide +kernel
theorem dX7_fits_9 : decode cX7_fits 9 = .ok (.getfield 24, 3) := by decide +kernel
theorem dX7_fits_12 : decode cX7_fits 12 = .ok (.if_icmp .gt 56, 3) := by decide +kernel
theorem dX7_fits_15 : decode cX7_fits 15 = .ok (.aload_n 0, 1) := by decide +kernel
theorem dX7_fits_16 : decode cX7_fits 16 = .ok (.getfield 9, 3) := by decide +kernel
theorem dX7_fits_19 : decode cX7_fits 19 = .ok (.iload 5, 2) := by decide +kernel
theorem dX7_fits_21 : decode cX7_fits 21 = .ok (.iaload, 1) := by decide +kernel
theorem dX7_fits_22 : decode cX7_fits 22 = .ok (.iload 4, 2) := by decide +kernel
theorem dX7_fits_24 : decode cX7_fits 24 = .ok (.iconst (-1), 1) := by decide +kernel
theorem dX7_fits_25 : decode cX7_fits 25 = .ok (.ixor, 1) := by decide +kernel
theorem dX7_fits_26 : decode cX7_fits 26 = .ok (.iand, 1) := by decide +kernel
theorem dX7_fits_27 : decode cX7_fits 27 = .ok (.ifCond .ne 16, 3) := by decide +kernel
theorem dX7_fits_30 : decode cX7_fits 30 = .ok (.aload_n 0, 1) := by decide +kernel
theorem dX7_fits_31 : decode cX7_fits 31 = .ok (.getfield 15, 3) := by decide +kernel
theorem dX7_fits_34 : decode cX7_fits 34 = .ok (.iload 5, 2) := by decide +kernel
theorem dX7_fits_36 : decode cX7_fits 36 = .ok (.iaload, 1) := by decide +kernel
theorem dX7_fits_37 : decode cX7_fits 37 = .ok (.iload 4, 2) := by decide +kernel
theorem dX7_fits_39 : decode cX7_fits 39 = .ok (.iand, 1) := by decide +kernel
theorem dX7_fits_40 : decode cX7_fits 40 = .ok (.ifCond .eq 5, 3) := by decide +kernel
theorem dX7_fits_43 : decode cX7_fits 43 = .ok (.iconst 0, 1) := by decide +kernel
theorem dX7_fits_44 : decode cX7_fits 44 = .ok (.ireturn, 1) := by decide +kernel
theorem dX7_fits_45 : decode cX7_fits 45 = .ok (.iload 4, 2) := by decide +kernel
theorem dX7_fits_47 : decode cX7_fits 47 = .ok (.aload_n 1, 1) := by decide +kernel
theorem dX7_fits_48 : decode cX7_fits 48 = .ok (.iload 4, 2) := by decide +kernel
theorem dX7_fits_50 : decode cX7_fits 50 = .ok (.iload_n 3, 1) := by decide +kernel
theorem dX7_fits_51 : decode cX7_fits 51 = .ok (.iload 5, 2) := by decide +kernel
theorem dX7_fits_53 : decode cX7_fits 53 = .ok (.iadd, 1) := by decide +kernel
theorem dX7_fits_54 : decode cX7_fits 54 = .ok (.invokevirtual 47, 3) := by decide +kernel
theorem dX7_fits_57 : decode cX7_fits 57 = .ok (.invokestatic 52, 3) := by decide +kernel
theorem dX7_fits_60 : decode cX7_fits 60 = .ok (.istore 4, 2) := by decide +kernel
theorem dX7_fits_62 : decode cX7_fits 62 = .ok (.iinc 5 1, 3) := by decide +kernel
theorem dX7_fits_65 : decode cX7_fits 65 = .ok (.goto (-59), 3) := by decide +kernel
theorem dX7_fits_68 : decode cX7_fits 68 = .ok (.iconst 1, 1) := by decide +kernel
theorem dX7_fits_69 : decode cX7_fits 69 = .ok (.ireturn, 1) := by decide +kernel
theorem dX8_init_0 : decode cX8_init 0 = .ok (.aload_n 0, 1) := by decide +kernel
theorem dX8_init_1 : decode cX8_init 1 = .ok (.invokespecial 3, 3) := by decide +kernel
theorem dX8_init_4 : decode cX8_init 4 = .ok (.aload_n 0, 1) := by decide +kernel
theorem dX8_init_5 : decode cX8_init 5 = .ok (.bipush 20, 2) := by decide +kernel
theorem dX8_init_7 : decode cX8_init 7 = .ok (.newarray .int, 2) := by decide +kernel
theorem dX8_init_9 : decode cX8_init 9 = .ok (.putfield 9, 3) := by decide +kernel
theorem dX8_init_12 : decode cX8_init 12 = .ok (.return_, 1) := by decide +kernel
theorem dX8_plays_0 : decode cX8_plays 0 = .ok (.aload_n 0, 1) := by decide +kernel
theorem dX8_plays_1 : decode cX8_plays 1 = .ok (.iconst 0, 1) := by decide +kernel
theorem dX8_plays_2 : decode cX8_plays 2 = .ok (.putfield 15, 3) := by decide +kernel
theorem dX8_plays_5 : decode cX8_plays 5 = .ok (.aload_n 0, 1) := by decide +kernel
theorem dX8_plays_6 : decode cX8_plays 6 = .ok (.aload_n 1, 1) := by decide +kernel
theorem dX8_plays_7 : decode cX8_plays 7 = .ok (.iload_n 2, 1) := by decide +kernel
theorem dX8_plays_8 : decode cX8_plays 8 = .ok (.iload_n 3, 1) := by decide +kernel
theorem dX8_plays_9 : decode cX8_plays 9 = .ok (.iconst 0, 1) := by decide +kernel
theorem dX8_plays_10 : decode cX8_plays 10 = .ok (.invokevirtual 19, 3) := by decide +kernel
theorem dX8_plays_13 : decode cX8_plays 13 = .ok (.ireturn, 1) := by decide +kernel
theorem dX8_own_0 : decode cX8_own 0 = .ok (.aload_n 0, 1) := by decide +kernel
theorem dX8_own_1 : decode cX8_own 1 = .ok (.aload_n 1, 1) := by decide +kernel
theorem dX8_own_2 : decode cX8_own 2 = .ok (.aload_n 1, 1) := by decide +kernel
theorem dX8_own_3 : decode cX8_own 3 = .ok (.getfield 23, 3) := by decide +kernel
theorem dX8_own_6 : decode cX8_own 6 = .ok (.iload_n 2, 1) := by decide +kernel
theorem dX8_own_7 : decode cX8_own 7 = .ok (.iload_n 3, 1) := by decide +kernel
theorem dX8_own_8 : decode cX8_own 8 = .ok (.iload 4, 2) := by decide +kernel
theorem dX8_own_10 : decode cX8_own 10 = .ok (.invokevirtual 28, 3) := by decide +kernel
theorem dX8_own_13 : decode cX8_own 13 = .ok (.ireturn, 1) := by decide +kernel
theorem dX8_runs_0 : decode cX8_runs 0 = .ok (.iload_n 2, 1) := by decide +kernel
theorem dX8_runs_1 : decode cX8_runs 1 = .ok (.iload_n 3, 1) := by decide +kernel
theorem dX8_runs_2 : decode cX8_runs 2 = .ok (.invokestatic 32, 3) := by decide +kernel
theorem dX8_runs_5 : decode cX8_runs 5 = .ok (.istore 6, 2) := by decide +kernel
theorem dX8_runs_7 : decode cX8_runs 7 = .ok (.iload 6, 2) := by decide +kernel
theorem dX8_runs_9 : decode cX8_runs 9 = .ok (.ifCond .eq 10, 3) := by decide +kernel
theorem dX8_runs_12 : decode cX8_runs 12 = .ok (.iload 5, 2) := by decide +kernel
theorem dX8_runs_14 : decode cX8_runs 14 = .ok (.bipush 40, 2) := by decide +kernel
theorem dX8_runs_16 : decode cX8_runs 16 = .ok (.if_icmp .le 5, 3) := by decide +kernel
theorem dX8_runs_19 : decode cX8_runs 19 = .ok (.iconst 0, 1) := by decide +kernel
theorem dX8_runs_20 : decode cX8_runs 20 = .ok (.ireturn, 1) := by decide +kernel
theorem dX8_runs_21 : decode cX8_runs 21 = .ok (.aload_n 0, 1) := by decide +kernel
theorem dX8_runs_22 : decode cX8_runs 22 = .ok (.iload 6, 2) := by decide +kernel
theorem dX8_runs_24 : decode cX8_runs 24 = .ok (.invokevirtual 36, 3) := by decide +kernel
theorem dX8_runs_27 : decode cX8_runs 27 = .ok (.getstatic 40, 3) := by decide +kernel
theorem dX8_runs_30 : decode cX8_runs 30 = .ok (.iload 6, 2) := by decide +kernel
theorem dX8_runs_32 : decode cX8_runs 32 = .ok (.bipush 10, 2) := by decide +kernel
theorem dX8_runs_34 : decode cX8_runs 34 = .ok (.idiv, 1) := by decide +kernel
theorem dX8_runs_35 : decode cX8_runs 35 = .ok (.iconst 1, 1) := by decide +kernel
theorem dX8_runs_36 : decode cX8_runs 36 = .ok (.isub, 1) := by decide +kernel
theorem dX8_runs_37 : decode cX8_runs 37 = .ok (.iaload, 1) := by decide +kernel
theorem dX8_runs_38 : decode cX8_runs 38 = .ok (.istore 7, 2) := by decide +kernel
theorem dX8_runs_40 : decode cX8_runs 40 = .ok (.iload 5, 2) := by decide +kernel
theorem dX8_runs_42 : decode cX8_runs 42 = .ok (.iconst 1, 1) := by decide +kernel
theorem dX8_runs_43 : decode cX8_runs 43 = .ok (.iadd, 1) := by decide +kernel
theorem dX8_runs_44 : decode cX8_runs 44 = .ok (.istore 8, 2) := by decide +kernel
theorem dX8_runs_46 : decode cX8_runs 46 = .ok (.iload 6, 2) := by decide +kernel
theorem dX8_runs_48 : decode cX8_runs 48 = .ok (.lookupswitch 281 #[(10, 100), (11, 108), (12, 124), (20, 137), (30, 153), (40, 168), (50, 191), (51, 205), (60, 220), (70, 238), (71, 263)], 100) := by decide +kernel
theorem dX8_runs_148 : decode cX8_runs 148 = .ok (.iload 4, 2) := by decide +kernel
theorem dX8_runs_150 : decode cX8_runs 150 = .ok (.aload_n 1, 1) := by decide +kernel
theorem dX8_runs_151 : decode cX8_runs 151 = .ok (.getfield 43, 3) := by decide +kernel
theorem dX8_runs_154 : decode cX8_runs 154 = .ok (.iadd, 1) := by decide +kernel
theorem dX8_runs_155 : decode cX8_runs 155 = .ok (.ireturn, 1) := by decide +kernel
theorem dX8_runs_156 : decode cX8_runs 156 = .ok (.aload_n 0, 1) := by decide +kernel
theorem dX8_runs_157 : decode cX8_runs 157 = .ok (.aload_n 1, 1) := by decide +kernel
theorem dX8_runs_158 : decode cX8_runs 158 = .ok (.iconst 0, 1) := by decide +kernel
theorem dX8_runs_159 : decode cX8_runs 159 = .ok (.iload 4, 2) := by decide +kernel
theorem dX8_runs_161 : decode cX8_runs 161 = .ok (.iload 8, 2) := by decide +kernel
theorem dX8_runs_163 : decode cX8_runs 163 = .ok (.invokevirtual 19, 3) := by decide +kernel
theorem dX8_runs_166 : decode cX8_runs 166 = .ok (.aload_n 1, 1) := by decide +kernel
theorem dX8_runs_167 : decode cX8_runs 167 = .ok (.getfield 46, 3) := by decide +kernel
theorem dX8_runs_170 : decode cX8_runs 170 = .ok (.isub, 1) := by decide +kernel
theorem dX8_runs_171 : decode cX8_runs 171 = .ok (.ireturn, 1) := by decide +kernel
theorem dX8_runs_172 : decode cX8_runs 172 = .ok (.aload_n 0, 1) := by decide +kernel
theorem dX8_runs_173 : decode cX8_runs 173 = .ok (.aload_n 1, 1) := by decide +kernel
theorem dX8_runs_174 : decode cX8_runs 174 = .ok (.iconst 1, 1) := by decide +kernel
theorem dX8_runs_175 : decode cX8_runs 175 = .ok (.iload 4, 2) := by decide +kernel
theorem dX8_runs_177 : decode cX8_runs 177 = .ok (.iload 8, 2) := by decide +kernel
theorem dX8_runs_179 : decode cX8_runs 179 = .ok (.invokevirtual 19, 3) := by decide +kernel
theorem dX8_runs_182 : decode cX8_runs 182 = .ok (.iconst 2, 1) := by decide +kernel
theorem dX8_runs_183 : decode cX8_runs 183 = .ok (.imul, 1) := by decide +kernel
theorem dX8_runs_184 : decode cX8_runs 184 = .ok (.ireturn, 1) := by decide +kernel
theorem dX8_runs_185 : decode cX8_runs 185 = .ok (.aload_n 0, 1) := by decide +kernel
theorem dX8_runs_186 : decode cX8_runs 186 = .ok (.aload_n 1, 1) := by decide +kernel
theorem dX8_runs_187 : decode cX8_runs 187 = .ok (.iload 7, 2) := by decide +kernel
theorem dX8_runs_189 : decode cX8_runs 189 = .ok (.iconst 1, 1) := by decide +kernel
theorem dX8_runs_190 : decode cX8_runs 190 = .ok (.iload 4, 2) := by decide +kernel
theorem dX8_runs_192 : decode cX8_runs 192 = .ok (.iload 8, 2) := by decide +kernel
theorem dX8_runs_194 : decode cX8_runs 194 = .ok (.invokevirtual 28, 3) := by decide +kernel
theorem dX8_runs_197 : decode cX8_runs 197 = .ok (.bipush 6, 2) := by decide +kernel
theorem dX8_runs_199 : decode cX8_runs 199 = .ok (.ixor, 1) := by decide +kernel
theorem dX8_runs_200 : decode cX8_runs 200 = .ok (.ireturn, 1) := by decide +kernel
theorem dX8_runs_201 : decode cX8_runs 201 = .ok (.aload_n 0, 1) := by decide +kernel
theorem dX8_runs_202 : decode cX8_runs 202 = .ok (.aload_n 1, 1) := by decide +kernel
theorem dX8_runs_203 : decode cX8_runs 203 = .ok (.iload 7, 2) := by decide +kernel
theorem dX8_runs_205 : decode cX8_runs 205 = .ok (.iconst 0, 1) := by decide +kernel
theorem dX8_runs_206 : decode cX8_runs 206 = .ok (.iload 4, 2) := by decide +kernel
theorem dX8_runs_208 : decode cX8_runs 208 = .ok (.iconst 3, 1) := by decide +kernel
theorem dX8_runs_209 : decode cX8_runs 209 = .ok (.imul, 1) := by decide +kernel
theorem dX8_runs_210 : decode cX8_runs 210 = .ok (.iload 8, 2) := by decide +kernel
theorem dX8_runs_212 : decode cX8_runs 212 = .ok (.invokevirtual 28, 3) := by decide +kernel
theorem dX8_runs_215 : decode cX8_runs 215 = .ok (.ireturn, 1) := by decide +kernel
theorem dX8_runs_216 : decode cX8_runs 216 = .ok (.aload_n 0, 1) := by decide +kernel
theorem dX8_runs_217 : decode cX8_runs 217 = .ok (.aload_n 1, 1) := by decide +kernel
theorem dX8_runs_218 : decode cX8_runs 218 = .ok (.iload 7, 2) := by decide +kernel
theorem dX8_runs_220 : decode cX8_runs 220 = .ok (.iconst 2, 1) := by decide +kernel
theorem dX8_runs_221 : decode cX8_runs 221 = .ok (.iload 4, 2) := by decide +kernel
theorem dX8_runs_223 : decode cX8_runs 223 = .ok (.iload 8, 2) := by decide +kernel
theorem dX8_runs_225 : decode cX8_runs 225 = .ok (.invokevirtual 28, 3) := by decide +kernel
theorem dX8_runs_228 : decode cX8_runs 228 = .ok (.aload_n 0, 1) := by decide +kernel
theorem dX8_runs_229 : decode cX8_runs 229 = .ok (.aload_n 1, 1) := by decide +kernel
theorem dX8_runs_230 : decode cX8_runs 230 = .ok (.iconst 1, 1) := by decide +kernel
theorem dX8_runs_231 : decode cX8_runs 231 = .ok (.iconst 1, 1) := by decide +kernel
theorem dX8_runs_232 : decode cX8_runs 232 = .ok (.iload 8, 2) := by decide +kernel
theorem dX8_runs_234 : decode cX8_runs 234 = .ok (.invokevirtual 19, 3) := by decide +kernel
theorem dX8_runs_237 : decode cX8_runs 237 = .ok (.iadd, 1) := by decide +kernel
theorem dX8_runs_238 : decode cX8_runs 238 = .ok (.ireturn, 1) := by decide +kernel
theorem dX8_runs_239 : decode cX8_runs 239 = .ok (.aload_n 0, 1) := by decide +kernel
theorem dX8_runs_240 : decode cX8_runs 240 = .ok (.aload_n 1, 1) := by decide +kernel
theorem dX8_runs_241 : decode cX8_runs 241 = .ok (.iload 7, 2) := by decide +kernel
theorem dX8_runs_243 : decode cX8_runs 243 = .ok (.iconst 0, 1) := by decide +kernel
theorem dX8_runs_244 : decode cX8_runs 244 = .ok (.iload 4, 2) := by decide +kernel
theorem dX8_runs_246 : decode cX8_runs 246 = .ok (.iload 8, 2) := by decide +kernel
theorem dX8_runs_248 : decode cX8_runs 248 = .ok (.invokevirtual 28, 3) := by decide +kernel
theorem dX8_runs_251 : decode cX8_runs 251 = .ok (.ineg, 1) := by decide +kernel
theorem dX8_runs_252 : decode cX8_runs 252 = .ok (.ireturn, 1) := by decide +kernel
theorem dX8_runs_253 : decode cX8_runs 253 = .ok (.aload_n 0, 1) := by decide +kernel
theorem dX8_runs_254 : decode cX8_runs 254 = .ok (.aload_n 1, 1) := by decide +kernel
theorem dX8_runs_255 : decode cX8_runs 255 = .ok (.iload 7, 2) := by decide +kernel
theorem dX8_runs_257 : decode cX8_runs 257 = .ok (.iconst 1, 1) := by decide +kernel
theorem dX8_runs_258 : decode cX8_runs 258 = .ok (.iload 4, 2) := by decide +kernel
theorem dX8_runs_260 : decode cX8_runs 260 = .ok (.iconst 1, 1) := by decide +kernel
theorem dX8_runs_261 : decode cX8_runs 261 = .ok (.iadd, 1) := by decide +kernel
theorem dX8_runs_262 : decode cX8_runs 262 = .ok (.iload 8, 2) := by decide +kernel
theorem dX8_runs_264 : decode cX8_runs 264 = .ok (.invokevirtual 28, 3) := by decide +kernel
theorem dX8_runs_267 : decode cX8_runs 267 = .ok (.ireturn, 1) := by decide +kernel
theorem dX8_runs_268 : decode cX8_runs 268 = .ok (.aload_n 0, 1) := by decide +kernel
theorem dX8_runs_269 : decode cX8_runs 269 = .ok (.aload_n 1, 1) := by decide +kernel
theorem dX8_runs_270 : decode cX8_runs 270 = .ok (.iload 7, 2) := by decide +kernel
theorem dX8_runs_272 : decode cX8_runs 272 = .ok (.iconst 2, 1) := by decide +kernel
theorem dX8_runs_273 : decode cX8_runs 273 = .ok (.iload 4, 2) := by decide +kernel
theorem dX8_runs_275 : decode cX8_runs 275 = .ok (.aload_n 1, 1) := by decide +kernel
theorem dX8_runs_276 : decode cX8_runs 276 = .ok (.getfield 43, 3) := by decide +kernel
theorem dX8_runs_279 : decode cX8_runs 279 = .ok (.isub, 1) := by decide +kernel
theorem dX8_runs_280 : decode cX8_runs 280 = .ok (.iload 8, 2) := by decide +kernel
theorem dX8_runs_282 : decode cX8_runs 282 = .ok (.invokevirtual 28, 3) := by decide +kernel
theorem dX8_runs_285 : decode cX8_runs 285 = .ok (.ireturn, 1) := by decide +kernel
theorem dX8_runs_286 : decode cX8_runs 286 = .ok (.aload_n 0, 1) := by decide +kernel
theorem dX8_runs_287 : decode cX8_runs 287 = .ok (.aload_n 1, 1) := by decide +kernel
theorem dX8_runs_288 : decode cX8_runs 288 = .ok (.iload 7, 2) := by decide +kernel
theorem dX8_runs_290 : decode cX8_runs 290 = .ok (.iconst 1, 1) := by decide +kernel
theorem dX8_runs_291 : decode cX8_runs 291 = .ok (.iload 4, 2) := by decide +kernel
theorem dX8_runs_293 : decode cX8_runs 293 = .ok (.iload 8, 2) := by decide +kernel
theorem dX8_runs_295 : decode cX8_runs 295 = .ok (.invokevirtual 28, 3) := by decide +kernel
theorem dX8_runs_298 : decode cX8_runs 298 = .ok (.aload_n 0, 1) := by decide +kernel
theorem dX8_runs_299 : decode cX8_runs 299 = .ok (.aload_n 1, 1) := by decide +kernel
theorem dX8_runs_300 : decode cX8_runs 300 = .ok (.iload 7, 2) := by decide +kernel
theorem dX8_runs_302 : decode cX8_runs 302 = .ok (.iconst 0, 1) := by decide +kernel
theorem dX8_runs_303 : decode cX8_runs 303 = .ok (.iconst 2, 1) := by decide +kernel
theorem dX8_runs_304 : decode cX8_runs 304 = .ok (.iload 8, 2) := by decide +kernel
theorem dX8_runs_306 : decode cX8_runs 306 = .ok (.invokevirtual 28, 3) := by decide +kernel
theorem dX8_runs_309 : decode cX8_runs 309 = .ok (.iadd, 1) := by decide +kernel
theorem dX8_runs_310 : decode cX8_runs 310 = .ok (.ireturn, 1) := by decide +kernel
theorem dX8_runs_311 : decode cX8_runs 311 = .ok (.aload_n 0, 1) := by decide +kernel
theorem dX8_runs_312 : decode cX8_runs 312 = .ok (.aload_n 1, 1) := by decide +kernel
theorem dX8_runs_313 : decode cX8_runs 313 = .ok (.iload 7, 2) := by decide +kernel
theorem dX8_runs_315 : decode cX8_runs 315 = .ok (.iconst 0, 1) := by decide +kernel
theorem dX8_runs_316 : decode cX8_runs 316 = .ok (.iload 4, 2) := by decide +kernel
theorem dX8_runs_318 : decode cX8_runs 318 = .ok (.iload 8, 2) := by decide +kernel
theorem dX8_runs_320 : decode cX8_runs 320 = .ok (.invokevirtual 28, 3) := by decide +kernel
theorem dX8_runs_323 : decode cX8_runs 323 = .ok (.aload_n 1, 1) := by decide +kernel
theorem dX8_runs_324 : decode cX8_runs 324 = .ok (.getfield 46, 3) := by decide +kernel
theorem dX8_runs_327 : decode cX8_runs 327 = .ok (.ixor, 1) := by decide +kernel
theorem dX8_runs_328 : decode cX8_runs 328 = .ok (.ireturn, 1) := by decide +kernel
theorem dX8_runs_329 : decode cX8_runs 329 = .ok (.iconst 0, 1) := by decide +kernel
theorem dX8_runs_330 : decode cX8_runs 330 = .ok (.ireturn, 1) := by decide +kernel
theorem dX8_bodyFrom_0 : decode cX8_bodyFrom 0 = .ok (.iload_n 0, 1) := by decide +kernel
theorem dX8_bodyFrom_1 : decode cX8_bodyFrom 1 = .ok (.istore_n 2, 1) := by decide +kernel
theorem dX8_bodyFrom_2 : decode cX8_bodyFrom 2 = .ok (.iconst 0, 1) := by decide +kernel
theorem dX8_bodyFrom_3 : decode cX8_bodyFrom 3 = .ok (.istore_n 3, 1) := by decide +kernel
theorem dX8_bodyFrom_4 : decode cX8_bodyFrom 4 = .ok (.iload_n 3, 1) := by decide +kernel
theorem dX8_bodyFrom_5 : decode cX8_bodyFrom 5 = .ok (.bipush 7, 2) := by decide +kernel
theorem dX8_bodyFrom_7 : decode cX8_bodyFrom 7 = .ok (.if_icmp .ge 46, 3) := by decide +kernel
theorem dX8_bodyFrom_10 : decode cX8_bodyFrom 10 = .ok (.iload_n 2, 1) := by decide +kernel
theorem dX8_bodyFrom_11 : decode cX8_bodyFrom 11 = .ok (.bipush 7, 2) := by decide +kernel
theorem dX8_bodyFrom_13 : decode cX8_bodyFrom 13 = .ok (.invokestatic 49, 3) := by decide +kernel
theorem dX8_bodyFrom_16 : decode cX8_bodyFrom 16 = .ok (.ifCond .eq 37, 3) := by decide +kernel
theorem dX8_bodyFrom_19 : decode cX8_bodyFrom 19 = .ok (.getstatic 53, 3) := by decide +kernel
theorem dX8_bodyFrom_22 : decode cX8_bodyFrom 22 = .ok (.iload_n 2, 1) := by decide +kernel
theorem dX8_bodyFrom_23 : decode cX8_bodyFrom 23 = .ok (.iconst 3, 1) := by decide +kernel
theorem dX8_bodyFrom_24 : decode cX8_bodyFrom 24 = .ok (.imul, 1) := by decide +kernel
theorem dX8_bodyFrom_25 : decode cX8_bodyFrom 25 = .ok (.iload_n 1, 1) := by decide +kernel
theorem dX8_bodyFrom_26 : decode cX8_bodyFrom 26 = .ok (.iadd, 1) := by decide +kernel
theorem dX8_bodyFrom_27 : decode cX8_bodyFrom 27 = .ok (.iaload, 1) := by decide +kernel
theorem dX8_bodyFrom_28 : decode cX8_bodyFrom 28 = .ok (.ifCond .eq 13, 3) := by decide +kernel
theorem dX8_bodyFrom_31 : decode cX8_bodyFrom 31 = .ok (.getstatic 53, 3) := by decide +kernel
theorem dX8_bodyFrom_34 : decode cX8_bodyFrom 34 = .ok (.iload_n 2, 1) := by decide +kernel
theorem dX8_bodyFrom_35 : decode cX8_bodyFrom 35 = .ok (.iconst 3, 1) := by decide +kernel
theorem dX8_bodyFrom_36 : decode cX8_bodyFrom 36 = .ok (.imul, 1) := by decide +kernel
theorem dX8_bodyFrom_37 : decode cX8_bodyFrom 37 = .ok (.iload_n 1, 1) := by decide +kernel
theorem dX8_bodyFrom_38 : decode cX8_bodyFrom 38 = .ok (.iadd, 1) := by decide +kernel
theorem dX8_bodyFrom_39 : decode cX8_bodyFrom 39 = .ok (.iaload, 1) := by decide +kernel
theorem dX8_bodyFrom_40 : decode cX8_bodyFrom 40 = .ok (.ireturn, 1) := by decide +kernel
theorem dX8_bodyFrom_41 : decode cX8_bodyFrom 41 = .ok (.getstatic 40, 3) := by decide +kernel
theorem dX8_bodyFrom_44 : decode cX8_bodyFrom 44 = .ok (.iload_n 2, 1) := by decide +kernel
theorem dX8_bodyFrom_45 : decode cX8_bodyFrom 45 = .ok (.iaload, 1) := by decide +kernel
theorem dX8_bodyFrom_46 : decode cX8_bodyFrom 46 = .ok (.istore_n 2, 1) := by decide +kernel
theorem dX8_bodyFrom_47 : decode cX8_bodyFrom 47 = .ok (.iinc 3 1, 3) := by decide +kernel
theorem dX8_bodyFrom_50 : decode cX8_bodyFrom 50 = .ok (.goto (-46), 3) := by decide +kernel
theorem dX8_bodyFrom_53 : decode cX8_bodyFrom 53 = .ok (.iconst 0, 1) := by decide +kernel
theorem dX8_bodyFrom_54 : decode cX8_bodyFrom 54 = .ok (.ireturn, 1) := by decide +kernel
theorem dX8_note_0 : decode cX8_note 0 = .ok (.aload_n 0, 1) := by decide +kernel
theorem dX8_note_1 : decode cX8_note 1 = .ok (.getfield 15, 3) := by decide +kernel
theorem dX8_note_4 : decode cX8_note 4 = .ok (.bipush 20, 2) := by decide +kernel
theorem dX8_note_6 : decode cX8_note 6 = .ok (.if_icmp .ge 13, 3) := by decide +kernel
theorem dX8_note_9 : decode cX8_note 9 = .ok (.aload_n 0, 1) := by decide +kernel
theorem dX8_note_10 : decode cX8_note 10 = .ok (.getfield 9, 3) := by decide +kernel
theorem dX8_note_13 : decode cX8_note 13 = .ok (.aload_n 0, 1) := by decide +kernel
theorem dX8_note_14 : decode cX8_note 14 = .ok (.getfield 15, 3) := by decide +kernel
theorem dX8_note_17 : decode cX8_note 17 = .ok (.iload_n 1, 1) := by decide +kernel
theorem dX8_note_18 : decode cX8_note 18 = .ok (.iastore, 1) := by decide +kernel
theorem dX8_note_19 : decode cX8_note 19 = .ok (.aload_n 0, 1) := by decide +kernel
theorem dX8_note_20 : decode cX8_note 20 = .ok (.dup, 1) := by decide +kernel
theorem dX8_note_21 : decode cX8_note 21 = .ok (.getfield 15, 3) := by decide +kernel
theorem dX8_note_24 : decode cX8_note 24 = .ok (.iconst 1, 1) := by decide +kernel
theorem dX8_note_25 : decode cX8_note 25 = .ok (.iadd, 1) := by decide +kernel
theorem dX8_note_26 : decode cX8_note 26 = .ok (.putfield 15, 3) := by decide +kernel
theorem dX8_note_29 : decode cX8_note 29 = .ok (.return_, 1) := by decide +kernel
theorem dX9_init_0 : decode cX9_init 0 = .ok (.aload_n 0, 1) := by decide +kernel
theorem dX9_init_1 : decode cX9_init 1 = .ok (.invokespecial 3, 3) := by decide +kernel
theorem dX9_init_4 : decode cX9_init 4 = .ok (.aload_n 0, 1) := by decide +kernel
theorem dX9_init_5 : decode cX9_init 5 = .ok (.iconst (-1), 1) := by decide +kernel
theorem dX9_init_6 : decode cX9_init 6 = .ok (.putfield 9, 3) := by decide +kernel
theorem dX9_init_9 : decode cX9_init 9 = .ok (.aload_n 0, 1) := by decide +kernel
theorem dX9_init_10 : decode cX9_init 10 = .ok (.bipush 60, 2) := by decide +kernel
theorem dX9_init_12 : decode cX9_init 12 = .ok (.newarray .long, 2) := by decide +kernel
theorem dX9_init_14 : decode cX9_init 14 = .ok (.putfield 15, 3) := by decide +kernel
theorem dX9_init_17 : decode cX9_init 17 = .ok (.return_, 1) := by decide +kernel
theorem dX9_become_0 : decode cX9_become 0 = .ok (.aload_n 0, 1) := by decide +kernel
theorem dX9_become_1 : decode cX9_become 1 = .ok (.iload_n 1, 1) := by decide +kernel
theorem dX9_become_2 : decode cX9_become 2 = .ok (.putfield 9, 3) := by decide +kernel
theorem dX9_become_5 : decode cX9_become 5 = .ok (.aload_n 0, 1) := by decide +kernel
theorem dX9_become_6 : decode cX9_become 6 = .ok (.iload_n 2, 1) := by decide +kernel
theorem dX9_become_7 : decode cX9_become 7 = .ok (.putfield 19, 3) := by decide +kernel
theorem dX9_become_10 : decode cX9_become 10 = .ok (.aload_n 0, 1) := by decide +kernel
theorem dX9_become_11 : decode cX9_become 11 = .ok (.getfield 15, 3) := by decide +kernel
theorem dX9_become_14 : decode cX9_become 14 = .ok (.lconst 0, 1) := by decide +kernel
theorem dX9_become_15 : decode cX9_become 15 = .ok (.invokestatic 22, 3) := by decide +kernel
theorem dX9_become_18 : decode cX9_become 18 = .ok (.return_, 1) := by decide +kernel
theorem dX9_isPart_0 : decode cX9_isPart 0 = .ok (.iload_n 1, 1) := by decide +kernel
theorem dX9_isPart_1 : decode cX9_isPart 1 = .ok (.ifCond .lt 29, 3) := by decide +kernel
theorem dX9_isPart_4 : decode cX9_isPart 4 = .ok (.iload_n 2, 1) := by decide +kernel
theorem dX9_isPart_5 : decode cX9_isPart 5 = .ok (.ifCond .lt 25, 3) := by decide +kernel
theorem dX9_isPart_8 : decode cX9_isPart 8 = .ok (.iload_n 2, 1) := by decide +kernel
theorem dX9_isPart_9 : decode cX9_isPart 9 = .ok (.aload_n 0, 1) := by decide +kernel
theorem dX9_isPart_10 : decode cX9_isPart 10 = .ok (.getfield 19, 3) := by decide +kernel
theorem dX9_isPart_13 : decode cX9_isPart 13 = .ok (.if_icmp .gt 17, 3) := by decide +kernel
theorem dX9_isPart_16 : decode cX9_isPart 16 = .ok (.iload_n 1, 1) := by decide +kernel
theorem dX9_isPart_17 : decode cX9_isPart 17 = .ok (.aload_n 0, 1) := by decide +kernel
theorem dX9_isPart_18 : decode cX9_isPart 18 = .ok (.getfield 19, 3) := by decide +kernel
theorem dX9_isPart_21 : decode cX9_isPart 21 = .ok (.iload_n 2, 1) := by decide +kernel
theorem dX9_isPart_22 : decode cX9_isPart 22 = .ok (.isub, 1) := by decide +kernel
theorem dX9_isPart_23 : decode cX9_isPart 23 = .ok (.if_icmp .gt 7, 3) := by decide +kernel
theorem dX9_isPart_26 : decode cX9_isPart 26 = .ok (.iconst 1, 1) := by decide +kernel
theorem dX9_isPart_27 : decode cX9_isPart 27 = .ok (.goto 4, 3) := by decide +kernel
theorem dX9_isPart_30 : decode cX9_isPart 30 = .ok (.iconst 0, 1) := by decide +kernel
theorem dX9_isPart_31 : decode cX9_isPart 31 = .ok (.ireturn, 1) := by decide +kernel
theorem dX9_cut_0 : decode cX9_cut 0 = .ok (.aload_n 0, 1) := by decide +kernel
theorem dX9_cut_1 : decode cX9_cut 1 = .ok (.getfield 9, 3) := by decide +kernel
theorem dX9_cut_4 : decode cX9_cut 4 = .ok (.tableswitch 48 0 3 #[32, 37, 42, 46], 32) := by decide +kernel
theorem dX9_cut_36 : decode cX9_cut 36 = .ok (.lload_n 1, 1) := by decide +kernel
theorem dX9_cut_37 : decode cX9_cut 37 = .ok (.l2i, 1) := by decide +kernel
theorem dX9_cut_38 : decode cX9_cut 38 = .ok (.i2b, 1) := by decide +kernel
theorem dX9_cut_39 : decode cX9_cut 39 = .ok (.i2l, 1) := by decide +kernel
theorem dX9_cut_40 : decode cX9_cut 40 = .ok (.lreturn, 1) := by decide +kernel
theorem dX9_cut_41 : decode cX9_cut 41 = .ok (.lload_n 1, 1) := by decide +kernel
theorem dX9_cut_42 : decode cX9_cut 42 = .ok (.l2i, 1) := by decide +kernel
theorem dX9_cut_43 : decode cX9_cut 43 = .ok (.i2s, 1) := by decide +kernel
theorem dX9_cut_44 : decode cX9_cut 44 = .ok (.i2l, 1) := by decide +kernel
theorem dX9_cut_45 : decode cX9_cut 45 = .ok (.lreturn, 1) := by decide +kernel
theorem dX9_cut_46 : decode cX9_cut 46 = .ok (.lload_n 1, 1) := by decide +kernel
theorem dX9_cut_47 : decode cX9_cut 47 = .ok (.l2i, 1) := by decide +kernel
theorem dX9_cut_48 : decode cX9_cut 48 = .ok (.i2l, 1) := by decide +kernel
theorem dX9_cut_49 : decode cX9_cut 49 = .ok (.lreturn, 1) := by decide +kernel
theorem dX9_cut_50 : decode cX9_cut 50 = .ok (.lload_n 1, 1) := by decide +kernel
theorem dX9_cut_51 : decode cX9_cut 51 = .ok (.lreturn, 1) := by decide +kernel
theorem dX9_cut_52 : decode cX9_cut 52 = .ok (.lload_n 1, 1) := by decide +kernel
theorem dX9_cut_53 : decode cX9_cut 53 = .ok (.lconst 0, 1) := by decide +kernel
theorem dX9_cut_54 : decode cX9_cut 54 = .ok (.lcmp, 1) := by decide +kernel
theorem dX9_cut_55 : decode cX9_cut 55 = .ok (.ifCond .eq 7, 3) := by decide +kernel
theorem dX9_cut_58 : decode cX9_cut 58 = .ok (.lconst 1, 1) := by decide +kernel
theorem dX9_cut_59 : decode cX9_cut 59 = .ok (.goto 4, 3) := by decide +kernel
theorem dX9_cut_62 : decode cX9_cut 62 = .ok (.lconst 0, 1) := by decide +kernel
theorem dX9_cut_63 : decode cX9_cut 63 = .ok (.lreturn, 1) := by decide +kernel
