theorem dX10_init_0 : decode cX10_init 0 = .ok (.aload_n 0, 1) := by decide +kernel
theorem dX10_init_1 : decode cX10_init 1 = .ok (.invokespecial 5, 3) := by decide +kernel
theorem dX10_init_4 : decode cX10_init 4 = .ok (.aload_n 0, 1) := by decide +kernel
theorem dX10_init_5 : decode cX10_init 5 = .ok (.new 11, 3) := by decide +kernel
theorem dX10_init_8 : decode cX10_init 8 = .ok (.dup, 1) := by decide +kernel
theorem dX10_init_9 : decode cX10_init 9 = .ok (.invokespecial 13, 3) := by decide +kernel
theorem dX10_init_12 : decode cX10_init 12 = .ok (.putfield 14, 3) := by decide +kernel
theorem dX10_init_15 : decode cX10_init 15 = .ok (.aload_n 0, 1) := by decide +kernel
theorem dX10_init_16 : decode cX10_init 16 = .ok (.new 18, 3) := by decide +kernel
theorem dX10_init_19 : decode cX10_init 19 = .ok (.dup, 1) := by decide +kernel
theorem dX10_init_20 : decode cX10_init 20 = .ok (.aload_n 0, 1) := by decide +kernel
theorem dX10_init_21 : decode cX10_init 21 = .ok (.getfield 14, 3) := by decide +kernel
theorem dX10_init_24 : decode cX10_init 24 = .ok (.invokespecial 20, 3) := by decide +kernel
theorem dX10_init_27 : decode cX10_init 27 = .ok (.putfield 23, 3) := by decide +kernel
theorem dX10_init_30 : decode cX10_init 30 = .ok (.aload_n 0, 1) := by decide +kernel
theorem dX10_init_31 : decode cX10_init 31 = .ok (.new 18, 3) := by decide +kernel
theorem dX10_init_34 : decode cX10_init 34 = .ok (.dup, 1) := by decide +kernel
theorem dX10_init_35 : decode cX10_init 35 = .ok (.aload_n 0, 1) := by decide +kernel
theorem dX10_init_36 : decode cX10_init 36 = .ok (.getfield 14, 3) := by decide +kernel
theorem dX10_init_39 : decode cX10_init 39 = .ok (.invokespecial 20, 3) := by decide +kernel
theorem dX10_init_42 : decode cX10_init 42 = .ok (.putfield 27, 3) := by decide +kernel
theorem dX10_init_45 : decode cX10_init 45 = .ok (.aload_n 0, 1) := by decide +kernel
theorem dX10_init_46 : decode cX10_init 46 = .ok (.new 18, 3) := by decide +kernel
theorem dX10_init_49 : decode cX10_init 49 = .ok (.dup, 1) := by decide +kernel
theorem dX10_init_50 : decode cX10_init 50 = .ok (.aload_n 0, 1) := by decide +kernel
theorem dX10_init_51 : decode cX10_init 51 = .ok (.getfield 14, 3) := by decide +kernel
theorem dX10_init_54 : decode cX10_init 54 = .ok (.invokespecial 20, 3) := by decide +kernel
theorem dX10_init_57 : decode cX10_init 57 = .ok (.putfield 30, 3) := by decide +kernel
theorem dX10_init_60 : decode cX10_init 60 = .ok (.aload_n 0, 1) := by decide +kernel
theorem dX10_init_61 : decode cX10_init 61 = .ok (.new 33, 3) := by decide +kernel
theorem dX10_init_64 : decode cX10_init 64 = .ok (.dup, 1) := by decide +kernel
theorem dX10_init_65 : decode cX10_init 65 = .ok (.invokespecial 35, 3) := by decide +kernel
theorem dX10_init_68 : decode cX10_init 68 = .ok (.putfield 36, 3) := by decide +kernel
theorem dX10_init_71 : decode cX10_init 71 = .ok (.aload_n 0, 1) := by decide +kernel
theorem dX10_init_72 : decode cX10_init 72 = .ok (.bipush 6, 2) := by decide +kernel
theorem dX10_init_74 : decode cX10_init 74 = .ok (.anewarray 11, 3) := by decide +kernel
theorem dX10_init_77 : decode cX10_init 77 = .ok (.putfield 40, 3) := by decide +kernel
theorem dX10_init_80 : decode cX10_init 80 = .ok (.aload_n 0, 1) := by decide +kernel
theorem dX10_init_81 : decode cX10_init 81 = .ok (.bipush 6, 2) := by decide +kernel
theorem dX10_init_83 : decode cX10_init 83 = .ok (.anewarray 44, 3) := by decide +kernel
theorem dX10_init_86 : decode cX10_init 86 = .ok (.putfield 46, 3) := by decide +kernel
theorem dX10_init_89 : decode cX10_init 89 = .ok (.aload_n 0, 1) := by decide +kernel
theorem dX10_init_90 : decode cX10_init 90 = .ok (.new 50, 3) := by decide +kernel
theorem dX10_init_93 : decode cX10_init 93 = .ok (.dup, 1) := by decide +kernel
theorem dX10_init_94 : decode cX10_init 94 = .ok (.invokespecial 52, 3) := by decide +kernel
theorem dX10_init_97 : decode cX10_init 97 = .ok (.putfield 53, 3) := by decide +kernel
theorem dX10_init_100 : decode cX10_init 100 = .ok (.aload_n 0, 1) := by decide +kernel
theorem dX10_init_101 : decode cX10_init 101 = .ok (.new 57, 3) := by decide +kernel
theorem dX10_init_104 : decode cX10_init 104 = .ok (.dup, 1) := by decide +kernel
theorem dX10_init_105 : decode cX10_init 105 = .ok (.invokespecial 59, 3) := by decide +kernel
theorem dX10_init_108 : decode cX10_init 108 = .ok (.putfield 60, 3) := by decide +kernel
theorem dX10_init_111 : decode cX10_init 111 = .ok (.aload_n 0, 1) := by decide +kernel
theorem dX10_init_112 : decode cX10_init 112 = .ok (.new 64, 3) := by decide +kernel
theorem dX10_init_115 : decode cX10_init 115 = .ok (.dup, 1) := by decide +kernel
theorem dX10_init_116 : decode cX10_init 116 = .ok (.invokespecial 66, 3) := by decide +kernel
theorem dX10_init_119 : decode cX10_init 119 = .ok (.putfield 67, 3) := by decide +kernel
theorem dX10_init_122 : decode cX10_init 122 = .ok (.aload_n 0, 1) := by decide +kernel
theorem dX10_init_123 : decode cX10_init 123 = .ok (.bipush 6, 2) := by decide +kernel
theorem dX10_init_125 : decode cX10_init 125 = .ok (.anewarray 71, 3) := by decide +kernel
theorem dX10_init_128 : decode cX10_init 128 = .ok (.putfield 73, 3) := by decide +kernel
theorem dX10_init_131 : decode cX10_init 131 = .ok (.iconst 0, 1) := by decide +kernel
theorem dX10_init_132 : decode cX10_init 132 = .ok (.istore_n 1, 1) := by decide +kernel
theorem dX10_init_133 : decode cX10_init 133 = .ok (.iload_n 1, 1) := by decide +kernel
theorem dX10_init_134 : decode cX10_init 134 = .ok (.bipush 6, 2) := by decide +kernel
theorem dX10_init_136 : decode cX10_init 136 = .ok (.if_icmp .ge 22, 3) := by decide +kernel
theorem dX10_init_139 : decode cX10_init 139 = .ok (.aload_n 0, 1) := by decide +kernel
theorem dX10_init_140 : decode cX10_init 140 = .ok (.getfield 40, 3) := by decide +kernel
theorem dX10_init_143 : decode cX10_init 143 = .ok (.iload_n 1, 1) := by decide +kernel
theorem dX10_init_144 : decode cX10_init 144 = .ok (.new 11, 3) := by decide +kernel
theorem dX10_init_147 : decode cX10_init 147 = .ok (.dup, 1) := by decide +kernel
theorem dX10_init_148 : decode cX10_init 148 = .ok (.invokespecial 13, 3) := by decide +kernel
theorem dX10_init_151 : decode cX10_init 151 = .ok (.aastore, 1) := by decide +kernel
theorem dX10_init_152 : decode cX10_init 152 = .ok (.iinc 1 1, 3) := by decide +kernel
theorem dX10_init_155 : decode cX10_init 155 = .ok (.goto (-22), 3) := by decide +kernel
theorem dX10_init_158 : decode cX10_init 158 = .ok (.iconst 0, 1) := by decide +kernel
theorem dX10_init_159 : decode cX10_init 159 = .ok (.istore_n 1, 1) := by decide +kernel
theorem dX10_init_160 : decode cX10_init 160 = .ok (.iload_n 1, 1) := by decide +kernel
theorem dX10_init_161 : decode cX10_init 161 = .ok (.bipush 6, 2) := by decide +kernel
theorem dX10_init_163 : decode cX10_init 163 = .ok (.if_icmp .ge 35, 3) := by decide +kernel
theorem dX10_init_166 : decode cX10_init 166 = .ok (.aload_n 0, 1) := by decide +kernel
theorem dX10_init_167 : decode cX10_init 167 = .ok (.getfield 46, 3) := by decide +kernel
theorem dX10_init_170 : decode cX10_init 170 = .ok (.iload_n 1, 1) := by decide +kernel
theorem dX10_init_171 : decode cX10_init 171 = .ok (.new 44, 3) := by decide +kernel
theorem dX10_init_174 : decode cX10_init 174 = .ok (.dup, 1) := by decide +kernel
theorem dX10_init_175 : decode cX10_init 175 = .ok (.aload_n 0, 1) := by decide +kernel
theorem dX10_init_176 : decode cX10_init 176 = .ok (.getfield 23, 3) := by decide +kernel
theorem dX10_init_179 : decode cX10_init 179 = .ok (.aload_n 0, 1) := by decide +kernel
theorem dX10_init_180 : decode cX10_init 180 = .ok (.getfield 23, 3) := by decide +kernel
theorem dX10_init_183 : decode cX10_init 183 = .ok (.getfield 77, 3) := by decide +kernel
theorem dX10_init_186 : decode cX10_init 186 = .ok (.iload_n 1, 1) := by decide +kernel
theorem dX10_init_187 : decode cX10_init 187 = .ok (.aaload, 1) := by decide +kernel
theorem dX10_init_188 : decode cX10_init 188 = .ok (.invokespecial 81, 3) := by decide +kernel
theorem dX10_init_191 : decode cX10_init 191 = .ok (.aastore, 1) := by decide +kernel
theorem dX10_init_192 : decode cX10_init 192 = .ok (.iinc 1 1, 3) := by decide +kernel
theorem dX10_init_195 : decode cX10_init 195 = .ok (.goto (-35), 3) := by decide +kernel
theorem dX10_init_198 : decode cX10_init 198 = .ok (.iconst 0, 1) := by decide +kernel
theorem dX10_init_199 : decode cX10_init 199 = .ok (.istore_n 1, 1) := by decide +kernel
theorem dX10_init_200 : decode cX10_init 200 = .ok (.iload_n 1, 1) := by decide +kernel
theorem dX10_init_201 : decode cX10_init 201 = .ok (.bipush 6, 2) := by decide +kernel
theorem dX10_init_203 : decode cX10_init 203 = .ok (.if_icmp .ge 22, 3) := by decide +kernel
theorem dX10_init_206 : decode cX10_init 206 = .ok (.aload_n 0, 1) := by decide +kernel
theorem dX10_init_207 : decode cX10_init 207 = .ok (.getfield 73, 3) := by decide +kernel
theorem dX10_init_210 : decode cX10_init 210 = .ok (.iload_n 1, 1) := by decide +kernel
theorem dX10_init_211 : decode cX10_init 211 = .ok (.new 71, 3) := by decide +kernel
theorem dX10_init_214 : decode cX10_init 214 = .ok (.dup, 1) := by decide +kernel
theorem dX10_init_215 : decode cX10_init 215 = .ok (.invokespecial 84, 3) := by decide +kernel
theorem dX10_init_218 : decode cX10_init 218 = .ok (.aastore, 1) := by decide +kernel
theorem dX10_init_219 : decode cX10_init 219 = .ok (.iinc 1 1, 3) := by decide +kernel
theorem dX10_init_222 : decode cX10_init 222 = .ok (.goto (-22), 3) := by decide +kernel
theorem dX10_init_225 : decode cX10_init 225 = .ok (.return_, 1) := by decide +kernel
theorem dX10_guest_0 : decode cX10_guest 0 = .ok (.iload_n 1, 1) := by decide +kernel
theorem dX10_guest_1 : decode cX10_guest 1 = .ok (.bipush 7, 2) := by decide +kernel
theorem dX10_guest_3 : decode cX10_guest 3 = .ok (.invokestatic 85, 3) := by decide +kernel
theorem dX10_guest_6 : decode cX10_guest 6 = .ok (.ifCond .ne 5, 3) := by decide +kernel
theorem dX10_guest_9 : decode cX10_guest 9 = .ok (.iconst (-1), 1) := by decide +kernel
theorem dX10_guest_10 : decode cX10_guest 10 = .ok (.ireturn, 1) := by decide +kernel
theorem dX10_guest_11 : decode cX10_guest 11 = .ok (.iload_n 2, 1) := by decide +kernel
theorem dX10_guest_12 : decode cX10_guest 12 = .ok (.bipush 9, 2) := by decide +kernel
theorem dX10_guest_14 : decode cX10_guest 14 = .ok (.invokestatic 89, 3) := by decide +kernel
theorem dX10_guest_17 : decode cX10_guest 17 = .ok (.ifCond .eq 13, 3) := by decide +kernel
theorem dX10_guest_20 : decode cX10_guest 20 = .ok (.iload_n 3, 1) := by decide +kernel
theorem dX10_guest_21 : decode cX10_guest 21 = .ok (.sipush 4095, 3) := by decide +kernel
theorem dX10_guest_24 : decode cX10_guest 24 = .ok (.invokestatic 89, 3) := by decide +kernel
theorem dX10_guest_27 : decode cX10_guest 27 = .ok (.ifCond .ne 6, 3) := by decide +kernel
theorem dX10_guest_30 : decode cX10_guest 30 = .ok (.bipush (-2), 2) := by decide +kernel
theorem dX10_guest_32 : decode cX10_guest 32 = .ok (.ireturn, 1) := by decide +kernel
theorem dX10_guest_33 : decode cX10_guest 33 = .ok (.aload_n 0, 1) := by decide +kernel
theorem dX10_guest_34 : decode cX10_guest 34 = .ok (.getfield 23, 3) := by decide +kernel
theorem dX10_guest_37 : decode cX10_guest 37 = .ok (.getfield 92, 3) := by decide +kernel
theorem dX10_guest_40 : decode cX10_guest 40 = .ok (.bipush 6, 2) := by decide +kernel
theorem dX10_guest_42 : decode cX10_guest 42 = .ok (.if_icmp .lt 6, 3) := by decide +kernel
theorem dX10_guest_45 : decode cX10_guest 45 = .ok (.bipush (-4), 2) := by decide +kernel
theorem dX10_guest_47 : decode cX10_guest 47 = .ok (.ireturn, 1) := by decide +kernel
theorem dX10_guest_48 : decode cX10_guest 48 = .ok (.aload_n 0, 1) := by decide +kernel
theorem dX10_guest_49 : decode cX10_guest 49 = .ok (.getfield 23, 3) := by decide +kernel
theorem dX10_guest_52 : decode cX10_guest 52 = .ok (.getfield 77, 3) := by decide +kernel
theorem dX10_guest_55 : decode cX10_guest 55 = .ok (.aload_n 0, 1) := by decide +kernel
theorem dX10_guest_56 : decode cX10_guest 56 = .ok (.getfield 23, 3) := by decide +kernel
theorem dX10_guest_59 : decode cX10_guest 59 = .ok (.getfield 92, 3) := by decide +kernel
theorem dX10_guest_62 : decode cX10_guest 62 = .ok (.aaload, 1) := by decide +kernel
theorem dX10_guest_63 : decode cX10_guest 63 = .ok (.astore 4, 2) := by decide +kernel
theorem dX10_guest_65 : decode cX10_guest 65 = .ok (.aload 4, 2) := by decide +kernel
theorem dX10_guest_67 : decode cX10_guest 67 = .ok (.iload_n 1, 1) := by decide +kernel
theorem dX10_guest_68 : decode cX10_guest 68 = .ok (.iload_n 2, 1) := by decide +kernel
theorem dX10_guest_69 : decode cX10_guest 69 = .ok (.iload_n 3, 1) := by decide +kernel
theorem dX10_guest_70 : decode cX10_guest 70 = .ok (.invokevirtual 96, 3) := by decide +kernel
theorem dX10_guest_73 : decode cX10_guest 73 = .ok (.aload_n 0, 1) := by decide +kernel
theorem dX10_guest_74 : decode cX10_guest 74 = .ok (.getfield 23, 3) := by decide +kernel
theorem dX10_guest_77 : decode cX10_guest 77 = .ok (.dup, 1) := by decide +kernel
theorem dX10_guest_78 : decode cX10_guest 78 = .ok (.getfield 92, 3) := by decide +kernel
theorem dX10_guest_81 : decode cX10_guest 81 = .ok (.iconst 1, 1) := by decide +kernel
theorem dX10_guest_82 : decode cX10_guest 82 = .ok (.iadd, 1) := by decide +kernel
theorem dX10_guest_83 : decode cX10_guest 83 = .ok (.putfield 92, 3) := by decide +kernel
theorem dX10_guest_86 : decode cX10_guest 86 = .ok (.aload 4, 2) := by decide +kernel
theorem dX10_guest_88 : decode cX10_guest 88 = .ok (.getfield 102, 3) := by decide +kernel
theorem dX10_guest_91 : decode cX10_guest 91 = .ok (.ireturn, 1) := by decide +kernel
theorem dX10_of_0 : decode cX10_of 0 = .ok (.aload_n 0, 1) := by decide +kernel
theorem dX10_of_1 : decode cX10_of 1 = .ok (.iload_n 1, 1) := by decide +kernel
theorem dX10_of_2 : decode cX10_of 2 = .ok (.invokevirtual 105, 3) := by decide +kernel
theorem dX10_of_5 : decode cX10_of 5 = .ok (.ifCond .ne 7, 3) := by decide +kernel
theorem dX10_of_8 : decode cX10_of 8 = .ok (.sipush (-10001), 3) := by decide +kernel
theorem dX10_of_11 : decode cX10_of 11 = .ok (.ireturn, 1) := by decide +kernel
theorem dX10_of_12 : decode cX10_of 12 = .ok (.aload_n 0, 1) := by decide +kernel
theorem dX10_of_13 : decode cX10_of 13 = .ok (.getfield 23, 3) := by decide +kernel
theorem dX10_of_16 : decode cX10_of 16 = .ok (.getfield 77, 3) := by decide +kernel
theorem dX10_of_19 : decode cX10_of 19 = .ok (.iload_n 1, 1) := by decide +kernel
theorem dX10_of_20 : decode cX10_of 20 = .ok (.aaload, 1) := by decide +kernel
theorem dX10_of_21 : decode cX10_of 21 = .ok (.astore_n 3, 1) := by decide +kernel
theorem dX10_of_22 : decode cX10_of 22 = .ok (.iload_n 2, 1) := by decide +kernel
theorem dX10_of_23 : decode cX10_of 23 = .ok (.tableswitch 110 0 7 #[45, 50, 55, 60, 65, 78, 98, 104], 45) := by decide +kernel
theorem dX10_of_68 : decode cX10_of 68 = .ok (.aload_n 3, 1) := by decide +kernel
theorem dX10_of_69 : decode cX10_of 69 = .ok (.getfield 109, 3) := by decide +kernel
theorem dX10_of_72 : decode cX10_of 72 = .ok (.ireturn, 1) := by decide +kernel
theorem dX10_of_73 : decode cX10_of 73 = .ok (.aload_n 3, 1) := by decide +kernel
theorem dX10_of_74 : decode cX10_of 74 = .ok (.getfield 112, 3) := by decide +kernel
theorem dX10_of_77 : decode cX10_of 77 = .ok (.ireturn, 1) := by decide +kernel
theorem dX10_of_78 : decode cX10_of 78 = .ok (.aload_n 3, 1) := by decide +kernel
theorem dX10_of_79 : decode cX10_of 79 = .ok (.getfield 115, 3) := by decide +kernel
theorem dX10_of_82 : decode cX10_of 82 = .ok (.ireturn, 1) := by decide +kernel
theorem dX10_of_83 : decode cX10_of 83 = .ok (.aload_n 3, 1) := by decide +kernel
theorem dX10_of_84 : decode cX10_of 84 = .ok (.getfield 118, 3) := by decide +kernel
theorem dX10_of_87 : decode cX10_of 87 = .ok (.ireturn, 1) := by decide +kernel
theorem dX10_of_88 : decode cX10_of 88 = .ok (.aload_n 3, 1) := by decide +kernel
theorem dX10_of_89 : decode cX10_of 89 = .ok (.getfield 121, 3) := by decide +kernel
theorem dX10_of_92 : decode cX10_of 92 = .ok (.ifCond .eq 7, 3) := by decide +kernel
theorem dX10_of_95 : decode cX10_of 95 = .ok (.iconst 1, 1) := by decide +kernel
theorem dX10_of_96 : decode cX10_of 96 = .ok (.goto 4, 3) := by decide +kernel
theorem dX10_of_99 : decode cX10_of 99 = .ok (.iconst 0, 1) := by decide +kernel
theorem dX10_of_100 : decode cX10_of 100 = .ok (.ireturn, 1) := by decide +kernel
theorem dX10_of_101 : decode cX10_of 101 = .ok (.aload_n 0, 1) := by decide +kernel
theorem dX10_of_102 : decode cX10_of 102 = .ok (.aload_n 3, 1) := by decide +kernel
theorem dX10_of_103 : decode cX10_of 103 = .ok (.invokevirtual 125, 3) := by decide +kernel
theorem dX10_of_106 : decode cX10_of 106 = .ok (.aload_n 3, 1) := by decide +kernel
theorem dX10_of_107 : decode cX10_of 107 = .ok (.getfield 115, 3) := by decide +kernel
theorem dX10_of_110 : decode cX10_of 110 = .ok (.aload_n 0, 1) := by decide +kernel
theorem dX10_of_111 : decode cX10_of 111 = .ok (.getfield 23, 3) := by decide +kernel
theorem dX10_of_114 : decode cX10_of 114 = .ok (.getfield 129, 3) := by decide +kernel
theorem dX10_of_117 : decode cX10_of 117 = .ok (.invokevirtual 132, 3) := by decide +kernel
theorem dX10_of_120 : decode cX10_of 120 = .ok (.ireturn, 1) := by decide +kernel
theorem dX10_of_121 : decode cX10_of 121 = .ok (.aload_n 0, 1) := by decide +kernel
theorem dX10_of_122 : decode cX10_of 122 = .ok (.aload_n 3, 1) := by decide +kernel
theorem dX10_of_123 : decode cX10_of 123 = .ok (.invokevirtual 136, 3) := by decide +kernel
theorem dX10_of_126 : decode cX10_of 126 = .ok (.ireturn, 1) := by decide +kernel
theorem dX10_of_127 : decode cX10_of 127 = .ok (.aload_n 0, 1) := by decide +kernel
theorem dX10_of_128 : decode cX10_of 128 = .ok (.aload_n 3, 1) := by decide +kernel
theorem dX10_of_129 : decode cX10_of 129 = .ok (.invokevirtual 140, 3) := by decide +kernel
theorem dX10_of_132 : decode cX10_of 132 = .ok (.ireturn, 1) := by decide +kernel
theorem dX10_of_133 : decode cX10_of 133 = .ok (.iload_n 2, 1) := by decide +kernel
theorem dX10_of_134 : decode cX10_of 134 = .ok (.bipush 10, 2) := by decide +kernel
theorem dX10_of_136 : decode cX10_of 136 = .ok (.isub, 1) := by decide +kernel
theorem dX10_of_137 : decode cX10_of 137 = .ok (.invokestatic 143, 3) := by decide +kernel
theorem dX10_of_140 : decode cX10_of 140 = .ok (.ifCond .eq 25, 3) := by decide +kernel
theorem dX10_of_143 : decode cX10_of 143 = .ok (.aload_n 0, 1) := by decide +kernel
theorem dX10_of_144 : decode cX10_of 144 = .ok (.aload_n 3, 1) := by decide +kernel
theorem dX10_of_145 : decode cX10_of 145 = .ok (.invokevirtual 125, 3) := by decide +kernel
theorem dX10_of_148 : decode cX10_of 148 = .ok (.iload_n 2, 1) := by decide +kernel
theorem dX10_of_149 : decode cX10_of 149 = .ok (.bipush 10, 2) := by decide +kernel
theorem dX10_of_151 : decode cX10_of 151 = .ok (.isub, 1) := by decide +kernel
theorem dX10_of_152 : decode cX10_of 152 = .ok (.aload_n 0, 1) := by decide +kernel
theorem dX10_of_153 : decode cX10_of 153 = .ok (.getfield 23, 3) := by decide +kernel
theorem dX10_of_156 : decode cX10_of 156 = .ok (.getfield 129, 3) := by decide +kernel
theorem dX10_of_159 : decode cX10_of 159 = .ok (.invokevirtual 146, 3) := by decide +kernel
theorem dX10_of_162 : decode cX10_of 162 = .ok (.goto 6, 3) := by decide +kernel
theorem dX10_of_165 : decode cX10_of 165 = .ok (.sipush (-10001), 3) := by decide +kernel
theorem dX10_of_168 : decode cX10_of 168 = .ok (.ireturn, 1) := by decide +kernel
theorem dX10_set_0 : decode cX10_set 0 = .ok (.aload_n 0, 1) := by decide +kernel
theorem dX10_set_1 : decode cX10_set 1 = .ok (.iload_n 1, 1) := by decide +kernel
theorem dX10_set_2 : decode cX10_set 2 = .ok (.invokevirtual 105, 3) := by decide +kernel
theorem dX10_set_5 : decode cX10_set 5 = .ok (.ifCond .eq 11, 3) := by decide +kernel
theorem dX10_set_8 : decode cX10_set 8 = .ok (.iload_n 2, 1) := by decide +kernel
theorem dX10_set_9 : decode cX10_set 9 = .ok (.iconst 2, 1) := by decide +kernel
theorem dX10_set_10 : decode cX10_set 10 = .ok (.invokestatic 85, 3) := by decide +kernel
theorem dX10_set_13 : decode cX10_set 13 = .ok (.ifCond .ne 5, 3) := by decide +kernel
theorem dX10_set_16 : decode cX10_set 16 = .ok (.iconst (-1), 1) := by decide +kernel
theorem dX10_set_17 : decode cX10_set 17 = .ok (.ireturn, 1) := by decide +kernel
theorem dX10_set_18 : decode cX10_set 18 = .ok (.iload_n 3, 1) := by decide +kernel
theorem dX10_set_19 : decode cX10_set 19 = .ok (.sipush 4095, 3) := by decide +kernel
theorem dX10_set_22 : decode cX10_set 22 = .ok (.invokestatic 89, 3) := by decide +kernel
theorem dX10_set_25 : decode cX10_set 25 = .ok (.ifCond .ne 6, 3) := by decide +kernel
theorem dX10_set_28 : decode cX10_set 28 = .ok (.bipush (-2), 2) := by decide +kernel
theorem dX10_set_30 : decode cX10_set 30 = .ok (.ireturn, 1) := by decide +kernel
theorem dX10_set_31 : decode cX10_set 31 = .ok (.aload_n 0, 1) := by decide +kernel
theorem dX10_set_32 : decode cX10_set 32 = .ok (.getfield 23, 3) := by decide +kernel
theorem dX10_set_35 : decode cX10_set 35 = .ok (.getfield 77, 3) := by decide +kernel
theorem dX10_set_38 : decode cX10_set 38 = .ok (.iload_n 1, 1) := by decide +kernel
theorem dX10_set_39 : decode cX10_set 39 = .ok (.aaload, 1) := by decide +kernel
theorem dX10_set_40 : decode cX10_set 40 = .ok (.astore 4, 2) := by decide +kernel
theorem dX10_set_42 : decode cX10_set 42 = .ok (.iload_n 2, 1) := by decide +kernel
theorem dX10_set_43 : decode cX10_set 43 = .ok (.ifCond .ne 11, 3) := by decide +kernel
theorem dX10_set_46 : decode cX10_set 46 = .ok (.aload 4, 2) := by decide +kernel
theorem dX10_set_48 : decode cX10_set 48 = .ok (.getfield 115, 3) := by decide +kernel
theorem dX10_set_51 : decode cX10_set 51 = .ok (.goto 8, 3) := by decide +kernel
theorem dX10_set_54 : decode cX10_set 54 = .ok (.aload 4, 2) := by decide +kernel
theorem dX10_set_56 : decode cX10_set 56 = .ok (.getfield 118, 3) := by decide +kernel
theorem dX10_set_59 : decode cX10_set 59 = .ok (.istore 5, 2) := by decide +kernel
theorem dX10_set_61 : decode cX10_set 61 = .ok (.iload_n 2, 1) := by decide +kernel
theorem dX10_set_62 : decode cX10_set 62 = .ok (.ifCond .ne 12, 3) := by decide +kernel
theorem dX10_set_65 : decode cX10_set 65 = .ok (.aload 4, 2) := by decide +kernel
theorem dX10_set_67 : decode cX10_set 67 = .ok (.iload_n 3, 1) := by decide +kernel
theorem dX10_set_68 : decode cX10_set 68 = .ok (.putfield 115, 3) := by decide +kernel
theorem dX10_set_71 : decode cX10_set 71 = .ok (.goto 9, 3) := by decide +kernel
theorem dX10_set_74 : decode cX10_set 74 = .ok (.aload 4, 2) := by decide +kernel
theorem dX10_set_76 : decode cX10_set 76 = .ok (.iload_n 3, 1) := by decide +kernel
theorem dX10_set_77 : decode cX10_set 77 = .ok (.putfield 118, 3) := by decide +kernel
theorem dX10_set_80 : decode cX10_set 80 = .ok (.iload 5, 2) := by decide +kernel
theorem dX10_set_82 : decode cX10_set 82 = .ok (.ireturn, 1) := by decide +kernel
theorem dX10_weight_0 : decode cX10_weight 0 = .ok (.iload_n 1, 1) := by decide +kernel
theorem dX10_weight_1 : decode cX10_weight 1 = .ok (.invokestatic 143, 3) := by decide +kernel
theorem dX10_weight_4 : decode cX10_weight 4 = .ok (.ifCond .ne 5, 3) := by decide +kernel
theorem dX10_weight_7 : decode cX10_weight 7 = .ok (.iconst (-1), 1) := by decide +kernel
theorem dX10_weight_8 : decode cX10_weight 8 = .ok (.ireturn, 1) := by decide +kernel
theorem dX10_weight_9 : decode cX10_weight 9 = .ok (.iload_n 2, 1) := by decide +kernel
theorem dX10_weight_10 : decode cX10_weight 10 = .ok (.bipush 9, 2) := by decide +kernel
theorem dX10_weight_12 : decode cX10_weight 12 = .ok (.invokestatic 89, 3) := by decide +kernel
theorem dX10_weight_15 : decode cX10_weight 15 = .ok (.ifCond .ne 6, 3) := by decide +kernel
theorem dX10_weight_18 : decode cX10_weight 18 = .ok (.bipush (-2), 2) := by decide +kernel
theorem dX10_weight_20 : decode cX10_weight 20 = .ok (.ireturn, 1) := by decide +kernel
theorem dX10_weight_21 : decode cX10_weight 21 = .ok (.aload_n 0, 1) := by decide +kernel
theorem dX10_weight_22 : decode cX10_weight 22 = .ok (.getfield 23, 3) := by decide +kernel
theorem dX10_weight_25 : decode cX10_weight 25 = .ok (.getfield 149, 3) := by decide +kernel
theorem dX10_weight_28 : decode cX10_weight 28 = .ok (.iload_n 1, 1) := by decide +kernel
theorem dX10_weight_29 : decode cX10_weight 29 = .ok (.iaload, 1) := by decide +kernel
theorem dX10_weight_30 : decode cX10_weight 30 = .ok (.istore_n 3, 1) := by decide +kernel
theorem dX10_weight_31 : decode cX10_weight 31 = .ok (.aload_n 0, 1) := by decide +kernel
theorem dX10_weight_32 : decode cX10_weight 32 = .ok (.getfield 23, 3) := by decide +kernel
theorem dX10_weight_35 : decode cX10_weight 35 = .ok (.getfield 149, 3) := by decide +kernel
theorem dX10_weight_38 : decode cX10_weight 38 = .ok (.iload_n 1, 1) := by decide +kernel
theorem dX10_weight_39 : decode cX10_weight 39 = .ok (.iload_n 2, 1) := by decide +kernel
theorem dX10_weight_40 : decode cX10_weight 40 = .ok (.iastore, 1) := by decide +kernel
theorem dX10_weight_41 : decode cX10_weight 41 = .ok (.iload_n 3, 1) := by decide +kernel
theorem dX10_weight_42 : decode cX10_weight 42 = .ok (.ireturn, 1) := by decide +kernel
theorem dX10_stay_0 : decode cX10_stay 0 = .ok (.aload_n 0, 1) := by decide +kernel
theorem dX10_stay_1 : decode cX10_stay 1 = .ok (.iload_n 1, 1) := by decide +kernel
theorem dX10_stay_2 : decode cX10_stay 2 = .ok (.invokevirtual 105, 3) := by decide +kernel
theorem dX10_stay_5 : decode cX10_stay 5 = .ok (.ifCond .ne 5, 3) := by decide +kernel
theorem dX10_stay_8 : decode cX10_stay 8 = .ok (.iconst (-1), 1) := by decide +kernel
theorem dX10_stay_9 : decode cX10_stay 9 = .ok (.ireturn, 1) := by decide +kernel
theorem dX10_stay_10 : decode cX10_stay 10 = .ok (.aload_n 0, 1) := by decide +kernel
theorem dX10_stay_11 : decode cX10_stay 11 = .ok (.getfield 23, 3) := by decide +kernel
theorem dX10_stay_14 : decode cX10_stay 14 = .ok (.getfield 77, 3) := by decide +kernel
theorem dX10_stay_17 : decode cX10_stay 17 = .ok (.iload_n 1, 1) := by decide +kernel
theorem dX10_stay_18 : decode cX10_stay 18 = .ok (.aaload, 1) := by decide +kernel
theorem dX10_stay_19 : decode cX10_stay 19 = .ok (.getfield 121, 3) := by decide +kernel
theorem dX10_stay_22 : decode cX10_stay 22 = .ok (.istore_n 3, 1) := by decide +kernel
theorem dX10_stay_23 : decode cX10_stay 23 = .ok (.aload_n 0, 1) := by decide +kernel
theorem dX10_stay_24 : decode cX10_stay 24 = .ok (.getfield 23, 3) := by decide +kernel
theorem dX10_stay_27 : decode cX10_stay 27 = .ok (.getfield 77, 3) := by decide +kernel
theorem dX10_stay_30 : decode cX10_stay 30 = .ok (.iload_n 1, 1) := by decide +kernel
theorem dX10_stay_31 : decode cX10_stay 31 = .ok (.aaload, 1) := by decide +kernel
theorem dX10_stay_32 : decode cX10_stay 32 = .ok (.iload_n 2, 1) := by decide +kernel
theorem dX10_stay_33 : decode cX10_stay 33 = .ok (.putfield 121, 3) := by decide +kernel
theorem dX10_stay_36 : decode cX10_stay 36 = .ok (.iload_n 3, 1) := by decide +kernel
theorem dX10_stay_37 : decode cX10_stay 37 = .ok (.ifCond .eq 7, 3) := by decide +kernel
theorem dX10_stay_40 : decode cX10_stay 40 = .ok (.iconst 1, 1) := by decide +kernel
theorem dX10_stay_41 : decode cX10_stay 41 = .ok (.goto 4, 3) := by decide +kernel
theorem dX10_stay_44 : decode cX10_stay 44 = .ok (.iconst 0, 1) := by decide +kernel
theorem dX10_stay_45 : decode cX10_stay 45 = .ok (.ireturn, 1) := by decide +kernel
theorem dX10_redeem_0 : decode cX10_redeem 0 = .ok (.aload_n 0, 1) := by decide +kernel
theorem dX10_redeem_1 : decode cX10_redeem 1 = .ok (.iload_n 1, 1) := by decide +kernel
theorem dX10_redeem_2 : decode cX10_redeem 2 = .ok (.invokevirtual 105, 3) := by decide +kernel
theorem dX10_redeem_5 : decode cX10_redeem 5 = .ok (.ifCond .eq 10, 3) := by decide +kernel
theorem dX10_redeem_8 : decode cX10_redeem 8 = .ok (.iload_n 2, 1) := by decide +kernel
theorem dX10_redeem_9 : decode cX10_redeem 9 = .ok (.invokestatic 143, 3) := by decide +kernel
theorem dX10_redeem_12 : decode cX10_redeem 12 = .ok (.ifCond .ne 5, 3) := by decide +kernel
theorem dX10_redeem_15 : decode cX10_redeem 15 = .ok (.iconst (-1), 1) := by decide +kernel
theorem dX10_redeem_16 : decode cX10_redeem 16 = .ok (.ireturn, 1) := by decide +kernel
theorem dX10_redeem_17 : decode cX10_redeem 17 = .ok (.aload_n 0, 1) := by decide +kernel
theorem dX10_redeem_18 : decode cX10_redeem 18 = .ok (.getfield 23, 3) := by decide +kernel
theorem dX10_redeem_21 : decode cX10_redeem 21 = .ok (.getfield 77, 3) := by decide +kernel
theorem dX10_redeem_24 : decode cX10_redeem 24 = .ok (.iload_n 1, 1) := by decide +kernel
theorem dX10_redeem_25 : decode cX10_redeem 25 = .ok (.aaload, 1) := by decide +kernel
theorem dX10_redeem_26 : decode cX10_redeem 26 = .ok (.astore_n 3, 1) := by decide +kernel
theorem dX10_redeem_27 : decode cX10_redeem 27 = .ok (.aload_n 3, 1) := by decide +kernel
theorem dX10_redeem_28 : decode cX10_redeem 28 = .ok (.invokevirtual 153, 3) := by decide +kernel
theorem dX10_redeem_31 : decode cX10_redeem 31 = .ok (.iload_n 2, 1) := by decide +kernel
theorem dX10_redeem_32 : decode cX10_redeem 32 = .ok (.invokestatic 157, 3) := by decide +kernel
theorem dX10_redeem_35 : decode cX10_redeem 35 = .ok (.ifCond .eq 15, 3) := by decide +kernel
theorem dX10_redeem_38 : decode cX10_redeem 38 = .ok (.aload_n 0, 1) := by decide +kernel
theorem dX10_redeem_39 : decode cX10_redeem 39 = .ok (.getfield 23, 3) := by decide +kernel
theorem dX10_redeem_42 : decode cX10_redeem 42 = .ok (.getfield 160, 3) := by decide +kernel
theorem dX10_redeem_45 : decode cX10_redeem 45 = .ok (.iload_n 2, 1) := by decide +kernel
theorem dX10_redeem_46 : decode cX10_redeem 46 = .ok (.iaload, 1) := by decide +kernel
theorem dX10_redeem_47 : decode cX10_redeem 47 = .ok (.ifCond .gt 6, 3) := by decide +kernel
theorem dX10_redeem_50 : decode cX10_redeem 50 = .ok (.bipush (-3), 2) := by decide +kernel
theorem dX10_redeem_52 : decode cX10_redeem 52 = .ok (.ireturn, 1) := by decide +kernel
theorem dX10_redeem_53 : decode cX10_redeem 53 = .ok (.aload_n 3, 1) := by decide +kernel
theorem dX10_redeem_54 : decode cX10_redeem 54 = .ok (.dup, 1) := by decide +kernel
theorem dX10_redeem_55 : decode cX10_redeem 55 = .ok (.getfield 115, 3) := by decide +kernel
theorem dX10_redeem_58 : decode cX10_redeem 58 = .ok (.iconst 1, 1) := by decide +kernel
theorem dX10_redeem_59 : decode cX10_redeem 59 = .ok (.iload_n 2, 1) := by decide +kernel
theorem dX10_redeem_60 : decode cX10_redeem 60 = .ok (.ishl, 1) := by decide +kernel
theorem dX10_redeem_61 : decode cX10_redeem 61 = .ok (.ior, 1) := by decide +kernel
theorem dX10_redeem_62 : decode cX10_redeem 62 = .ok (.putfield 115, 3) := by decide +kernel
theorem dX10_redeem_65 : decode cX10_redeem 65 = .ok (.aload_n 3, 1) := by decide +kernel
theorem dX10_redeem_66 : decode cX10_redeem 66 = .ok (.dup, 1) := by decide +kernel
theorem dX10_redeem_67 : decode cX10_redeem 67 = .ok (.getfield 118, 3) := by decide +kernel
theorem dX10_redeem_70 : decode cX10_redeem 70 = .ok (.iconst 1, 1) := by decide +kernel
theorem dX10_redeem_71 : decode cX10_redeem 71 = .ok (.iload_n 2, 1) := by decide +kernel
theorem dX10_redeem_72 : decode cX10_redeem 72 = .ok (.ishl, 1) := by decide +kernel
theorem dX10_redeem_73 : decode cX10_redeem 73 = .ok (.iconst (-1), 1) := by decide +kernel
theorem dX10_redeem_74 : decode cX10_redeem 74 = .ok (.ixor, 1) := by decide +kernel
theorem dX10_redeem_75 : decode cX10_redeem 75 = .ok (.iand, 1) := by decide +kernel
theorem dX10_redeem_76 : decode cX10_redeem 76 = .ok (.putfield 118, 3) := by decide +kernel
theorem dX10_redeem_79 : decode cX10_redeem 79 = .ok (.aload_n 0, 1) := by decide +kernel
theorem dX10_redeem_80 : decode cX10_redeem 80 = .ok (.getfield 23, 3) := by decide +kernel
theorem dX10_redeem_83 : decode cX10_redeem 83 = .ok (.getfield 160, 3) := by decide +kernel
theorem dX10_redeem_86 : decode cX10_redeem 86 = .ok (.iload_n 2, 1) := by decide +kernel
theorem dX10_redeem_87 : decode cX10_redeem 87 = .ok (.dup2, 1) := by decide +kernel
theorem dX10_redeem_88 : decode cX10_redeem 88 = .ok (.iaload, 1) := by decide +kernel
theorem dX10_redeem_89 : decode cX10_redeem 89 = .ok (.iconst 1, 1) := by decide +kernel
theorem dX10_redeem_90 : decode cX10_redeem 90 = .ok (.isub, 1) := by decide +kernel
theorem dX10_redeem_91 : decode cX10_redeem 91 = .ok (.iastore, 1) := by decide +kernel
theorem dX10_redeem_92 : decode cX10_redeem 92 = .ok (.aload_n 0, 1) := by decide +kernel
theorem dX10_redeem_93 : decode cX10_redeem 93 = .ok (.getfield 23, 3) := by decide +kernel
theorem dX10_redeem_96 : decode cX10_redeem 96 = .ok (.getfield 160, 3) := by decide +kernel
theorem dX10_redeem_99 : decode cX10_redeem 99 = .ok (.iload_n 2, 1) := by decide +kernel
theorem dX10_redeem_100 : decode cX10_redeem 100 = .ok (.iaload, 1) := by decide +kernel
theorem dX10_redeem_101 : decode cX10_redeem 101 = .ok (.ireturn, 1) := by decide +kernel
theorem dX10_row_0 : decode cX10_row 0 = .ok (.aload_n 0, 1) := by decide +kernel
theorem dX10_row_1 : decode cX10_row 1 = .ok (.iload_n 1, 1) := by decide +kernel
theorem dX10_row_2 : decode cX10_row 2 = .ok (.invokevirtual 105, 3) := by decide +kernel
theorem dX10_row_5 : decode cX10_row 5 = .ok (.ifCond .eq 11, 3) := by decide +kernel
theorem dX10_row_8 : decode cX10_row 8 = .ok (.iload_n 2, 1) := by decide +kernel
theorem dX10_row_9 : decode cX10_row 9 = .ok (.iconst 4, 1) := by decide +kernel
theorem dX10_row_10 : decode cX10_row 10 = .ok (.invokestatic 85, 3) := by decide +kernel
theorem dX10_row_13 : decode cX10_row 13 = .ok (.ifCond .ne 5, 3) := by decide +kernel
theorem dX10_row_16 : decode cX10_row 16 = .ok (.iconst (-1), 1) := by decide +kernel
theorem dX10_row_17 : decode cX10_row 17 = .ok (.ireturn, 1) := by decide +kernel
theorem dX10_row_18 : decode cX10_row 18 = .ok (.iload_n 3, 1) := by decide +kernel
theorem dX10_row_19 : decode cX10_row 19 = .ok (.bipush 9, 2) := by decide +kernel
theorem dX10_row_21 : decode cX10_row 21 = .ok (.invokestatic 89, 3) := by decide +kernel
theorem dX10_row_24 : decode cX10_row 24 = .ok (.ifCond .ne 6, 3) := by decide +kernel
theorem dX10_row_27 : decode cX10_row 27 = .ok (.bipush (-2), 2) := by decide +kernel
theorem dX10_row_29 : decode cX10_row 29 = .ok (.ireturn, 1) := by decide +kernel
theorem dX10_row_30 : decode cX10_row 30 = .ok (.aload_n 0, 1) := by decide +kernel
theorem dX10_row_31 : decode cX10_row 31 = .ok (.getfield 23, 3) := by decide +kernel
theorem dX10_row_34 : decode cX10_row 34 = .ok (.getfield 77, 3) := by decide +kernel
theorem dX10_row_37 : decode cX10_row 37 = .ok (.iload_n 1, 1) := by decide +kernel
theorem dX10_row_38 : decode cX10_row 38 = .ok (.aaload, 1) := by decide +kernel
theorem dX10_row_39 : decode cX10_row 39 = .ok (.astore 4, 2) := by decide +kernel
theorem dX10_row_41 : decode cX10_row 41 = .ok (.aload 4, 2) := by decide +kernel
theorem dX10_row_43 : decode cX10_row 43 = .ok (.getfield 109, 3) := by decide +kernel
theorem dX10_row_46 : decode cX10_row 46 = .ok (.bipush 6, 2) := by decide +kernel
theorem dX10_row_48 : decode cX10_row 48 = .ok (.if_icmp .eq 6, 3) := by decide +kernel
theorem dX10_row_51 : decode cX10_row 51 = .ok (.bipush (-3), 2) := by decide +kernel
theorem dX10_row_53 : decode cX10_row 53 = .ok (.ireturn, 1) := by decide +kernel
theorem dX10_row_54 : decode cX10_row 54 = .ok (.aload 4, 2) := by decide +kernel
theorem dX10_row_56 : decode cX10_row 56 = .ok (.getfield 163, 3) := by decide +kernel
theorem dX10_row_59 : decode cX10_row 59 = .ok (.iload_n 2, 1) := by decide +kernel
theorem dX10_row_60 : decode cX10_row 60 = .ok (.iaload, 1) := by decide +kernel
theorem dX10_row_61 : decode cX10_row 61 = .ok (.istore 5, 2) := by decide +kernel
theorem dX10_row_63 : decode cX10_row 63 = .ok (.aload 4, 2) := by decide +kernel
theorem dX10_row_65 : decode cX10_row 65 = .ok (.getfield 163, 3) := by decide +kernel
theorem dX10_row_68 : decode cX10_row 68 = .ok (.iload_n 2, 1) := by decide +kernel
theorem dX10_row_69 : decode cX10_row 69 = .ok (.iload_n 3, 1) := by decide +kernel
theorem dX10_row_70 : decode cX10_row 70 = .ok (.iastore, 1) := by decide +kernel
theorem dX10_row_71 : decode cX10_row 71 = .ok (.iload 5, 2) := by decide +kernel
theorem dX10_row_73 : decode cX10_row 73 = .ok (.ireturn, 1) := by decide +kernel
theorem dX10_feed_0 : decode cX10_feed 0 = .ok (.iload_n 1, 1) := by decide +kernel
theorem dX10_feed_1 : decode cX10_feed 1 = .ok (.bipush 127, 2) := by decide +kernel
theorem dX10_feed_3 : decode cX10_feed 3 = .ok (.invokestatic 89, 3) := by decide +kernel
theorem dX10_feed_6 : decode cX10_feed 6 = .ok (.ifCond .ne 6, 3) := by decide +kernel
theorem dX10_feed_9 : decode cX10_feed 9 = .ok (.bipush (-2), 2) := by decide +kernel
theorem dX10_feed_11 : decode cX10_feed 11 = .ok (.ireturn, 1) := by decide +kernel
theorem dX10_feed_12 : decode cX10_feed 12 = .ok (.aload_n 0, 1) := by decide +kernel
theorem dX10_feed_13 : decode cX10_feed 13 = .ok (.getfield 36, 3) := by decide +kernel
theorem dX10_feed_16 : decode cX10_feed 16 = .ok (.iload_n 1, 1) := by decide +kernel
theorem dX10_feed_17 : decode cX10_feed 17 = .ok (.invokevirtual 166, 3) := by decide +kernel
theorem dX10_feed_20 : decode cX10_feed 20 = .ok (.ifCond .eq 13, 3) := by decide +kernel
theorem dX10_feed_23 : decode cX10_feed 23 = .ok (.aload_n 0, 1) := by decide +kernel
theorem dX10_feed_24 : decode cX10_feed 24 = .ok (.getfield 36, 3) := by decide +kernel
theorem dX10_feed_27 : decode cX10_feed 27 = .ok (.getfield 169, 3) := by decide +kernel
theorem dX10_feed_30 : decode cX10_feed 30 = .ok (.goto 5, 3) := by decide +kernel
theorem dX10_feed_33 : decode cX10_feed 33 = .ok (.bipush (-4), 2) := by decide +kernel
theorem dX10_feed_35 : decode cX10_feed 35 = .ok (.ireturn, 1) := by decide +kernel
theorem dX10_house_0 : decode cX10_house 0 = .ok (.aload_n 0, 1) := by decide +kernel
theorem dX10_house_1 : decode cX10_house 1 = .ok (.getfield 172, 3) := by decide +kernel
theorem dX10_house_4 : decode cX10_house 4 = .ok (.bipush 6, 2) := by decide +kernel
theorem dX10_house_6 : decode cX10_house 6 = .ok (.if_icmp .lt 6, 3) := by decide +kernel
theorem dX10_house_9 : decode cX10_house 9 = .ok (.bipush (-4), 2) := by decide +kernel
theorem dX10_house_11 : decode cX10_house 11 = .ok (.ireturn, 1) := by decide +kernel
theorem dX10_house_12 : decode cX10_house 12 = .ok (.aload_n 0, 1) := by decide +kernel
theorem dX10_house_13 : decode cX10_house 13 = .ok (.getfield 40, 3) := by decide +kernel
theorem dX10_house_16 : decode cX10_house 16 = .ok (.aload_n 0, 1) := by decide +kernel
theorem dX10_house_17 : decode cX10_house 17 = .ok (.getfield 172, 3) := by decide +kernel
theorem dX10_house_20 : decode cX10_house 20 = .ok (.aaload, 1) := by decide +kernel
theorem dX10_house_21 : decode cX10_house 21 = .ok (.astore_n 1, 1) := by decide +kernel
theorem dX10_house_22 : decode cX10_house 22 = .ok (.aload_n 0, 1) := by decide +kernel
theorem dX10_house_23 : decode cX10_house 23 = .ok (.getfield 36, 3) := by decide +kernel
theorem dX10_house_26 : decode cX10_house 26 = .ok (.aload_n 1, 1) := by decide +kernel
theorem dX10_house_27 : decode cX10_house 27 = .ok (.invokevirtual 175, 3) := by decide +kernel
theorem dX10_house_30 : decode cX10_house 30 = .ok (.istore_n 2, 1) := by decide +kernel
theorem dX10_house_31 : decode cX10_house 31 = .ok (.aload_n 0, 1) := by decide +kernel
theorem dX10_house_32 : decode cX10_house 32 = .ok (.getfield 36, 3) := by decide +kernel
theorem dX10_house_35 : decode cX10_house 35 = .ok (.iconst 0, 1) := by decide +kernel
theorem dX10_house_36 : decode cX10_house 36 = .ok (.putfield 169, 3) := by decide +kernel
theorem dX10_house_39 : decode cX10_house 39 = .ok (.iload_n 2, 1) := by decide +kernel
theorem dX10_house_40 : decode cX10_house 40 = .ok (.ifCond .ne 14, 3) := by decide +kernel
theorem dX10_house_43 : decode cX10_house 43 = .ok (.bipush (-10), 2) := by decide +kernel
theorem dX10_house_45 : decode cX10_house 45 = .ok (.aload_n 0, 1) := by decide +kernel
theorem dX10_house_46 : decode cX10_house 46 = .ok (.getfield 36, 3) := by decide +kernel
theorem dX10_house_49 : decode cX10_house 49 = .ok (.getfield 179, 3) := by decide +kernel
theorem dX10_house_52 : decode cX10_house 52 = .ok (.isub, 1) := by decide +kernel
theorem dX10_house_53 : decode cX10_house 53 = .ok (.ireturn, 1) := by decide +kernel
theorem dX10_house_54 : decode cX10_house 54 = .ok (.aload_n 0, 1) := by decide +kernel
theorem dX10_house_55 : decode cX10_house 55 = .ok (.getfield 23, 3) := by decide +kernel
theorem dX10_house_58 : decode cX10_house 58 = .ok (.aload_n 1, 1) := by decide +kernel
theorem dX10_house_59 : decode cX10_house 59 = .ok (.putfield 182, 3) := by decide +kernel
theorem dX10_house_62 : decode cX10_house 62 = .ok (.aload_n 0, 1) := by decide +kernel
theorem dX10_house_63 : decode cX10_house 63 = .ok (.dup, 1) := by decide +kernel
theorem dX10_house_64 : decode cX10_house 64 = .ok (.getfield 172, 3) := by decide +kernel
theorem dX10_house_67 : decode cX10_house 67 = .ok (.iconst 1, 1) := by decide +kernel
theorem dX10_house_68 : decode cX10_house 68 = .ok (.iadd, 1) := by decide +kernel
theorem dX10_house_69 : decode cX10_house 69 = .ok (.putfield 172, 3) := by decide +kernel
theorem dX10_house_72 : decode cX10_house 72 = .ok (.aload_n 0, 1) := by decide +kernel
theorem dX10_house_73 : decode cX10_house 73 = .ok (.getfield 172, 3) := by decide +kernel
theorem dX10_house_76 : decode cX10_house 76 = .ok (.iconst 1, 1) := by decide +kernel
theorem dX10_house_77 : decode cX10_house 77 = .ok (.isub, 1) := by decide +kernel
theorem dX10_house_78 : decode cX10_house 78 = .ok (.ireturn, 1) := by decide +kernel
theorem dX10_told_0 : decode cX10_told 0 = .ok (.iload_n 1, 1) := by decide +kernel
theorem dX10_told_1 : decode cX10_told 1 = .ok (.tableswitch 82 0 4 #[35, 43, 54, 62, 74], 35) := by decide +kernel
theorem dX10_told_36 : decode cX10_told 36 = .ok (.aload_n 0, 1) := by decide +kernel
theorem dX10_told_37 : decode cX10_told 37 = .ok (.getfield 23, 3) := by decide +kernel
theorem dX10_told_40 : decode cX10_told 40 = .ok (.getfield 129, 3) := by decide +kernel
theorem dX10_told_43 : decode cX10_told 43 = .ok (.ireturn, 1) := by decide +kernel
theorem dX10_told_44 : decode cX10_told 44 = .ok (.aload_n 0, 1) := by decide +kernel
theorem dX10_told_45 : decode cX10_told 45 = .ok (.getfield 23, 3) := by decide +kernel
theorem dX10_told_48 : decode cX10_told 48 = .ok (.getfield 182, 3) := by decide +kernel
theorem dX10_told_51 : decode cX10_told 51 = .ok (.getfield 185, 3) := by decide +kernel
theorem dX10_told_54 : decode cX10_told 54 = .ok (.ireturn, 1) := by decide +kernel
theorem dX10_told_55 : decode cX10_told 55 = .ok (.aload_n 0, 1) := by decide +kernel
theorem dX10_told_56 : decode cX10_told 56 = .ok (.getfield 23, 3) := by decide +kernel
theorem dX10_told_59 : decode cX10_told 59 = .ok (.invokevirtual 188, 3) := by decide +kernel
theorem dX10_told_62 : decode cX10_told 62 = .ok (.ireturn, 1) := by decide +kernel
theorem dX10_told_63 : decode cX10_told 63 = .ok (.aload_n 0, 1) := by decide +kernel
theorem dX10_told_64 : decode cX10_told 64 = .ok (.getfield 60, 3) := by decide +kernel
theorem dX10_told_67 : decode cX10_told 67 = .ok (.aload_n 0, 1) := by decide +kernel
theorem dX10_told_68 : decode cX10_told 68 = .ok (.getfield 23, 3) := by decide +kernel
theorem dX10_told_71 : decode cX10_told 71 = .ok (.invokevirtual 191, 3) := by decide +kernel
theorem dX10_told_74 : decode cX10_told 74 = .ok (.ireturn, 1) := by decide +kernel
theorem dX10_told_75 : decode cX10_told 75 = .ok (.aload_n 0, 1) := by decide +kernel
theorem dX10_told_76 : decode cX10_told 76 = .ok (.getfield 23, 3) := by decide +kernel
theorem dX10_told_79 : decode cX10_told 79 = .ok (.invokevirtual 195, 3) := by decide +kernel
theorem dX10_told_82 : decode cX10_told 82 = .ok (.ireturn, 1) := by decide +kernel
theorem dX10_told_83 : decode cX10_told 83 = .ok (.iload_n 1, 1) := by decide +kernel
theorem dX10_told_84 : decode cX10_told 84 = .ok (.bipush 10, 2) := by decide +kernel
theorem dX10_told_86 : decode cX10_told 86 = .ok (.isub, 1) := by decide +kernel
theorem dX10_told_87 : decode cX10_told 87 = .ok (.invokestatic 143, 3) := by decide +kernel
theorem dX10_told_90 : decode cX10_told 90 = .ok (.ifCond .eq 16, 3) := by decide +kernel
theorem dX10_told_93 : decode cX10_told 93 = .ok (.aload_n 0, 1) := by decide +kernel
theorem dX10_told_94 : decode cX10_told 94 = .ok (.getfield 23, 3) := by decide +kernel
theorem dX10_told_97 : decode cX10_told 97 = .ok (.getfield 160, 3) := by decide +kernel
theorem dX10_told_100 : decode cX10_told 100 = .ok (.iload_n 1, 1) := by decide +kernel
theorem dX10_told_101 : decode cX10_told 101 = .ok (.bipush 10, 2) := by decide +kernel
theorem dX10_told_103 : decode cX10_told 103 = .ok (.isub, 1) := by decide +kernel
theorem dX10_told_104 : decode cX10_told 104 = .ok (.iaload, 1) := by decide +kernel
theorem dX10_told_105 : decode cX10_told 105 = .ok (.ireturn, 1) := by decide +kernel
theorem dX10_told_106 : decode cX10_told 106 = .ok (.iload_n 1, 1) := by decide +kernel
theorem dX10_told_107 : decode cX10_told 107 = .ok (.bipush 30, 2) := by decide +kernel
theorem dX10_told_109 : decode cX10_told 109 = .ok (.isub, 1) := by decide +kernel
theorem dX10_told_110 : decode cX10_told 110 = .ok (.invokestatic 143, 3) := by decide +kernel
theorem dX10_told_113 : decode cX10_told 113 = .ok (.ifCond .eq 18, 3) := by decide +kernel
theorem dX10_told_116 : decode cX10_told 116 = .ok (.aload_n 0, 1) := by decide +kernel
theorem dX10_told_117 : decode cX10_told 117 = .ok (.getfield 23, 3) := by decide +kernel
theorem dX10_told_120 : decode cX10_told 120 = .ok (.getfield 149, 3) := by decide +kernel
theorem dX10_told_123 : decode cX10_told 123 = .ok (.iload_n 1, 1) := by decide +kernel
theorem dX10_told_124 : decode cX10_told 124 = .ok (.bipush 30, 2) := by decide +kernel
theorem dX10_told_126 : decode cX10_told 126 = .ok (.isub, 1) := by decide +kernel
theorem dX10_told_127 : decode cX10_told 127 = .ok (.iaload, 1) := by decide +kernel
theorem dX10_told_128 : decode cX10_told 128 = .ok (.goto 4, 3) := by decide +kernel
theorem dX10_told_131 : decode cX10_told 131 = .ok (.iconst (-1), 1) := by decide +kernel
theorem dX10_told_132 : decode cX10_told 132 = .ok (.ireturn, 1) := by decide +kernel
theorem dX10_pass_0 : decode cX10_pass 0 = .ok (.iload_n 1, 1) := by decide +kernel
theorem dX10_pass_1 : decode cX10_pass 1 = .ok (.bipush 60, 2) := by decide +kernel
theorem dX10_pass_3 : decode cX10_pass 3 = .ok (.invokestatic 89, 3) := by decide +kernel
theorem dX10_pass_6 : decode cX10_pass 6 = .ok (.ifCond .ne 6, 3) := by decide +kernel
theorem dX10_pass_9 : decode cX10_pass 9 = .ok (.bipush (-2), 2) := by decide +kernel
theorem dX10_pass_11 : decode cX10_pass 11 = .ok (.ireturn, 1) := by decide +kernel
theorem dX10_pass_12 : decode cX10_pass 12 = .ok (.aload_n 0, 1) := by decide +kernel
theorem dX10_pass_13 : decode cX10_pass 13 = .ok (.getfield 23, 3) := by decide +kernel
theorem dX10_pass_16 : decode cX10_pass 16 = .ok (.getfield 129, 3) := by decide +kernel
theorem dX10_pass_19 : decode cX10_pass 19 = .ok (.iload_n 1, 1) := by decide +kernel
theorem dX10_pass_20 : decode cX10_pass 20 = .ok (.iadd, 1) := by decide +kernel
theorem dX10_pass_21 : decode cX10_pass 21 = .ok (.sipush 9999, 3) := by decide +kernel
theorem dX10_pass_24 : decode cX10_pass 24 = .ok (.if_icmp .le 6, 3) := by decide +kernel
theorem dX10_pass_27 : decode cX10_pass 27 = .ok (.bipush (-3), 2) := by decide +kernel
theorem dX10_pass_29 : decode cX10_pass 29 = .ok (.ireturn, 1) := by decide +kernel
theorem dX10_pass_30 : decode cX10_pass 30 = .ok (.aload_n 0, 1) := by decide +kernel
theorem dX10_pass_31 : decode cX10_pass 31 = .ok (.aload_n 0, 1) := by decide +kernel
theorem dX10_pass_32 : decode cX10_pass 32 = .ok (.getfield 23, 3) := by decide +kernel
theorem dX10_pass_35 : decode cX10_pass 35 = .ok (.invokevirtual 198, 3) := by decide +kernel
theorem dX10_pass_38 : decode cX10_pass 38 = .ok (.iconst 0, 1) := by decide +kernel
theorem dX10_pass_39 : decode cX10_pass 39 = .ok (.istore_n 2, 1) := by decide +kernel
theorem dX10_pass_40 : decode cX10_pass 40 = .ok (.iload_n 2, 1) := by decide +kernel
theorem dX10_pass_41 : decode cX10_pass 41 = .ok (.iload_n 1, 1) := by decide +kernel
theorem dX10_pass_42 : decode cX10_pass 42 = .ok (.if_icmp .ge 17, 3) := by decide +kernel
theorem dX10_pass_45 : decode cX10_pass 45 = .ok (.aload_n 0, 1) := by decide +kernel
theorem dX10_pass_46 : decode cX10_pass 46 = .ok (.aload_n 0, 1) := by decide +kernel
theorem dX10_pass_47 : decode cX10_pass 47 = .ok (.getfield 23, 3) := by decide +kernel
theorem dX10_pass_50 : decode cX10_pass 50 = .ok (.invokevirtual 202, 3) := by decide +kernel
theorem dX10_pass_53 : decode cX10_pass 53 = .ok (.iinc 2 1, 3) := by decide +kernel
theorem dX10_pass_56 : decode cX10_pass 56 = .ok (.goto (-16), 3) := by decide +kernel
theorem dX10_pass_59 : decode cX10_pass 59 = .ok (.aload_n 0, 1) := by decide +kernel
theorem dX10_pass_60 : decode cX10_pass 60 = .ok (.getfield 23, 3) := by decide +kernel
theorem dX10_pass_63 : decode cX10_pass 63 = .ok (.getfield 129, 3) := by decide +kernel
theorem dX10_pass_66 : decode cX10_pass 66 = .ok (.ireturn, 1) := by decide +kernel
theorem dX10_on_0 : decode cX10_on 0 = .ok (.aload_n 0, 1) := by decide +kernel
theorem dX10_on_1 : decode cX10_on 1 = .ok (.iload_n 2, 1) := by decide +kernel
theorem dX10_on_2 : decode cX10_on 2 = .ok (.bipush 30, 2) := by decide +kernel
theorem dX10_on_4 : decode cX10_on 4 = .ok (.isub, 1) := by decide +kernel
theorem dX10_on_5 : decode cX10_on 5 = .ok (.invokevirtual 105, 3) := by decide +kernel
theorem dX10_on_8 : decode cX10_on 8 = .ok (.istore_n 3, 1) := by decide +kernel
theorem dX10_on_9 : decode cX10_on 9 = .ok (.iload_n 2, 1) := by decide +kernel
theorem dX10_on_10 : decode cX10_on 10 = .ok (.bipush 10, 2) := by decide +kernel
theorem dX10_on_12 : decode cX10_on 12 = .ok (.isub, 1) := by decide +kernel
theorem dX10_on_13 : decode cX10_on 13 = .ok (.invokestatic 143, 3) := by decide +kernel
theorem dX10_on_16 : decode cX10_on 16 = .ok (.istore 4, 2) := by decide +kernel
theorem dX10_on_18 : decode cX10_on 18 = .ok (.iload_n 2, 1) := by decide +kernel
theorem dX10_on_19 : decode cX10_on 19 = .ok (.ifCond .eq 14, 3) := by decide +kernel
theorem dX10_on_22 : decode cX10_on 22 = .ok (.iload 4, 2) := by decide +kernel
theorem dX10_on_24 : decode cX10_on 24 = .ok (.ifCond .ne 9, 3) := by decide +kernel
theorem dX10_on_27 : decode cX10_on 27 = .ok (.iload_n 3, 1) := by decide +kernel
theorem dX10_on_28 : decode cX10_on 28 = .ok (.ifCond .ne 5, 3) := by decide +kernel
theorem dX10_on_31 : decode cX10_on 31 = .ok (.iconst (-1), 1) := by decide +kernel
theorem dX10_on_32 : decode cX10_on 32 = .ok (.ireturn, 1) := by decide +kernel
theorem dX10_on_33 : decode cX10_on 33 = .ok (.iload_n 1, 1) := by decide +kernel
theorem dX10_on_34 : decode cX10_on 34 = .ok (.bipush 60, 2) := by decide +kernel
theorem dX10_on_36 : decode cX10_on 36 = .ok (.invokestatic 89, 3) := by decide +kernel
theorem dX10_on_39 : decode cX10_on 39 = .ok (.ifCond .ne 6, 3) := by decide +kernel
theorem dX10_on_42 : decode cX10_on 42 = .ok (.bipush (-2), 2) := by decide +kernel
theorem dX10_on_44 : decode cX10_on 44 = .ok (.ireturn, 1) := by decide +kernel
theorem dX10_on_45 : decode cX10_on 45 = .ok (.aload_n 0, 1) := by decide +kernel
theorem dX10_on_46 : decode cX10_on 46 = .ok (.iload_n 1, 1) := by decide +kernel
theorem dX10_on_47 : decode cX10_on 47 = .ok (.invokevirtual 205, 3) := by decide +kernel
theorem dX10_on_50 : decode cX10_on 50 = .ok (.astore 5, 2) := by decide +kernel
theorem dX10_on_52 : decode cX10_on 52 = .ok (.iload_n 3, 1) := by decide +kernel
theorem dX10_on_53 : decode cX10_on 53 = .ok (.ifCond .eq 17, 3) := by decide +kernel
theorem dX10_on_56 : decode cX10_on 56 = .ok (.aload 5, 2) := by decide +kernel
theorem dX10_on_58 : decode cX10_on 58 = .ok (.getfield 77, 3) := by decide +kernel
theorem dX10_on_61 : decode cX10_on 61 = .ok (.iload_n 2, 1) := by decide +kernel
theorem dX10_on_62 : decode cX10_on 62 = .ok (.bipush 30, 2) := by decide +kernel
theorem dX10_on_64 : decode cX10_on 64 = .ok (.isub, 1) := by decide +kernel
theorem dX10_on_65 : decode cX10_on 65 = .ok (.aaload, 1) := by decide +kernel
theorem dX10_on_66 : decode cX10_on 66 = .ok (.getfield 115, 3) := by decide +kernel
theorem dX10_on_69 : decode cX10_on 69 = .ok (.ireturn, 1) := by decide +kernel
theorem dX10_on_70 : decode cX10_on 70 = .ok (.iload 4, 2) := by decide +kernel
theorem dX10_on_72 : decode cX10_on 72 = .ok (.ifCond .eq 16, 3) := by decide +kernel
theorem dX10_on_75 : decode cX10_on 75 = .ok (.aload 5, 2) := by decide +kernel
theorem dX10_on_77 : decode cX10_on 77 = .ok (.getfield 160, 3) := by decide +kernel
theorem dX10_on_80 : decode cX10_on 80 = .ok (.iload_n 2, 1) := by decide +kernel
theorem dX10_on_81 : decode cX10_on 81 = .ok (.bipush 10, 2) := by decide +kernel
theorem dX10_on_83 : decode cX10_on 83 = .ok (.isub, 1) := by decide +kernel
theorem dX10_on_84 : decode cX10_on 84 = .ok (.iaload, 1) := by decide +kernel
theorem dX10_on_85 : decode cX10_on 85 = .ok (.goto 8, 3) := by decide +kernel
theorem dX10_on_88 : decode cX10_on 88 = .ok (.aload 5, 2) := by decide +kernel
theorem dX10_on_90 : decode cX10_on 90 = .ok (.invokevirtual 188, 3) := by decide +kernel
theorem dX10_on_93 : decode cX10_on 93 = .ok (.ireturn, 1) := by decide +kernel
theorem dX10_lasts_0 : decode cX10_lasts 0 = .ok (.aload_n 0, 1) := by decide +kernel
theorem dX10_lasts_1 : decode cX10_lasts 1 = .ok (.iload_n 1, 1) := by decide +kernel
theorem dX10_lasts_2 : decode cX10_lasts 2 = .ok (.invokevirtual 105, 3) := by decide +kernel
theorem dX10_lasts_5 : decode cX10_lasts 5 = .ok (.ifCond .eq 10, 3) := by decide +kernel
theorem dX10_lasts_8 : decode cX10_lasts 8 = .ok (.iload_n 2, 1) := by decide +kernel
theorem dX10_lasts_9 : decode cX10_lasts 9 = .ok (.invokestatic 143, 3) := by decide +kernel
theorem dX10_lasts_12 : decode cX10_lasts 12 = .ok (.ifCond .ne 5, 3) := by decide +kernel
theorem dX10_lasts_15 : decode cX10_lasts 15 = .ok (.iconst (-1), 1) := by decide +kernel
theorem dX10_lasts_16 : decode cX10_lasts 16 = .ok (.ireturn, 1) := by decide +kernel
theorem dX10_lasts_17 : decode cX10_lasts 17 = .ok (.aload_n 0, 1) := by decide +kernel
theorem dX10_lasts_18 : decode cX10_lasts 18 = .ok (.getfield 23, 3) := by decide +kernel
theorem dX10_lasts_21 : decode cX10_lasts 21 = .ok (.getfield 77, 3) := by decide +kernel
theorem dX10_lasts_24 : decode cX10_lasts 24 = .ok (.iload_n 1, 1) := by decide +kernel
theorem dX10_lasts_25 : decode cX10_lasts 25 = .ok (.aaload, 1) := by decide +kernel
theorem dX10_lasts_26 : decode cX10_lasts 26 = .ok (.astore_n 3, 1) := by decide +kernel
theorem dX10_lasts_27 : decode cX10_lasts 27 = .ok (.aload_n 3, 1) := by decide +kernel
theorem dX10_lasts_28 : decode cX10_lasts 28 = .ok (.getfield 115, 3) := by decide +kernel
theorem dX10_lasts_31 : decode cX10_lasts 31 = .ok (.iload_n 2, 1) := by decide +kernel
theorem dX10_lasts_32 : decode cX10_lasts 32 = .ok (.invokestatic 157, 3) := by decide +kernel
theorem dX10_lasts_35 : decode cX10_lasts 35 = .ok (.ifCond .ne 6, 3) := by decide +kernel
theorem dX10_lasts_38 : decode cX10_lasts 38 = .ok (.bipush (-5), 2) := by decide +kernel
theorem dX10_lasts_40 : decode cX10_lasts 40 = .ok (.ireturn, 1) := by decide +kernel
theorem dX10_lasts_41 : decode cX10_lasts 41 = .ok (.aload_n 0, 1) := by decide +kernel
theorem dX10_lasts_42 : decode cX10_lasts 42 = .ok (.aload_n 3, 1) := by decide +kernel
theorem dX10_lasts_43 : decode cX10_lasts 43 = .ok (.invokevirtual 125, 3) := by decide +kernel
theorem dX10_lasts_46 : decode cX10_lasts 46 = .ok (.astore 4, 2) := by decide +kernel
theorem dX10_lasts_48 : decode cX10_lasts 48 = .ok (.aload_n 3, 1) := by decide +kernel
theorem dX10_lasts_49 : decode cX10_lasts 49 = .ok (.getfield 115, 3) := by decide +kernel
theorem dX10_lasts_52 : decode cX10_lasts 52 = .ok (.istore 5, 2) := by decide +kernel
theorem dX10_lasts_54 : decode cX10_lasts 54 = .ok (.iconst 1, 1) := by decide +kernel
theorem dX10_lasts_55 : decode cX10_lasts 55 = .ok (.istore 6, 2) := by decide +kernel
theorem dX10_lasts_57 : decode cX10_lasts 57 = .ok (.iload 6, 2) := by decide +kernel
theorem dX10_lasts_59 : decode cX10_lasts 59 = .ok (.bipush 60, 2) := by decide +kernel
theorem dX10_lasts_61 : decode cX10_lasts 61 = .ok (.if_icmp .gt 47, 3) := by decide +kernel
theorem dX10_lasts_64 : decode cX10_lasts 64 = .ok (.iload 5, 2) := by decide +kernel
theorem dX10_lasts_66 : decode cX10_lasts 66 = .ok (.aload 4, 2) := by decide +kernel
theorem dX10_lasts_68 : decode cX10_lasts 68 = .ok (.iload 5, 2) := by decide +kernel
theorem dX10_lasts_70 : decode cX10_lasts 70 = .ok (.aload_n 0, 1) := by decide +kernel
theorem dX10_lasts_71 : decode cX10_lasts 71 = .ok (.getfield 23, 3) := by decide +kernel
theorem dX10_lasts_74 : decode cX10_lasts 74 = .ok (.getfield 129, 3) := by decide +kernel
theorem dX10_lasts_77 : decode cX10_lasts 77 = .ok (.iload 6, 2) := by decide +kernel
theorem dX10_lasts_79 : decode cX10_lasts 79 = .ok (.iadd, 1) := by decide +kernel
theorem dX10_lasts_80 : decode cX10_lasts 80 = .ok (.iconst 1, 1) := by decide +kernel
theorem dX10_lasts_81 : decode cX10_lasts 81 = .ok (.isub, 1) := by decide +kernel
theorem dX10_lasts_82 : decode cX10_lasts 82 = .ok (.invokevirtual 132, 3) := by decide +kernel
theorem dX10_lasts_85 : decode cX10_lasts 85 = .ok (.invokestatic 209, 3) := by decide +kernel
theorem dX10_lasts_88 : decode cX10_lasts 88 = .ok (.istore 5, 2) := by decide +kernel
theorem dX10_lasts_90 : decode cX10_lasts 90 = .ok (.iload 5, 2) := by decide +kernel
theorem dX10_lasts_92 : decode cX10_lasts 92 = .ok (.iload_n 2, 1) := by decide +kernel
theorem dX10_lasts_93 : decode cX10_lasts 93 = .ok (.invokestatic 157, 3) := by decide +kernel
theorem dX10_lasts_96 : decode cX10_lasts 96 = .ok (.ifCond .ne 6, 3) := by decide +kernel
theorem dX10_lasts_99 : decode cX10_lasts 99 = .ok (.iload 6, 2) := by decide +kernel
theorem dX10_lasts_101 : decode cX10_lasts 101 = .ok (.ireturn, 1) := by decide +kernel
theorem dX10_lasts_102 : decode cX10_lasts 102 = .ok (.iinc 6 1, 3) := by decide +kernel
theorem dX10_lasts_105 : decode cX10_lasts 105 = .ok (.goto (-48), 3) := by decide +kernel
theorem dX10_lasts_108 : decode cX10_lasts 108 = .ok (.bipush (-5), 2) := by decide +kernel
theorem dX10_lasts_110 : decode cX10_lasts 110 = .ok (.ireturn, 1) := by decide +kernel
theorem dX10_decoys_0 : decode cX10_decoys 0 = .ok (.aload_n 0, 1) := by decide +kernel
theorem dX10_decoys_1 : decode cX10_decoys 1 = .ok (.iload_n 1, 1) := by decide +kernel
theorem dX10_decoys_2 : decode cX10_decoys 2 = .ok (.invokevirtual 105, 3) := by decide +kernel
theorem dX10_decoys_5 : decode cX10_decoys 5 = .ok (.ifCond .eq 10, 3) := by decide +kernel
theorem dX10_decoys_8 : decode cX10_decoys 8 = .ok (.iload_n 2, 1) := by decide +kernel
theorem dX10_decoys_9 : decode cX10_decoys 9 = .ok (.invokestatic 143, 3) := by decide +kernel
theorem dX10_decoys_12 : decode cX10_decoys 12 = .ok (.ifCond .ne 5, 3) := by decide +kernel
theorem dX10_decoys_15 : decode cX10_decoys 15 = .ok (.iconst (-1), 1) := by decide +kernel
theorem dX10_decoys_16 : decode cX10_decoys 16 = .ok (.ireturn, 1) := by decide +kernel
theorem dX10_decoys_17 : decode cX10_decoys 17 = .ok (.iload_n 3, 1) := by decide +kernel
theorem dX10_decoys_18 : decode cX10_decoys 18 = .ok (.iconst 1, 1) := by decide +kernel
theorem dX10_decoys_19 : decode cX10_decoys 19 = .ok (.if_icmp .lt 9, 3) := by decide +kernel
theorem dX10_decoys_22 : decode cX10_decoys 22 = .ok (.iload_n 3, 1) := by decide +kernel
theorem dX10_decoys_23 : decode cX10_decoys 23 = .ok (.bipush 6, 2) := by decide +kernel
theorem dX10_decoys_25 : decode cX10_decoys 25 = .ok (.if_icmp .le 6, 3) := by decide +kernel
theorem dX10_decoys_28 : decode cX10_decoys 28 = .ok (.bipush (-2), 2) := by decide +kernel
theorem dX10_decoys_30 : decode cX10_decoys 30 = .ok (.ireturn, 1) := by decide +kernel
theorem dX10_decoys_31 : decode cX10_decoys 31 = .ok (.aload_n 0, 1) := by decide +kernel
theorem dX10_decoys_32 : decode cX10_decoys 32 = .ok (.getfield 23, 3) := by decide +kernel
theorem dX10_decoys_35 : decode cX10_decoys 35 = .ok (.getfield 77, 3) := by decide +kernel
theorem dX10_decoys_38 : decode cX10_decoys 38 = .ok (.iload_n 1, 1) := by decide +kernel
theorem dX10_decoys_39 : decode cX10_decoys 39 = .ok (.aaload, 1) := by decide +kernel
theorem dX10_decoys_40 : decode cX10_decoys 40 = .ok (.astore 4, 2) := by decide +kernel
theorem dX10_decoys_42 : decode cX10_decoys 42 = .ok (.aload 4, 2) := by decide +kernel
theorem dX10_decoys_44 : decode cX10_decoys 44 = .ok (.getfield 115, 3) := by decide +kernel
theorem dX10_decoys_47 : decode cX10_decoys 47 = .ok (.iload_n 2, 1) := by decide +kernel
theorem dX10_decoys_48 : decode cX10_decoys 48 = .ok (.invokestatic 157, 3) := by decide +kernel
theorem dX10_decoys_51 : decode cX10_decoys 51 = .ok (.ifCond .eq 14, 3) := by decide +kernel
theorem dX10_decoys_54 : decode cX10_decoys 54 = .ok (.aload_n 0, 1) := by decide +kernel
theorem dX10_decoys_55 : decode cX10_decoys 55 = .ok (.aload 4, 2) := by decide +kernel
theorem dX10_decoys_57 : decode cX10_decoys 57 = .ok (.iload_n 2, 1) := by decide +kernel
theorem dX10_decoys_58 : decode cX10_decoys 58 = .ok (.iload_n 3, 1) := by decide +kernel
theorem dX10_decoys_59 : decode cX10_decoys 59 = .ok (.invokevirtual 212, 3) := by decide +kernel
theorem dX10_decoys_62 : decode cX10_decoys 62 = .ok (.goto 5, 3) := by decide +kernel
theorem dX10_decoys_65 : decode cX10_decoys 65 = .ok (.bipush (-5), 2) := by decide +kernel
theorem dX10_decoys_67 : decode cX10_decoys 67 = .ok (.ireturn, 1) := by decide +kernel
theorem dX10_see_0 : decode cX10_see 0 = .ok (.iload_n 1, 1) := by decide +kernel
theorem dX10_see_1 : decode cX10_see 1 = .ok (.iconst (-1), 1) := by decide +kernel
theorem dX10_see_2 : decode cX10_see 2 = .ok (.if_icmp .ne 16, 3) := by decide +kernel
theorem dX10_see_5 : decode cX10_see 5 = .ok (.aload_n 0, 1) := by decide +kernel
theorem dX10_see_6 : decode cX10_see 6 = .ok (.getfield 23, 3) := by decide +kernel
theorem dX10_see_9 : decode cX10_see 9 = .ok (.getfield 216, 3) := by decide +kernel
theorem dX10_see_12 : decode cX10_see 12 = .ok (.iconst 0, 1) := by decide +kernel
theorem dX10_see_13 : decode cX10_see 13 = .ok (.putfield 220, 3) := by decide +kernel
theorem dX10_see_16 : decode cX10_see 16 = .ok (.iconst 0, 1) := by decide +kernel
theorem dX10_see_17 : decode cX10_see 17 = .ok (.ireturn, 1) := by decide +kernel
theorem dX10_see_18 : decode cX10_see 18 = .ok (.aload_n 0, 1) := by decide +kernel
theorem dX10_see_19 : decode cX10_see 19 = .ok (.iload_n 1, 1) := by decide +kernel
theorem dX10_see_20 : decode cX10_see 20 = .ok (.invokevirtual 105, 3) := by decide +kernel
theorem dX10_see_23 : decode cX10_see 23 = .ok (.ifCond .eq 10, 3) := by decide +kernel
theorem dX10_see_26 : decode cX10_see 26 = .ok (.iload_n 3, 1) := by decide +kernel
theorem dX10_see_27 : decode cX10_see 27 = .ok (.invokestatic 143, 3) := by decide +kernel
theorem dX10_see_30 : decode cX10_see 30 = .ok (.ifCond .ne 5, 3) := by decide +kernel
theorem dX10_see_33 : decode cX10_see 33 = .ok (.iconst (-1), 1) := by decide +kernel
theorem dX10_see_34 : decode cX10_see 34 = .ok (.ireturn, 1) := by decide +kernel
theorem dX10_see_35 : decode cX10_see 35 = .ok (.iload_n 2, 1) := by decide +kernel
theorem dX10_see_36 : decode cX10_see 36 = .ok (.bipush 12, 2) := by decide +kernel
theorem dX10_see_38 : decode cX10_see 38 = .ok (.invokestatic 89, 3) := by decide +kernel
theorem dX10_see_41 : decode cX10_see 41 = .ok (.ifCond .ne 6, 3) := by decide +kernel
theorem dX10_see_44 : decode cX10_see 44 = .ok (.bipush (-2), 2) := by decide +kernel
theorem dX10_see_46 : decode cX10_see 46 = .ok (.ireturn, 1) := by decide +kernel
theorem dX10_see_47 : decode cX10_see 47 = .ok (.aload_n 0, 1) := by decide +kernel
theorem dX10_see_48 : decode cX10_see 48 = .ok (.getfield 23, 3) := by decide +kernel
theorem dX10_see_51 : decode cX10_see 51 = .ok (.getfield 216, 3) := by decide +kernel
theorem dX10_see_54 : decode cX10_see 54 = .ok (.iload_n 1, 1) := by decide +kernel
theorem dX10_see_55 : decode cX10_see 55 = .ok (.iload_n 2, 1) := by decide +kernel
theorem dX10_see_56 : decode cX10_see 56 = .ok (.iload_n 3, 1) := by decide +kernel
theorem dX10_see_57 : decode cX10_see 57 = .ok (.iload 4, 2) := by decide +kernel
theorem dX10_see_59 : decode cX10_see 59 = .ok (.ifCond .eq 7, 3) := by decide +kernel
theorem dX10_see_62 : decode cX10_see 62 = .ok (.iconst 1, 1) := by decide +kernel
theorem dX10_see_63 : decode cX10_see 63 = .ok (.goto 4, 3) := by decide +kernel
theorem dX10_see_66 : decode cX10_see 66 = .ok (.iconst 0, 1) := by decide +kernel
theorem dX10_see_67 : decode cX10_see 67 = .ok (.invokevirtual 225, 3) := by decide +kernel
theorem dX10_see_70 : decode cX10_see 70 = .ok (.ireturn, 1) := by decide +kernel
theorem dX10_meant_0 : decode cX10_meant 0 = .ok (.aload_n 0, 1) := by decide +kernel
theorem dX10_meant_1 : decode cX10_meant 1 = .ok (.iload_n 1, 1) := by decide +kernel
theorem dX10_meant_2 : decode cX10_meant 2 = .ok (.invokevirtual 105, 3) := by decide +kernel
theorem dX10_meant_5 : decode cX10_meant 5 = .ok (.ifCond .eq 11, 3) := by decide +kernel
theorem dX10_meant_8 : decode cX10_meant 8 = .ok (.iload_n 2, 1) := by decide +kernel
theorem dX10_meant_9 : decode cX10_meant 9 = .ok (.iconst 2, 1) := by decide +kernel
theorem dX10_meant_10 : decode cX10_meant 10 = .ok (.invokestatic 85, 3) := by decide +kernel
theorem dX10_meant_13 : decode cX10_meant 13 = .ok (.ifCond .ne 5, 3) := by decide +kernel
theorem dX10_meant_16 : decode cX10_meant 16 = .ok (.iconst (-1), 1) := by decide +kernel
theorem dX10_meant_17 : decode cX10_meant 17 = .ok (.ireturn, 1) := by decide +kernel
theorem dX10_meant_18 : decode cX10_meant 18 = .ok (.aload_n 0, 1) := by decide +kernel
theorem dX10_meant_19 : decode cX10_meant 19 = .ok (.aload_n 0, 1) := by decide +kernel
theorem dX10_meant_20 : decode cX10_meant 20 = .ok (.getfield 23, 3) := by decide +kernel
theorem dX10_meant_23 : decode cX10_meant 23 = .ok (.getfield 77, 3) := by decide +kernel
theorem dX10_meant_26 : decode cX10_meant 26 = .ok (.iload_n 1, 1) := by decide +kernel
theorem dX10_meant_27 : decode cX10_meant 27 = .ok (.aaload, 1) := by decide +kernel
theorem dX10_meant_28 : decode cX10_meant 28 = .ok (.invokevirtual 125, 3) := by decide +kernel
theorem dX10_meant_31 : decode cX10_meant 31 = .ok (.astore_n 3, 1) := by decide +kernel
theorem dX10_meant_32 : decode cX10_meant 32 = .ok (.aload_n 0, 1) := by decide +kernel
theorem dX10_meant_33 : decode cX10_meant 33 = .ok (.getfield 53, 3) := by decide +kernel
theorem dX10_meant_36 : decode cX10_meant 36 = .ok (.aload_n 0, 1) := by decide +kernel
theorem dX10_meant_37 : decode cX10_meant 37 = .ok (.getfield 23, 3) := by decide +kernel
theorem dX10_meant_40 : decode cX10_meant 40 = .ok (.getfield 216, 3) := by decide +kernel
theorem dX10_meant_43 : decode cX10_meant 43 = .ok (.iload_n 1, 1) := by decide +kernel
theorem dX10_meant_44 : decode cX10_meant 44 = .ok (.invokevirtual 229, 3) := by decide +kernel
theorem dX10_meant_47 : decode cX10_meant 47 = .ok (.iconst 0, 1) := by decide +kernel
theorem dX10_meant_48 : decode cX10_meant 48 = .ok (.istore 4, 2) := by decide +kernel
theorem dX10_meant_50 : decode cX10_meant 50 = .ok (.bipush (-5), 2) := by decide +kernel
theorem dX10_meant_52 : decode cX10_meant 52 = .ok (.istore 5, 2) := by decide +kernel
theorem dX10_meant_54 : decode cX10_meant 54 = .ok (.sipush 4095, 3) := by decide +kernel
theorem dX10_meant_57 : decode cX10_meant 57 = .ok (.istore 6, 2) := by decide +kernel
theorem dX10_meant_59 : decode cX10_meant 59 = .ok (.iload 6, 2) := by decide +kernel
theorem dX10_meant_61 : decode cX10_meant 61 = .ok (.ifCond .lt 36, 3) := by decide +kernel
theorem dX10_meant_64 : decode cX10_meant 64 = .ok (.aload_n 0, 1) := by decide +kernel
theorem dX10_meant_65 : decode cX10_meant 65 = .ok (.getfield 53, 3) := by decide +kernel
theorem dX10_meant_68 : decode cX10_meant 68 = .ok (.aload_n 3, 1) := by decide +kernel
theorem dX10_meant_69 : decode cX10_meant 69 = .ok (.iload 6, 2) := by decide +kernel
theorem dX10_meant_71 : decode cX10_meant 71 = .ok (.aload_n 0, 1) := by decide +kernel
theorem dX10_meant_72 : decode cX10_meant 72 = .ok (.getfield 23, 3) := by decide +kernel
theorem dX10_meant_75 : decode cX10_meant 75 = .ok (.getfield 129, 3) := by decide +kernel
theorem dX10_meant_78 : decode cX10_meant 78 = .ok (.invokevirtual 233, 3) := by decide +kernel
theorem dX10_meant_81 : decode cX10_meant 81 = .ok (.ifCond .eq 10, 3) := by decide +kernel
theorem dX10_meant_84 : decode cX10_meant 84 = .ok (.iinc 4 1, 3) := by decide +kernel
theorem dX10_meant_87 : decode cX10_meant 87 = .ok (.iload 6, 2) := by decide +kernel
theorem dX10_meant_89 : decode cX10_meant 89 = .ok (.istore 5, 2) := by decide +kernel
theorem dX10_meant_91 : decode cX10_meant 91 = .ok (.iinc 6 (-1), 3) := by decide +kernel
theorem dX10_meant_94 : decode cX10_meant 94 = .ok (.goto (-35), 3) := by decide +kernel
theorem dX10_meant_97 : decode cX10_meant 97 = .ok (.iload_n 2, 1) := by decide +kernel
theorem dX10_meant_98 : decode cX10_meant 98 = .ok (.ifCond .ne 8, 3) := by decide +kernel
theorem dX10_meant_101 : decode cX10_meant 101 = .ok (.iload 4, 2) := by decide +kernel
theorem dX10_meant_103 : decode cX10_meant 103 = .ok (.goto 5, 3) := by decide +kernel
theorem dX10_meant_106 : decode cX10_meant 106 = .ok (.iload 5, 2) := by decide +kernel
theorem dX10_meant_108 : decode cX10_meant 108 = .ok (.ireturn, 1) := by decide +kernel
theorem dX10_can_0 : decode cX10_can 0 = .ok (.aload_n 0, 1) := by decide +kernel
theorem dX10_can_1 : decode cX10_can 1 = .ok (.iload_n 1, 1) := by decide +kernel
theorem dX10_can_2 : decode cX10_can 2 = .ok (.invokevirtual 105, 3) := by decide +kernel
theorem dX10_can_5 : decode cX10_can 5 = .ok (.ifCond .eq 11, 3) := by decide +kernel
theorem dX10_can_8 : decode cX10_can 8 = .ok (.iload_n 2, 1) := by decide +kernel
theorem dX10_can_9 : decode cX10_can 9 = .ok (.iconst 2, 1) := by decide +kernel
theorem dX10_can_10 : decode cX10_can 10 = .ok (.invokestatic 85, 3) := by decide +kernel
theorem dX10_can_13 : decode cX10_can 13 = .ok (.ifCond .ne 5, 3) := by decide +kernel
theorem dX10_can_16 : decode cX10_can 16 = .ok (.iconst (-1), 1) := by decide +kernel
theorem dX10_can_17 : decode cX10_can 17 = .ok (.ireturn, 1) := by decide +kernel
theorem dX10_can_18 : decode cX10_can 18 = .ok (.aload_n 0, 1) := by decide +kernel
theorem dX10_can_19 : decode cX10_can 19 = .ok (.getfield 30, 3) := by decide +kernel
theorem dX10_can_22 : decode cX10_can 22 = .ok (.getfield 77, 3) := by decide +kernel
theorem dX10_can_25 : decode cX10_can 25 = .ok (.iload_n 1, 1) := by decide +kernel
theorem dX10_can_26 : decode cX10_can 26 = .ok (.aaload, 1) := by decide +kernel
theorem dX10_can_27 : decode cX10_can 27 = .ok (.astore_n 3, 1) := by decide +kernel
theorem dX10_can_28 : decode cX10_can 28 = .ok (.aload_n 3, 1) := by decide +kernel
theorem dX10_can_29 : decode cX10_can 29 = .ok (.aload_n 0, 1) := by decide +kernel
theorem dX10_can_30 : decode cX10_can 30 = .ok (.getfield 23, 3) := by decide +kernel
theorem dX10_can_33 : decode cX10_can 33 = .ok (.getfield 77, 3) := by decide +kernel
theorem dX10_can_36 : decode cX10_can 36 = .ok (.iload_n 1, 1) := by decide +kernel
theorem dX10_can_37 : decode cX10_can 37 = .ok (.aaload, 1) := by decide +kernel
theorem dX10_can_38 : decode cX10_can 38 = .ok (.invokevirtual 237, 3) := by decide +kernel
theorem dX10_can_41 : decode cX10_can 41 = .ok (.aload_n 0, 1) := by decide +kernel
theorem dX10_can_42 : decode cX10_can 42 = .ok (.getfield 53, 3) := by decide +kernel
theorem dX10_can_45 : decode cX10_can 45 = .ok (.aload_n 0, 1) := by decide +kernel
theorem dX10_can_46 : decode cX10_can 46 = .ok (.getfield 23, 3) := by decide +kernel
theorem dX10_can_49 : decode cX10_can 49 = .ok (.getfield 216, 3) := by decide +kernel
theorem dX10_can_52 : decode cX10_can 52 = .ok (.iload_n 1, 1) := by decide +kernel
theorem dX10_can_53 : decode cX10_can 53 = .ok (.invokevirtual 229, 3) := by decide +kernel
theorem dX10_can_56 : decode cX10_can 56 = .ok (.iconst 0, 1) := by decide +kernel
theorem dX10_can_57 : decode cX10_can 57 = .ok (.istore 4, 2) := by decide +kernel
theorem dX10_can_59 : decode cX10_can 59 = .ok (.bipush (-5), 2) := by decide +kernel
theorem dX10_can_61 : decode cX10_can 61 = .ok (.istore 5, 2) := by decide +kernel
theorem dX10_can_63 : decode cX10_can 63 = .ok (.bipush 9, 2) := by decide +kernel
theorem dX10_can_65 : decode cX10_can 65 = .ok (.istore 6, 2) := by decide +kernel
theorem dX10_can_67 : decode cX10_can 67 = .ok (.iload 6, 2) := by decide +kernel
theorem dX10_can_69 : decode cX10_can 69 = .ok (.ifCond .lt 48, 3) := by decide +kernel
theorem dX10_can_72 : decode cX10_can 72 = .ok (.aload_n 3, 1) := by decide +kernel
theorem dX10_can_73 : decode cX10_can 73 = .ok (.iload 6, 2) := by decide +kernel
theorem dX10_can_75 : decode cX10_can 75 = .ok (.putfield 112, 3) := by decide +kernel
theorem dX10_can_78 : decode cX10_can 78 = .ok (.aload_n 0, 1) := by decide +kernel
theorem dX10_can_79 : decode cX10_can 79 = .ok (.getfield 53, 3) := by decide +kernel
theorem dX10_can_82 : decode cX10_can 82 = .ok (.aload_n 0, 1) := by decide +kernel
theorem dX10_can_83 : decode cX10_can 83 = .ok (.aload_n 3, 1) := by decide +kernel
theorem dX10_can_84 : decode cX10_can 84 = .ok (.invokevirtual 125, 3) := by decide +kernel
theorem dX10_can_87 : decode cX10_can 87 = .ok (.aload_n 3, 1) := by decide +kernel
theorem dX10_can_88 : decode cX10_can 88 = .ok (.getfield 115, 3) := by decide +kernel
theorem dX10_can_91 : decode cX10_can 91 = .ok (.aload_n 0, 1) := by decide +kernel
theorem dX10_can_92 : decode cX10_can 92 = .ok (.getfield 23, 3) := by decide +kernel
theorem dX10_can_95 : decode cX10_can 95 = .ok (.getfield 129, 3) := by decide +kernel
theorem dX10_can_98 : decode cX10_can 98 = .ok (.invokevirtual 233, 3) := by decide +kernel
theorem dX10_can_101 : decode cX10_can 101 = .ok (.ifCond .eq 10, 3) := by decide +kernel
theorem dX10_can_104 : decode cX10_can 104 = .ok (.iinc 4 1, 3) := by decide +kernel
theorem dX10_can_107 : decode cX10_can 107 = .ok (.iload 6, 2) := by decide +kernel
theorem dX10_can_109 : decode cX10_can 109 = .ok (.istore 5, 2) := by decide +kernel
theorem dX10_can_111 : decode cX10_can 111 = .ok (.iinc 6 (-1), 3) := by decide +kernel
theorem dX10_can_114 : decode cX10_can 114 = .ok (.goto (-47), 3) := by decide +kernel
theorem dX10_can_117 : decode cX10_can 117 = .ok (.iload_n 2, 1) := by decide +kernel
theorem dX10_can_118 : decode cX10_can 118 = .ok (.ifCond .ne 8, 3) := by decide +kernel
theorem dX10_can_121 : decode cX10_can 121 = .ok (.iload 4, 2) := by decide +kernel
theorem dX10_can_123 : decode cX10_can 123 = .ok (.goto 5, 3) := by decide +kernel
theorem dX10_can_126 : decode cX10_can 126 = .ok (.iload 5, 2) := by decide +kernel
theorem dX10_can_128 : decode cX10_can 128 = .ok (.ireturn, 1) := by decide +kernel
theorem dX10_odds_0 : decode cX10_odds 0 = .ok (.aload_n 0, 1) := by decide +kernel
theorem dX10_odds_1 : decode cX10_odds 1 = .ok (.iload_n 1, 1) := by decide +kernel
theorem dX10_odds_2 : decode cX10_odds 2 = .ok (.invokevirtual 105, 3) := by decide +kernel
theorem dX10_odds_5 : decode cX10_odds 5 = .ok (.ifCond .eq 11, 3) := by decide +kernel
theorem dX10_odds_8 : decode cX10_odds 8 = .ok (.iload_n 2, 1) := by decide +kernel
theorem dX10_odds_9 : decode cX10_odds 9 = .ok (.iconst 2, 1) := by decide +kernel
theorem dX10_odds_10 : decode cX10_odds 10 = .ok (.invokestatic 85, 3) := by decide +kernel
theorem dX10_odds_13 : decode cX10_odds 13 = .ok (.ifCond .ne 7, 3) := by decide +kernel
theorem dX10_odds_16 : decode cX10_odds 16 = .ok (.ldc2_w 241, 3) := by decide +kernel
theorem dX10_odds_19 : decode cX10_odds 19 = .ok (.lreturn, 1) := by decide +kernel
theorem dX10_odds_20 : decode cX10_odds 20 = .ok (.aload_n 0, 1) := by decide +kernel
theorem dX10_odds_21 : decode cX10_odds 21 = .ok (.getfield 23, 3) := by decide +kernel
theorem dX10_odds_24 : decode cX10_odds 24 = .ok (.getfield 77, 3) := by decide +kernel
theorem dX10_odds_27 : decode cX10_odds 27 = .ok (.iload_n 1, 1) := by decide +kernel
theorem dX10_odds_28 : decode cX10_odds 28 = .ok (.aaload, 1) := by decide +kernel
theorem dX10_odds_29 : decode cX10_odds 29 = .ok (.astore_n 3, 1) := by decide +kernel
theorem dX10_odds_30 : decode cX10_odds 30 = .ok (.aload_n 0, 1) := by decide +kernel
theorem dX10_odds_31 : decode cX10_odds 31 = .ok (.aload_n 3, 1) := by decide +kernel
theorem dX10_odds_32 : decode cX10_odds 32 = .ok (.invokevirtual 125, 3) := by decide +kernel
theorem dX10_odds_35 : decode cX10_odds 35 = .ok (.astore 4, 2) := by decide +kernel
theorem dX10_odds_37 : decode cX10_odds 37 = .ok (.aload 4, 2) := by decide +kernel
theorem dX10_odds_39 : decode cX10_odds 39 = .ok (.aload_n 3, 1) := by decide +kernel
theorem dX10_odds_40 : decode cX10_odds 40 = .ok (.getfield 115, 3) := by decide +kernel
theorem dX10_odds_43 : decode cX10_odds 43 = .ok (.aload_n 0, 1) := by decide +kernel
theorem dX10_odds_44 : decode cX10_odds 44 = .ok (.getfield 23, 3) := by decide +kernel
theorem dX10_odds_47 : decode cX10_odds 47 = .ok (.getfield 129, 3) := by decide +kernel
theorem dX10_odds_50 : decode cX10_odds 50 = .ok (.invokevirtual 132, 3) := by decide +kernel
theorem dX10_odds_53 : decode cX10_odds 53 = .ok (.istore 5, 2) := by decide +kernel
theorem dX10_odds_55 : decode cX10_odds 55 = .ok (.iconst 0, 1) := by decide +kernel
theorem dX10_odds_56 : decode cX10_odds 56 = .ok (.istore 6, 2) := by decide +kernel
theorem dX10_odds_58 : decode cX10_odds 58 = .ok (.iconst 0, 1) := by decide +kernel
theorem dX10_odds_59 : decode cX10_odds 59 = .ok (.istore 7, 2) := by decide +kernel
theorem dX10_odds_61 : decode cX10_odds 61 = .ok (.iload 7, 2) := by decide +kernel
theorem dX10_odds_63 : decode cX10_odds 63 = .ok (.bipush 12, 2) := by decide +kernel
theorem dX10_odds_65 : decode cX10_odds 65 = .ok (.if_icmp .ge 38, 3) := by decide +kernel
theorem dX10_odds_68 : decode cX10_odds 68 = .ok (.aload 4, 2) := by decide +kernel
theorem dX10_odds_70 : decode cX10_odds 70 = .ok (.aload_n 3, 1) := by decide +kernel
theorem dX10_odds_71 : decode cX10_odds 71 = .ok (.getfield 115, 3) := by decide +kernel
theorem dX10_odds_74 : decode cX10_odds 74 = .ok (.iconst 1, 1) := by decide +kernel
theorem dX10_odds_75 : decode cX10_odds 75 = .ok (.iload 7, 2) := by decide +kernel
theorem dX10_odds_77 : decode cX10_odds 77 = .ok (.ishl, 1) := by decide +kernel
theorem dX10_odds_78 : decode cX10_odds 78 = .ok (.ior, 1) := by decide +kernel
theorem dX10_odds_79 : decode cX10_odds 79 = .ok (.aload_n 0, 1) := by decide +kernel
theorem dX10_odds_80 : decode cX10_odds 80 = .ok (.getfield 23, 3) := by decide +kernel
theorem dX10_odds_83 : decode cX10_odds 83 = .ok (.getfield 129, 3) := by decide +kernel
theorem dX10_odds_86 : decode cX10_odds 86 = .ok (.invokevirtual 132, 3) := by decide +kernel
theorem dX10_odds_89 : decode cX10_odds 89 = .ok (.iload 5, 2) := by decide +kernel
theorem dX10_odds_91 : decode cX10_odds 91 = .ok (.if_icmp .eq 6, 3) := by decide +kernel
theorem dX10_odds_94 : decode cX10_odds 94 = .ok (.iinc 6 1, 3) := by decide +kernel
theorem dX10_odds_97 : decode cX10_odds 97 = .ok (.iinc 7 1, 3) := by decide +kernel
theorem dX10_odds_100 : decode cX10_odds 100 = .ok (.goto (-39), 3) := by decide +kernel
theorem dX10_odds_103 : decode cX10_odds 103 = .ok (.iload 6, 2) := by decide +kernel
theorem dX10_odds_105 : decode cX10_odds 105 = .ok (.bipush 12, 2) := by decide +kernel
theorem dX10_odds_107 : decode cX10_odds 107 = .ok (.iload_n 2, 1) := by decide +kernel
theorem dX10_odds_108 : decode cX10_odds 108 = .ok (.invokestatic 243, 3) := by decide +kernel
theorem dX10_odds_111 : decode cX10_odds 111 = .ok (.lreturn, 1) := by decide +kernel
theorem dX10_mean_0 : decode cX10_mean 0 = .ok (.iload_n 1, 1) := by decide +kernel
theorem dX10_mean_1 : decode cX10_mean 1 = .ok (.bipush 60, 2) := by decide +kernel
theorem dX10_mean_3 : decode cX10_mean 3 = .ok (.invokestatic 89, 3) := by decide +kernel
theorem dX10_mean_6 : decode cX10_mean 6 = .ok (.ifCond .eq 21, 3) := by decide +kernel
theorem dX10_mean_9 : decode cX10_mean 9 = .ok (.iload_n 2, 1) := by decide +kernel
theorem dX10_mean_10 : decode cX10_mean 10 = .ok (.iconst 2, 1) := by decide +kernel
theorem dX10_mean_11 : decode cX10_mean 11 = .ok (.invokestatic 85, 3) := by decide +kernel
theorem dX10_mean_14 : decode cX10_mean 14 = .ok (.ifCond .eq 13, 3) := by decide +kernel
theorem dX10_mean_17 : decode cX10_mean 17 = .ok (.aload_n 0, 1) := by decide +kernel
theorem dX10_mean_18 : decode cX10_mean 18 = .ok (.getfield 23, 3) := by decide +kernel
theorem dX10_mean_21 : decode cX10_mean 21 = .ok (.getfield 92, 3) := by decide +kernel
theorem dX10_mean_24 : decode cX10_mean 24 = .ok (.ifCond .ne 7, 3) := by decide +kernel
theorem dX10_mean_27 : decode cX10_mean 27 = .ok (.ldc2_w 241, 3) := by decide +kernel
theorem dX10_mean_30 : decode cX10_mean 30 = .ok (.lreturn, 1) := by decide +kernel
theorem dX10_mean_31 : decode cX10_mean 31 = .ok (.aload_n 0, 1) := by decide +kernel
theorem dX10_mean_32 : decode cX10_mean 32 = .ok (.iload_n 1, 1) := by decide +kernel
theorem dX10_mean_33 : decode cX10_mean 33 = .ok (.invokevirtual 205, 3) := by decide +kernel
theorem dX10_mean_36 : decode cX10_mean 36 = .ok (.invokevirtual 188, 3) := by decide +kernel
theorem dX10_mean_39 : decode cX10_mean 39 = .ok (.aload_n 0, 1) := by decide +kernel
theorem dX10_mean_40 : decode cX10_mean 40 = .ok (.getfield 23, 3) := by decide +kernel
theorem dX10_mean_43 : decode cX10_mean 43 = .ok (.getfield 92, 3) := by decide +kernel
theorem dX10_mean_46 : decode cX10_mean 46 = .ok (.iload_n 2, 1) := by decide +kernel
theorem dX10_mean_47 : decode cX10_mean 47 = .ok (.invokestatic 243, 3) := by decide +kernel
theorem dX10_mean_50 : decode cX10_mean 50 = .ok (.lreturn, 1) := by decide +kernel
theorem dX10_plan_0 : decode cX10_plan 0 = .ok (.iload_n 1, 1) := by decide +kernel
theorem dX10_plan_1 : decode cX10_plan 1 = .ok (.iconst (-1), 1) := by decide +kernel
theorem dX10_plan_2 : decode cX10_plan 2 = .ok (.if_icmp .ne 16, 3) := by decide +kernel
theorem dX10_plan_5 : decode cX10_plan 5 = .ok (.aload_n 0, 1) := by decide +kernel
theorem dX10_plan_6 : decode cX10_plan 6 = .ok (.getfield 23, 3) := by decide +kernel
theorem dX10_plan_9 : decode cX10_plan 9 = .ok (.getfield 247, 3) := by decide +kernel
theorem dX10_plan_12 : decode cX10_plan 12 = .ok (.iconst 0, 1) := by decide +kernel
theorem dX10_plan_13 : decode cX10_plan 13 = .ok (.putfield 220, 3) := by decide +kernel
theorem dX10_plan_16 : decode cX10_plan 16 = .ok (.iconst 0, 1) := by decide +kernel
theorem dX10_plan_17 : decode cX10_plan 17 = .ok (.ireturn, 1) := by decide +kernel
theorem dX10_plan_18 : decode cX10_plan 18 = .ok (.iload_n 1, 1) := by decide +kernel
theorem dX10_plan_19 : decode cX10_plan 19 = .ok (.iconst 4, 1) := by decide +kernel
theorem dX10_plan_20 : decode cX10_plan 20 = .ok (.invokestatic 85, 3) := by decide +kernel
theorem dX10_plan_23 : decode cX10_plan 23 = .ok (.ifCond .eq 15, 3) := by decide +kernel
theorem dX10_plan_26 : decode cX10_plan 26 = .ok (.iload_n 1, 1) := by decide +kernel
theorem dX10_plan_27 : decode cX10_plan 27 = .ok (.ifCond .eq 13, 3) := by decide +kernel
theorem dX10_plan_30 : decode cX10_plan 30 = .ok (.aload_n 0, 1) := by decide +kernel
theorem dX10_plan_31 : decode cX10_plan 31 = .ok (.iload_n 2, 1) := by decide +kernel
theorem dX10_plan_32 : decode cX10_plan 32 = .ok (.invokevirtual 105, 3) := by decide +kernel
theorem dX10_plan_35 : decode cX10_plan 35 = .ok (.ifCond .ne 5, 3) := by decide +kernel
theorem dX10_plan_38 : decode cX10_plan 38 = .ok (.iconst (-1), 1) := by decide +kernel
theorem dX10_plan_39 : decode cX10_plan 39 = .ok (.ireturn, 1) := by decide +kernel
theorem dX10_plan_40 : decode cX10_plan 40 = .ok (.aload_n 0, 1) := by decide +kernel
theorem dX10_plan_41 : decode cX10_plan 41 = .ok (.getfield 23, 3) := by decide +kernel
theorem dX10_plan_44 : decode cX10_plan 44 = .ok (.getfield 247, 3) := by decide +kernel
theorem dX10_plan_47 : decode cX10_plan 47 = .ok (.iload_n 1, 1) := by decide +kernel
theorem dX10_plan_48 : decode cX10_plan 48 = .ok (.iload_n 2, 1) := by decide +kernel
theorem dX10_plan_49 : decode cX10_plan 49 = .ok (.iconst 0, 1) := by decide +kernel
theorem dX10_plan_50 : decode cX10_plan 50 = .ok (.iconst 0, 1) := by decide +kernel
theorem dX10_plan_51 : decode cX10_plan 51 = .ok (.invokevirtual 225, 3) := by decide +kernel
theorem dX10_plan_54 : decode cX10_plan 54 = .ok (.ireturn, 1) := by decide +kernel
theorem dX10_ends_0 : decode cX10_ends 0 = .ok (.iload_n 1, 1) := by decide +kernel
theorem dX10_ends_1 : decode cX10_ends 1 = .ok (.iconst 2, 1) := by decide +kernel
theorem dX10_ends_2 : decode cX10_ends 2 = .ok (.invokestatic 85, 3) := by decide +kernel
theorem dX10_ends_5 : decode cX10_ends 5 = .ok (.ifCond .ne 5, 3) := by decide +kernel
theorem dX10_ends_8 : decode cX10_ends 8 = .ok (.iconst (-1), 1) := by decide +kernel
theorem dX10_ends_9 : decode cX10_ends 9 = .ok (.ireturn, 1) := by decide +kernel
theorem dX10_ends_10 : decode cX10_ends 10 = .ok (.aload_n 0, 1) := by decide +kernel
theorem dX10_ends_11 : decode cX10_ends 11 = .ok (.getfield 30, 3) := by decide +kernel
theorem dX10_ends_14 : decode cX10_ends 14 = .ok (.aload_n 0, 1) := by decide +kernel
theorem dX10_ends_15 : decode cX10_ends 15 = .ok (.getfield 23, 3) := by decide +kernel
theorem dX10_ends_18 : decode cX10_ends 18 = .ok (.invokevirtual 250, 3) := by decide +kernel
theorem dX10_ends_21 : decode cX10_ends 21 = .ok (.aload_n 0, 1) := by decide +kernel
theorem dX10_ends_22 : decode cX10_ends 22 = .ok (.aload_n 0, 1) := by decide +kernel
theorem dX10_ends_23 : decode cX10_ends 23 = .ok (.getfield 30, 3) := by decide +kernel
theorem dX10_ends_26 : decode cX10_ends 26 = .ok (.invokevirtual 198, 3) := by decide +kernel
theorem dX10_ends_29 : decode cX10_ends 29 = .ok (.iconst 0, 1) := by decide +kernel
theorem dX10_ends_30 : decode cX10_ends 30 = .ok (.istore_n 2, 1) := by decide +kernel
theorem dX10_ends_31 : decode cX10_ends 31 = .ok (.iload_n 2, 1) := by decide +kernel
theorem dX10_ends_32 : decode cX10_ends 32 = .ok (.aload_n 0, 1) := by decide +kernel
theorem dX10_ends_33 : decode cX10_ends 33 = .ok (.getfield 23, 3) := by decide +kernel
theorem dX10_ends_36 : decode cX10_ends 36 = .ok (.getfield 247, 3) := by decide +kernel
theorem dX10_ends_39 : decode cX10_ends 39 = .ok (.getfield 220, 3) := by decide +kernel
theorem dX10_ends_42 : decode cX10_ends 42 = .ok (.if_icmp .ge 45, 3) := by decide +kernel
theorem dX10_ends_45 : decode cX10_ends 45 = .ok (.aload_n 0, 1) := by decide +kernel
theorem dX10_ends_46 : decode cX10_ends 46 = .ok (.aload_n 0, 1) := by decide +kernel
theorem dX10_ends_47 : decode cX10_ends 47 = .ok (.getfield 30, 3) := by decide +kernel
theorem dX10_ends_50 : decode cX10_ends 50 = .ok (.aload_n 0, 1) := by decide +kernel
theorem dX10_ends_51 : decode cX10_ends 51 = .ok (.getfield 23, 3) := by decide +kernel
theorem dX10_ends_54 : decode cX10_ends 54 = .ok (.getfield 247, 3) := by decide +kernel
theorem dX10_ends_57 : decode cX10_ends 57 = .ok (.getfield 253, 3) := by decide +kernel
theorem dX10_ends_60 : decode cX10_ends 60 = .ok (.iload_n 2, 1) := by decide +kernel
theorem dX10_ends_61 : decode cX10_ends 61 = .ok (.aaload, 1) := by decide +kernel
theorem dX10_ends_62 : decode cX10_ends 62 = .ok (.iconst 0, 1) := by decide +kernel
theorem dX10_ends_63 : decode cX10_ends 63 = .ok (.iaload, 1) := by decide +kernel
theorem dX10_ends_64 : decode cX10_ends 64 = .ok (.aload_n 0, 1) := by decide +kernel
theorem dX10_ends_65 : decode cX10_ends 65 = .ok (.getfield 23, 3) := by decide +kernel
theorem dX10_ends_68 : decode cX10_ends 68 = .ok (.getfield 247, 3) := by decide +kernel
theorem dX10_ends_71 : decode cX10_ends 71 = .ok (.getfield 253, 3) := by decide +kernel
theorem dX10_ends_74 : decode cX10_ends 74 = .ok (.iload_n 2, 1) := by decide +kernel
theorem dX10_ends_75 : decode cX10_ends 75 = .ok (.aaload, 1) := by decide +kernel
theorem dX10_ends_76 : decode cX10_ends 76 = .ok (.iconst 1, 1) := by decide +kernel
theorem dX10_ends_77 : decode cX10_ends 77 = .ok (.iaload, 1) := by decide +kernel
theorem dX10_ends_78 : decode cX10_ends 78 = .ok (.invokevirtual 257, 3) := by decide +kernel
theorem dX10_ends_81 : decode cX10_ends 81 = .ok (.iinc 2 1, 3) := by decide +kernel
theorem dX10_ends_84 : decode cX10_ends 84 = .ok (.goto (-53), 3) := by decide +kernel
theorem dX10_ends_87 : decode cX10_ends 87 = .ok (.iload_n 1, 1) := by decide +kernel
theorem dX10_ends_88 : decode cX10_ends 88 = .ok (.ifCond .ne 13, 3) := by decide +kernel
theorem dX10_ends_91 : decode cX10_ends 91 = .ok (.aload_n 0, 1) := by decide +kernel
theorem dX10_ends_92 : decode cX10_ends 92 = .ok (.getfield 30, 3) := by decide +kernel
theorem dX10_ends_95 : decode cX10_ends 95 = .ok (.invokevirtual 188, 3) := by decide +kernel
theorem dX10_ends_98 : decode cX10_ends 98 = .ok (.goto 10, 3) := by decide +kernel
theorem dX10_ends_101 : decode cX10_ends 101 = .ok (.aload_n 0, 1) := by decide +kernel
theorem dX10_ends_102 : decode cX10_ends 102 = .ok (.getfield 30, 3) := by decide +kernel
theorem dX10_ends_105 : decode cX10_ends 105 = .ok (.invokevirtual 261, 3) := by decide +kernel
theorem dX10_ends_108 : decode cX10_ends 108 = .ok (.ireturn, 1) := by decide +kernel
theorem dX10_book_0 : decode cX10_book 0 = .ok (.iload_n 1, 1) := by decide +kernel
theorem dX10_book_1 : decode cX10_book 1 = .ok (.iconst (-1), 1) := by decide +kernel
theorem dX10_book_2 : decode cX10_book 2 = .ok (.if_icmp .ne 16, 3) := by decide +kernel
theorem dX10_book_5 : decode cX10_book 5 = .ok (.aload_n 0, 1) := by decide +kernel
theorem dX10_book_6 : decode cX10_book 6 = .ok (.getfield 23, 3) := by decide +kernel
theorem dX10_book_9 : decode cX10_book 9 = .ok (.getfield 264, 3) := by decide +kernel
theorem dX10_book_12 : decode cX10_book 12 = .ok (.iconst 0, 1) := by decide +kernel
theorem dX10_book_13 : decode cX10_book 13 = .ok (.putfield 220, 3) := by decide +kernel
theorem dX10_book_16 : decode cX10_book 16 = .ok (.iconst 0, 1) := by decide +kernel
theorem dX10_book_17 : decode cX10_book 17 = .ok (.ireturn, 1) := by decide +kernel
theorem dX10_book_18 : decode cX10_book 18 = .ok (.iload_n 1, 1) := by decide +kernel
theorem dX10_book_19 : decode cX10_book 19 = .ok (.invokestatic 143, 3) := by decide +kernel
theorem dX10_book_22 : decode cX10_book 22 = .ok (.ifCond .ne 5, 3) := by decide +kernel
theorem dX10_book_25 : decode cX10_book 25 = .ok (.iconst (-1), 1) := by decide +kernel
theorem dX10_book_26 : decode cX10_book 26 = .ok (.ireturn, 1) := by decide +kernel
theorem dX10_book_27 : decode cX10_book 27 = .ok (.iload_n 2, 1) := by decide +kernel
theorem dX10_book_28 : decode cX10_book 28 = .ok (.bipush 99, 2) := by decide +kernel
theorem dX10_book_30 : decode cX10_book 30 = .ok (.invokestatic 89, 3) := by decide +kernel
theorem dX10_book_33 : decode cX10_book 33 = .ok (.ifCond .ne 6, 3) := by decide +kernel
theorem dX10_book_36 : decode cX10_book 36 = .ok (.bipush (-2), 2) := by decide +kernel
theorem dX10_book_38 : decode cX10_book 38 = .ok (.ireturn, 1) := by decide +kernel
theorem dX10_book_39 : decode cX10_book 39 = .ok (.aload_n 0, 1) := by decide +kernel
theorem dX10_book_40 : decode cX10_book 40 = .ok (.getfield 23, 3) := by decide +kernel
theorem dX10_book_43 : decode cX10_book 43 = .ok (.getfield 264, 3) := by decide +kernel
theorem dX10_book_46 : decode cX10_book 46 = .ok (.iload_n 1, 1) := by decide +kernel
theorem dX10_book_47 : decode cX10_book 47 = .ok (.iload_n 2, 1) := by decide +kernel
theorem dX10_book_48 : decode cX10_book 48 = .ok (.iconst 0, 1) := by decide +kernel
theorem dX10_book_49 : decode cX10_book 49 = .ok (.iconst 0, 1) := by decide +kernel
theorem dX10_book_50 : decode cX10_book 50 = .ok (.invokevirtual 225, 3) := by decide +kernel
theorem dX10_book_53 : decode cX10_book 53 = .ok (.ireturn, 1) := by decide +kernel
theorem dX10_looked_0 : decode cX10_looked 0 = .ok (.iconst 0, 1) := by decide +kernel
theorem dX10_looked_1 : decode cX10_looked 1 = .ok (.istore_n 1, 1) := by decide +kernel
theorem dX10_looked_2 : decode cX10_looked 2 = .ok (.iload_n 1, 1) := by decide +kernel
theorem dX10_looked_3 : decode cX10_looked 3 = .ok (.aload_n 0, 1) := by decide +kernel
theorem dX10_looked_4 : decode cX10_looked 4 = .ok (.getfield 23, 3) := by decide +kernel
theorem dX10_looked_7 : decode cX10_looked 7 = .ok (.getfield 264, 3) := by decide +kernel
theorem dX10_looked_10 : decode cX10_looked 10 = .ok (.getfield 220, 3) := by decide +kernel
theorem dX10_looked_13 : decode cX10_looked 13 = .ok (.if_icmp .ge 59, 3) := by decide +kernel
theorem dX10_looked_16 : decode cX10_looked 16 = .ok (.aload_n 0, 1) := by decide +kernel
theorem dX10_looked_17 : decode cX10_looked 17 = .ok (.getfield 23, 3) := by decide +kernel
theorem dX10_looked_20 : decode cX10_looked 20 = .ok (.getfield 264, 3) := by decide +kernel
theorem dX10_looked_23 : decode cX10_looked 23 = .ok (.getfield 253, 3) := by decide +kernel
theorem dX10_looked_26 : decode cX10_looked 26 = .ok (.iload_n 1, 1) := by decide +kernel
theorem dX10_looked_27 : decode cX10_looked 27 = .ok (.aaload, 1) := by decide +kernel
theorem dX10_looked_28 : decode cX10_looked 28 = .ok (.iconst 0, 1) := by decide +kernel
theorem dX10_looked_29 : decode cX10_looked 29 = .ok (.iaload, 1) := by decide +kernel
theorem dX10_looked_30 : decode cX10_looked 30 = .ok (.istore_n 2, 1) := by decide +kernel
theorem dX10_looked_31 : decode cX10_looked 31 = .ok (.iload_n 2, 1) := by decide +kernel
theorem dX10_looked_32 : decode cX10_looked 32 = .ok (.invokestatic 143, 3) := by decide +kernel
theorem dX10_looked_35 : decode cX10_looked 35 = .ok (.ifCond .eq 31, 3) := by decide +kernel
theorem dX10_looked_38 : decode cX10_looked 38 = .ok (.aload_n 0, 1) := by decide +kernel
theorem dX10_looked_39 : decode cX10_looked 39 = .ok (.getfield 23, 3) := by decide +kernel
theorem dX10_looked_42 : decode cX10_looked 42 = .ok (.getfield 160, 3) := by decide +kernel
theorem dX10_looked_45 : decode cX10_looked 45 = .ok (.iload_n 2, 1) := by decide +kernel
theorem dX10_looked_46 : decode cX10_looked 46 = .ok (.iaload, 1) := by decide +kernel
theorem dX10_looked_47 : decode cX10_looked 47 = .ok (.aload_n 0, 1) := by decide +kernel
theorem dX10_looked_48 : decode cX10_looked 48 = .ok (.getfield 23, 3) := by decide +kernel
theorem dX10_looked_51 : decode cX10_looked 51 = .ok (.getfield 264, 3) := by decide +kernel
theorem dX10_looked_54 : decode cX10_looked 54 = .ok (.getfield 253, 3) := by decide +kernel
theorem dX10_looked_57 : decode cX10_looked 57 = .ok (.iload_n 1, 1) := by decide +kernel
theorem dX10_looked_58 : decode cX10_looked 58 = .ok (.aaload, 1) := by decide +kernel
theorem dX10_looked_59 : decode cX10_looked 59 = .ok (.iconst 1, 1) := by decide +kernel
theorem dX10_looked_60 : decode cX10_looked 60 = .ok (.iaload, 1) := by decide +kernel
theorem dX10_looked_61 : decode cX10_looked 61 = .ok (.if_icmp .eq 5, 3) := by decide +kernel
theorem dX10_looked_64 : decode cX10_looked 64 = .ok (.iload_n 1, 1) := by decide +kernel
theorem dX10_looked_65 : decode cX10_looked 65 = .ok (.ireturn, 1) := by decide +kernel
theorem dX10_looked_66 : decode cX10_looked 66 = .ok (.iinc 1 1, 3) := by decide +kernel
theorem dX10_looked_69 : decode cX10_looked 69 = .ok (.goto (-67), 3) := by decide +kernel
theorem dX10_looked_72 : decode cX10_looked 72 = .ok (.bipush (-5), 2) := by decide +kernel
theorem dX10_looked_74 : decode cX10_looked 74 = .ok (.ireturn, 1) := by decide +kernel
theorem dX10_judge_0 : decode cX10_judge 0 = .ok (.iload_n 1, 1) := by decide +kernel
theorem dX10_judge_1 : decode cX10_judge 1 = .ok (.bipush 6, 2) := by decide +kernel
theorem dX10_judge_3 : decode cX10_judge 3 = .ok (.invokestatic 85, 3) := by decide +kernel
theorem dX10_judge_6 : decode cX10_judge 6 = .ok (.ifCond .ne 5, 3) := by decide +kernel
theorem dX10_judge_9 : decode cX10_judge 9 = .ok (.iconst (-1), 1) := by decide +kernel
theorem dX10_judge_10 : decode cX10_judge 10 = .ok (.ireturn, 1) := by decide +kernel
theorem dX10_judge_11 : decode cX10_judge 11 = .ok (.aload_n 0, 1) := by decide +kernel
theorem dX10_judge_12 : decode cX10_judge 12 = .ok (.getfield 73, 3) := by decide +kernel
theorem dX10_judge_15 : decode cX10_judge 15 = .ok (.iload_n 1, 1) := by decide +kernel
theorem dX10_judge_16 : decode cX10_judge 16 = .ok (.aaload, 1) := by decide +kernel
theorem dX10_judge_17 : decode cX10_judge 17 = .ok (.astore_n 3, 1) := by decide +kernel
theorem dX10_judge_18 : decode cX10_judge 18 = .ok (.aload_n 3, 1) := by decide +kernel
theorem dX10_judge_19 : decode cX10_judge 19 = .ok (.getfield 267, 3) := by decide +kernel
theorem dX10_judge_22 : decode cX10_judge 22 = .ok (.ifCond .eq 14, 3) := by decide +kernel
theorem dX10_judge_25 : decode cX10_judge 25 = .ok (.aload_n 3, 1) := by decide +kernel
theorem dX10_judge_26 : decode cX10_judge 26 = .ok (.getfield 267, 3) := by decide +kernel
theorem dX10_judge_29 : decode cX10_judge 29 = .ok (.iconst (-1), 1) := by decide +kernel
theorem dX10_judge_30 : decode cX10_judge 30 = .ok (.if_icmp .eq 6, 3) := by decide +kernel
theorem dX10_judge_33 : decode cX10_judge 33 = .ok (.bipush (-12), 2) := by decide +kernel
theorem dX10_judge_35 : decode cX10_judge 35 = .ok (.ireturn, 1) := by decide +kernel
theorem dX10_judge_36 : decode cX10_judge 36 = .ok (.aload_n 3, 1) := by decide +kernel
theorem dX10_judge_37 : decode cX10_judge 37 = .ok (.iload_n 2, 1) := by decide +kernel
theorem dX10_judge_38 : decode cX10_judge 38 = .ok (.iconst 0, 1) := by decide +kernel
theorem dX10_judge_39 : decode cX10_judge 39 = .ok (.invokevirtual 270, 3) := by decide +kernel
theorem dX10_judge_42 : decode cX10_judge 42 = .ok (.ifCond .eq 12, 3) := by decide +kernel
theorem dX10_judge_45 : decode cX10_judge 45 = .ok (.aload_n 3, 1) := by decide +kernel
theorem dX10_judge_46 : decode cX10_judge 46 = .ok (.getfield 273, 3) := by decide +kernel
theorem dX10_judge_49 : decode cX10_judge 49 = .ok (.iload_n 2, 1) := by decide +kernel
theorem dX10_judge_50 : decode cX10_judge 50 = .ok (.isub, 1) := by decide +kernel
theorem dX10_judge_51 : decode cX10_judge 51 = .ok (.goto 4, 3) := by decide +kernel
theorem dX10_judge_54 : decode cX10_judge 54 = .ok (.iconst 0, 1) := by decide +kernel
theorem dX10_judge_55 : decode cX10_judge 55 = .ok (.istore 4, 2) := by decide +kernel
theorem dX10_judge_57 : decode cX10_judge 57 = .ok (.iconst 0, 1) := by decide +kernel
theorem dX10_judge_58 : decode cX10_judge 58 = .ok (.istore 5, 2) := by decide +kernel
theorem dX10_judge_60 : decode cX10_judge 60 = .ok (.iload 5, 2) := by decide +kernel
theorem dX10_judge_62 : decode cX10_judge 62 = .ok (.bipush 12, 2) := by decide +kernel
theorem dX10_judge_64 : decode cX10_judge 64 = .ok (.if_icmp .ge 49, 3) := by decide +kernel
theorem dX10_judge_67 : decode cX10_judge 67 = .ok (.iload 5, 2) := by decide +kernel
theorem dX10_judge_69 : decode cX10_judge 69 = .ok (.iload 4, 2) := by decide +kernel
theorem dX10_judge_71 : decode cX10_judge 71 = .ok (.if_icmp .lt 9, 3) := by decide +kernel
theorem dX10_judge_74 : decode cX10_judge 74 = .ok (.bipush 100, 2) := by decide +kernel
theorem dX10_judge_76 : decode cX10_judge 76 = .ok (.iload 5, 2) := by decide +kernel
theorem dX10_judge_78 : decode cX10_judge 78 = .ok (.iadd, 1) := by decide +kernel
theorem dX10_judge_79 : decode cX10_judge 79 = .ok (.ireturn, 1) := by decide +kernel
theorem dX10_judge_80 : decode cX10_judge 80 = .ok (.aload_n 3, 1) := by decide +kernel
theorem dX10_judge_81 : decode cX10_judge 81 = .ok (.getfield 274, 3) := by decide +kernel
theorem dX10_judge_84 : decode cX10_judge 84 = .ok (.iload_n 2, 1) := by decide +kernel
theorem dX10_judge_85 : decode cX10_judge 85 = .ok (.iload 5, 2) := by decide +kernel
theorem dX10_judge_87 : decode cX10_judge 87 = .ok (.iadd, 1) := by decide +kernel
theorem dX10_judge_88 : decode cX10_judge 88 = .ok (.laload, 1) := by decide +kernel
theorem dX10_judge_89 : decode cX10_judge 89 = .ok (.aload_n 0, 1) := by decide +kernel
theorem dX10_judge_90 : decode cX10_judge 90 = .ok (.getfield 23, 3) := by decide +kernel
theorem dX10_judge_93 : decode cX10_judge 93 = .ok (.getfield 160, 3) := by decide +kernel
theorem dX10_judge_96 : decode cX10_judge 96 = .ok (.iload 5, 2) := by decide +kernel
theorem dX10_judge_98 : decode cX10_judge 98 = .ok (.iaload, 1) := by decide +kernel
theorem dX10_judge_99 : decode cX10_judge 99 = .ok (.i2l, 1) := by decide +kernel
theorem dX10_judge_100 : decode cX10_judge 100 = .ok (.lcmp, 1) := by decide +kernel
theorem dX10_judge_101 : decode cX10_judge 101 = .ok (.ifCond .eq 6, 3) := by decide +kernel
theorem dX10_judge_104 : decode cX10_judge 104 = .ok (.iload 5, 2) := by decide +kernel
theorem dX10_judge_106 : decode cX10_judge 106 = .ok (.ireturn, 1) := by decide +kernel
theorem dX10_judge_107 : decode cX10_judge 107 = .ok (.iinc 5 1, 3) := by decide +kernel
theorem dX10_judge_110 : decode cX10_judge 110 = .ok (.goto (-50), 3) := by decide +kernel
theorem dX10_judge_113 : decode cX10_judge 113 = .ok (.bipush (-5), 2) := by decide +kernel
theorem dX10_judge_115 : decode cX10_judge 115 = .ok (.ireturn, 1) := by decide +kernel
theorem dX10_image_0 : decode cX10_image 0 = .ok (.aload_n 0, 1) := by decide +kernel
theorem dX10_image_1 : decode cX10_image 1 = .ok (.getfield 27, 3) := by decide +kernel
theorem dX10_image_4 : decode cX10_image 4 = .ok (.aload_n 0, 1) := by decide +kernel
theorem dX10_image_5 : decode cX10_image 5 = .ok (.getfield 23, 3) := by decide +kernel
theorem dX10_image_8 : decode cX10_image 8 = .ok (.invokevirtual 278, 3) := by decide +kernel
theorem dX10_image_11 : decode cX10_image 11 = .ok (.aload_n 0, 1) := by decide +kernel
theorem dX10_image_12 : decode cX10_image 12 = .ok (.iconst 1, 1) := by decide +kernel
theorem dX10_image_13 : decode cX10_image 13 = .ok (.putfield 280, 3) := by decide +kernel
theorem dX10_image_16 : decode cX10_image 16 = .ok (.aload_n 0, 1) := by decide +kernel
theorem dX10_image_17 : decode cX10_image 17 = .ok (.getfield 23, 3) := by decide +kernel
theorem dX10_image_20 : decode cX10_image 20 = .ok (.getfield 92, 3) := by decide +kernel
theorem dX10_image_23 : decode cX10_image 23 = .ok (.ireturn, 1) := by decide +kernel
theorem dX10_undo_0 : decode cX10_undo 0 = .ok (.aload_n 0, 1) := by decide +kernel
theorem dX10_undo_1 : decode cX10_undo 1 = .ok (.getfield 280, 3) := by decide +kernel
theorem dX10_undo_4 : decode cX10_undo 4 = .ok (.ifCond .ne 6, 3) := by decide +kernel
theorem dX10_undo_7 : decode cX10_undo 7 = .ok (.bipush (-3), 2) := by decide +kernel
theorem dX10_undo_9 : decode cX10_undo 9 = .ok (.ireturn, 1) := by decide +kernel
theorem dX10_undo_10 : decode cX10_undo 10 = .ok (.aload_n 0, 1) := by decide +kernel
theorem dX10_undo_11 : decode cX10_undo 11 = .ok (.getfield 23, 3) := by decide +kernel
theorem dX10_undo_14 : decode cX10_undo 14 = .ok (.aload_n 0, 1) := by decide +kernel
theorem dX10_undo_15 : decode cX10_undo 15 = .ok (.getfield 27, 3) := by decide +kernel
theorem dX10_undo_18 : decode cX10_undo 18 = .ok (.invokevirtual 278, 3) := by decide +kernel
theorem dX10_undo_21 : decode cX10_undo 21 = .ok (.aload_n 0, 1) := by decide +kernel
theorem dX10_undo_22 : decode cX10_undo 22 = .ok (.getfield 23, 3) := by decide +kernel
theorem dX10_undo_25 : decode cX10_undo 25 = .ok (.getfield 92, 3) := by decide +kernel
theorem dX10_undo_28 : decode cX10_undo 28 = .ok (.ireturn, 1) := by decide +kernel
theorem dX10_act_0 : decode cX10_act 0 = .ok (.aload_n 0, 1) := by decide +kernel
theorem dX10_act_1 : decode cX10_act 1 = .ok (.iload_n 1, 1) := by decide +kernel
theorem dX10_act_2 : decode cX10_act 2 = .ok (.invokevirtual 105, 3) := by decide +kernel
theorem dX10_act_5 : decode cX10_act 5 = .ok (.ifCond .eq 11, 3) := by decide +kernel
theorem dX10_act_8 : decode cX10_act 8 = .ok (.iload_n 2, 1) := by decide +kernel
theorem dX10_act_9 : decode cX10_act 9 = .ok (.iconst 3, 1) := by decide +kernel
theorem dX10_act_10 : decode cX10_act 10 = .ok (.invokestatic 85, 3) := by decide +kernel
theorem dX10_act_13 : decode cX10_act 13 = .ok (.ifCond .ne 13, 3) := by decide +kernel
theorem dX10_act_16 : decode cX10_act 16 = .ok (.aload_n 0, 1) := by decide +kernel
theorem dX10_act_17 : decode cX10_act 17 = .ok (.getfield 67, 3) := by decide +kernel
theorem dX10_act_20 : decode cX10_act 20 = .ok (.iconst 0, 1) := by decide +kernel
theorem dX10_act_21 : decode cX10_act 21 = .ok (.putfield 283, 3) := by decide +kernel
theorem dX10_act_24 : decode cX10_act 24 = .ok (.iconst 0, 1) := by decide +kernel
theorem dX10_act_25 : decode cX10_act 25 = .ok (.ireturn, 1) := by decide +kernel
theorem dX10_act_26 : decode cX10_act 26 = .ok (.aload_n 0, 1) := by decide +kernel
theorem dX10_act_27 : decode cX10_act 27 = .ok (.getfield 67, 3) := by decide +kernel
theorem dX10_act_30 : decode cX10_act 30 = .ok (.aload_n 0, 1) := by decide +kernel
theorem dX10_act_31 : decode cX10_act 31 = .ok (.getfield 23, 3) := by decide +kernel
theorem dX10_act_34 : decode cX10_act 34 = .ok (.getfield 77, 3) := by decide +kernel
theorem dX10_act_37 : decode cX10_act 37 = .ok (.iload_n 1, 1) := by decide +kernel
theorem dX10_act_38 : decode cX10_act 38 = .ok (.aaload, 1) := by decide +kernel
theorem dX10_act_39 : decode cX10_act 39 = .ok (.iload_n 2, 1) := by decide +kernel
theorem dX10_act_40 : decode cX10_act 40 = .ok (.iload_n 3, 1) := by decide +kernel
theorem dX10_act_41 : decode cX10_act 41 = .ok (.invokevirtual 286, 3) := by decide +kernel
theorem dX10_act_44 : decode cX10_act 44 = .ok (.ireturn, 1) := by decide +kernel
theorem dX10_trace_0 : decode cX10_trace 0 = .ok (.iload_n 1, 1) := by decide +kernel
theorem dX10_trace_1 : decode cX10_trace 1 = .ok (.aload_n 0, 1) := by decide +kernel
theorem dX10_trace_2 : decode cX10_trace 2 = .ok (.getfield 67, 3) := by decide +kernel
theorem dX10_trace_5 : decode cX10_trace 5 = .ok (.getfield 283, 3) := by decide +kernel
theorem dX10_trace_8 : decode cX10_trace 8 = .ok (.bipush 20, 2) := by decide +kernel
theorem dX10_trace_10 : decode cX10_trace 10 = .ok (.invokestatic 289, 3) := by decide +kernel
theorem dX10_trace_13 : decode cX10_trace 13 = .ok (.invokestatic 85, 3) := by decide +kernel
theorem dX10_trace_16 : decode cX10_trace 16 = .ok (.ifCond .eq 15, 3) := by decide +kernel
theorem dX10_trace_19 : decode cX10_trace 19 = .ok (.aload_n 0, 1) := by decide +kernel
theorem dX10_trace_20 : decode cX10_trace 20 = .ok (.getfield 67, 3) := by decide +kernel
theorem dX10_trace_23 : decode cX10_trace 23 = .ok (.getfield 294, 3) := by decide +kernel
theorem dX10_trace_26 : decode cX10_trace 26 = .ok (.iload_n 1, 1) := by decide +kernel
theorem dX10_trace_27 : decode cX10_trace 27 = .ok (.iaload, 1) := by decide +kernel
theorem dX10_trace_28 : decode cX10_trace 28 = .ok (.goto 4, 3) := by decide +kernel
theorem dX10_trace_31 : decode cX10_trace 31 = .ok (.iconst (-1), 1) := by decide +kernel
theorem dX10_trace_32 : decode cX10_trace 32 = .ok (.ireturn, 1) := by decide +kernel
theorem dX10_taken_0 : decode cX10_taken 0 = .ok (.iload_n 2, 1) := by decide +kernel
theorem dX10_taken_1 : decode cX10_taken 1 = .ok (.bipush 7, 2) := by decide +kernel
theorem dX10_taken_3 : decode cX10_taken 3 = .ok (.invokestatic 85, 3) := by decide +kernel
theorem dX10_taken_6 : decode cX10_taken 6 = .ok (.ifCond .ne 6, 3) := by decide +kernel
theorem dX10_taken_9 : decode cX10_taken 9 = .ok (.bipush (-2), 2) := by decide +kernel
theorem dX10_taken_11 : decode cX10_taken 11 = .ok (.ireturn, 1) := by decide +kernel
theorem dX10_taken_12 : decode cX10_taken 12 = .ok (.aload_n 0, 1) := by decide +kernel
theorem dX10_taken_13 : decode cX10_taken 13 = .ok (.iload_n 1, 1) := by decide +kernel
theorem dX10_taken_14 : decode cX10_taken 14 = .ok (.invokevirtual 105, 3) := by decide +kernel
theorem dX10_taken_17 : decode cX10_taken 17 = .ok (.ifCond .ne 6, 3) := by decide +kernel
theorem dX10_taken_20 : decode cX10_taken 20 = .ok (.bipush (-11), 2) := by decide +kernel
theorem dX10_taken_22 : decode cX10_taken 22 = .ok (.ireturn, 1) := by decide +kernel
theorem dX10_taken_23 : decode cX10_taken 23 = .ok (.aload_n 0, 1) := by decide +kernel
theorem dX10_taken_24 : decode cX10_taken 24 = .ok (.getfield 23, 3) := by decide +kernel
theorem dX10_taken_27 : decode cX10_taken 27 = .ok (.getfield 77, 3) := by decide +kernel
theorem dX10_taken_30 : decode cX10_taken 30 = .ok (.iload_n 1, 1) := by decide +kernel
theorem dX10_taken_31 : decode cX10_taken 31 = .ok (.aaload, 1) := by decide +kernel
theorem dX10_taken_32 : decode cX10_taken 32 = .ok (.getfield 109, 3) := by decide +kernel
theorem dX10_taken_35 : decode cX10_taken 35 = .ok (.istore_n 3, 1) := by decide +kernel
theorem dX10_taken_36 : decode cX10_taken 36 = .ok (.iload_n 3, 1) := by decide +kernel
theorem dX10_taken_37 : decode cX10_taken 37 = .ok (.iload_n 2, 1) := by decide +kernel
theorem dX10_taken_38 : decode cX10_taken 38 = .ok (.invokestatic 297, 3) := by decide +kernel
theorem dX10_taken_41 : decode cX10_taken 41 = .ok (.ifCond .eq 7, 3) := by decide +kernel
theorem dX10_taken_44 : decode cX10_taken 44 = .ok (.iload_n 3, 1) := by decide +kernel
theorem dX10_taken_45 : decode cX10_taken 45 = .ok (.goto 5, 3) := by decide +kernel
theorem dX10_taken_48 : decode cX10_taken 48 = .ok (.bipush (-12), 2) := by decide +kernel
theorem dX10_taken_50 : decode cX10_taken 50 = .ok (.ireturn, 1) := by decide +kernel
theorem dX10_count_0 : decode cX10_count 0 = .ok (.iload_n 1, 1) := by decide +kernel
theorem dX10_count_1 : decode cX10_count 1 = .ok (.tableswitch 105 0 6 #[43, 51, 56, 67, 78, 89, 97], 43) := by decide +kernel
theorem dX10_count_44 : decode cX10_count 44 = .ok (.aload_n 0, 1) := by decide +kernel
theorem dX10_count_45 : decode cX10_count 45 = .ok (.getfield 23, 3) := by decide +kernel
theorem dX10_count_48 : decode cX10_count 48 = .ok (.getfield 92, 3) := by decide +kernel
theorem dX10_count_51 : decode cX10_count 51 = .ok (.ireturn, 1) := by decide +kernel
theorem dX10_count_52 : decode cX10_count 52 = .ok (.aload_n 0, 1) := by decide +kernel
theorem dX10_count_53 : decode cX10_count 53 = .ok (.getfield 172, 3) := by decide +kernel
theorem dX10_count_56 : decode cX10_count 56 = .ok (.ireturn, 1) := by decide +kernel
theorem dX10_count_57 : decode cX10_count 57 = .ok (.aload_n 0, 1) := by decide +kernel
theorem dX10_count_58 : decode cX10_count 58 = .ok (.getfield 23, 3) := by decide +kernel
theorem dX10_count_61 : decode cX10_count 61 = .ok (.getfield 216, 3) := by decide +kernel
theorem dX10_count_64 : decode cX10_count 64 = .ok (.getfield 220, 3) := by decide +kernel
theorem dX10_count_67 : decode cX10_count 67 = .ok (.ireturn, 1) := by decide +kernel
theorem dX10_count_68 : decode cX10_count 68 = .ok (.aload_n 0, 1) := by decide +kernel
theorem dX10_count_69 : decode cX10_count 69 = .ok (.getfield 23, 3) := by decide +kernel
theorem dX10_count_72 : decode cX10_count 72 = .ok (.getfield 247, 3) := by decide +kernel
theorem dX10_count_75 : decode cX10_count 75 = .ok (.getfield 220, 3) := by decide +kernel
theorem dX10_count_78 : decode cX10_count 78 = .ok (.ireturn, 1) := by decide +kernel
theorem dX10_count_79 : decode cX10_count 79 = .ok (.aload_n 0, 1) := by decide +kernel
theorem dX10_count_80 : decode cX10_count 80 = .ok (.getfield 23, 3) := by decide +kernel
theorem dX10_count_83 : decode cX10_count 83 = .ok (.getfield 264, 3) := by decide +kernel
theorem dX10_count_86 : decode cX10_count 86 = .ok (.getfield 220, 3) := by decide +kernel
theorem dX10_count_89 : decode cX10_count 89 = .ok (.ireturn, 1) := by decide +kernel
theorem dX10_count_90 : decode cX10_count 90 = .ok (.aload_n 0, 1) := by decide +kernel
theorem dX10_count_91 : decode cX10_count 91 = .ok (.getfield 36, 3) := by decide +kernel
theorem dX10_count_94 : decode cX10_count 94 = .ok (.getfield 169, 3) := by decide +kernel
theorem dX10_count_97 : decode cX10_count 97 = .ok (.ireturn, 1) := by decide +kernel
theorem dX10_count_98 : decode cX10_count 98 = .ok (.aload_n 0, 1) := by decide +kernel
theorem dX10_count_99 : decode cX10_count 99 = .ok (.getfield 67, 3) := by decide +kernel
theorem dX10_count_102 : decode cX10_count 102 = .ok (.getfield 283, 3) := by decide +kernel
theorem dX10_count_105 : decode cX10_count 105 = .ok (.ireturn, 1) := by decide +kernel
theorem dX10_count_106 : decode cX10_count 106 = .ok (.bipush (-2), 2) := by decide +kernel
theorem dX10_count_108 : decode cX10_count 108 = .ok (.ireturn, 1) := by decide +kernel
theorem dX10_tape_0 : decode cX10_tape 0 = .ok (.iload_n 1, 1) := by decide +kernel
theorem dX10_tape_1 : decode cX10_tape 1 = .ok (.bipush 6, 2) := by decide +kernel
theorem dX10_tape_3 : decode cX10_tape 3 = .ok (.invokestatic 85, 3) := by decide +kernel
theorem dX10_tape_6 : decode cX10_tape 6 = .ok (.ifCond .ne 5, 3) := by decide +kernel
theorem dX10_tape_9 : decode cX10_tape 9 = .ok (.iconst (-1), 1) := by decide +kernel
theorem dX10_tape_10 : decode cX10_tape 10 = .ok (.ireturn, 1) := by decide +kernel
theorem dX10_tape_11 : decode cX10_tape 11 = .ok (.iload_n 2, 1) := by decide +kernel
theorem dX10_tape_12 : decode cX10_tape 12 = .ok (.iconst (-1), 1) := by decide +kernel
theorem dX10_tape_13 : decode cX10_tape 13 = .ok (.if_icmp .ne 16, 3) := by decide +kernel
theorem dX10_tape_16 : decode cX10_tape 16 = .ok (.aload_n 0, 1) := by decide +kernel
theorem dX10_tape_17 : decode cX10_tape 17 = .ok (.getfield 73, 3) := by decide +kernel
theorem dX10_tape_20 : decode cX10_tape 20 = .ok (.iload_n 1, 1) := by decide +kernel
theorem dX10_tape_21 : decode cX10_tape 21 = .ok (.aaload, 1) := by decide +kernel
theorem dX10_tape_22 : decode cX10_tape 22 = .ok (.iconst (-1), 1) := by decide +kernel
theorem dX10_tape_23 : decode cX10_tape 23 = .ok (.iconst 0, 1) := by decide +kernel
theorem dX10_tape_24 : decode cX10_tape 24 = .ok (.invokevirtual 300, 3) := by decide +kernel
theorem dX10_tape_27 : decode cX10_tape 27 = .ok (.iconst 1, 1) := by decide +kernel
theorem dX10_tape_28 : decode cX10_tape 28 = .ok (.ireturn, 1) := by decide +kernel
theorem dX10_tape_29 : decode cX10_tape 29 = .ok (.iload_n 2, 1) := by decide +kernel
theorem dX10_tape_30 : decode cX10_tape 30 = .ok (.iconst 5, 1) := by decide +kernel
theorem dX10_tape_31 : decode cX10_tape 31 = .ok (.invokestatic 85, 3) := by decide +kernel
theorem dX10_tape_34 : decode cX10_tape 34 = .ok (.ifCond .eq 9, 3) := by decide +kernel
theorem dX10_tape_37 : decode cX10_tape 37 = .ok (.iload_n 3, 1) := by decide +kernel
theorem dX10_tape_38 : decode cX10_tape 38 = .ok (.bipush 60, 2) := by decide +kernel
theorem dX10_tape_40 : decode cX10_tape 40 = .ok (.if_icmp .le 6, 3) := by decide +kernel
theorem dX10_tape_43 : decode cX10_tape 43 = .ok (.bipush (-2), 2) := by decide +kernel
theorem dX10_tape_45 : decode cX10_tape 45 = .ok (.ireturn, 1) := by decide +kernel
theorem dX10_tape_46 : decode cX10_tape 46 = .ok (.iload_n 3, 1) := by decide +kernel
theorem dX10_tape_47 : decode cX10_tape 47 = .ok (.ifCond .ge 6, 3) := by decide +kernel
theorem dX10_tape_50 : decode cX10_tape 50 = .ok (.bipush (-14), 2) := by decide +kernel
theorem dX10_tape_52 : decode cX10_tape 52 = .ok (.ireturn, 1) := by decide +kernel
theorem dX10_tape_53 : decode cX10_tape 53 = .ok (.aload_n 0, 1) := by decide +kernel
theorem dX10_tape_54 : decode cX10_tape 54 = .ok (.getfield 73, 3) := by decide +kernel
theorem dX10_tape_57 : decode cX10_tape 57 = .ok (.iload_n 1, 1) := by decide +kernel
theorem dX10_tape_58 : decode cX10_tape 58 = .ok (.aaload, 1) := by decide +kernel
theorem dX10_tape_59 : decode cX10_tape 59 = .ok (.iload_n 2, 1) := by decide +kernel
theorem dX10_tape_60 : decode cX10_tape 60 = .ok (.iload_n 3, 1) := by decide +kernel
theorem dX10_tape_61 : decode cX10_tape 61 = .ok (.invokevirtual 300, 3) := by decide +kernel
theorem dX10_tape_64 : decode cX10_tape 64 = .ok (.iconst 1, 1) := by decide +kernel
theorem dX10_tape_65 : decode cX10_tape 65 = .ok (.ireturn, 1) := by decide +kernel
theorem dX10_item_0 : decode cX10_item 0 = .ok (.iload_n 1, 1) := by decide +kernel
theorem dX10_item_1 : decode cX10_item 1 = .ok (.bipush 6, 2) := by decide +kernel
theorem dX10_item_3 : decode cX10_item 3 = .ok (.invokestatic 85, 3) := by decide +kernel
theorem dX10_item_6 : decode cX10_item 6 = .ok (.ifCond .ne 5, 3) := by decide +kernel
theorem dX10_item_9 : decode cX10_item 9 = .ok (.iconst (-1), 1) := by decide +kernel
theorem dX10_item_10 : decode cX10_item 10 = .ok (.ireturn, 1) := by decide +kernel
theorem dX10_item_11 : decode cX10_item 11 = .ok (.aload_n 0, 1) := by decide +kernel
theorem dX10_item_12 : decode cX10_item 12 = .ok (.getfield 73, 3) := by decide +kernel
theorem dX10_item_15 : decode cX10_item 15 = .ok (.iload_n 1, 1) := by decide +kernel
theorem dX10_item_16 : decode cX10_item 16 = .ok (.aaload, 1) := by decide +kernel
theorem dX10_item_17 : decode cX10_item 17 = .ok (.astore 5, 2) := by decide +kernel
theorem dX10_item_19 : decode cX10_item 19 = .ok (.aload 5, 2) := by decide +kernel
theorem dX10_item_21 : decode cX10_item 21 = .ok (.getfield 267, 3) := by decide +kernel
theorem dX10_item_24 : decode cX10_item 24 = .ok (.iconst (-1), 1) := by decide +kernel
theorem dX10_item_25 : decode cX10_item 25 = .ok (.if_icmp .ne 6, 3) := by decide +kernel
theorem dX10_item_28 : decode cX10_item 28 = .ok (.bipush (-11), 2) := by decide +kernel
theorem dX10_item_30 : decode cX10_item 30 = .ok (.ireturn, 1) := by decide +kernel
theorem dX10_item_31 : decode cX10_item 31 = .ok (.aload 5, 2) := by decide +kernel
theorem dX10_item_33 : decode cX10_item 33 = .ok (.iload_n 2, 1) := by decide +kernel
theorem dX10_item_34 : decode cX10_item 34 = .ok (.iconst 1, 1) := by decide +kernel
theorem dX10_item_35 : decode cX10_item 35 = .ok (.invokevirtual 270, 3) := by decide +kernel
theorem dX10_item_38 : decode cX10_item 38 = .ok (.ifCond .ne 6, 3) := by decide +kernel
theorem dX10_item_41 : decode cX10_item 41 = .ok (.bipush (-13), 2) := by decide +kernel
theorem dX10_item_43 : decode cX10_item 43 = .ok (.ireturn, 1) := by decide +kernel
theorem dX10_item_44 : decode cX10_item 44 = .ok (.aload 5, 2) := by decide +kernel
theorem dX10_item_46 : decode cX10_item 46 = .ok (.getfield 274, 3) := by decide +kernel
theorem dX10_item_49 : decode cX10_item 49 = .ok (.iload_n 2, 1) := by decide +kernel
theorem dX10_item_50 : decode cX10_item 50 = .ok (.aload 5, 2) := by decide +kernel
theorem dX10_item_52 : decode cX10_item 52 = .ok (.lload_n 3, 1) := by decide +kernel
theorem dX10_item_53 : decode cX10_item 53 = .ok (.invokevirtual 303, 3) := by decide +kernel
theorem dX10_item_56 : decode cX10_item 56 = .ok (.lastore, 1) := by decide +kernel
theorem dX10_item_57 : decode cX10_item 57 = .ok (.iconst 1, 1) := by decide +kernel
theorem dX10_item_58 : decode cX10_item 58 = .ok (.ireturn, 1) := by decide +kernel
theorem dX10_read_0 : decode cX10_read 0 = .ok (.iload_n 1, 1) := by decide +kernel
theorem dX10_read_1 : decode cX10_read 1 = .ok (.bipush 6, 2) := by decide +kernel
theorem dX10_read_3 : decode cX10_read 3 = .ok (.invokestatic 85, 3) := by decide +kernel
theorem dX10_read_6 : decode cX10_read 6 = .ok (.ifCond .eq 31, 3) := by decide +kernel
theorem dX10_read_9 : decode cX10_read 9 = .ok (.aload_n 0, 1) := by decide +kernel
theorem dX10_read_10 : decode cX10_read 10 = .ok (.getfield 73, 3) := by decide +kernel
theorem dX10_read_13 : decode cX10_read 13 = .ok (.iload_n 1, 1) := by decide +kernel
theorem dX10_read_14 : decode cX10_read 14 = .ok (.aaload, 1) := by decide +kernel
theorem dX10_read_15 : decode cX10_read 15 = .ok (.iload_n 2, 1) := by decide +kernel
theorem dX10_read_16 : decode cX10_read 16 = .ok (.iconst 1, 1) := by decide +kernel
theorem dX10_read_17 : decode cX10_read 17 = .ok (.invokevirtual 270, 3) := by decide +kernel
theorem dX10_read_20 : decode cX10_read 20 = .ok (.ifCond .eq 17, 3) := by decide +kernel
theorem dX10_read_23 : decode cX10_read 23 = .ok (.aload_n 0, 1) := by decide +kernel
theorem dX10_read_24 : decode cX10_read 24 = .ok (.getfield 73, 3) := by decide +kernel
theorem dX10_read_27 : decode cX10_read 27 = .ok (.iload_n 1, 1) := by decide +kernel
theorem dX10_read_28 : decode cX10_read 28 = .ok (.aaload, 1) := by decide +kernel
theorem dX10_read_29 : decode cX10_read 29 = .ok (.getfield 274, 3) := by decide +kernel
theorem dX10_read_32 : decode cX10_read 32 = .ok (.iload_n 2, 1) := by decide +kernel
theorem dX10_read_33 : decode cX10_read 33 = .ok (.laload, 1) := by decide +kernel
theorem dX10_read_34 : decode cX10_read 34 = .ok (.goto 6, 3) := by decide +kernel
theorem dX10_read_37 : decode cX10_read 37 = .ok (.ldc2_w 241, 3) := by decide +kernel
theorem dX10_read_40 : decode cX10_read 40 = .ok (.lreturn, 1) := by decide +kernel
theorem dX10_shift_0 : decode cX10_shift 0 = .ok (.iload_n 1, 1) := by decide +kernel
theorem dX10_shift_1 : decode cX10_shift 1 = .ok (.bipush 6, 2) := by decide +kernel
theorem dX10_shift_3 : decode cX10_shift 3 = .ok (.invokestatic 85, 3) := by decide +kernel
theorem dX10_shift_6 : decode cX10_shift 6 = .ok (.ifCond .eq 12, 3) := by decide +kernel
theorem dX10_shift_9 : decode cX10_shift 9 = .ok (.iload_n 3, 1) := by decide +kernel
theorem dX10_shift_10 : decode cX10_shift 10 = .ok (.bipush 6, 2) := by decide +kernel
theorem dX10_shift_12 : decode cX10_shift 12 = .ok (.invokestatic 85, 3) := by decide +kernel
theorem dX10_shift_15 : decode cX10_shift 15 = .ok (.ifCond .ne 5, 3) := by decide +kernel
theorem dX10_shift_18 : decode cX10_shift 18 = .ok (.iconst (-1), 1) := by decide +kernel
theorem dX10_shift_19 : decode cX10_shift 19 = .ok (.ireturn, 1) := by decide +kernel
theorem dX10_shift_20 : decode cX10_shift 20 = .ok (.aload_n 0, 1) := by decide +kernel
theorem dX10_shift_21 : decode cX10_shift 21 = .ok (.getfield 73, 3) := by decide +kernel
theorem dX10_shift_24 : decode cX10_shift 24 = .ok (.iload_n 1, 1) := by decide +kernel
theorem dX10_shift_25 : decode cX10_shift 25 = .ok (.aaload, 1) := by decide +kernel
theorem dX10_shift_26 : decode cX10_shift 26 = .ok (.astore 6, 2) := by decide +kernel
theorem dX10_shift_28 : decode cX10_shift 28 = .ok (.aload_n 0, 1) := by decide +kernel
theorem dX10_shift_29 : decode cX10_shift 29 = .ok (.getfield 73, 3) := by decide +kernel
theorem dX10_shift_32 : decode cX10_shift 32 = .ok (.iload_n 3, 1) := by decide +kernel
theorem dX10_shift_33 : decode cX10_shift 33 = .ok (.aaload, 1) := by decide +kernel
theorem dX10_shift_34 : decode cX10_shift 34 = .ok (.astore 7, 2) := by decide +kernel
theorem dX10_shift_36 : decode cX10_shift 36 = .ok (.aload 6, 2) := by decide +kernel
theorem dX10_shift_38 : decode cX10_shift 38 = .ok (.getfield 267, 3) := by decide +kernel
theorem dX10_shift_41 : decode cX10_shift 41 = .ok (.iconst (-1), 1) := by decide +kernel
theorem dX10_shift_42 : decode cX10_shift 42 = .ok (.if_icmp .eq 12, 3) := by decide +kernel
theorem dX10_shift_45 : decode cX10_shift 45 = .ok (.aload 7, 2) := by decide +kernel
theorem dX10_shift_47 : decode cX10_shift 47 = .ok (.getfield 267, 3) := by decide +kernel
theorem dX10_shift_50 : decode cX10_shift 50 = .ok (.iconst (-1), 1) := by decide +kernel
theorem dX10_shift_51 : decode cX10_shift 51 = .ok (.if_icmp .ne 6, 3) := by decide +kernel
theorem dX10_shift_54 : decode cX10_shift 54 = .ok (.bipush (-11), 2) := by decide +kernel
theorem dX10_shift_56 : decode cX10_shift 56 = .ok (.ireturn, 1) := by decide +kernel
theorem dX10_shift_57 : decode cX10_shift 57 = .ok (.aload 6, 2) := by decide +kernel
theorem dX10_shift_59 : decode cX10_shift 59 = .ok (.getfield 267, 3) := by decide +kernel
theorem dX10_shift_62 : decode cX10_shift 62 = .ok (.aload 7, 2) := by decide +kernel
theorem dX10_shift_64 : decode cX10_shift 64 = .ok (.getfield 267, 3) := by decide +kernel
theorem dX10_shift_67 : decode cX10_shift 67 = .ok (.if_icmp .eq 6, 3) := by decide +kernel
theorem dX10_shift_70 : decode cX10_shift 70 = .ok (.bipush (-12), 2) := by decide +kernel
theorem dX10_shift_72 : decode cX10_shift 72 = .ok (.ireturn, 1) := by decide +kernel
theorem dX10_shift_73 : decode cX10_shift 73 = .ok (.aload 6, 2) := by decide +kernel
theorem dX10_shift_75 : decode cX10_shift 75 = .ok (.iload_n 2, 1) := by decide +kernel
theorem dX10_shift_76 : decode cX10_shift 76 = .ok (.iload 5, 2) := by decide +kernel
theorem dX10_shift_78 : decode cX10_shift 78 = .ok (.invokevirtual 270, 3) := by decide +kernel
theorem dX10_shift_81 : decode cX10_shift 81 = .ok (.ifCond .eq 15, 3) := by decide +kernel
theorem dX10_shift_84 : decode cX10_shift 84 = .ok (.aload 7, 2) := by decide +kernel
theorem dX10_shift_86 : decode cX10_shift 86 = .ok (.iload 4, 2) := by decide +kernel
theorem dX10_shift_88 : decode cX10_shift 88 = .ok (.iload 5, 2) := by decide +kernel
theorem dX10_shift_90 : decode cX10_shift 90 = .ok (.invokevirtual 270, 3) := by decide +kernel
theorem dX10_shift_93 : decode cX10_shift 93 = .ok (.ifCond .ne 6, 3) := by decide +kernel
theorem dX10_shift_96 : decode cX10_shift 96 = .ok (.bipush (-13), 2) := by decide +kernel
theorem dX10_shift_98 : decode cX10_shift 98 = .ok (.ireturn, 1) := by decide +kernel
theorem dX10_shift_99 : decode cX10_shift 99 = .ok (.aload 6, 2) := by decide +kernel
theorem dX10_shift_101 : decode cX10_shift 101 = .ok (.getfield 274, 3) := by decide +kernel
theorem dX10_shift_104 : decode cX10_shift 104 = .ok (.iload_n 2, 1) := by decide +kernel
theorem dX10_shift_105 : decode cX10_shift 105 = .ok (.aload 7, 2) := by decide +kernel
theorem dX10_shift_107 : decode cX10_shift 107 = .ok (.getfield 274, 3) := by decide +kernel
theorem dX10_shift_110 : decode cX10_shift 110 = .ok (.iload 4, 2) := by decide +kernel
theorem dX10_shift_112 : decode cX10_shift 112 = .ok (.iload 5, 2) := by decide +kernel
theorem dX10_shift_114 : decode cX10_shift 114 = .ok (.invokestatic 307, 3) := by decide +kernel
theorem dX10_shift_117 : decode cX10_shift 117 = .ok (.iload 5, 2) := by decide +kernel
theorem dX10_shift_119 : decode cX10_shift 119 = .ok (.ireturn, 1) := by decide +kernel
theorem dX10_isBelow_0 : decode cX10_isBelow 0 = .ok (.iload_n 0, 1) := by decide +kernel
theorem dX10_isBelow_1 : decode cX10_isBelow 1 = .ok (.ifCond .lt 12, 3) := by decide +kernel
theorem dX10_isBelow_4 : decode cX10_isBelow 4 = .ok (.iload_n 0, 1) := by decide +kernel
theorem dX10_isBelow_5 : decode cX10_isBelow 5 = .ok (.iload_n 1, 1) := by decide +kernel
theorem dX10_isBelow_6 : decode cX10_isBelow 6 = .ok (.if_icmp .ge 7, 3) := by decide +kernel
theorem dX10_isBelow_9 : decode cX10_isBelow 9 = .ok (.iconst 1, 1) := by decide +kernel
theorem dX10_isBelow_10 : decode cX10_isBelow 10 = .ok (.goto 4, 3) := by decide +kernel
theorem dX10_isBelow_13 : decode cX10_isBelow 13 = .ok (.iconst 0, 1) := by decide +kernel
theorem dX10_isBelow_14 : decode cX10_isBelow 14 = .ok (.ireturn, 1) := by decide +kernel
theorem dX10_isWithin_0 : decode cX10_isWithin 0 = .ok (.iload_n 0, 1) := by decide +kernel
theorem dX10_isWithin_1 : decode cX10_isWithin 1 = .ok (.ifCond .lt 12, 3) := by decide +kernel
theorem dX10_isWithin_4 : decode cX10_isWithin 4 = .ok (.iload_n 0, 1) := by decide +kernel
theorem dX10_isWithin_5 : decode cX10_isWithin 5 = .ok (.iload_n 1, 1) := by decide +kernel
theorem dX10_isWithin_6 : decode cX10_isWithin 6 = .ok (.if_icmp .gt 7, 3) := by decide +kernel
theorem dX10_isWithin_9 : decode cX10_isWithin 9 = .ok (.iconst 1, 1) := by decide +kernel
theorem dX10_isWithin_10 : decode cX10_isWithin 10 = .ok (.goto 4, 3) := by decide +kernel
theorem dX10_isWithin_13 : decode cX10_isWithin 13 = .ok (.iconst 0, 1) := by decide +kernel
theorem dX10_isWithin_14 : decode cX10_isWithin 14 = .ok (.ireturn, 1) := by decide +kernel
theorem dX10_isPurpose_0 : decode cX10_isPurpose 0 = .ok (.iload_n 0, 1) := by decide +kernel
theorem dX10_isPurpose_1 : decode cX10_isPurpose 1 = .ok (.bipush 12, 2) := by decide +kernel
theorem dX10_isPurpose_3 : decode cX10_isPurpose 3 = .ok (.invokestatic 85, 3) := by decide +kernel
theorem dX10_isPurpose_6 : decode cX10_isPurpose 6 = .ok (.ireturn, 1) := by decide +kernel
theorem dX10_isGuest_0 : decode cX10_isGuest 0 = .ok (.iload_n 1, 1) := by decide +kernel
theorem dX10_isGuest_1 : decode cX10_isGuest 1 = .ok (.aload_n 0, 1) := by decide +kernel
theorem dX10_isGuest_2 : decode cX10_isGuest 2 = .ok (.getfield 23, 3) := by decide +kernel
theorem dX10_isGuest_5 : decode cX10_isGuest 5 = .ok (.getfield 92, 3) := by decide +kernel
theorem dX10_isGuest_8 : decode cX10_isGuest 8 = .ok (.invokestatic 85, 3) := by decide +kernel
theorem dX10_isGuest_11 : decode cX10_isGuest 11 = .ok (.ireturn, 1) := by decide +kernel
theorem dX10_has_0 : decode cX10_has 0 = .ok (.iload_n 0, 1) := by decide +kernel
theorem dX10_has_1 : decode cX10_has 1 = .ok (.iload_n 1, 1) := by decide +kernel
theorem dX10_has_2 : decode cX10_has 2 = .ok (.ishr, 1) := by decide +kernel
theorem dX10_has_3 : decode cX10_has 3 = .ok (.iconst 1, 1) := by decide +kernel
theorem dX10_has_4 : decode cX10_has 4 = .ok (.iand, 1) := by decide +kernel
theorem dX10_has_5 : decode cX10_has 5 = .ok (.ifCond .eq 7, 3) := by decide +kernel
theorem dX10_has_8 : decode cX10_has 8 = .ok (.iconst 1, 1) := by decide +kernel
theorem dX10_has_9 : decode cX10_has 9 = .ok (.goto 4, 3) := by decide +kernel
theorem dX10_has_12 : decode cX10_has 12 = .ok (.iconst 0, 1) := by decide +kernel
theorem dX10_has_13 : decode cX10_has 13 = .ok (.ireturn, 1) := by decide +kernel
theorem dX10_without_0 : decode cX10_without 0 = .ok (.iload_n 1, 1) := by decide +kernel
theorem dX10_without_1 : decode cX10_without 1 = .ok (.invokestatic 143, 3) := by decide +kernel
theorem dX10_without_4 : decode cX10_without 4 = .ok (.ifCond .eq 13, 3) := by decide +kernel
theorem dX10_without_7 : decode cX10_without 7 = .ok (.iload_n 0, 1) := by decide +kernel
theorem dX10_without_8 : decode cX10_without 8 = .ok (.iconst 1, 1) := by decide +kernel
theorem dX10_without_9 : decode cX10_without 9 = .ok (.iload_n 1, 1) := by decide +kernel
theorem dX10_without_10 : decode cX10_without 10 = .ok (.ishl, 1) := by decide +kernel
theorem dX10_without_11 : decode cX10_without 11 = .ok (.iconst (-1), 1) := by decide +kernel
theorem dX10_without_12 : decode cX10_without 12 = .ok (.ixor, 1) := by decide +kernel
theorem dX10_without_13 : decode cX10_without 13 = .ok (.iand, 1) := by decide +kernel
theorem dX10_without_14 : decode cX10_without 14 = .ok (.goto 4, 3) := by decide +kernel
theorem dX10_without_17 : decode cX10_without 17 = .ok (.iload_n 0, 1) := by decide +kernel
theorem dX10_without_18 : decode cX10_without 18 = .ok (.ireturn, 1) := by decide +kernel
theorem dX10_isUnder_0 : decode cX10_isUnder 0 = .ok (.iload_n 0, 1) := by decide +kernel
theorem dX10_isUnder_1 : decode cX10_isUnder 1 = .ok (.istore_n 2, 1) := by decide +kernel
theorem dX10_isUnder_2 : decode cX10_isUnder 2 = .ok (.iconst 0, 1) := by decide +kernel
theorem dX10_isUnder_3 : decode cX10_isUnder 3 = .ok (.istore_n 3, 1) := by decide +kernel
theorem dX10_isUnder_4 : decode cX10_isUnder 4 = .ok (.iload_n 3, 1) := by decide +kernel
theorem dX10_isUnder_5 : decode cX10_isUnder 5 = .ok (.bipush 7, 2) := by decide +kernel
theorem dX10_isUnder_7 : decode cX10_isUnder 7 = .ok (.if_icmp .ge 31, 3) := by decide +kernel
theorem dX10_isUnder_10 : decode cX10_isUnder 10 = .ok (.iload_n 2, 1) := by decide +kernel
theorem dX10_isUnder_11 : decode cX10_isUnder 11 = .ok (.bipush 7, 2) := by decide +kernel
theorem dX10_isUnder_13 : decode cX10_isUnder 13 = .ok (.invokestatic 85, 3) := by decide +kernel
theorem dX10_isUnder_16 : decode cX10_isUnder 16 = .ok (.ifCond .eq 22, 3) := by decide +kernel
theorem dX10_isUnder_19 : decode cX10_isUnder 19 = .ok (.iload_n 2, 1) := by decide +kernel
theorem dX10_isUnder_20 : decode cX10_isUnder 20 = .ok (.iload_n 1, 1) := by decide +kernel
theorem dX10_isUnder_21 : decode cX10_isUnder 21 = .ok (.if_icmp .ne 5, 3) := by decide +kernel
theorem dX10_isUnder_24 : decode cX10_isUnder 24 = .ok (.iconst 1, 1) := by decide +kernel
theorem dX10_isUnder_25 : decode cX10_isUnder 25 = .ok (.ireturn, 1) := by decide +kernel
theorem dX10_isUnder_26 : decode cX10_isUnder 26 = .ok (.getstatic 313, 3) := by decide +kernel
theorem dX10_isUnder_29 : decode cX10_isUnder 29 = .ok (.iload_n 2, 1) := by decide +kernel
theorem dX10_isUnder_30 : decode cX10_isUnder 30 = .ok (.iaload, 1) := by decide +kernel
theorem dX10_isUnder_31 : decode cX10_isUnder 31 = .ok (.istore_n 2, 1) := by decide +kernel
theorem dX10_isUnder_32 : decode cX10_isUnder 32 = .ok (.iinc 3 1, 3) := by decide +kernel
theorem dX10_isUnder_35 : decode cX10_isUnder 35 = .ok (.goto (-31), 3) := by decide +kernel
theorem dX10_isUnder_38 : decode cX10_isUnder 38 = .ok (.iconst 0, 1) := by decide +kernel
theorem dX10_isUnder_39 : decode cX10_isUnder 39 = .ok (.ireturn, 1) := by decide +kernel
theorem dX10_lureOf_0 : decode cX10_lureOf 0 = .ok (.aload_n 0, 1) := by decide +kernel
theorem dX10_lureOf_1 : decode cX10_lureOf 1 = .ok (.getfield 46, 3) := by decide +kernel
theorem dX10_lureOf_4 : decode cX10_lureOf 4 = .ok (.aload_n 1, 1) := by decide +kernel
theorem dX10_lureOf_5 : decode cX10_lureOf 5 = .ok (.getfield 102, 3) := by decide +kernel
theorem dX10_lureOf_8 : decode cX10_lureOf 8 = .ok (.aaload, 1) := by decide +kernel
theorem dX10_lureOf_9 : decode cX10_lureOf 9 = .ok (.astore_n 2, 1) := by decide +kernel
theorem dX10_lureOf_10 : decode cX10_lureOf 10 = .ok (.aload_n 2, 1) := by decide +kernel
theorem dX10_lureOf_11 : decode cX10_lureOf 11 = .ok (.aload_n 0, 1) := by decide +kernel
theorem dX10_lureOf_12 : decode cX10_lureOf 12 = .ok (.getfield 23, 3) := by decide +kernel
theorem dX10_lureOf_15 : decode cX10_lureOf 15 = .ok (.aload_n 1, 1) := by decide +kernel
theorem dX10_lureOf_16 : decode cX10_lureOf 16 = .ok (.invokevirtual 316, 3) := by decide +kernel
theorem dX10_lureOf_19 : decode cX10_lureOf 19 = .ok (.aload_n 2, 1) := by decide +kernel
theorem dX10_lureOf_20 : decode cX10_lureOf 20 = .ok (.areturn, 1) := by decide +kernel
theorem dX10_settle_0 : decode cX10_settle 0 = .ok (.iconst 0, 1) := by decide +kernel
theorem dX10_settle_1 : decode cX10_settle 1 = .ok (.istore_n 2, 1) := by decide +kernel
theorem dX10_settle_2 : decode cX10_settle 2 = .ok (.iload_n 2, 1) := by decide +kernel
theorem dX10_settle_3 : decode cX10_settle 3 = .ok (.aload_n 1, 1) := by decide +kernel
theorem dX10_settle_4 : decode cX10_settle 4 = .ok (.getfield 92, 3) := by decide +kernel
theorem dX10_settle_7 : decode cX10_settle 7 = .ok (.if_icmp .ge 25, 3) := by decide +kernel
theorem dX10_settle_10 : decode cX10_settle 10 = .ok (.aload_n 0, 1) := by decide +kernel
theorem dX10_settle_11 : decode cX10_settle 11 = .ok (.getfield 46, 3) := by decide +kernel
theorem dX10_settle_14 : decode cX10_settle 14 = .ok (.iload_n 2, 1) := by decide +kernel
theorem dX10_settle_15 : decode cX10_settle 15 = .ok (.aaload, 1) := by decide +kernel
theorem dX10_settle_16 : decode cX10_settle 16 = .ok (.aload_n 1, 1) := by decide +kernel
theorem dX10_settle_17 : decode cX10_settle 17 = .ok (.aload_n 1, 1) := by decide +kernel
theorem dX10_settle_18 : decode cX10_settle 18 = .ok (.getfield 77, 3) := by decide +kernel
theorem dX10_settle_21 : decode cX10_settle 21 = .ok (.iload_n 2, 1) := by decide +kernel
theorem dX10_settle_22 : decode cX10_settle 22 = .ok (.aaload, 1) := by decide +kernel
theorem dX10_settle_23 : decode cX10_settle 23 = .ok (.invokevirtual 316, 3) := by decide +kernel
theorem dX10_settle_26 : decode cX10_settle 26 = .ok (.iinc 2 1, 3) := by decide +kernel
theorem dX10_settle_29 : decode cX10_settle 29 = .ok (.goto (-27), 3) := by decide +kernel
theorem dX10_settle_32 : decode cX10_settle 32 = .ok (.return_, 1) := by decide +kernel
theorem dX10_goNight_0 : decode cX10_goNight 0 = .ok (.iconst 0, 1) := by decide +kernel
theorem dX10_goNight_1 : decode cX10_goNight 1 = .ok (.istore_n 2, 1) := by decide +kernel
theorem dX10_goNight_2 : decode cX10_goNight 2 = .ok (.iload_n 2, 1) := by decide +kernel
theorem dX10_goNight_3 : decode cX10_goNight 3 = .ok (.aload_n 1, 1) := by decide +kernel
theorem dX10_goNight_4 : decode cX10_goNight 4 = .ok (.getfield 92, 3) := by decide +kernel
theorem dX10_goNight_7 : decode cX10_goNight 7 = .ok (.if_icmp .ge 50, 3) := by decide +kernel
theorem dX10_goNight_10 : decode cX10_goNight 10 = .ok (.aload_n 0, 1) := by decide +kernel
theorem dX10_goNight_11 : decode cX10_goNight 11 = .ok (.getfield 46, 3) := by decide +kernel
theorem dX10_goNight_14 : decode cX10_goNight 14 = .ok (.iload_n 2, 1) := by decide +kernel
theorem dX10_goNight_15 : decode cX10_goNight 15 = .ok (.aaload, 1) := by decide +kernel
theorem dX10_goNight_16 : decode cX10_goNight 16 = .ok (.aload_n 1, 1) := by decide +kernel
theorem dX10_goNight_17 : decode cX10_goNight 17 = .ok (.getfield 77, 3) := by decide +kernel
theorem dX10_goNight_20 : decode cX10_goNight 20 = .ok (.iload_n 2, 1) := by decide +kernel
theorem dX10_goNight_21 : decode cX10_goNight 21 = .ok (.aaload, 1) := by decide +kernel
theorem dX10_goNight_22 : decode cX10_goNight 22 = .ok (.getfield 115, 3) := by decide +kernel
theorem dX10_goNight_25 : decode cX10_goNight 25 = .ok (.aload_n 1, 1) := by decide +kernel
theorem dX10_goNight_26 : decode cX10_goNight 26 = .ok (.getfield 129, 3) := by decide +kernel
theorem dX10_goNight_29 : decode cX10_goNight 29 = .ok (.invokevirtual 132, 3) := by decide +kernel
theorem dX10_goNight_32 : decode cX10_goNight 32 = .ok (.istore_n 3, 1) := by decide +kernel
theorem dX10_goNight_33 : decode cX10_goNight 33 = .ok (.iload_n 3, 1) := by decide +kernel
theorem dX10_goNight_34 : decode cX10_goNight 34 = .ok (.invokestatic 143, 3) := by decide +kernel
theorem dX10_goNight_37 : decode cX10_goNight 37 = .ok (.ifCond .eq 14, 3) := by decide +kernel
theorem dX10_goNight_40 : decode cX10_goNight 40 = .ok (.aload_n 1, 1) := by decide +kernel
theorem dX10_goNight_41 : decode cX10_goNight 41 = .ok (.aload_n 1, 1) := by decide +kernel
theorem dX10_goNight_42 : decode cX10_goNight 42 = .ok (.getfield 77, 3) := by decide +kernel
theorem dX10_goNight_45 : decode cX10_goNight 45 = .ok (.iload_n 2, 1) := by decide +kernel
theorem dX10_goNight_46 : decode cX10_goNight 46 = .ok (.aaload, 1) := by decide +kernel
theorem dX10_goNight_47 : decode cX10_goNight 47 = .ok (.iload_n 3, 1) := by decide +kernel
theorem dX10_goNight_48 : decode cX10_goNight 48 = .ok (.invokevirtual 318, 3) := by decide +kernel
theorem dX10_goNight_51 : decode cX10_goNight 51 = .ok (.iinc 2 1, 3) := by decide +kernel
theorem dX10_goNight_54 : decode cX10_goNight 54 = .ok (.goto (-52), 3) := by decide +kernel
theorem dX10_goNight_57 : decode cX10_goNight 57 = .ok (.aload_n 1, 1) := by decide +kernel
theorem dX10_goNight_58 : decode cX10_goNight 58 = .ok (.dup, 1) := by decide +kernel
theorem dX10_goNight_59 : decode cX10_goNight 59 = .ok (.getfield 129, 3) := by decide +kernel
theorem dX10_goNight_62 : decode cX10_goNight 62 = .ok (.iconst 1, 1) := by decide +kernel
theorem dX10_goNight_63 : decode cX10_goNight 63 = .ok (.iadd, 1) := by decide +kernel
theorem dX10_goNight_64 : decode cX10_goNight 64 = .ok (.putfield 129, 3) := by decide +kernel
theorem dX10_goNight_67 : decode cX10_goNight 67 = .ok (.aload_n 1, 1) := by decide +kernel
theorem dX10_goNight_68 : decode cX10_goNight 68 = .ok (.getfield 182, 3) := by decide +kernel
theorem dX10_goNight_71 : decode cX10_goNight 71 = .ok (.getfield 185, 3) := by decide +kernel
theorem dX10_goNight_74 : decode cX10_goNight 74 = .ok (.ifCond .le 22, 3) := by decide +kernel
theorem dX10_goNight_77 : decode cX10_goNight 77 = .ok (.aload_n 1, 1) := by decide +kernel
theorem dX10_goNight_78 : decode cX10_goNight 78 = .ok (.getfield 129, 3) := by decide +kernel
theorem dX10_goNight_81 : decode cX10_goNight 81 = .ok (.aload_n 1, 1) := by decide +kernel
theorem dX10_goNight_82 : decode cX10_goNight 82 = .ok (.getfield 182, 3) := by decide +kernel
theorem dX10_goNight_85 : decode cX10_goNight 85 = .ok (.getfield 185, 3) := by decide +kernel
theorem dX10_goNight_88 : decode cX10_goNight 88 = .ok (.irem, 1) := by decide +kernel
theorem dX10_goNight_89 : decode cX10_goNight 89 = .ok (.ifCond .ne 7, 3) := by decide +kernel
theorem dX10_goNight_92 : decode cX10_goNight 92 = .ok (.aload_n 1, 1) := by decide +kernel
theorem dX10_goNight_93 : decode cX10_goNight 93 = .ok (.invokevirtual 322, 3) := by decide +kernel
theorem dX10_goNight_96 : decode cX10_goNight 96 = .ok (.return_, 1) := by decide +kernel
theorem dX10_behind_0 : decode cX10_behind 0 = .ok (.aload_n 0, 1) := by decide +kernel
theorem dX10_behind_1 : decode cX10_behind 1 = .ok (.getfield 30, 3) := by decide +kernel
theorem dX10_behind_4 : decode cX10_behind 4 = .ok (.aload_n 0, 1) := by decide +kernel
theorem dX10_behind_5 : decode cX10_behind 5 = .ok (.getfield 23, 3) := by decide +kernel
theorem dX10_behind_8 : decode cX10_behind 8 = .ok (.invokevirtual 250, 3) := by decide +kernel
theorem dX10_behind_11 : decode cX10_behind 11 = .ok (.aload_n 0, 1) := by decide +kernel
theorem dX10_behind_12 : decode cX10_behind 12 = .ok (.aload_n 0, 1) := by decide +kernel
theorem dX10_behind_13 : decode cX10_behind 13 = .ok (.getfield 30, 3) := by decide +kernel
theorem dX10_behind_16 : decode cX10_behind 16 = .ok (.invokevirtual 198, 3) := by decide +kernel
theorem dX10_behind_19 : decode cX10_behind 19 = .ok (.iconst 0, 1) := by decide +kernel
theorem dX10_behind_20 : decode cX10_behind 20 = .ok (.istore_n 2, 1) := by decide +kernel
theorem dX10_behind_21 : decode cX10_behind 21 = .ok (.iload_n 2, 1) := by decide +kernel
theorem dX10_behind_22 : decode cX10_behind 22 = .ok (.iload_n 1, 1) := by decide +kernel
theorem dX10_behind_23 : decode cX10_behind 23 = .ok (.if_icmp .ge 17, 3) := by decide +kernel
theorem dX10_behind_26 : decode cX10_behind 26 = .ok (.aload_n 0, 1) := by decide +kernel
theorem dX10_behind_27 : decode cX10_behind 27 = .ok (.aload_n 0, 1) := by decide +kernel
theorem dX10_behind_28 : decode cX10_behind 28 = .ok (.getfield 30, 3) := by decide +kernel
theorem dX10_behind_31 : decode cX10_behind 31 = .ok (.invokevirtual 202, 3) := by decide +kernel
theorem dX10_behind_34 : decode cX10_behind 34 = .ok (.iinc 2 1, 3) := by decide +kernel
theorem dX10_behind_37 : decode cX10_behind 37 = .ok (.goto (-16), 3) := by decide +kernel
theorem dX10_behind_40 : decode cX10_behind 40 = .ok (.aload_n 0, 1) := by decide +kernel
theorem dX10_behind_41 : decode cX10_behind 41 = .ok (.getfield 30, 3) := by decide +kernel
theorem dX10_behind_44 : decode cX10_behind 44 = .ok (.areturn, 1) := by decide +kernel
theorem dX10_goRow_0 : decode cX10_goRow 0 = .ok (.iload_n 2, 1) := by decide +kernel
theorem dX10_goRow_1 : decode cX10_goRow 1 = .ok (.ifCond .ne 11, 3) := by decide +kernel
theorem dX10_goRow_4 : decode cX10_goRow 4 = .ok (.aload_n 0, 1) := by decide +kernel
theorem dX10_goRow_5 : decode cX10_goRow 5 = .ok (.aload_n 1, 1) := by decide +kernel
theorem dX10_goRow_6 : decode cX10_goRow 6 = .ok (.invokevirtual 202, 3) := by decide +kernel
theorem dX10_goRow_9 : decode cX10_goRow 9 = .ok (.goto 78, 3) := by decide +kernel
theorem dX10_goRow_12 : decode cX10_goRow 12 = .ok (.iload_n 3, 1) := by decide +kernel
theorem dX10_goRow_13 : decode cX10_goRow 13 = .ok (.aload_n 1, 1) := by decide +kernel
theorem dX10_goRow_14 : decode cX10_goRow 14 = .ok (.getfield 92, 3) := by decide +kernel
theorem dX10_goRow_17 : decode cX10_goRow 17 = .ok (.invokestatic 85, 3) := by decide +kernel
theorem dX10_goRow_20 : decode cX10_goRow 20 = .ok (.ifCond .eq 67, 3) := by decide +kernel
theorem dX10_goRow_23 : decode cX10_goRow 23 = .ok (.aload_n 1, 1) := by decide +kernel
theorem dX10_goRow_24 : decode cX10_goRow 24 = .ok (.getfield 77, 3) := by decide +kernel
theorem dX10_goRow_27 : decode cX10_goRow 27 = .ok (.iload_n 3, 1) := by decide +kernel
theorem dX10_goRow_28 : decode cX10_goRow 28 = .ok (.aaload, 1) := by decide +kernel
theorem dX10_goRow_29 : decode cX10_goRow 29 = .ok (.astore 4, 2) := by decide +kernel
theorem dX10_goRow_31 : decode cX10_goRow 31 = .ok (.iload_n 2, 1) := by decide +kernel
theorem dX10_goRow_32 : decode cX10_goRow 32 = .ok (.iconst 3, 1) := by decide +kernel
theorem dX10_goRow_33 : decode cX10_goRow 33 = .ok (.if_icmp .ne 39, 3) := by decide +kernel
theorem dX10_goRow_36 : decode cX10_goRow 36 = .ok (.aload 4, 2) := by decide +kernel
theorem dX10_goRow_38 : decode cX10_goRow 38 = .ok (.dup, 1) := by decide +kernel
theorem dX10_goRow_39 : decode cX10_goRow 39 = .ok (.getfield 115, 3) := by decide +kernel
theorem dX10_goRow_42 : decode cX10_goRow 42 = .ok (.aload 4, 2) := by decide +kernel
theorem dX10_goRow_44 : decode cX10_goRow 44 = .ok (.getfield 118, 3) := by decide +kernel
theorem dX10_goRow_47 : decode cX10_goRow 47 = .ok (.ior, 1) := by decide +kernel
theorem dX10_goRow_48 : decode cX10_goRow 48 = .ok (.putfield 115, 3) := by decide +kernel
theorem dX10_goRow_51 : decode cX10_goRow 51 = .ok (.aload 4, 2) := by decide +kernel
theorem dX10_goRow_53 : decode cX10_goRow 53 = .ok (.iconst 0, 1) := by decide +kernel
theorem dX10_goRow_54 : decode cX10_goRow 54 = .ok (.putfield 118, 3) := by decide +kernel
theorem dX10_goRow_57 : decode cX10_goRow 57 = .ok (.aload_n 0, 1) := by decide +kernel
theorem dX10_goRow_58 : decode cX10_goRow 58 = .ok (.getfield 46, 3) := by decide +kernel
theorem dX10_goRow_61 : decode cX10_goRow 61 = .ok (.iload_n 3, 1) := by decide +kernel
theorem dX10_goRow_62 : decode cX10_goRow 62 = .ok (.aaload, 1) := by decide +kernel
theorem dX10_goRow_63 : decode cX10_goRow 63 = .ok (.aload_n 1, 1) := by decide +kernel
theorem dX10_goRow_64 : decode cX10_goRow 64 = .ok (.aload 4, 2) := by decide +kernel
theorem dX10_goRow_66 : decode cX10_goRow 66 = .ok (.invokevirtual 316, 3) := by decide +kernel
theorem dX10_goRow_69 : decode cX10_goRow 69 = .ok (.goto 18, 3) := by decide +kernel
theorem dX10_goRow_72 : decode cX10_goRow 72 = .ok (.aload 4, 2) := by decide +kernel
theorem dX10_goRow_74 : decode cX10_goRow 74 = .ok (.iload_n 2, 1) := by decide +kernel
theorem dX10_goRow_75 : decode cX10_goRow 75 = .ok (.iconst 2, 1) := by decide +kernel
theorem dX10_goRow_76 : decode cX10_goRow 76 = .ok (.if_icmp .ne 7, 3) := by decide +kernel
theorem dX10_goRow_79 : decode cX10_goRow 79 = .ok (.iconst 1, 1) := by decide +kernel
theorem dX10_goRow_80 : decode cX10_goRow 80 = .ok (.goto 4, 3) := by decide +kernel
theorem dX10_goRow_83 : decode cX10_goRow 83 = .ok (.iconst 0, 1) := by decide +kernel
theorem dX10_goRow_84 : decode cX10_goRow 84 = .ok (.putfield 121, 3) := by decide +kernel
theorem dX10_goRow_87 : decode cX10_goRow 87 = .ok (.return_, 1) := by decide +kernel
theorem dX10_nightsToEmpty_0 : decode cX10_nightsToEmpty 0 = .ok (.aload_n 0, 1) := by decide +kernel
theorem dX10_nightsToEmpty_1 : decode cX10_nightsToEmpty 1 = .ok (.aload_n 1, 1) := by decide +kernel
theorem dX10_nightsToEmpty_2 : decode cX10_nightsToEmpty 2 = .ok (.invokevirtual 125, 3) := by decide +kernel
theorem dX10_nightsToEmpty_5 : decode cX10_nightsToEmpty 5 = .ok (.astore_n 2, 1) := by decide +kernel
theorem dX10_nightsToEmpty_6 : decode cX10_nightsToEmpty 6 = .ok (.aload_n 1, 1) := by decide +kernel
theorem dX10_nightsToEmpty_7 : decode cX10_nightsToEmpty 7 = .ok (.getfield 115, 3) := by decide +kernel
theorem dX10_nightsToEmpty_10 : decode cX10_nightsToEmpty 10 = .ok (.istore_n 3, 1) := by decide +kernel
theorem dX10_nightsToEmpty_11 : decode cX10_nightsToEmpty 11 = .ok (.iconst 0, 1) := by decide +kernel
theorem dX10_nightsToEmpty_12 : decode cX10_nightsToEmpty 12 = .ok (.istore 4, 2) := by decide +kernel
theorem dX10_nightsToEmpty_14 : decode cX10_nightsToEmpty 14 = .ok (.iload 4, 2) := by decide +kernel
theorem dX10_nightsToEmpty_16 : decode cX10_nightsToEmpty 16 = .ok (.bipush 60, 2) := by decide +kernel
theorem dX10_nightsToEmpty_18 : decode cX10_nightsToEmpty 18 = .ok (.if_icmp .gt 36, 3) := by decide +kernel
theorem dX10_nightsToEmpty_21 : decode cX10_nightsToEmpty 21 = .ok (.iload_n 3, 1) := by decide +kernel
theorem dX10_nightsToEmpty_22 : decode cX10_nightsToEmpty 22 = .ok (.ifCond .ne 6, 3) := by decide +kernel
theorem dX10_nightsToEmpty_25 : decode cX10_nightsToEmpty 25 = .ok (.iload 4, 2) := by decide +kernel
theorem dX10_nightsToEmpty_27 : decode cX10_nightsToEmpty 27 = .ok (.ireturn, 1) := by decide +kernel
theorem dX10_nightsToEmpty_28 : decode cX10_nightsToEmpty 28 = .ok (.iload_n 3, 1) := by decide +kernel
theorem dX10_nightsToEmpty_29 : decode cX10_nightsToEmpty 29 = .ok (.aload_n 2, 1) := by decide +kernel
theorem dX10_nightsToEmpty_30 : decode cX10_nightsToEmpty 30 = .ok (.iload_n 3, 1) := by decide +kernel
theorem dX10_nightsToEmpty_31 : decode cX10_nightsToEmpty 31 = .ok (.aload_n 0, 1) := by decide +kernel
theorem dX10_nightsToEmpty_32 : decode cX10_nightsToEmpty 32 = .ok (.getfield 23, 3) := by decide +kernel
theorem dX10_nightsToEmpty_35 : decode cX10_nightsToEmpty 35 = .ok (.getfield 129, 3) := by decide +kernel
theorem dX10_nightsToEmpty_38 : decode cX10_nightsToEmpty 38 = .ok (.iload 4, 2) := by decide +kernel
theorem dX10_nightsToEmpty_40 : decode cX10_nightsToEmpty 40 = .ok (.iadd, 1) := by decide +kernel
theorem dX10_nightsToEmpty_41 : decode cX10_nightsToEmpty 41 = .ok (.invokevirtual 132, 3) := by decide +kernel
theorem dX10_nightsToEmpty_44 : decode cX10_nightsToEmpty 44 = .ok (.invokestatic 209, 3) := by decide +kernel
theorem dX10_nightsToEmpty_47 : decode cX10_nightsToEmpty 47 = .ok (.istore_n 3, 1) := by decide +kernel
theorem dX10_nightsToEmpty_48 : decode cX10_nightsToEmpty 48 = .ok (.iinc 4 1, 3) := by decide +kernel
theorem dX10_nightsToEmpty_51 : decode cX10_nightsToEmpty 51 = .ok (.goto (-37), 3) := by decide +kernel
theorem dX10_nightsToEmpty_54 : decode cX10_nightsToEmpty 54 = .ok (.bipush (-5), 2) := by decide +kernel
theorem dX10_nightsToEmpty_56 : decode cX10_nightsToEmpty 56 = .ok (.ireturn, 1) := by decide +kernel
theorem dX10_backTo_0 : decode cX10_backTo 0 = .ok (.aload_n 0, 1) := by decide +kernel
theorem dX10_backTo_1 : decode cX10_backTo 1 = .ok (.getfield 23, 3) := by decide +kernel
theorem dX10_backTo_4 : decode cX10_backTo 4 = .ok (.invokevirtual 325, 3) := by decide +kernel
theorem dX10_backTo_7 : decode cX10_backTo 7 = .ok (.istore_n 2, 1) := by decide +kernel
theorem dX10_backTo_8 : decode cX10_backTo 8 = .ok (.iconst 0, 1) := by decide +kernel
theorem dX10_backTo_9 : decode cX10_backTo 9 = .ok (.istore_n 3, 1) := by decide +kernel
theorem dX10_backTo_10 : decode cX10_backTo 10 = .ok (.iload_n 3, 1) := by decide +kernel
theorem dX10_backTo_11 : decode cX10_backTo 11 = .ok (.aload_n 0, 1) := by decide +kernel
theorem dX10_backTo_12 : decode cX10_backTo 12 = .ok (.getfield 23, 3) := by decide +kernel
theorem dX10_backTo_15 : decode cX10_backTo 15 = .ok (.getfield 92, 3) := by decide +kernel
theorem dX10_backTo_18 : decode cX10_backTo 18 = .ok (.if_icmp .ge 24, 3) := by decide +kernel
theorem dX10_backTo_21 : decode cX10_backTo 21 = .ok (.iload_n 2, 1) := by decide +kernel
theorem dX10_backTo_22 : decode cX10_backTo 22 = .ok (.aload_n 0, 1) := by decide +kernel
theorem dX10_backTo_23 : decode cX10_backTo 23 = .ok (.getfield 23, 3) := by decide +kernel
theorem dX10_backTo_26 : decode cX10_backTo 26 = .ok (.getfield 77, 3) := by decide +kernel
theorem dX10_backTo_29 : decode cX10_backTo 29 = .ok (.iload_n 3, 1) := by decide +kernel
theorem dX10_backTo_30 : decode cX10_backTo 30 = .ok (.aaload, 1) := by decide +kernel
theorem dX10_backTo_31 : decode cX10_backTo 31 = .ok (.getfield 115, 3) := by decide +kernel
theorem dX10_backTo_34 : decode cX10_backTo 34 = .ok (.ior, 1) := by decide +kernel
theorem dX10_backTo_35 : decode cX10_backTo 35 = .ok (.istore_n 2, 1) := by decide +kernel
theorem dX10_backTo_36 : decode cX10_backTo 36 = .ok (.iinc 3 1, 3) := by decide +kernel
theorem dX10_backTo_39 : decode cX10_backTo 39 = .ok (.goto (-29), 3) := by decide +kernel
theorem dX10_backTo_42 : decode cX10_backTo 42 = .ok (.iload_n 2, 1) := by decide +kernel
theorem dX10_backTo_43 : decode cX10_backTo 43 = .ok (.aload_n 1, 1) := by decide +kernel
theorem dX10_backTo_44 : decode cX10_backTo 44 = .ok (.invokevirtual 153, 3) := by decide +kernel
theorem dX10_backTo_47 : decode cX10_backTo 47 = .ok (.iand, 1) := by decide +kernel
theorem dX10_backTo_48 : decode cX10_backTo 48 = .ok (.ireturn, 1) := by decide +kernel
theorem dX10_fewestDecoys_0 : decode cX10_fewestDecoys 0 = .ok (.aload_n 0, 1) := by decide +kernel
theorem dX10_fewestDecoys_1 : decode cX10_fewestDecoys 1 = .ok (.aload_n 1, 1) := by decide +kernel
theorem dX10_fewestDecoys_2 : decode cX10_fewestDecoys 2 = .ok (.invokevirtual 125, 3) := by decide +kernel
theorem dX10_fewestDecoys_5 : decode cX10_fewestDecoys 5 = .ok (.astore 4, 2) := by decide +kernel
theorem dX10_fewestDecoys_7 : decode cX10_fewestDecoys 7 = .ok (.bipush (-5), 2) := by decide +kernel
theorem dX10_fewestDecoys_9 : decode cX10_fewestDecoys 9 = .ok (.istore 5, 2) := by decide +kernel
theorem dX10_fewestDecoys_11 : decode cX10_fewestDecoys 11 = .ok (.bipush 13, 2) := by decide +kernel
theorem dX10_fewestDecoys_13 : decode cX10_fewestDecoys 13 = .ok (.istore 6, 2) := by decide +kernel
theorem dX10_fewestDecoys_15 : decode cX10_fewestDecoys 15 = .ok (.iconst 0, 1) := by decide +kernel
theorem dX10_fewestDecoys_16 : decode cX10_fewestDecoys 16 = .ok (.istore 7, 2) := by decide +kernel
theorem dX10_fewestDecoys_18 : decode cX10_fewestDecoys 18 = .ok (.iload 7, 2) := by decide +kernel
theorem dX10_fewestDecoys_20 : decode cX10_fewestDecoys 20 = .ok (.sipush 4095, 3) := by decide +kernel
theorem dX10_fewestDecoys_23 : decode cX10_fewestDecoys 23 = .ok (.if_icmp .gt 59, 3) := by decide +kernel
theorem dX10_fewestDecoys_26 : decode cX10_fewestDecoys 26 = .ok (.iload 7, 2) := by decide +kernel
theorem dX10_fewestDecoys_28 : decode cX10_fewestDecoys 28 = .ok (.invokestatic 328, 3) := by decide +kernel
theorem dX10_fewestDecoys_31 : decode cX10_fewestDecoys 31 = .ok (.istore 8, 2) := by decide +kernel
theorem dX10_fewestDecoys_33 : decode cX10_fewestDecoys 33 = .ok (.iload 7, 2) := by decide +kernel
theorem dX10_fewestDecoys_35 : decode cX10_fewestDecoys 35 = .ok (.aload_n 1, 1) := by decide +kernel
theorem dX10_fewestDecoys_36 : decode cX10_fewestDecoys 36 = .ok (.getfield 115, 3) := by decide +kernel
theorem dX10_fewestDecoys_39 : decode cX10_fewestDecoys 39 = .ok (.iand, 1) := by decide +kernel
theorem dX10_fewestDecoys_40 : decode cX10_fewestDecoys 40 = .ok (.ifCond .ne 36, 3) := by decide +kernel
theorem dX10_fewestDecoys_43 : decode cX10_fewestDecoys 43 = .ok (.iload 8, 2) := by decide +kernel
theorem dX10_fewestDecoys_45 : decode cX10_fewestDecoys 45 = .ok (.iload 6, 2) := by decide +kernel
theorem dX10_fewestDecoys_47 : decode cX10_fewestDecoys 47 = .ok (.if_icmp .ge 29, 3) := by decide +kernel
theorem dX10_fewestDecoys_50 : decode cX10_fewestDecoys 50 = .ok (.aload_n 0, 1) := by decide +kernel
theorem dX10_fewestDecoys_51 : decode cX10_fewestDecoys 51 = .ok (.aload 4, 2) := by decide +kernel
theorem dX10_fewestDecoys_53 : decode cX10_fewestDecoys 53 = .ok (.aload_n 1, 1) := by decide +kernel
theorem dX10_fewestDecoys_54 : decode cX10_fewestDecoys 54 = .ok (.getfield 115, 3) := by decide +kernel
theorem dX10_fewestDecoys_57 : decode cX10_fewestDecoys 57 = .ok (.iload 7, 2) := by decide +kernel
theorem dX10_fewestDecoys_59 : decode cX10_fewestDecoys 59 = .ok (.ior, 1) := by decide +kernel
theorem dX10_fewestDecoys_60 : decode cX10_fewestDecoys 60 = .ok (.iload_n 2, 1) := by decide +kernel
theorem dX10_fewestDecoys_61 : decode cX10_fewestDecoys 61 = .ok (.iload_n 3, 1) := by decide +kernel
theorem dX10_fewestDecoys_62 : decode cX10_fewestDecoys 62 = .ok (.invokevirtual 334, 3) := by decide +kernel
theorem dX10_fewestDecoys_65 : decode cX10_fewestDecoys 65 = .ok (.ifCond .eq 11, 3) := by decide +kernel
theorem dX10_fewestDecoys_68 : decode cX10_fewestDecoys 68 = .ok (.iload 7, 2) := by decide +kernel
theorem dX10_fewestDecoys_70 : decode cX10_fewestDecoys 70 = .ok (.istore 5, 2) := by decide +kernel
theorem dX10_fewestDecoys_72 : decode cX10_fewestDecoys 72 = .ok (.iload 8, 2) := by decide +kernel
theorem dX10_fewestDecoys_74 : decode cX10_fewestDecoys 74 = .ok (.istore 6, 2) := by decide +kernel
theorem dX10_fewestDecoys_76 : decode cX10_fewestDecoys 76 = .ok (.iinc 7 1, 3) := by decide +kernel
theorem dX10_fewestDecoys_79 : decode cX10_fewestDecoys 79 = .ok (.goto (-61), 3) := by decide +kernel
theorem dX10_fewestDecoys_82 : decode cX10_fewestDecoys 82 = .ok (.iload 5, 2) := by decide +kernel
theorem dX10_fewestDecoys_84 : decode cX10_fewestDecoys 84 = .ok (.ireturn, 1) := by decide +kernel
theorem dX10_keeps_0 : decode cX10_keeps 0 = .ok (.iload_n 2, 1) := by decide +kernel
theorem dX10_keeps_1 : decode cX10_keeps 1 = .ok (.istore 5, 2) := by decide +kernel
theorem dX10_keeps_3 : decode cX10_keeps 3 = .ok (.iconst 0, 1) := by decide +kernel
theorem dX10_keeps_4 : decode cX10_keeps 4 = .ok (.istore 6, 2) := by decide +kernel
theorem dX10_keeps_6 : decode cX10_keeps 6 = .ok (.iload 6, 2) := by decide +kernel
theorem dX10_keeps_8 : decode cX10_keeps 8 = .ok (.iload 4, 2) := by decide +kernel
theorem dX10_keeps_10 : decode cX10_keeps 10 = .ok (.if_icmp .ge 41, 3) := by decide +kernel
theorem dX10_keeps_13 : decode cX10_keeps 13 = .ok (.iload 5, 2) := by decide +kernel
theorem dX10_keeps_15 : decode cX10_keeps 15 = .ok (.iload_n 3, 1) := by decide +kernel
theorem dX10_keeps_16 : decode cX10_keeps 16 = .ok (.invokestatic 157, 3) := by decide +kernel
theorem dX10_keeps_19 : decode cX10_keeps 19 = .ok (.ifCond .eq 32, 3) := by decide +kernel
theorem dX10_keeps_22 : decode cX10_keeps 22 = .ok (.iload 5, 2) := by decide +kernel
theorem dX10_keeps_24 : decode cX10_keeps 24 = .ok (.aload_n 1, 1) := by decide +kernel
theorem dX10_keeps_25 : decode cX10_keeps 25 = .ok (.iload 5, 2) := by decide +kernel
theorem dX10_keeps_27 : decode cX10_keeps 27 = .ok (.aload_n 0, 1) := by decide +kernel
theorem dX10_keeps_28 : decode cX10_keeps 28 = .ok (.getfield 23, 3) := by decide +kernel
theorem dX10_keeps_31 : decode cX10_keeps 31 = .ok (.getfield 129, 3) := by decide +kernel
theorem dX10_keeps_34 : decode cX10_keeps 34 = .ok (.iload 6, 2) := by decide +kernel
theorem dX10_keeps_36 : decode cX10_keeps 36 = .ok (.iadd, 1) := by decide +kernel
theorem dX10_keeps_37 : decode cX10_keeps 37 = .ok (.invokevirtual 132, 3) := by decide +kernel
theorem dX10_keeps_40 : decode cX10_keeps 40 = .ok (.invokestatic 209, 3) := by decide +kernel
theorem dX10_keeps_43 : decode cX10_keeps 43 = .ok (.istore 5, 2) := by decide +kernel
theorem dX10_keeps_45 : decode cX10_keeps 45 = .ok (.iinc 6 1, 3) := by decide +kernel
theorem dX10_keeps_48 : decode cX10_keeps 48 = .ok (.goto (-42), 3) := by decide +kernel
theorem dX10_keeps_51 : decode cX10_keeps 51 = .ok (.iload 5, 2) := by decide +kernel
theorem dX10_keeps_53 : decode cX10_keeps 53 = .ok (.iload_n 3, 1) := by decide +kernel
theorem dX10_keeps_54 : decode cX10_keeps 54 = .ok (.invokestatic 157, 3) := by decide +kernel
theorem dX10_keeps_57 : decode cX10_keeps 57 = .ok (.ireturn, 1) := by decide +kernel
theorem dX10_lowest_0 : decode cX10_lowest 0 = .ok (.iload_n 0, 1) := by decide +kernel
theorem dX10_lowest_1 : decode cX10_lowest 1 = .ok (.istore_n 3, 1) := by decide +kernel
theorem dX10_lowest_2 : decode cX10_lowest 2 = .ok (.iload_n 1, 1) := by decide +kernel
theorem dX10_lowest_3 : decode cX10_lowest 3 = .ok (.istore 4, 2) := by decide +kernel
theorem dX10_lowest_5 : decode cX10_lowest 5 = .ok (.iconst 0, 1) := by decide +kernel
theorem dX10_lowest_6 : decode cX10_lowest 6 = .ok (.istore 5, 2) := by decide +kernel
theorem dX10_lowest_8 : decode cX10_lowest 8 = .ok (.iload 5, 2) := by decide +kernel
theorem dX10_lowest_10 : decode cX10_lowest 10 = .ok (.iload_n 1, 1) := by decide +kernel
theorem dX10_lowest_11 : decode cX10_lowest 11 = .ok (.if_icmp .gt 27, 3) := by decide +kernel
theorem dX10_lowest_14 : decode cX10_lowest 14 = .ok (.iload 4, 2) := by decide +kernel
theorem dX10_lowest_16 : decode cX10_lowest 16 = .ok (.ifCond .eq 22, 3) := by decide +kernel
theorem dX10_lowest_19 : decode cX10_lowest 19 = .ok (.iload_n 3, 1) := by decide +kernel
theorem dX10_lowest_20 : decode cX10_lowest 20 = .ok (.iload 4, 2) := by decide +kernel
theorem dX10_lowest_22 : decode cX10_lowest 22 = .ok (.irem, 1) := by decide +kernel
theorem dX10_lowest_23 : decode cX10_lowest 23 = .ok (.istore 6, 2) := by decide +kernel
theorem dX10_lowest_25 : decode cX10_lowest 25 = .ok (.iload 4, 2) := by decide +kernel
theorem dX10_lowest_27 : decode cX10_lowest 27 = .ok (.istore_n 3, 1) := by decide +kernel
theorem dX10_lowest_28 : decode cX10_lowest 28 = .ok (.iload 6, 2) := by decide +kernel
theorem dX10_lowest_30 : decode cX10_lowest 30 = .ok (.istore 4, 2) := by decide +kernel
theorem dX10_lowest_32 : decode cX10_lowest 32 = .ok (.iinc 5 1, 3) := by decide +kernel
theorem dX10_lowest_35 : decode cX10_lowest 35 = .ok (.goto (-27), 3) := by decide +kernel
theorem dX10_lowest_38 : decode cX10_lowest 38 = .ok (.iload_n 3, 1) := by decide +kernel
theorem dX10_lowest_39 : decode cX10_lowest 39 = .ok (.ifCond .ne 7, 3) := by decide +kernel
theorem dX10_lowest_42 : decode cX10_lowest 42 = .ok (.ldc2_w 241, 3) := by decide +kernel
theorem dX10_lowest_45 : decode cX10_lowest 45 = .ok (.lreturn, 1) := by decide +kernel
theorem dX10_lowest_46 : decode cX10_lowest 46 = .ok (.iload_n 2, 1) := by decide +kernel
theorem dX10_lowest_47 : decode cX10_lowest 47 = .ok (.ifCond .ne 10, 3) := by decide +kernel
theorem dX10_lowest_50 : decode cX10_lowest 50 = .ok (.iload_n 0, 1) := by decide +kernel
theorem dX10_lowest_51 : decode cX10_lowest 51 = .ok (.iload_n 3, 1) := by decide +kernel
theorem dX10_lowest_52 : decode cX10_lowest 52 = .ok (.idiv, 1) := by decide +kernel
theorem dX10_lowest_53 : decode cX10_lowest 53 = .ok (.i2l, 1) := by decide +kernel
theorem dX10_lowest_54 : decode cX10_lowest 54 = .ok (.goto 7, 3) := by decide +kernel
theorem dX10_lowest_57 : decode cX10_lowest 57 = .ok (.iload_n 1, 1) := by decide +kernel
theorem dX10_lowest_58 : decode cX10_lowest 58 = .ok (.iload_n 3, 1) := by decide +kernel
theorem dX10_lowest_59 : decode cX10_lowest 59 = .ok (.idiv, 1) := by decide +kernel
theorem dX10_lowest_60 : decode cX10_lowest 60 = .ok (.i2l, 1) := by decide +kernel
theorem dX10_lowest_61 : decode cX10_lowest 61 = .ok (.lreturn, 1) := by decide +kernel
