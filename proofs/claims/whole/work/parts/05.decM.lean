theorem kd_M_init_0 : decode kc_M_init 0 = .ok (.aload_n 0, 1) := by decide +kernel
theorem kd_M_init_1 : decode kc_M_init 1 = .ok (.invokespecial 1, 3) := by decide +kernel
theorem kd_M_init_4 : decode kc_M_init 4 = .ok (.aload_n 0, 1) := by decide +kernel
theorem kd_M_init_5 : decode kc_M_init 5 = .ok (.sipush 260, 3) := by decide +kernel
theorem kd_M_init_8 : decode kc_M_init 8 = .ok (.newarray .byte, 2) := by decide +kernel
theorem kd_M_init_10 : decode kc_M_init 10 = .ok (.putfield 7, 3) := by decide +kernel
theorem kd_M_init_13 : decode kc_M_init 13 = .ok (.aload_n 0, 1) := by decide +kernel
theorem kd_M_init_14 : decode kc_M_init 14 = .ok (.sipush 3072, 3) := by decide +kernel
theorem kd_M_init_17 : decode kc_M_init 17 = .ok (.newarray .byte, 2) := by decide +kernel
theorem kd_M_init_19 : decode kc_M_init 19 = .ok (.putfield 13, 3) := by decide +kernel
theorem kd_M_init_22 : decode kc_M_init 22 = .ok (.aload_n 0, 1) := by decide +kernel
theorem kd_M_init_23 : decode kc_M_init 23 = .ok (.ldc 16, 2) := by decide +kernel
theorem kd_M_init_25 : decode kc_M_init 25 = .ok (.newarray .byte, 2) := by decide +kernel
theorem kd_M_init_27 : decode kc_M_init 27 = .ok (.putfield 17, 3) := by decide +kernel
theorem kd_M_init_30 : decode kc_M_init 30 = .ok (.aload_n 0, 1) := by decide +kernel
theorem kd_M_init_31 : decode kc_M_init 31 = .ok (.sipush 512, 3) := by decide +kernel
theorem kd_M_init_34 : decode kc_M_init 34 = .ok (.newarray .boolean, 2) := by decide +kernel
theorem kd_M_init_36 : decode kc_M_init 36 = .ok (.putfield 20, 3) := by decide +kernel
theorem kd_M_init_39 : decode kc_M_init 39 = .ok (.aload_n 0, 1) := by decide +kernel
theorem kd_M_init_40 : decode kc_M_init 40 = .ok (.bipush 64, 2) := by decide +kernel
theorem kd_M_init_42 : decode kc_M_init 42 = .ok (.newarray .int, 2) := by decide +kernel
theorem kd_M_init_44 : decode kc_M_init 44 = .ok (.putfield 24, 3) := by decide +kernel
theorem kd_M_init_47 : decode kc_M_init 47 = .ok (.aload_n 0, 1) := by decide +kernel
theorem kd_M_init_48 : decode kc_M_init 48 = .ok (.bipush 64, 2) := by decide +kernel
theorem kd_M_init_50 : decode kc_M_init 50 = .ok (.newarray .int, 2) := by decide +kernel
theorem kd_M_init_52 : decode kc_M_init 52 = .ok (.putfield 28, 3) := by decide +kernel
theorem kd_M_init_55 : decode kc_M_init 55 = .ok (.aload_n 0, 1) := by decide +kernel
theorem kd_M_init_56 : decode kc_M_init 56 = .ok (.bipush 64, 2) := by decide +kernel
theorem kd_M_init_58 : decode kc_M_init 58 = .ok (.newarray .int, 2) := by decide +kernel
theorem kd_M_init_60 : decode kc_M_init 60 = .ok (.putfield 31, 3) := by decide +kernel
theorem kd_M_init_63 : decode kc_M_init 63 = .ok (.aload_n 0, 1) := by decide +kernel
theorem kd_M_init_64 : decode kc_M_init 64 = .ok (.bipush 64, 2) := by decide +kernel
theorem kd_M_init_66 : decode kc_M_init 66 = .ok (.newarray .int, 2) := by decide +kernel
theorem kd_M_init_68 : decode kc_M_init 68 = .ok (.putfield 34, 3) := by decide +kernel
theorem kd_M_init_71 : decode kc_M_init 71 = .ok (.aload_n 0, 1) := by decide +kernel
theorem kd_M_init_72 : decode kc_M_init 72 = .ok (.bipush 64, 2) := by decide +kernel
theorem kd_M_init_74 : decode kc_M_init 74 = .ok (.newarray .int, 2) := by decide +kernel
theorem kd_M_init_76 : decode kc_M_init 76 = .ok (.putfield 37, 3) := by decide +kernel
theorem kd_M_init_79 : decode kc_M_init 79 = .ok (.aload_n 0, 1) := by decide +kernel
theorem kd_M_init_80 : decode kc_M_init 80 = .ok (.bipush 64, 2) := by decide +kernel
theorem kd_M_init_82 : decode kc_M_init 82 = .ok (.newarray .int, 2) := by decide +kernel
theorem kd_M_init_84 : decode kc_M_init 84 = .ok (.putfield 40, 3) := by decide +kernel
theorem kd_M_init_87 : decode kc_M_init 87 = .ok (.aload_n 0, 1) := by decide +kernel
theorem kd_M_init_88 : decode kc_M_init 88 = .ok (.bipush 64, 2) := by decide +kernel
theorem kd_M_init_90 : decode kc_M_init 90 = .ok (.newarray .int, 2) := by decide +kernel
theorem kd_M_init_92 : decode kc_M_init 92 = .ok (.putfield 43, 3) := by decide +kernel
theorem kd_M_init_95 : decode kc_M_init 95 = .ok (.aload_n 0, 1) := by decide +kernel
theorem kd_M_init_96 : decode kc_M_init 96 = .ok (.sipush 17216, 3) := by decide +kernel
theorem kd_M_init_99 : decode kc_M_init 99 = .ok (.newarray .int, 2) := by decide +kernel
theorem kd_M_init_101 : decode kc_M_init 101 = .ok (.putfield 46, 3) := by decide +kernel
theorem kd_M_init_104 : decode kc_M_init 104 = .ok (.aload_n 0, 1) := by decide +kernel
theorem kd_M_init_105 : decode kc_M_init 105 = .ok (.bipush 8, 2) := by decide +kernel
theorem kd_M_init_107 : decode kc_M_init 107 = .ok (.newarray .int, 2) := by decide +kernel
theorem kd_M_init_109 : decode kc_M_init 109 = .ok (.dup, 1) := by decide +kernel
theorem kd_M_init_110 : decode kc_M_init 110 = .ok (.iconst 0, 1) := by decide +kernel
theorem kd_M_init_111 : decode kc_M_init 111 = .ok (.ldc 49, 2) := by decide +kernel
theorem kd_M_init_113 : decode kc_M_init 113 = .ok (.iastore, 1) := by decide +kernel
theorem kd_M_init_114 : decode kc_M_init 114 = .ok (.dup, 1) := by decide +kernel
theorem kd_M_init_115 : decode kc_M_init 115 = .ok (.iconst 1, 1) := by decide +kernel
theorem kd_M_init_116 : decode kc_M_init 116 = .ok (.sipush 512, 3) := by decide +kernel
theorem kd_M_init_119 : decode kc_M_init 119 = .ok (.iastore, 1) := by decide +kernel
theorem kd_M_init_120 : decode kc_M_init 120 = .ok (.dup, 1) := by decide +kernel
theorem kd_M_init_121 : decode kc_M_init 121 = .ok (.iconst 2, 1) := by decide +kernel
theorem kd_M_init_122 : decode kc_M_init 122 = .ok (.sipush 474, 3) := by decide +kernel
theorem kd_M_init_125 : decode kc_M_init 125 = .ok (.iastore, 1) := by decide +kernel
theorem kd_M_init_126 : decode kc_M_init 126 = .ok (.dup, 1) := by decide +kernel
theorem kd_M_init_127 : decode kc_M_init 127 = .ok (.iconst 3, 1) := by decide +kernel
theorem kd_M_init_128 : decode kc_M_init 128 = .ok (.bipush 64, 2) := by decide +kernel
theorem kd_M_init_130 : decode kc_M_init 130 = .ok (.iastore, 1) := by decide +kernel
theorem kd_M_init_131 : decode kc_M_init 131 = .ok (.dup, 1) := by decide +kernel
theorem kd_M_init_132 : decode kc_M_init 132 = .ok (.iconst 4, 1) := by decide +kernel
theorem kd_M_init_133 : decode kc_M_init 133 = .ok (.bipush 31, 2) := by decide +kernel
theorem kd_M_init_135 : decode kc_M_init 135 = .ok (.iastore, 1) := by decide +kernel
theorem kd_M_init_136 : decode kc_M_init 136 = .ok (.dup, 1) := by decide +kernel
theorem kd_M_init_137 : decode kc_M_init 137 = .ok (.iconst 5, 1) := by decide +kernel
theorem kd_M_init_138 : decode kc_M_init 138 = .ok (.iconst 2, 1) := by decide +kernel
theorem kd_M_init_139 : decode kc_M_init 139 = .ok (.iastore, 1) := by decide +kernel
theorem kd_M_init_140 : decode kc_M_init 140 = .ok (.dup, 1) := by decide +kernel
theorem kd_M_init_141 : decode kc_M_init 141 = .ok (.bipush 6, 2) := by decide +kernel
theorem kd_M_init_143 : decode kc_M_init 143 = .ok (.bipush 33, 2) := by decide +kernel
theorem kd_M_init_145 : decode kc_M_init 145 = .ok (.iastore, 1) := by decide +kernel
theorem kd_M_init_146 : decode kc_M_init 146 = .ok (.dup, 1) := by decide +kernel
theorem kd_M_init_147 : decode kc_M_init 147 = .ok (.bipush 7, 2) := by decide +kernel
theorem kd_M_init_149 : decode kc_M_init 149 = .ok (.bipush 37, 2) := by decide +kernel
theorem kd_M_init_151 : decode kc_M_init 151 = .ok (.iastore, 1) := by decide +kernel
theorem kd_M_init_152 : decode kc_M_init 152 = .ok (.putfield 50, 3) := by decide +kernel
theorem kd_M_init_155 : decode kc_M_init 155 = .ok (.aload_n 0, 1) := by decide +kernel
theorem kd_M_init_156 : decode kc_M_init 156 = .ok (.bipush 14, 2) := by decide +kernel
theorem kd_M_init_158 : decode kc_M_init 158 = .ok (.newarray .byte, 2) := by decide +kernel
theorem kd_M_init_160 : decode kc_M_init 160 = .ok (.putfield 53, 3) := by decide +kernel
theorem kd_M_init_163 : decode kc_M_init 163 = .ok (.iconst 0, 1) := by decide +kernel
theorem kd_M_init_164 : decode kc_M_init 164 = .ok (.istore_n 1, 1) := by decide +kernel
theorem kd_M_init_165 : decode kc_M_init 165 = .ok (.iload_n 1, 1) := by decide +kernel
theorem kd_M_init_166 : decode kc_M_init 166 = .ok (.bipush 39, 2) := by decide +kernel
theorem kd_M_init_168 : decode kc_M_init 168 = .ok (.if_icmp .ge 26, 3) := by decide +kernel
theorem kd_M_init_171 : decode kc_M_init 171 = .ok (.aload_n 0, 1) := by decide +kernel
theorem kd_M_init_172 : decode kc_M_init 172 = .ok (.getfield 20, 3) := by decide +kernel
theorem kd_M_init_175 : decode kc_M_init 175 = .ok (.iload_n 1, 1) := by decide +kernel
theorem kd_M_init_176 : decode kc_M_init 176 = .ok (.iload_n 1, 1) := by decide +kernel
theorem kd_M_init_177 : decode kc_M_init 177 = .ok (.bipush 38, 2) := by decide +kernel
theorem kd_M_init_179 : decode kc_M_init 179 = .ok (.if_icmp .ge 7, 3) := by decide +kernel
theorem kd_M_init_182 : decode kc_M_init 182 = .ok (.iconst 1, 1) := by decide +kernel
theorem kd_M_init_183 : decode kc_M_init 183 = .ok (.goto 4, 3) := by decide +kernel
theorem kd_M_init_186 : decode kc_M_init 186 = .ok (.iconst 0, 1) := by decide +kernel
theorem kd_M_init_187 : decode kc_M_init 187 = .ok (.bastore, 1) := by decide +kernel
theorem kd_M_init_188 : decode kc_M_init 188 = .ok (.iinc 1 1, 3) := by decide +kernel
theorem kd_M_init_191 : decode kc_M_init 191 = .ok (.goto (-26), 3) := by decide +kernel
theorem kd_M_init_194 : decode kc_M_init 194 = .ok (.aload_n 0, 1) := by decide +kernel
theorem kd_M_init_195 : decode kc_M_init 195 = .ok (.getfield 24, 3) := by decide +kernel
theorem kd_M_init_198 : decode kc_M_init 198 = .ok (.iconst 1, 1) := by decide +kernel
theorem kd_M_init_199 : decode kc_M_init 199 = .ok (.iconst 1, 1) := by decide +kernel
theorem kd_M_init_200 : decode kc_M_init 200 = .ok (.iastore, 1) := by decide +kernel
theorem kd_M_init_201 : decode kc_M_init 201 = .ok (.aload_n 0, 1) := by decide +kernel
theorem kd_M_init_202 : decode kc_M_init 202 = .ok (.iconst 1, 1) := by decide +kernel
theorem kd_M_init_203 : decode kc_M_init 203 = .ok (.iconst 1, 1) := by decide +kernel
theorem kd_M_init_204 : decode kc_M_init 204 = .ok (.invokevirtual 56, 3) := by decide +kernel
theorem kd_M_init_207 : decode kc_M_init 207 = .ok (.aload_n 0, 1) := by decide +kernel
theorem kd_M_init_208 : decode kc_M_init 208 = .ok (.getfield 34, 3) := by decide +kernel
theorem kd_M_init_211 : decode kc_M_init 211 = .ok (.iconst 1, 1) := by decide +kernel
theorem kd_M_init_212 : decode kc_M_init 212 = .ok (.iconst 2, 1) := by decide +kernel
theorem kd_M_init_213 : decode kc_M_init 213 = .ok (.iastore, 1) := by decide +kernel
theorem kd_M_init_214 : decode kc_M_init 214 = .ok (.return_, 1) := by decide +kernel
theorem kd_M_left_0 : decode kc_M_left 0 = .ok (.iconst 0, 1) := by decide +kernel
theorem kd_M_left_1 : decode kc_M_left 1 = .ok (.istore_n 1, 1) := by decide +kernel
theorem kd_M_left_2 : decode kc_M_left 2 = .ok (.bipush 38, 2) := by decide +kernel
theorem kd_M_left_4 : decode kc_M_left 4 = .ok (.istore_n 2, 1) := by decide +kernel
theorem kd_M_left_5 : decode kc_M_left 5 = .ok (.iload_n 2, 1) := by decide +kernel
theorem kd_M_left_6 : decode kc_M_left 6 = .ok (.sipush 512, 3) := by decide +kernel
theorem kd_M_left_9 : decode kc_M_left 9 = .ok (.if_icmp .ge 26, 3) := by decide +kernel
theorem kd_M_left_12 : decode kc_M_left 12 = .ok (.iload_n 1, 1) := by decide +kernel
theorem kd_M_left_13 : decode kc_M_left 13 = .ok (.aload_n 0, 1) := by decide +kernel
theorem kd_M_left_14 : decode kc_M_left 14 = .ok (.getfield 20, 3) := by decide +kernel
theorem kd_M_left_17 : decode kc_M_left 17 = .ok (.iload_n 2, 1) := by decide +kernel
theorem kd_M_left_18 : decode kc_M_left 18 = .ok (.baload, 1) := by decide +kernel
theorem kd_M_left_19 : decode kc_M_left 19 = .ok (.ifCond .eq 7, 3) := by decide +kernel
theorem kd_M_left_22 : decode kc_M_left 22 = .ok (.iconst 0, 1) := by decide +kernel
theorem kd_M_left_23 : decode kc_M_left 23 = .ok (.goto 4, 3) := by decide +kernel
theorem kd_M_left_26 : decode kc_M_left 26 = .ok (.iconst 1, 1) := by decide +kernel
theorem kd_M_left_27 : decode kc_M_left 27 = .ok (.iadd, 1) := by decide +kernel
theorem kd_M_left_28 : decode kc_M_left 28 = .ok (.istore_n 1, 1) := by decide +kernel
theorem kd_M_left_29 : decode kc_M_left 29 = .ok (.iinc 2 1, 3) := by decide +kernel
theorem kd_M_left_32 : decode kc_M_left 32 = .ok (.goto (-27), 3) := by decide +kernel
theorem kd_M_left_35 : decode kc_M_left 35 = .ok (.iload_n 1, 1) := by decide +kernel
theorem kd_M_left_36 : decode kc_M_left 36 = .ok (.ireturn, 1) := by decide +kernel
theorem kd_M_take_0 : decode kc_M_take 0 = .ok (.bipush 38, 2) := by decide +kernel
theorem kd_M_take_2 : decode kc_M_take 2 = .ok (.istore_n 1, 1) := by decide +kernel
theorem kd_M_take_3 : decode kc_M_take 3 = .ok (.aload_n 0, 1) := by decide +kernel
theorem kd_M_take_4 : decode kc_M_take 4 = .ok (.getfield 20, 3) := by decide +kernel
theorem kd_M_take_7 : decode kc_M_take 7 = .ok (.iload_n 1, 1) := by decide +kernel
theorem kd_M_take_8 : decode kc_M_take 8 = .ok (.baload, 1) := by decide +kernel
theorem kd_M_take_9 : decode kc_M_take 9 = .ok (.ifCond .eq 9, 3) := by decide +kernel
theorem kd_M_take_12 : decode kc_M_take 12 = .ok (.iinc 1 1, 3) := by decide +kernel
theorem kd_M_take_15 : decode kc_M_take 15 = .ok (.goto (-12), 3) := by decide +kernel
theorem kd_M_take_18 : decode kc_M_take 18 = .ok (.aload_n 0, 1) := by decide +kernel
theorem kd_M_take_19 : decode kc_M_take 19 = .ok (.getfield 20, 3) := by decide +kernel
theorem kd_M_take_22 : decode kc_M_take 22 = .ok (.iload_n 1, 1) := by decide +kernel
theorem kd_M_take_23 : decode kc_M_take 23 = .ok (.iconst 1, 1) := by decide +kernel
theorem kd_M_take_24 : decode kc_M_take 24 = .ok (.bastore, 1) := by decide +kernel
theorem kd_M_take_25 : decode kc_M_take 25 = .ok (.iconst 0, 1) := by decide +kernel
theorem kd_M_take_26 : decode kc_M_take 26 = .ok (.istore_n 2, 1) := by decide +kernel
theorem kd_M_take_27 : decode kc_M_take 27 = .ok (.iload_n 2, 1) := by decide +kernel
theorem kd_M_take_28 : decode kc_M_take 28 = .ok (.sipush 1024, 3) := by decide +kernel
theorem kd_M_take_31 : decode kc_M_take 31 = .ok (.if_icmp .ge 22, 3) := by decide +kernel
theorem kd_M_take_34 : decode kc_M_take 34 = .ok (.aload_n 0, 1) := by decide +kernel
theorem kd_M_take_35 : decode kc_M_take 35 = .ok (.getfield 17, 3) := by decide +kernel
theorem kd_M_take_38 : decode kc_M_take 38 = .ok (.sipush 1024, 3) := by decide +kernel
theorem kd_M_take_41 : decode kc_M_take 41 = .ok (.iload_n 1, 1) := by decide +kernel
theorem kd_M_take_42 : decode kc_M_take 42 = .ok (.imul, 1) := by decide +kernel
theorem kd_M_take_43 : decode kc_M_take 43 = .ok (.iload_n 2, 1) := by decide +kernel
theorem kd_M_take_44 : decode kc_M_take 44 = .ok (.iadd, 1) := by decide +kernel
theorem kd_M_take_45 : decode kc_M_take 45 = .ok (.iconst 0, 1) := by decide +kernel
theorem kd_M_take_46 : decode kc_M_take 46 = .ok (.bastore, 1) := by decide +kernel
theorem kd_M_take_47 : decode kc_M_take 47 = .ok (.iinc 2 1, 3) := by decide +kernel
theorem kd_M_take_50 : decode kc_M_take 50 = .ok (.goto (-23), 3) := by decide +kernel
theorem kd_M_take_53 : decode kc_M_take 53 = .ok (.iload_n 1, 1) := by decide +kernel
theorem kd_M_take_54 : decode kc_M_take 54 = .ok (.ireturn, 1) := by decide +kernel
theorem kd_M_putNumber_0 : decode kc_M_putNumber 0 = .ok (.iconst 0, 1) := by decide +kernel
theorem kd_M_putNumber_1 : decode kc_M_putNumber 1 = .ok (.istore 4, 2) := by decide +kernel
theorem kd_M_putNumber_3 : decode kc_M_putNumber 3 = .ok (.iload 4, 2) := by decide +kernel
theorem kd_M_putNumber_5 : decode kc_M_putNumber 5 = .ok (.iload_n 2, 1) := by decide +kernel
theorem kd_M_putNumber_6 : decode kc_M_putNumber 6 = .ok (.if_icmp .ge 26, 3) := by decide +kernel
theorem kd_M_putNumber_9 : decode kc_M_putNumber 9 = .ok (.aload_n 0, 1) := by decide +kernel
theorem kd_M_putNumber_10 : decode kc_M_putNumber 10 = .ok (.getfield 17, 3) := by decide +kernel
theorem kd_M_putNumber_13 : decode kc_M_putNumber 13 = .ok (.iload_n 1, 1) := by decide +kernel
theorem kd_M_putNumber_14 : decode kc_M_putNumber 14 = .ok (.iload 4, 2) := by decide +kernel
theorem kd_M_putNumber_16 : decode kc_M_putNumber 16 = .ok (.iadd, 1) := by decide +kernel
theorem kd_M_putNumber_17 : decode kc_M_putNumber 17 = .ok (.iload_n 3, 1) := by decide +kernel
theorem kd_M_putNumber_18 : decode kc_M_putNumber 18 = .ok (.bipush 8, 2) := by decide +kernel
theorem kd_M_putNumber_20 : decode kc_M_putNumber 20 = .ok (.iload 4, 2) := by decide +kernel
theorem kd_M_putNumber_22 : decode kc_M_putNumber 22 = .ok (.imul, 1) := by decide +kernel
theorem kd_M_putNumber_23 : decode kc_M_putNumber 23 = .ok (.ishr, 1) := by decide +kernel
theorem kd_M_putNumber_24 : decode kc_M_putNumber 24 = .ok (.i2b, 1) := by decide +kernel
theorem kd_M_putNumber_25 : decode kc_M_putNumber 25 = .ok (.bastore, 1) := by decide +kernel
theorem kd_M_putNumber_26 : decode kc_M_putNumber 26 = .ok (.iinc 4 1, 3) := by decide +kernel
theorem kd_M_putNumber_29 : decode kc_M_putNumber 29 = .ok (.goto (-26), 3) := by decide +kernel
theorem kd_M_putNumber_32 : decode kc_M_putNumber 32 = .ok (.return_, 1) := by decide +kernel
theorem kd_M_next_0 : decode kc_M_next 0 = .ok (.aload_n 0, 1) := by decide +kernel
theorem kd_M_next_1 : decode kc_M_next 1 = .ok (.getfield 43, 3) := by decide +kernel
theorem kd_M_next_4 : decode kc_M_next 4 = .ok (.iload_n 1, 1) := by decide +kernel
theorem kd_M_next_5 : decode kc_M_next 5 = .ok (.iaload, 1) := by decide +kernel
theorem kd_M_next_6 : decode kc_M_next 6 = .ok (.bipush 12, 2) := by decide +kernel
theorem kd_M_next_8 : decode kc_M_next 8 = .ok (.if_icmp .ne 7, 3) := by decide +kernel
theorem kd_M_next_11 : decode kc_M_next 11 = .ok (.iconst 2, 1) := by decide +kernel
theorem kd_M_next_12 : decode kc_M_next 12 = .ok (.goto 4, 3) := by decide +kernel
theorem kd_M_next_15 : decode kc_M_next 15 = .ok (.iconst 1, 1) := by decide +kernel
theorem kd_M_next_16 : decode kc_M_next 16 = .ok (.ireturn, 1) := by decide +kernel
theorem kd_M_grow_0 : decode kc_M_grow 0 = .ok (.aload_n 0, 1) := by decide +kernel
theorem kd_M_grow_1 : decode kc_M_grow 1 = .ok (.getfield 43, 3) := by decide +kernel
theorem kd_M_grow_4 : decode kc_M_grow 4 = .ok (.iload_n 1, 1) := by decide +kernel
theorem kd_M_grow_5 : decode kc_M_grow 5 = .ok (.iaload, 1) := by decide +kernel
theorem kd_M_grow_6 : decode kc_M_grow 6 = .ok (.istore_n 2, 1) := by decide +kernel
theorem kd_M_grow_7 : decode kc_M_grow 7 = .ok (.iload_n 2, 1) := by decide +kernel
theorem kd_M_grow_8 : decode kc_M_grow 8 = .ok (.bipush 12, 2) := by decide +kernel
theorem kd_M_grow_10 : decode kc_M_grow 10 = .ok (.if_icmp .ne 21, 3) := by decide +kernel
theorem kd_M_grow_13 : decode kc_M_grow 13 = .ok (.aload_n 0, 1) := by decide +kernel
theorem kd_M_grow_14 : decode kc_M_grow 14 = .ok (.getfield 46, 3) := by decide +kernel
theorem kd_M_grow_17 : decode kc_M_grow 17 = .ok (.sipush 269, 3) := by decide +kernel
theorem kd_M_grow_20 : decode kc_M_grow 20 = .ok (.iload_n 1, 1) := by decide +kernel
theorem kd_M_grow_21 : decode kc_M_grow 21 = .ok (.imul, 1) := by decide +kernel
theorem kd_M_grow_22 : decode kc_M_grow 22 = .ok (.sipush 268, 3) := by decide +kernel
theorem kd_M_grow_25 : decode kc_M_grow 25 = .ok (.iadd, 1) := by decide +kernel
theorem kd_M_grow_26 : decode kc_M_grow 26 = .ok (.aload_n 0, 1) := by decide +kernel
theorem kd_M_grow_27 : decode kc_M_grow 27 = .ok (.invokevirtual 64, 3) := by decide +kernel
theorem kd_M_grow_30 : decode kc_M_grow 30 = .ok (.iastore, 1) := by decide +kernel
theorem kd_M_grow_31 : decode kc_M_grow 31 = .ok (.aload_n 0, 1) := by decide +kernel
theorem kd_M_grow_32 : decode kc_M_grow 32 = .ok (.getfield 46, 3) := by decide +kernel
theorem kd_M_grow_35 : decode kc_M_grow 35 = .ok (.sipush 269, 3) := by decide +kernel
theorem kd_M_grow_38 : decode kc_M_grow 38 = .ok (.iload_n 1, 1) := by decide +kernel
theorem kd_M_grow_39 : decode kc_M_grow 39 = .ok (.imul, 1) := by decide +kernel
theorem kd_M_grow_40 : decode kc_M_grow 40 = .ok (.iload_n 2, 1) := by decide +kernel
theorem kd_M_grow_41 : decode kc_M_grow 41 = .ok (.iadd, 1) := by decide +kernel
theorem kd_M_grow_42 : decode kc_M_grow 42 = .ok (.aload_n 0, 1) := by decide +kernel
theorem kd_M_grow_43 : decode kc_M_grow 43 = .ok (.invokevirtual 64, 3) := by decide +kernel
theorem kd_M_grow_46 : decode kc_M_grow 46 = .ok (.iastore, 1) := by decide +kernel
theorem kd_M_grow_47 : decode kc_M_grow 47 = .ok (.iload_n 2, 1) := by decide +kernel
theorem kd_M_grow_48 : decode kc_M_grow 48 = .ok (.bipush 12, 2) := by decide +kernel
theorem kd_M_grow_50 : decode kc_M_grow 50 = .ok (.if_icmp .lt 45, 3) := by decide +kernel
theorem kd_M_grow_53 : decode kc_M_grow 53 = .ok (.aload_n 0, 1) := by decide +kernel
theorem kd_M_grow_54 : decode kc_M_grow 54 = .ok (.sipush 1024, 3) := by decide +kernel
theorem kd_M_grow_57 : decode kc_M_grow 57 = .ok (.aload_n 0, 1) := by decide +kernel
theorem kd_M_grow_58 : decode kc_M_grow 58 = .ok (.getfield 46, 3) := by decide +kernel
theorem kd_M_grow_61 : decode kc_M_grow 61 = .ok (.sipush 269, 3) := by decide +kernel
theorem kd_M_grow_64 : decode kc_M_grow 64 = .ok (.iload_n 1, 1) := by decide +kernel
theorem kd_M_grow_65 : decode kc_M_grow 65 = .ok (.imul, 1) := by decide +kernel
theorem kd_M_grow_66 : decode kc_M_grow 66 = .ok (.sipush 268, 3) := by decide +kernel
theorem kd_M_grow_69 : decode kc_M_grow 69 = .ok (.iadd, 1) := by decide +kernel
theorem kd_M_grow_70 : decode kc_M_grow 70 = .ok (.iaload, 1) := by decide +kernel
theorem kd_M_grow_71 : decode kc_M_grow 71 = .ok (.imul, 1) := by decide +kernel
theorem kd_M_grow_72 : decode kc_M_grow 72 = .ok (.iconst 4, 1) := by decide +kernel
theorem kd_M_grow_73 : decode kc_M_grow 73 = .ok (.iload_n 2, 1) := by decide +kernel
theorem kd_M_grow_74 : decode kc_M_grow 74 = .ok (.bipush 12, 2) := by decide +kernel
theorem kd_M_grow_76 : decode kc_M_grow 76 = .ok (.isub, 1) := by decide +kernel
theorem kd_M_grow_77 : decode kc_M_grow 77 = .ok (.imul, 1) := by decide +kernel
theorem kd_M_grow_78 : decode kc_M_grow 78 = .ok (.iadd, 1) := by decide +kernel
theorem kd_M_grow_79 : decode kc_M_grow 79 = .ok (.iconst 4, 1) := by decide +kernel
theorem kd_M_grow_80 : decode kc_M_grow 80 = .ok (.aload_n 0, 1) := by decide +kernel
theorem kd_M_grow_81 : decode kc_M_grow 81 = .ok (.getfield 46, 3) := by decide +kernel
theorem kd_M_grow_84 : decode kc_M_grow 84 = .ok (.sipush 269, 3) := by decide +kernel
theorem kd_M_grow_87 : decode kc_M_grow 87 = .ok (.iload_n 1, 1) := by decide +kernel
theorem kd_M_grow_88 : decode kc_M_grow 88 = .ok (.imul, 1) := by decide +kernel
theorem kd_M_grow_89 : decode kc_M_grow 89 = .ok (.iload_n 2, 1) := by decide +kernel
theorem kd_M_grow_90 : decode kc_M_grow 90 = .ok (.iadd, 1) := by decide +kernel
theorem kd_M_grow_91 : decode kc_M_grow 91 = .ok (.iaload, 1) := by decide +kernel
theorem kd_M_grow_92 : decode kc_M_grow 92 = .ok (.invokevirtual 68, 3) := by decide +kernel
theorem kd_M_grow_95 : decode kc_M_grow 95 = .ok (.aload_n 0, 1) := by decide +kernel
theorem kd_M_grow_96 : decode kc_M_grow 96 = .ok (.getfield 43, 3) := by decide +kernel
theorem kd_M_grow_99 : decode kc_M_grow 99 = .ok (.iload_n 1, 1) := by decide +kernel
theorem kd_M_grow_100 : decode kc_M_grow 100 = .ok (.dup2, 1) := by decide +kernel
theorem kd_M_grow_101 : decode kc_M_grow 101 = .ok (.iaload, 1) := by decide +kernel
theorem kd_M_grow_102 : decode kc_M_grow 102 = .ok (.iconst 1, 1) := by decide +kernel
theorem kd_M_grow_103 : decode kc_M_grow 103 = .ok (.iadd, 1) := by decide +kernel
theorem kd_M_grow_104 : decode kc_M_grow 104 = .ok (.iastore, 1) := by decide +kernel
theorem kd_M_grow_105 : decode kc_M_grow 105 = .ok (.return_, 1) := by decide +kernel
theorem kd_M_empty_0 : decode kc_M_empty 0 = .ok (.iconst 0, 1) := by decide +kernel
theorem kd_M_empty_1 : decode kc_M_empty 1 = .ok (.istore_n 2, 1) := by decide +kernel
theorem kd_M_empty_2 : decode kc_M_empty 2 = .ok (.iload_n 2, 1) := by decide +kernel
theorem kd_M_empty_3 : decode kc_M_empty 3 = .ok (.aload_n 0, 1) := by decide +kernel
theorem kd_M_empty_4 : decode kc_M_empty 4 = .ok (.getfield 43, 3) := by decide +kernel
theorem kd_M_empty_7 : decode kc_M_empty 7 = .ok (.iload_n 1, 1) := by decide +kernel
theorem kd_M_empty_8 : decode kc_M_empty 8 = .ok (.iaload, 1) := by decide +kernel
theorem kd_M_empty_9 : decode kc_M_empty 9 = .ok (.if_icmp .ge 40, 3) := by decide +kernel
theorem kd_M_empty_12 : decode kc_M_empty 12 = .ok (.aload_n 0, 1) := by decide +kernel
theorem kd_M_empty_13 : decode kc_M_empty 13 = .ok (.getfield 20, 3) := by decide +kernel
theorem kd_M_empty_16 : decode kc_M_empty 16 = .ok (.aload_n 0, 1) := by decide +kernel
theorem kd_M_empty_17 : decode kc_M_empty 17 = .ok (.getfield 46, 3) := by decide +kernel
theorem kd_M_empty_20 : decode kc_M_empty 20 = .ok (.sipush 269, 3) := by decide +kernel
theorem kd_M_empty_23 : decode kc_M_empty 23 = .ok (.iload_n 1, 1) := by decide +kernel
theorem kd_M_empty_24 : decode kc_M_empty 24 = .ok (.imul, 1) := by decide +kernel
theorem kd_M_empty_25 : decode kc_M_empty 25 = .ok (.iload_n 2, 1) := by decide +kernel
theorem kd_M_empty_26 : decode kc_M_empty 26 = .ok (.iadd, 1) := by decide +kernel
theorem kd_M_empty_27 : decode kc_M_empty 27 = .ok (.iaload, 1) := by decide +kernel
theorem kd_M_empty_28 : decode kc_M_empty 28 = .ok (.iconst 0, 1) := by decide +kernel
theorem kd_M_empty_29 : decode kc_M_empty 29 = .ok (.bastore, 1) := by decide +kernel
theorem kd_M_empty_30 : decode kc_M_empty 30 = .ok (.aload_n 0, 1) := by decide +kernel
theorem kd_M_empty_31 : decode kc_M_empty 31 = .ok (.getfield 46, 3) := by decide +kernel
theorem kd_M_empty_34 : decode kc_M_empty 34 = .ok (.sipush 269, 3) := by decide +kernel
theorem kd_M_empty_37 : decode kc_M_empty 37 = .ok (.iload_n 1, 1) := by decide +kernel
theorem kd_M_empty_38 : decode kc_M_empty 38 = .ok (.imul, 1) := by decide +kernel
theorem kd_M_empty_39 : decode kc_M_empty 39 = .ok (.iload_n 2, 1) := by decide +kernel
theorem kd_M_empty_40 : decode kc_M_empty 40 = .ok (.iadd, 1) := by decide +kernel
theorem kd_M_empty_41 : decode kc_M_empty 41 = .ok (.iconst 0, 1) := by decide +kernel
theorem kd_M_empty_42 : decode kc_M_empty 42 = .ok (.iastore, 1) := by decide +kernel
theorem kd_M_empty_43 : decode kc_M_empty 43 = .ok (.iinc 2 1, 3) := by decide +kernel
theorem kd_M_empty_46 : decode kc_M_empty 46 = .ok (.goto (-44), 3) := by decide +kernel
theorem kd_M_empty_49 : decode kc_M_empty 49 = .ok (.aload_n 0, 1) := by decide +kernel
theorem kd_M_empty_50 : decode kc_M_empty 50 = .ok (.getfield 43, 3) := by decide +kernel
theorem kd_M_empty_53 : decode kc_M_empty 53 = .ok (.iload_n 1, 1) := by decide +kernel
theorem kd_M_empty_54 : decode kc_M_empty 54 = .ok (.iaload, 1) := by decide +kernel
theorem kd_M_empty_55 : decode kc_M_empty 55 = .ok (.bipush 12, 2) := by decide +kernel
theorem kd_M_empty_57 : decode kc_M_empty 57 = .ok (.if_icmp .le 38, 3) := by decide +kernel
theorem kd_M_empty_60 : decode kc_M_empty 60 = .ok (.aload_n 0, 1) := by decide +kernel
theorem kd_M_empty_61 : decode kc_M_empty 61 = .ok (.getfield 20, 3) := by decide +kernel
theorem kd_M_empty_64 : decode kc_M_empty 64 = .ok (.aload_n 0, 1) := by decide +kernel
theorem kd_M_empty_65 : decode kc_M_empty 65 = .ok (.getfield 46, 3) := by decide +kernel
theorem kd_M_empty_68 : decode kc_M_empty 68 = .ok (.sipush 269, 3) := by decide +kernel
theorem kd_M_empty_71 : decode kc_M_empty 71 = .ok (.iload_n 1, 1) := by decide +kernel
theorem kd_M_empty_72 : decode kc_M_empty 72 = .ok (.imul, 1) := by decide +kernel
theorem kd_M_empty_73 : decode kc_M_empty 73 = .ok (.sipush 268, 3) := by decide +kernel
theorem kd_M_empty_76 : decode kc_M_empty 76 = .ok (.iadd, 1) := by decide +kernel
theorem kd_M_empty_77 : decode kc_M_empty 77 = .ok (.iaload, 1) := by decide +kernel
theorem kd_M_empty_78 : decode kc_M_empty 78 = .ok (.iconst 0, 1) := by decide +kernel
theorem kd_M_empty_79 : decode kc_M_empty 79 = .ok (.bastore, 1) := by decide +kernel
theorem kd_M_empty_80 : decode kc_M_empty 80 = .ok (.aload_n 0, 1) := by decide +kernel
theorem kd_M_empty_81 : decode kc_M_empty 81 = .ok (.getfield 46, 3) := by decide +kernel
theorem kd_M_empty_84 : decode kc_M_empty 84 = .ok (.sipush 269, 3) := by decide +kernel
theorem kd_M_empty_87 : decode kc_M_empty 87 = .ok (.iload_n 1, 1) := by decide +kernel
theorem kd_M_empty_88 : decode kc_M_empty 88 = .ok (.imul, 1) := by decide +kernel
theorem kd_M_empty_89 : decode kc_M_empty 89 = .ok (.sipush 268, 3) := by decide +kernel
theorem kd_M_empty_92 : decode kc_M_empty 92 = .ok (.iadd, 1) := by decide +kernel
theorem kd_M_empty_93 : decode kc_M_empty 93 = .ok (.iconst 0, 1) := by decide +kernel
theorem kd_M_empty_94 : decode kc_M_empty 94 = .ok (.iastore, 1) := by decide +kernel
theorem kd_M_empty_95 : decode kc_M_empty 95 = .ok (.aload_n 0, 1) := by decide +kernel
theorem kd_M_empty_96 : decode kc_M_empty 96 = .ok (.getfield 43, 3) := by decide +kernel
theorem kd_M_empty_99 : decode kc_M_empty 99 = .ok (.iload_n 1, 1) := by decide +kernel
theorem kd_M_empty_100 : decode kc_M_empty 100 = .ok (.iconst 0, 1) := by decide +kernel
theorem kd_M_empty_101 : decode kc_M_empty 101 = .ok (.iastore, 1) := by decide +kernel
theorem kd_M_empty_102 : decode kc_M_empty 102 = .ok (.aload_n 0, 1) := by decide +kernel
theorem kd_M_empty_103 : decode kc_M_empty 103 = .ok (.getfield 37, 3) := by decide +kernel
theorem kd_M_empty_106 : decode kc_M_empty 106 = .ok (.iload_n 1, 1) := by decide +kernel
theorem kd_M_empty_107 : decode kc_M_empty 107 = .ok (.iconst 0, 1) := by decide +kernel
theorem kd_M_empty_108 : decode kc_M_empty 108 = .ok (.iastore, 1) := by decide +kernel
theorem kd_M_empty_109 : decode kc_M_empty 109 = .ok (.return_, 1) := by decide +kernel
theorem kd_M_ends_0 : decode kc_M_ends 0 = .ok (.aload_n 0, 1) := by decide +kernel
theorem kd_M_ends_1 : decode kc_M_ends 1 = .ok (.getfield 24, 3) := by decide +kernel
theorem kd_M_ends_4 : decode kc_M_ends 4 = .ok (.iload_n 1, 1) := by decide +kernel
theorem kd_M_ends_5 : decode kc_M_ends 5 = .ok (.iaload, 1) := by decide +kernel
theorem kd_M_ends_6 : decode kc_M_ends 6 = .ok (.ifCond .eq 21, 3) := by decide +kernel
theorem kd_M_ends_9 : decode kc_M_ends 9 = .ok (.aload_n 0, 1) := by decide +kernel
theorem kd_M_ends_10 : decode kc_M_ends 10 = .ok (.getfield 34, 3) := by decide +kernel
theorem kd_M_ends_13 : decode kc_M_ends 13 = .ok (.iload_n 1, 1) := by decide +kernel
theorem kd_M_ends_14 : decode kc_M_ends 14 = .ok (.iaload, 1) := by decide +kernel
theorem kd_M_ends_15 : decode kc_M_ends 15 = .ok (.ifCond .gt 12, 3) := by decide +kernel
theorem kd_M_ends_18 : decode kc_M_ends 18 = .ok (.aload_n 0, 1) := by decide +kernel
theorem kd_M_ends_19 : decode kc_M_ends 19 = .ok (.getfield 40, 3) := by decide +kernel
theorem kd_M_ends_22 : decode kc_M_ends 22 = .ok (.iload_n 1, 1) := by decide +kernel
theorem kd_M_ends_23 : decode kc_M_ends 23 = .ok (.iaload, 1) := by decide +kernel
theorem kd_M_ends_24 : decode kc_M_ends 24 = .ok (.ifCond .le 5, 3) := by decide +kernel
theorem kd_M_ends_27 : decode kc_M_ends 27 = .ok (.iconst 0, 1) := by decide +kernel
theorem kd_M_ends_28 : decode kc_M_ends 28 = .ok (.ireturn, 1) := by decide +kernel
theorem kd_M_ends_29 : decode kc_M_ends 29 = .ok (.aload_n 0, 1) := by decide +kernel
theorem kd_M_ends_30 : decode kc_M_ends 30 = .ok (.iload_n 1, 1) := by decide +kernel
theorem kd_M_ends_31 : decode kc_M_ends 31 = .ok (.invokevirtual 72, 3) := by decide +kernel
theorem kd_M_ends_34 : decode kc_M_ends 34 = .ok (.aload_n 0, 1) := by decide +kernel
theorem kd_M_ends_35 : decode kc_M_ends 35 = .ok (.getfield 24, 3) := by decide +kernel
theorem kd_M_ends_38 : decode kc_M_ends 38 = .ok (.iload_n 1, 1) := by decide +kernel
theorem kd_M_ends_39 : decode kc_M_ends 39 = .ok (.iconst 0, 1) := by decide +kernel
theorem kd_M_ends_40 : decode kc_M_ends 40 = .ok (.iastore, 1) := by decide +kernel
theorem kd_M_ends_41 : decode kc_M_ends 41 = .ok (.aload_n 0, 1) := by decide +kernel
theorem kd_M_ends_42 : decode kc_M_ends 42 = .ok (.getfield 28, 3) := by decide +kernel
theorem kd_M_ends_45 : decode kc_M_ends 45 = .ok (.iload_n 1, 1) := by decide +kernel
theorem kd_M_ends_46 : decode kc_M_ends 46 = .ok (.iconst 0, 1) := by decide +kernel
theorem kd_M_ends_47 : decode kc_M_ends 47 = .ok (.iastore, 1) := by decide +kernel
theorem kd_M_ends_48 : decode kc_M_ends 48 = .ok (.aload_n 0, 1) := by decide +kernel
theorem kd_M_ends_49 : decode kc_M_ends 49 = .ok (.getfield 31, 3) := by decide +kernel
theorem kd_M_ends_52 : decode kc_M_ends 52 = .ok (.iload_n 1, 1) := by decide +kernel
theorem kd_M_ends_53 : decode kc_M_ends 53 = .ok (.iconst 0, 1) := by decide +kernel
theorem kd_M_ends_54 : decode kc_M_ends 54 = .ok (.iastore, 1) := by decide +kernel
theorem kd_M_ends_55 : decode kc_M_ends 55 = .ok (.iconst 1, 1) := by decide +kernel
theorem kd_M_ends_56 : decode kc_M_ends 56 = .ok (.ireturn, 1) := by decide +kernel
theorem kd_M_place_0 : decode kc_M_place 0 = .ok (.sipush 1024, 3) := by decide +kernel
theorem kd_M_place_3 : decode kc_M_place 3 = .ok (.aload_n 0, 1) := by decide +kernel
theorem kd_M_place_4 : decode kc_M_place 4 = .ok (.getfield 46, 3) := by decide +kernel
theorem kd_M_place_7 : decode kc_M_place 7 = .ok (.sipush 269, 3) := by decide +kernel
theorem kd_M_place_10 : decode kc_M_place 10 = .ok (.iload_n 1, 1) := by decide +kernel
theorem kd_M_place_11 : decode kc_M_place 11 = .ok (.imul, 1) := by decide +kernel
theorem kd_M_place_12 : decode kc_M_place 12 = .ok (.iload_n 2, 1) := by decide +kernel
theorem kd_M_place_13 : decode kc_M_place 13 = .ok (.sipush 1024, 3) := by decide +kernel
theorem kd_M_place_16 : decode kc_M_place 16 = .ok (.idiv, 1) := by decide +kernel
theorem kd_M_place_17 : decode kc_M_place 17 = .ok (.iadd, 1) := by decide +kernel
theorem kd_M_place_18 : decode kc_M_place 18 = .ok (.iaload, 1) := by decide +kernel
theorem kd_M_place_19 : decode kc_M_place 19 = .ok (.imul, 1) := by decide +kernel
theorem kd_M_place_20 : decode kc_M_place 20 = .ok (.iload_n 2, 1) := by decide +kernel
theorem kd_M_place_21 : decode kc_M_place 21 = .ok (.sipush 1024, 3) := by decide +kernel
theorem kd_M_place_24 : decode kc_M_place 24 = .ok (.irem, 1) := by decide +kernel
theorem kd_M_place_25 : decode kc_M_place 25 = .ok (.iadd, 1) := by decide +kernel
theorem kd_M_place_26 : decode kc_M_place 26 = .ok (.ireturn, 1) := by decide +kernel
theorem kd_M_isInode_0 : decode kc_M_isInode 0 = .ok (.iload_n 0, 1) := by decide +kernel
theorem kd_M_isInode_1 : decode kc_M_isInode 1 = .ok (.ifCond .lt 13, 3) := by decide +kernel
theorem kd_M_isInode_4 : decode kc_M_isInode 4 = .ok (.iload_n 0, 1) := by decide +kernel
theorem kd_M_isInode_5 : decode kc_M_isInode 5 = .ok (.bipush 64, 2) := by decide +kernel
theorem kd_M_isInode_7 : decode kc_M_isInode 7 = .ok (.if_icmp .ge 7, 3) := by decide +kernel
theorem kd_M_isInode_10 : decode kc_M_isInode 10 = .ok (.iconst 1, 1) := by decide +kernel
theorem kd_M_isInode_11 : decode kc_M_isInode 11 = .ok (.goto 4, 3) := by decide +kernel
theorem kd_M_isInode_14 : decode kc_M_isInode 14 = .ok (.iconst 0, 1) := by decide +kernel
theorem kd_M_isInode_15 : decode kc_M_isInode 15 = .ok (.ireturn, 1) := by decide +kernel
theorem kd_M_there_0 : decode kc_M_there 0 = .ok (.iload_n 1, 1) := by decide +kernel
theorem kd_M_there_1 : decode kc_M_there 1 = .ok (.invokestatic 76, 3) := by decide +kernel
theorem kd_M_there_4 : decode kc_M_there 4 = .ok (.ifCond .eq 16, 3) := by decide +kernel
theorem kd_M_there_7 : decode kc_M_there 7 = .ok (.aload_n 0, 1) := by decide +kernel
theorem kd_M_there_8 : decode kc_M_there 8 = .ok (.getfield 24, 3) := by decide +kernel
theorem kd_M_there_11 : decode kc_M_there 11 = .ok (.iload_n 1, 1) := by decide +kernel
theorem kd_M_there_12 : decode kc_M_there 12 = .ok (.iaload, 1) := by decide +kernel
theorem kd_M_there_13 : decode kc_M_there 13 = .ok (.ifCond .le 7, 3) := by decide +kernel
theorem kd_M_there_16 : decode kc_M_there 16 = .ok (.iconst 1, 1) := by decide +kernel
theorem kd_M_there_17 : decode kc_M_there 17 = .ok (.goto 4, 3) := by decide +kernel
theorem kd_M_there_20 : decode kc_M_there 20 = .ok (.iconst 0, 1) := by decide +kernel
theorem kd_M_there_21 : decode kc_M_there 21 = .ok (.ireturn, 1) := by decide +kernel
theorem kd_M_numberAt_0 : decode kc_M_numberAt 0 = .ok (.aload_n 0, 1) := by decide +kernel
theorem kd_M_numberAt_1 : decode kc_M_numberAt 1 = .ok (.iload_n 1, 1) := by decide +kernel
theorem kd_M_numberAt_2 : decode kc_M_numberAt 2 = .ok (.iload_n 2, 1) := by decide +kernel
theorem kd_M_numberAt_3 : decode kc_M_numberAt 3 = .ok (.invokevirtual 80, 3) := by decide +kernel
theorem kd_M_numberAt_6 : decode kc_M_numberAt 6 = .ok (.istore_n 3, 1) := by decide +kernel
theorem kd_M_numberAt_7 : decode kc_M_numberAt 7 = .ok (.aload_n 0, 1) := by decide +kernel
theorem kd_M_numberAt_8 : decode kc_M_numberAt 8 = .ok (.getfield 17, 3) := by decide +kernel
theorem kd_M_numberAt_11 : decode kc_M_numberAt 11 = .ok (.iload_n 3, 1) := by decide +kernel
theorem kd_M_numberAt_12 : decode kc_M_numberAt 12 = .ok (.baload, 1) := by decide +kernel
theorem kd_M_numberAt_13 : decode kc_M_numberAt 13 = .ok (.sipush 255, 3) := by decide +kernel
theorem kd_M_numberAt_16 : decode kc_M_numberAt 16 = .ok (.iand, 1) := by decide +kernel
theorem kd_M_numberAt_17 : decode kc_M_numberAt 17 = .ok (.aload_n 0, 1) := by decide +kernel
theorem kd_M_numberAt_18 : decode kc_M_numberAt 18 = .ok (.getfield 17, 3) := by decide +kernel
theorem kd_M_numberAt_21 : decode kc_M_numberAt 21 = .ok (.iload_n 3, 1) := by decide +kernel
theorem kd_M_numberAt_22 : decode kc_M_numberAt 22 = .ok (.iconst 1, 1) := by decide +kernel
theorem kd_M_numberAt_23 : decode kc_M_numberAt 23 = .ok (.iadd, 1) := by decide +kernel
theorem kd_M_numberAt_24 : decode kc_M_numberAt 24 = .ok (.baload, 1) := by decide +kernel
theorem kd_M_numberAt_25 : decode kc_M_numberAt 25 = .ok (.sipush 255, 3) := by decide +kernel
theorem kd_M_numberAt_28 : decode kc_M_numberAt 28 = .ok (.iand, 1) := by decide +kernel
theorem kd_M_numberAt_29 : decode kc_M_numberAt 29 = .ok (.bipush 8, 2) := by decide +kernel
theorem kd_M_numberAt_31 : decode kc_M_numberAt 31 = .ok (.ishl, 1) := by decide +kernel
theorem kd_M_numberAt_32 : decode kc_M_numberAt 32 = .ok (.ior, 1) := by decide +kernel
theorem kd_M_numberAt_33 : decode kc_M_numberAt 33 = .ok (.ireturn, 1) := by decide +kernel
theorem kd_M_entry_0 : decode kc_M_entry 0 = .ok (.iconst 0, 1) := by decide +kernel
theorem kd_M_entry_1 : decode kc_M_entry 1 = .ok (.istore_n 2, 1) := by decide +kernel
theorem kd_M_entry_2 : decode kc_M_entry 2 = .ok (.iload_n 2, 1) := by decide +kernel
theorem kd_M_entry_3 : decode kc_M_entry 3 = .ok (.aload_n 0, 1) := by decide +kernel
theorem kd_M_entry_4 : decode kc_M_entry 4 = .ok (.getfield 37, 3) := by decide +kernel
theorem kd_M_entry_7 : decode kc_M_entry 7 = .ok (.iload_n 1, 1) := by decide +kernel
theorem kd_M_entry_8 : decode kc_M_entry 8 = .ok (.iaload, 1) := by decide +kernel
theorem kd_M_entry_9 : decode kc_M_entry 9 = .ok (.if_icmp .ge 86, 3) := by decide +kernel
theorem kd_M_entry_12 : decode kc_M_entry 12 = .ok (.aload_n 0, 1) := by decide +kernel
theorem kd_M_entry_13 : decode kc_M_entry 13 = .ok (.iload_n 1, 1) := by decide +kernel
theorem kd_M_entry_14 : decode kc_M_entry 14 = .ok (.iload_n 2, 1) := by decide +kernel
theorem kd_M_entry_15 : decode kc_M_entry 15 = .ok (.invokevirtual 84, 3) := by decide +kernel
theorem kd_M_entry_18 : decode kc_M_entry 18 = .ok (.ifCond .le 7, 3) := by decide +kernel
theorem kd_M_entry_21 : decode kc_M_entry 21 = .ok (.iconst 1, 1) := by decide +kernel
theorem kd_M_entry_22 : decode kc_M_entry 22 = .ok (.goto 4, 3) := by decide +kernel
theorem kd_M_entry_25 : decode kc_M_entry 25 = .ok (.iconst 0, 1) := by decide +kernel
theorem kd_M_entry_26 : decode kc_M_entry 26 = .ok (.istore_n 3, 1) := by decide +kernel
theorem kd_M_entry_27 : decode kc_M_entry 27 = .ok (.aload_n 0, 1) := by decide +kernel
theorem kd_M_entry_28 : decode kc_M_entry 28 = .ok (.iload_n 1, 1) := by decide +kernel
theorem kd_M_entry_29 : decode kc_M_entry 29 = .ok (.iload_n 2, 1) := by decide +kernel
theorem kd_M_entry_30 : decode kc_M_entry 30 = .ok (.invokevirtual 80, 3) := by decide +kernel
theorem kd_M_entry_33 : decode kc_M_entry 33 = .ok (.iconst 2, 1) := by decide +kernel
theorem kd_M_entry_34 : decode kc_M_entry 34 = .ok (.iadd, 1) := by decide +kernel
theorem kd_M_entry_35 : decode kc_M_entry 35 = .ok (.istore 4, 2) := by decide +kernel
theorem kd_M_entry_37 : decode kc_M_entry 37 = .ok (.iconst 0, 1) := by decide +kernel
theorem kd_M_entry_38 : decode kc_M_entry 38 = .ok (.istore 5, 2) := by decide +kernel
theorem kd_M_entry_40 : decode kc_M_entry 40 = .ok (.iload 5, 2) := by decide +kernel
theorem kd_M_entry_42 : decode kc_M_entry 42 = .ok (.bipush 14, 2) := by decide +kernel
theorem kd_M_entry_44 : decode kc_M_entry 44 = .ok (.if_icmp .ge 39, 3) := by decide +kernel
theorem kd_M_entry_47 : decode kc_M_entry 47 = .ok (.iload_n 3, 1) := by decide +kernel
theorem kd_M_entry_48 : decode kc_M_entry 48 = .ok (.ifCond .eq 27, 3) := by decide +kernel
theorem kd_M_entry_51 : decode kc_M_entry 51 = .ok (.aload_n 0, 1) := by decide +kernel
theorem kd_M_entry_52 : decode kc_M_entry 52 = .ok (.getfield 17, 3) := by decide +kernel
theorem kd_M_entry_55 : decode kc_M_entry 55 = .ok (.iload 4, 2) := by decide +kernel
theorem kd_M_entry_57 : decode kc_M_entry 57 = .ok (.iload 5, 2) := by decide +kernel
theorem kd_M_entry_59 : decode kc_M_entry 59 = .ok (.iadd, 1) := by decide +kernel
theorem kd_M_entry_60 : decode kc_M_entry 60 = .ok (.baload, 1) := by decide +kernel
theorem kd_M_entry_61 : decode kc_M_entry 61 = .ok (.aload_n 0, 1) := by decide +kernel
theorem kd_M_entry_62 : decode kc_M_entry 62 = .ok (.getfield 53, 3) := by decide +kernel
theorem kd_M_entry_65 : decode kc_M_entry 65 = .ok (.iload 5, 2) := by decide +kernel
theorem kd_M_entry_67 : decode kc_M_entry 67 = .ok (.baload, 1) := by decide +kernel
theorem kd_M_entry_68 : decode kc_M_entry 68 = .ok (.if_icmp .ne 7, 3) := by decide +kernel
theorem kd_M_entry_71 : decode kc_M_entry 71 = .ok (.iconst 1, 1) := by decide +kernel
theorem kd_M_entry_72 : decode kc_M_entry 72 = .ok (.goto 4, 3) := by decide +kernel
theorem kd_M_entry_75 : decode kc_M_entry 75 = .ok (.iconst 0, 1) := by decide +kernel
theorem kd_M_entry_76 : decode kc_M_entry 76 = .ok (.istore_n 3, 1) := by decide +kernel
theorem kd_M_entry_77 : decode kc_M_entry 77 = .ok (.iinc 5 1, 3) := by decide +kernel
theorem kd_M_entry_80 : decode kc_M_entry 80 = .ok (.goto (-40), 3) := by decide +kernel
theorem kd_M_entry_83 : decode kc_M_entry 83 = .ok (.iload_n 3, 1) := by decide +kernel
theorem kd_M_entry_84 : decode kc_M_entry 84 = .ok (.ifCond .eq 5, 3) := by decide +kernel
theorem kd_M_entry_87 : decode kc_M_entry 87 = .ok (.iload_n 2, 1) := by decide +kernel
theorem kd_M_entry_88 : decode kc_M_entry 88 = .ok (.ireturn, 1) := by decide +kernel
theorem kd_M_entry_89 : decode kc_M_entry 89 = .ok (.iinc 2 16, 3) := by decide +kernel
theorem kd_M_entry_92 : decode kc_M_entry 92 = .ok (.goto (-90), 3) := by decide +kernel
theorem kd_M_entry_95 : decode kc_M_entry 95 = .ok (.iconst (-1), 1) := by decide +kernel
theorem kd_M_entry_96 : decode kc_M_entry 96 = .ok (.ireturn, 1) := by decide +kernel
theorem kd_M_vacant_0 : decode kc_M_vacant 0 = .ok (.iconst 0, 1) := by decide +kernel
theorem kd_M_vacant_1 : decode kc_M_vacant 1 = .ok (.istore_n 2, 1) := by decide +kernel
theorem kd_M_vacant_2 : decode kc_M_vacant 2 = .ok (.iload_n 2, 1) := by decide +kernel
theorem kd_M_vacant_3 : decode kc_M_vacant 3 = .ok (.aload_n 0, 1) := by decide +kernel
theorem kd_M_vacant_4 : decode kc_M_vacant 4 = .ok (.getfield 37, 3) := by decide +kernel
theorem kd_M_vacant_7 : decode kc_M_vacant 7 = .ok (.iload_n 1, 1) := by decide +kernel
theorem kd_M_vacant_8 : decode kc_M_vacant 8 = .ok (.iaload, 1) := by decide +kernel
theorem kd_M_vacant_9 : decode kc_M_vacant 9 = .ok (.if_icmp .ge 18, 3) := by decide +kernel
theorem kd_M_vacant_12 : decode kc_M_vacant 12 = .ok (.aload_n 0, 1) := by decide +kernel
theorem kd_M_vacant_13 : decode kc_M_vacant 13 = .ok (.iload_n 1, 1) := by decide +kernel
theorem kd_M_vacant_14 : decode kc_M_vacant 14 = .ok (.iload_n 2, 1) := by decide +kernel
theorem kd_M_vacant_15 : decode kc_M_vacant 15 = .ok (.invokevirtual 84, 3) := by decide +kernel
theorem kd_M_vacant_18 : decode kc_M_vacant 18 = .ok (.ifCond .le 9, 3) := by decide +kernel
theorem kd_M_vacant_21 : decode kc_M_vacant 21 = .ok (.iinc 2 16, 3) := by decide +kernel
theorem kd_M_vacant_24 : decode kc_M_vacant 24 = .ok (.goto (-22), 3) := by decide +kernel
theorem kd_M_vacant_27 : decode kc_M_vacant 27 = .ok (.iload_n 2, 1) := by decide +kernel
theorem kd_M_vacant_28 : decode kc_M_vacant 28 = .ok (.ireturn, 1) := by decide +kernel
theorem kd_M_wants_0 : decode kc_M_wants 0 = .ok (.aload_n 0, 1) := by decide +kernel
theorem kd_M_wants_1 : decode kc_M_wants 1 = .ok (.iload_n 1, 1) := by decide +kernel
theorem kd_M_wants_2 : decode kc_M_wants 2 = .ok (.invokevirtual 87, 3) := by decide +kernel
theorem kd_M_wants_5 : decode kc_M_wants 5 = .ok (.istore_n 2, 1) := by decide +kernel
theorem kd_M_wants_6 : decode kc_M_wants 6 = .ok (.aload_n 0, 1) := by decide +kernel
theorem kd_M_wants_7 : decode kc_M_wants 7 = .ok (.getfield 34, 3) := by decide +kernel
theorem kd_M_wants_10 : decode kc_M_wants 10 = .ok (.iload_n 1, 1) := by decide +kernel
theorem kd_M_wants_11 : decode kc_M_wants 11 = .ok (.iaload, 1) := by decide +kernel
theorem kd_M_wants_12 : decode kc_M_wants 12 = .ok (.ifCond .eq 9, 3) := by decide +kernel
theorem kd_M_wants_15 : decode kc_M_wants 15 = .ok (.iload_n 2, 1) := by decide +kernel
theorem kd_M_wants_16 : decode kc_M_wants 16 = .ok (.ldc 91, 2) := by decide +kernel
theorem kd_M_wants_18 : decode kc_M_wants 18 = .ok (.if_icmp .ne 7, 3) := by decide +kernel
theorem kd_M_wants_21 : decode kc_M_wants 21 = .ok (.sipush 1000, 3) := by decide +kernel
theorem kd_M_wants_24 : decode kc_M_wants 24 = .ok (.ireturn, 1) := by decide +kernel
theorem kd_M_wants_25 : decode kc_M_wants 25 = .ok (.iload_n 2, 1) := by decide +kernel
theorem kd_M_wants_26 : decode kc_M_wants 26 = .ok (.aload_n 0, 1) := by decide +kernel
theorem kd_M_wants_27 : decode kc_M_wants 27 = .ok (.getfield 37, 3) := by decide +kernel
theorem kd_M_wants_30 : decode kc_M_wants 30 = .ok (.iload_n 1, 1) := by decide +kernel
theorem kd_M_wants_31 : decode kc_M_wants 31 = .ok (.iaload, 1) := by decide +kernel
theorem kd_M_wants_32 : decode kc_M_wants 32 = .ok (.if_icmp .lt 11, 3) := by decide +kernel
theorem kd_M_wants_35 : decode kc_M_wants 35 = .ok (.iload_n 2, 1) := by decide +kernel
theorem kd_M_wants_36 : decode kc_M_wants 36 = .ok (.sipush 1024, 3) := by decide +kernel
theorem kd_M_wants_39 : decode kc_M_wants 39 = .ok (.irem, 1) := by decide +kernel
theorem kd_M_wants_40 : decode kc_M_wants 40 = .ok (.ifCond .le 7, 3) := by decide +kernel
theorem kd_M_wants_43 : decode kc_M_wants 43 = .ok (.iconst 0, 1) := by decide +kernel
theorem kd_M_wants_44 : decode kc_M_wants 44 = .ok (.goto 8, 3) := by decide +kernel
theorem kd_M_wants_47 : decode kc_M_wants 47 = .ok (.aload_n 0, 1) := by decide +kernel
theorem kd_M_wants_48 : decode kc_M_wants 48 = .ok (.iload_n 1, 1) := by decide +kernel
theorem kd_M_wants_49 : decode kc_M_wants 49 = .ok (.invokevirtual 92, 3) := by decide +kernel
theorem kd_M_wants_52 : decode kc_M_wants 52 = .ok (.ireturn, 1) := by decide +kernel
theorem kd_M_lay_0 : decode kc_M_lay 0 = .ok (.aload_n 0, 1) := by decide +kernel
theorem kd_M_lay_1 : decode kc_M_lay 1 = .ok (.iload_n 1, 1) := by decide +kernel
theorem kd_M_lay_2 : decode kc_M_lay 2 = .ok (.iload_n 2, 1) := by decide +kernel
theorem kd_M_lay_3 : decode kc_M_lay 3 = .ok (.invokevirtual 80, 3) := by decide +kernel
theorem kd_M_lay_6 : decode kc_M_lay 6 = .ok (.istore 4, 2) := by decide +kernel
theorem kd_M_lay_8 : decode kc_M_lay 8 = .ok (.aload_n 0, 1) := by decide +kernel
theorem kd_M_lay_9 : decode kc_M_lay 9 = .ok (.iload 4, 2) := by decide +kernel
theorem kd_M_lay_11 : decode kc_M_lay 11 = .ok (.iconst 2, 1) := by decide +kernel
theorem kd_M_lay_12 : decode kc_M_lay 12 = .ok (.iload_n 3, 1) := by decide +kernel
theorem kd_M_lay_13 : decode kc_M_lay 13 = .ok (.invokevirtual 68, 3) := by decide +kernel
theorem kd_M_lay_16 : decode kc_M_lay 16 = .ok (.iconst 0, 1) := by decide +kernel
theorem kd_M_lay_17 : decode kc_M_lay 17 = .ok (.istore 5, 2) := by decide +kernel
theorem kd_M_lay_19 : decode kc_M_lay 19 = .ok (.iload 5, 2) := by decide +kernel
theorem kd_M_lay_21 : decode kc_M_lay 21 = .ok (.bipush 14, 2) := by decide +kernel
theorem kd_M_lay_23 : decode kc_M_lay 23 = .ok (.if_icmp .ge 28, 3) := by decide +kernel
theorem kd_M_lay_26 : decode kc_M_lay 26 = .ok (.aload_n 0, 1) := by decide +kernel
theorem kd_M_lay_27 : decode kc_M_lay 27 = .ok (.getfield 17, 3) := by decide +kernel
theorem kd_M_lay_30 : decode kc_M_lay 30 = .ok (.iload 4, 2) := by decide +kernel
theorem kd_M_lay_32 : decode kc_M_lay 32 = .ok (.iconst 2, 1) := by decide +kernel
theorem kd_M_lay_33 : decode kc_M_lay 33 = .ok (.iadd, 1) := by decide +kernel
theorem kd_M_lay_34 : decode kc_M_lay 34 = .ok (.iload 5, 2) := by decide +kernel
theorem kd_M_lay_36 : decode kc_M_lay 36 = .ok (.iadd, 1) := by decide +kernel
theorem kd_M_lay_37 : decode kc_M_lay 37 = .ok (.aload_n 0, 1) := by decide +kernel
theorem kd_M_lay_38 : decode kc_M_lay 38 = .ok (.getfield 53, 3) := by decide +kernel
theorem kd_M_lay_41 : decode kc_M_lay 41 = .ok (.iload 5, 2) := by decide +kernel
theorem kd_M_lay_43 : decode kc_M_lay 43 = .ok (.baload, 1) := by decide +kernel
theorem kd_M_lay_44 : decode kc_M_lay 44 = .ok (.bastore, 1) := by decide +kernel
theorem kd_M_lay_45 : decode kc_M_lay 45 = .ok (.iinc 5 1, 3) := by decide +kernel
theorem kd_M_lay_48 : decode kc_M_lay 48 = .ok (.goto (-29), 3) := by decide +kernel
theorem kd_M_lay_51 : decode kc_M_lay 51 = .ok (.return_, 1) := by decide +kernel
theorem kd_M_enter_0 : decode kc_M_enter 0 = .ok (.aload_n 0, 1) := by decide +kernel
theorem kd_M_enter_1 : decode kc_M_enter 1 = .ok (.iload_n 1, 1) := by decide +kernel
theorem kd_M_enter_2 : decode kc_M_enter 2 = .ok (.invokevirtual 87, 3) := by decide +kernel
theorem kd_M_enter_5 : decode kc_M_enter 5 = .ok (.istore_n 3, 1) := by decide +kernel
theorem kd_M_enter_6 : decode kc_M_enter 6 = .ok (.iload_n 3, 1) := by decide +kernel
theorem kd_M_enter_7 : decode kc_M_enter 7 = .ok (.aload_n 0, 1) := by decide +kernel
theorem kd_M_enter_8 : decode kc_M_enter 8 = .ok (.getfield 37, 3) := by decide +kernel
theorem kd_M_enter_11 : decode kc_M_enter 11 = .ok (.iload_n 1, 1) := by decide +kernel
theorem kd_M_enter_12 : decode kc_M_enter 12 = .ok (.iaload, 1) := by decide +kernel
theorem kd_M_enter_13 : decode kc_M_enter 13 = .ok (.if_icmp .ne 16, 3) := by decide +kernel
theorem kd_M_enter_16 : decode kc_M_enter 16 = .ok (.iload_n 3, 1) := by decide +kernel
theorem kd_M_enter_17 : decode kc_M_enter 17 = .ok (.sipush 1024, 3) := by decide +kernel
theorem kd_M_enter_20 : decode kc_M_enter 20 = .ok (.irem, 1) := by decide +kernel
theorem kd_M_enter_21 : decode kc_M_enter 21 = .ok (.ifCond .ne 8, 3) := by decide +kernel
theorem kd_M_enter_24 : decode kc_M_enter 24 = .ok (.aload_n 0, 1) := by decide +kernel
theorem kd_M_enter_25 : decode kc_M_enter 25 = .ok (.iload_n 1, 1) := by decide +kernel
theorem kd_M_enter_26 : decode kc_M_enter 26 = .ok (.invokevirtual 95, 3) := by decide +kernel
theorem kd_M_enter_29 : decode kc_M_enter 29 = .ok (.aload_n 0, 1) := by decide +kernel
theorem kd_M_enter_30 : decode kc_M_enter 30 = .ok (.iload_n 1, 1) := by decide +kernel
theorem kd_M_enter_31 : decode kc_M_enter 31 = .ok (.iload_n 3, 1) := by decide +kernel
theorem kd_M_enter_32 : decode kc_M_enter 32 = .ok (.iload_n 2, 1) := by decide +kernel
theorem kd_M_enter_33 : decode kc_M_enter 33 = .ok (.invokevirtual 98, 3) := by decide +kernel
theorem kd_M_enter_36 : decode kc_M_enter 36 = .ok (.aload_n 0, 1) := by decide +kernel
theorem kd_M_enter_37 : decode kc_M_enter 37 = .ok (.getfield 37, 3) := by decide +kernel
theorem kd_M_enter_40 : decode kc_M_enter 40 = .ok (.iload_n 1, 1) := by decide +kernel
theorem kd_M_enter_41 : decode kc_M_enter 41 = .ok (.iload_n 3, 1) := by decide +kernel
theorem kd_M_enter_42 : decode kc_M_enter 42 = .ok (.aload_n 0, 1) := by decide +kernel
theorem kd_M_enter_43 : decode kc_M_enter 43 = .ok (.getfield 37, 3) := by decide +kernel
theorem kd_M_enter_46 : decode kc_M_enter 46 = .ok (.iload_n 1, 1) := by decide +kernel
theorem kd_M_enter_47 : decode kc_M_enter 47 = .ok (.iaload, 1) := by decide +kernel
theorem kd_M_enter_48 : decode kc_M_enter 48 = .ok (.if_icmp .ne 10, 3) := by decide +kernel
theorem kd_M_enter_51 : decode kc_M_enter 51 = .ok (.iload_n 3, 1) := by decide +kernel
theorem kd_M_enter_52 : decode kc_M_enter 52 = .ok (.bipush 16, 2) := by decide +kernel
theorem kd_M_enter_54 : decode kc_M_enter 54 = .ok (.iadd, 1) := by decide +kernel
theorem kd_M_enter_55 : decode kc_M_enter 55 = .ok (.goto 9, 3) := by decide +kernel
theorem kd_M_enter_58 : decode kc_M_enter 58 = .ok (.aload_n 0, 1) := by decide +kernel
theorem kd_M_enter_59 : decode kc_M_enter 59 = .ok (.getfield 37, 3) := by decide +kernel
theorem kd_M_enter_62 : decode kc_M_enter 62 = .ok (.iload_n 1, 1) := by decide +kernel
theorem kd_M_enter_63 : decode kc_M_enter 63 = .ok (.iaload, 1) := by decide +kernel
theorem kd_M_enter_64 : decode kc_M_enter 64 = .ok (.iastore, 1) := by decide +kernel
theorem kd_M_enter_65 : decode kc_M_enter 65 = .ok (.return_, 1) := by decide +kernel
theorem kd_M_erase_0 : decode kc_M_erase 0 = .ok (.aload_n 0, 1) := by decide +kernel
theorem kd_M_erase_1 : decode kc_M_erase 1 = .ok (.iload_n 1, 1) := by decide +kernel
theorem kd_M_erase_2 : decode kc_M_erase 2 = .ok (.iload_n 2, 1) := by decide +kernel
theorem kd_M_erase_3 : decode kc_M_erase 3 = .ok (.invokevirtual 80, 3) := by decide +kernel
theorem kd_M_erase_6 : decode kc_M_erase 6 = .ok (.istore_n 3, 1) := by decide +kernel
theorem kd_M_erase_7 : decode kc_M_erase 7 = .ok (.iconst 0, 1) := by decide +kernel
theorem kd_M_erase_8 : decode kc_M_erase 8 = .ok (.istore 4, 2) := by decide +kernel
theorem kd_M_erase_10 : decode kc_M_erase 10 = .ok (.iload 4, 2) := by decide +kernel
theorem kd_M_erase_12 : decode kc_M_erase 12 = .ok (.bipush 16, 2) := by decide +kernel
theorem kd_M_erase_14 : decode kc_M_erase 14 = .ok (.if_icmp .ge 19, 3) := by decide +kernel
theorem kd_M_erase_17 : decode kc_M_erase 17 = .ok (.aload_n 0, 1) := by decide +kernel
theorem kd_M_erase_18 : decode kc_M_erase 18 = .ok (.getfield 17, 3) := by decide +kernel
theorem kd_M_erase_21 : decode kc_M_erase 21 = .ok (.iload_n 3, 1) := by decide +kernel
theorem kd_M_erase_22 : decode kc_M_erase 22 = .ok (.iload 4, 2) := by decide +kernel
theorem kd_M_erase_24 : decode kc_M_erase 24 = .ok (.iadd, 1) := by decide +kernel
theorem kd_M_erase_25 : decode kc_M_erase 25 = .ok (.iconst 0, 1) := by decide +kernel
theorem kd_M_erase_26 : decode kc_M_erase 26 = .ok (.bastore, 1) := by decide +kernel
theorem kd_M_erase_27 : decode kc_M_erase 27 = .ok (.iinc 4 1, 3) := by decide +kernel
theorem kd_M_erase_30 : decode kc_M_erase 30 = .ok (.goto (-20), 3) := by decide +kernel
theorem kd_M_erase_33 : decode kc_M_erase 33 = .ok (.return_, 1) := by decide +kernel
theorem kd_M_dots_0 : decode kc_M_dots 0 = .ok (.iconst 0, 1) := by decide +kernel
theorem kd_M_dots_1 : decode kc_M_dots 1 = .ok (.istore_n 2, 1) := by decide +kernel
theorem kd_M_dots_2 : decode kc_M_dots 2 = .ok (.iload_n 2, 1) := by decide +kernel
theorem kd_M_dots_3 : decode kc_M_dots 3 = .ok (.bipush 14, 2) := by decide +kernel
theorem kd_M_dots_5 : decode kc_M_dots 5 = .ok (.if_icmp .ge 26, 3) := by decide +kernel
theorem kd_M_dots_8 : decode kc_M_dots 8 = .ok (.aload_n 0, 1) := by decide +kernel
theorem kd_M_dots_9 : decode kc_M_dots 9 = .ok (.getfield 53, 3) := by decide +kernel
theorem kd_M_dots_12 : decode kc_M_dots 12 = .ok (.iload_n 2, 1) := by decide +kernel
theorem kd_M_dots_13 : decode kc_M_dots 13 = .ok (.iload_n 2, 1) := by decide +kernel
theorem kd_M_dots_14 : decode kc_M_dots 14 = .ok (.iload_n 1, 1) := by decide +kernel
theorem kd_M_dots_15 : decode kc_M_dots 15 = .ok (.if_icmp .ge 8, 3) := by decide +kernel
theorem kd_M_dots_18 : decode kc_M_dots 18 = .ok (.bipush 46, 2) := by decide +kernel
theorem kd_M_dots_20 : decode kc_M_dots 20 = .ok (.goto 4, 3) := by decide +kernel
theorem kd_M_dots_23 : decode kc_M_dots 23 = .ok (.iconst 0, 1) := by decide +kernel
theorem kd_M_dots_24 : decode kc_M_dots 24 = .ok (.bastore, 1) := by decide +kernel
theorem kd_M_dots_25 : decode kc_M_dots 25 = .ok (.iinc 2 1, 3) := by decide +kernel
theorem kd_M_dots_28 : decode kc_M_dots 28 = .ok (.goto (-26), 3) := by decide +kernel
theorem kd_M_dots_31 : decode kc_M_dots 31 = .ok (.return_, 1) := by decide +kernel
theorem kd_M_begins_0 : decode kc_M_begins 0 = .ok (.aload_n 0, 1) := by decide +kernel
theorem kd_M_begins_1 : decode kc_M_begins 1 = .ok (.iload_n 1, 1) := by decide +kernel
theorem kd_M_begins_2 : decode kc_M_begins 2 = .ok (.invokevirtual 95, 3) := by decide +kernel
theorem kd_M_begins_5 : decode kc_M_begins 5 = .ok (.aload_n 0, 1) := by decide +kernel
theorem kd_M_begins_6 : decode kc_M_begins 6 = .ok (.iconst 1, 1) := by decide +kernel
theorem kd_M_begins_7 : decode kc_M_begins 7 = .ok (.invokevirtual 101, 3) := by decide +kernel
theorem kd_M_begins_10 : decode kc_M_begins 10 = .ok (.aload_n 0, 1) := by decide +kernel
theorem kd_M_begins_11 : decode kc_M_begins 11 = .ok (.iload_n 1, 1) := by decide +kernel
theorem kd_M_begins_12 : decode kc_M_begins 12 = .ok (.iconst 0, 1) := by decide +kernel
theorem kd_M_begins_13 : decode kc_M_begins 13 = .ok (.iload_n 1, 1) := by decide +kernel
theorem kd_M_begins_14 : decode kc_M_begins 14 = .ok (.invokevirtual 98, 3) := by decide +kernel
theorem kd_M_begins_17 : decode kc_M_begins 17 = .ok (.aload_n 0, 1) := by decide +kernel
theorem kd_M_begins_18 : decode kc_M_begins 18 = .ok (.iconst 2, 1) := by decide +kernel
theorem kd_M_begins_19 : decode kc_M_begins 19 = .ok (.invokevirtual 101, 3) := by decide +kernel
theorem kd_M_begins_22 : decode kc_M_begins 22 = .ok (.aload_n 0, 1) := by decide +kernel
theorem kd_M_begins_23 : decode kc_M_begins 23 = .ok (.iload_n 1, 1) := by decide +kernel
theorem kd_M_begins_24 : decode kc_M_begins 24 = .ok (.bipush 16, 2) := by decide +kernel
theorem kd_M_begins_26 : decode kc_M_begins 26 = .ok (.iload_n 2, 1) := by decide +kernel
theorem kd_M_begins_27 : decode kc_M_begins 27 = .ok (.invokevirtual 98, 3) := by decide +kernel
theorem kd_M_begins_30 : decode kc_M_begins 30 = .ok (.aload_n 0, 1) := by decide +kernel
theorem kd_M_begins_31 : decode kc_M_begins 31 = .ok (.getfield 37, 3) := by decide +kernel
theorem kd_M_begins_34 : decode kc_M_begins 34 = .ok (.iload_n 1, 1) := by decide +kernel
theorem kd_M_begins_35 : decode kc_M_begins 35 = .ok (.bipush 32, 2) := by decide +kernel
theorem kd_M_begins_37 : decode kc_M_begins 37 = .ok (.iastore, 1) := by decide +kernel
theorem kd_M_begins_38 : decode kc_M_begins 38 = .ok (.aload_n 0, 1) := by decide +kernel
theorem kd_M_begins_39 : decode kc_M_begins 39 = .ok (.getfield 34, 3) := by decide +kernel
theorem kd_M_begins_42 : decode kc_M_begins 42 = .ok (.iload_n 2, 1) := by decide +kernel
theorem kd_M_begins_43 : decode kc_M_begins 43 = .ok (.dup2, 1) := by decide +kernel
theorem kd_M_begins_44 : decode kc_M_begins 44 = .ok (.iaload, 1) := by decide +kernel
theorem kd_M_begins_45 : decode kc_M_begins 45 = .ok (.iconst 1, 1) := by decide +kernel
theorem kd_M_begins_46 : decode kc_M_begins 46 = .ok (.iadd, 1) := by decide +kernel
theorem kd_M_begins_47 : decode kc_M_begins 47 = .ok (.iastore, 1) := by decide +kernel
theorem kd_M_begins_48 : decode kc_M_begins 48 = .ok (.return_, 1) := by decide +kernel
theorem kd_M_isDots_0 : decode kc_M_isDots 0 = .ok (.aload_n 0, 1) := by decide +kernel
theorem kd_M_isDots_1 : decode kc_M_isDots 1 = .ok (.getfield 53, 3) := by decide +kernel
theorem kd_M_isDots_4 : decode kc_M_isDots 4 = .ok (.iconst 0, 1) := by decide +kernel
theorem kd_M_isDots_5 : decode kc_M_isDots 5 = .ok (.baload, 1) := by decide +kernel
theorem kd_M_isDots_6 : decode kc_M_isDots 6 = .ok (.bipush 46, 2) := by decide +kernel
theorem kd_M_isDots_8 : decode kc_M_isDots 8 = .ok (.if_icmp .ne 36, 3) := by decide +kernel
theorem kd_M_isDots_11 : decode kc_M_isDots 11 = .ok (.aload_n 0, 1) := by decide +kernel
theorem kd_M_isDots_12 : decode kc_M_isDots 12 = .ok (.getfield 53, 3) := by decide +kernel
theorem kd_M_isDots_15 : decode kc_M_isDots 15 = .ok (.iconst 1, 1) := by decide +kernel
theorem kd_M_isDots_16 : decode kc_M_isDots 16 = .ok (.baload, 1) := by decide +kernel
theorem kd_M_isDots_17 : decode kc_M_isDots 17 = .ok (.ifCond .eq 23, 3) := by decide +kernel
theorem kd_M_isDots_20 : decode kc_M_isDots 20 = .ok (.aload_n 0, 1) := by decide +kernel
theorem kd_M_isDots_21 : decode kc_M_isDots 21 = .ok (.getfield 53, 3) := by decide +kernel
theorem kd_M_isDots_24 : decode kc_M_isDots 24 = .ok (.iconst 1, 1) := by decide +kernel
theorem kd_M_isDots_25 : decode kc_M_isDots 25 = .ok (.baload, 1) := by decide +kernel
theorem kd_M_isDots_26 : decode kc_M_isDots 26 = .ok (.bipush 46, 2) := by decide +kernel
theorem kd_M_isDots_28 : decode kc_M_isDots 28 = .ok (.if_icmp .ne 16, 3) := by decide +kernel
theorem kd_M_isDots_31 : decode kc_M_isDots 31 = .ok (.aload_n 0, 1) := by decide +kernel
theorem kd_M_isDots_32 : decode kc_M_isDots 32 = .ok (.getfield 53, 3) := by decide +kernel
theorem kd_M_isDots_35 : decode kc_M_isDots 35 = .ok (.iconst 2, 1) := by decide +kernel
theorem kd_M_isDots_36 : decode kc_M_isDots 36 = .ok (.baload, 1) := by decide +kernel
theorem kd_M_isDots_37 : decode kc_M_isDots 37 = .ok (.ifCond .ne 7, 3) := by decide +kernel
theorem kd_M_isDots_40 : decode kc_M_isDots 40 = .ok (.iconst 1, 1) := by decide +kernel
theorem kd_M_isDots_41 : decode kc_M_isDots 41 = .ok (.goto 4, 3) := by decide +kernel
theorem kd_M_isDots_44 : decode kc_M_isDots 44 = .ok (.iconst 0, 1) := by decide +kernel
theorem kd_M_isDots_45 : decode kc_M_isDots 45 = .ok (.ireturn, 1) := by decide +kernel
theorem kd_M_slashes_0 : decode kc_M_slashes 0 = .ok (.aload_n 0, 1) := by decide +kernel
theorem kd_M_slashes_1 : decode kc_M_slashes 1 = .ok (.getfield 104, 3) := by decide +kernel
theorem kd_M_slashes_4 : decode kc_M_slashes 4 = .ok (.aload_n 0, 1) := by decide +kernel
theorem kd_M_slashes_5 : decode kc_M_slashes 5 = .ok (.getfield 107, 3) := by decide +kernel
theorem kd_M_slashes_8 : decode kc_M_slashes 8 = .ok (.if_icmp .ge 30, 3) := by decide +kernel
theorem kd_M_slashes_11 : decode kc_M_slashes 11 = .ok (.aload_n 0, 1) := by decide +kernel
theorem kd_M_slashes_12 : decode kc_M_slashes 12 = .ok (.getfield 7, 3) := by decide +kernel
theorem kd_M_slashes_15 : decode kc_M_slashes 15 = .ok (.aload_n 0, 1) := by decide +kernel
theorem kd_M_slashes_16 : decode kc_M_slashes 16 = .ok (.getfield 104, 3) := by decide +kernel
theorem kd_M_slashes_19 : decode kc_M_slashes 19 = .ok (.baload, 1) := by decide +kernel
theorem kd_M_slashes_20 : decode kc_M_slashes 20 = .ok (.bipush 47, 2) := by decide +kernel
theorem kd_M_slashes_22 : decode kc_M_slashes 22 = .ok (.if_icmp .ne 16, 3) := by decide +kernel
theorem kd_M_slashes_25 : decode kc_M_slashes 25 = .ok (.aload_n 0, 1) := by decide +kernel
theorem kd_M_slashes_26 : decode kc_M_slashes 26 = .ok (.dup, 1) := by decide +kernel
theorem kd_M_slashes_27 : decode kc_M_slashes 27 = .ok (.getfield 104, 3) := by decide +kernel
theorem kd_M_slashes_30 : decode kc_M_slashes 30 = .ok (.iconst 1, 1) := by decide +kernel
theorem kd_M_slashes_31 : decode kc_M_slashes 31 = .ok (.iadd, 1) := by decide +kernel
theorem kd_M_slashes_32 : decode kc_M_slashes 32 = .ok (.putfield 104, 3) := by decide +kernel
theorem kd_M_slashes_35 : decode kc_M_slashes 35 = .ok (.goto (-35), 3) := by decide +kernel
theorem kd_M_slashes_38 : decode kc_M_slashes 38 = .ok (.return_, 1) := by decide +kernel
theorem kd_M_named_0 : decode kc_M_named 0 = .ok (.aload_n 0, 1) := by decide +kernel
theorem kd_M_named_1 : decode kc_M_named 1 = .ok (.invokevirtual 110, 3) := by decide +kernel
theorem kd_M_named_4 : decode kc_M_named 4 = .ok (.aload_n 0, 1) := by decide +kernel
theorem kd_M_named_5 : decode kc_M_named 5 = .ok (.getfield 104, 3) := by decide +kernel
theorem kd_M_named_8 : decode kc_M_named 8 = .ok (.aload_n 0, 1) := by decide +kernel
theorem kd_M_named_9 : decode kc_M_named 9 = .ok (.getfield 107, 3) := by decide +kernel
theorem kd_M_named_12 : decode kc_M_named 12 = .ok (.if_icmp .ge 7, 3) := by decide +kernel
theorem kd_M_named_15 : decode kc_M_named 15 = .ok (.iconst 1, 1) := by decide +kernel
theorem kd_M_named_16 : decode kc_M_named 16 = .ok (.goto 4, 3) := by decide +kernel
theorem kd_M_named_19 : decode kc_M_named 19 = .ok (.iconst 0, 1) := by decide +kernel
theorem kd_M_named_20 : decode kc_M_named 20 = .ok (.istore_n 1, 1) := by decide +kernel
theorem kd_M_named_21 : decode kc_M_named 21 = .ok (.iconst 0, 1) := by decide +kernel
theorem kd_M_named_22 : decode kc_M_named 22 = .ok (.istore_n 2, 1) := by decide +kernel
theorem kd_M_named_23 : decode kc_M_named 23 = .ok (.iload_n 2, 1) := by decide +kernel
theorem kd_M_named_24 : decode kc_M_named 24 = .ok (.bipush 14, 2) := by decide +kernel
theorem kd_M_named_26 : decode kc_M_named 26 = .ok (.if_icmp .ge 16, 3) := by decide +kernel
theorem kd_M_named_29 : decode kc_M_named 29 = .ok (.aload_n 0, 1) := by decide +kernel
theorem kd_M_named_30 : decode kc_M_named 30 = .ok (.getfield 53, 3) := by decide +kernel
theorem kd_M_named_33 : decode kc_M_named 33 = .ok (.iload_n 2, 1) := by decide +kernel
theorem kd_M_named_34 : decode kc_M_named 34 = .ok (.iconst 0, 1) := by decide +kernel
theorem kd_M_named_35 : decode kc_M_named 35 = .ok (.bastore, 1) := by decide +kernel
theorem kd_M_named_36 : decode kc_M_named 36 = .ok (.iinc 2 1, 3) := by decide +kernel
theorem kd_M_named_39 : decode kc_M_named 39 = .ok (.goto (-16), 3) := by decide +kernel
theorem kd_M_named_42 : decode kc_M_named 42 = .ok (.iconst 0, 1) := by decide +kernel
theorem kd_M_named_43 : decode kc_M_named 43 = .ok (.istore_n 2, 1) := by decide +kernel
theorem kd_M_named_44 : decode kc_M_named 44 = .ok (.aload_n 0, 1) := by decide +kernel
theorem kd_M_named_45 : decode kc_M_named 45 = .ok (.getfield 104, 3) := by decide +kernel
theorem kd_M_named_48 : decode kc_M_named 48 = .ok (.aload_n 0, 1) := by decide +kernel
theorem kd_M_named_49 : decode kc_M_named 49 = .ok (.getfield 107, 3) := by decide +kernel
theorem kd_M_named_52 : decode kc_M_named 52 = .ok (.if_icmp .ge 54, 3) := by decide +kernel
theorem kd_M_named_55 : decode kc_M_named 55 = .ok (.aload_n 0, 1) := by decide +kernel
theorem kd_M_named_56 : decode kc_M_named 56 = .ok (.getfield 7, 3) := by decide +kernel
theorem kd_M_named_59 : decode kc_M_named 59 = .ok (.aload_n 0, 1) := by decide +kernel
theorem kd_M_named_60 : decode kc_M_named 60 = .ok (.getfield 104, 3) := by decide +kernel
theorem kd_M_named_63 : decode kc_M_named 63 = .ok (.baload, 1) := by decide +kernel
theorem kd_M_named_64 : decode kc_M_named 64 = .ok (.bipush 47, 2) := by decide +kernel
theorem kd_M_named_66 : decode kc_M_named 66 = .ok (.if_icmp .eq 40, 3) := by decide +kernel
theorem kd_M_named_69 : decode kc_M_named 69 = .ok (.iload_n 2, 1) := by decide +kernel
theorem kd_M_named_70 : decode kc_M_named 70 = .ok (.bipush 14, 2) := by decide +kernel
theorem kd_M_named_72 : decode kc_M_named 72 = .ok (.if_icmp .ge 18, 3) := by decide +kernel
theorem kd_M_named_75 : decode kc_M_named 75 = .ok (.aload_n 0, 1) := by decide +kernel
theorem kd_M_named_76 : decode kc_M_named 76 = .ok (.getfield 53, 3) := by decide +kernel
theorem kd_M_named_79 : decode kc_M_named 79 = .ok (.iload_n 2, 1) := by decide +kernel
theorem kd_M_named_80 : decode kc_M_named 80 = .ok (.aload_n 0, 1) := by decide +kernel
theorem kd_M_named_81 : decode kc_M_named 81 = .ok (.getfield 7, 3) := by decide +kernel
theorem kd_M_named_84 : decode kc_M_named 84 = .ok (.aload_n 0, 1) := by decide +kernel
theorem kd_M_named_85 : decode kc_M_named 85 = .ok (.getfield 104, 3) := by decide +kernel
theorem kd_M_named_88 : decode kc_M_named 88 = .ok (.baload, 1) := by decide +kernel
theorem kd_M_named_89 : decode kc_M_named 89 = .ok (.bastore, 1) := by decide +kernel
theorem kd_M_named_90 : decode kc_M_named 90 = .ok (.aload_n 0, 1) := by decide +kernel
theorem kd_M_named_91 : decode kc_M_named 91 = .ok (.dup, 1) := by decide +kernel
theorem kd_M_named_92 : decode kc_M_named 92 = .ok (.getfield 104, 3) := by decide +kernel
theorem kd_M_named_95 : decode kc_M_named 95 = .ok (.iconst 1, 1) := by decide +kernel
theorem kd_M_named_96 : decode kc_M_named 96 = .ok (.iadd, 1) := by decide +kernel
theorem kd_M_named_97 : decode kc_M_named 97 = .ok (.putfield 104, 3) := by decide +kernel
theorem kd_M_named_100 : decode kc_M_named 100 = .ok (.iinc 2 1, 3) := by decide +kernel
theorem kd_M_named_103 : decode kc_M_named 103 = .ok (.goto (-59), 3) := by decide +kernel
theorem kd_M_named_106 : decode kc_M_named 106 = .ok (.iload_n 1, 1) := by decide +kernel
theorem kd_M_named_107 : decode kc_M_named 107 = .ok (.ireturn, 1) := by decide +kernel
theorem kd_M_begin_0 : decode kc_M_begin 0 = .ok (.aload_n 0, 1) := by decide +kernel
theorem kd_M_begin_1 : decode kc_M_begin 1 = .ok (.iload_n 2, 1) := by decide +kernel
theorem kd_M_begin_2 : decode kc_M_begin 2 = .ok (.putfield 104, 3) := by decide +kernel
theorem kd_M_begin_5 : decode kc_M_begin 5 = .ok (.aload_n 0, 1) := by decide +kernel
theorem kd_M_begin_6 : decode kc_M_begin 6 = .ok (.iload_n 3, 1) := by decide +kernel
theorem kd_M_begin_7 : decode kc_M_begin 7 = .ok (.putfield 107, 3) := by decide +kernel
theorem kd_M_begin_10 : decode kc_M_begin 10 = .ok (.iload_n 3, 1) := by decide +kernel
theorem kd_M_begin_11 : decode kc_M_begin 11 = .ok (.iload_n 2, 1) := by decide +kernel
theorem kd_M_begin_12 : decode kc_M_begin 12 = .ok (.isub, 1) := by decide +kernel
theorem kd_M_begin_13 : decode kc_M_begin 13 = .ok (.sipush 128, 3) := by decide +kernel
theorem kd_M_begin_16 : decode kc_M_begin 16 = .ok (.if_icmp .gt 15, 3) := by decide +kernel
theorem kd_M_begin_19 : decode kc_M_begin 19 = .ok (.aload_n 0, 1) := by decide +kernel
theorem kd_M_begin_20 : decode kc_M_begin 20 = .ok (.iload_n 1, 1) := by decide +kernel
theorem kd_M_begin_21 : decode kc_M_begin 21 = .ok (.invokevirtual 113, 3) := by decide +kernel
theorem kd_M_begin_24 : decode kc_M_begin 24 = .ok (.ifCond .eq 7, 3) := by decide +kernel
theorem kd_M_begin_27 : decode kc_M_begin 27 = .ok (.iconst 1, 1) := by decide +kernel
theorem kd_M_begin_28 : decode kc_M_begin 28 = .ok (.goto 4, 3) := by decide +kernel
theorem kd_M_begin_31 : decode kc_M_begin 31 = .ok (.iconst 0, 1) := by decide +kernel
theorem kd_M_begin_32 : decode kc_M_begin 32 = .ok (.istore 4, 2) := by decide +kernel
theorem kd_M_begin_34 : decode kc_M_begin 34 = .ok (.iload_n 2, 1) := by decide +kernel
theorem kd_M_begin_35 : decode kc_M_begin 35 = .ok (.istore 5, 2) := by decide +kernel
theorem kd_M_begin_37 : decode kc_M_begin 37 = .ok (.iload 5, 2) := by decide +kernel
theorem kd_M_begin_39 : decode kc_M_begin 39 = .ok (.iload_n 3, 1) := by decide +kernel
theorem kd_M_begin_40 : decode kc_M_begin 40 = .ok (.if_icmp .ge 33, 3) := by decide +kernel
theorem kd_M_begin_43 : decode kc_M_begin 43 = .ok (.iload 4, 2) := by decide +kernel
theorem kd_M_begin_45 : decode kc_M_begin 45 = .ok (.ifCond .eq 19, 3) := by decide +kernel
theorem kd_M_begin_48 : decode kc_M_begin 48 = .ok (.aload_n 0, 1) := by decide +kernel
theorem kd_M_begin_49 : decode kc_M_begin 49 = .ok (.getfield 7, 3) := by decide +kernel
theorem kd_M_begin_52 : decode kc_M_begin 52 = .ok (.iload 5, 2) := by decide +kernel
theorem kd_M_begin_54 : decode kc_M_begin 54 = .ok (.baload, 1) := by decide +kernel
theorem kd_M_begin_55 : decode kc_M_begin 55 = .ok (.bipush 32, 2) := by decide +kernel
theorem kd_M_begin_57 : decode kc_M_begin 57 = .ok (.if_icmp .eq 7, 3) := by decide +kernel
theorem kd_M_begin_60 : decode kc_M_begin 60 = .ok (.iconst 1, 1) := by decide +kernel
theorem kd_M_begin_61 : decode kc_M_begin 61 = .ok (.goto 4, 3) := by decide +kernel
theorem kd_M_begin_64 : decode kc_M_begin 64 = .ok (.iconst 0, 1) := by decide +kernel
theorem kd_M_begin_65 : decode kc_M_begin 65 = .ok (.istore 4, 2) := by decide +kernel
theorem kd_M_begin_67 : decode kc_M_begin 67 = .ok (.iinc 5 1, 3) := by decide +kernel
theorem kd_M_begin_70 : decode kc_M_begin 70 = .ok (.goto (-33), 3) := by decide +kernel
theorem kd_M_begin_73 : decode kc_M_begin 73 = .ok (.iload 4, 2) := by decide +kernel
theorem kd_M_begin_75 : decode kc_M_begin 75 = .ok (.ifCond .ne 7, 3) := by decide +kernel
theorem kd_M_begin_78 : decode kc_M_begin 78 = .ok (.iconst 0, 1) := by decide +kernel
theorem kd_M_begin_79 : decode kc_M_begin 79 = .ok (.goto 24, 3) := by decide +kernel
theorem kd_M_begin_82 : decode kc_M_begin 82 = .ok (.iload_n 2, 1) := by decide +kernel
theorem kd_M_begin_83 : decode kc_M_begin 83 = .ok (.iload_n 3, 1) := by decide +kernel
theorem kd_M_begin_84 : decode kc_M_begin 84 = .ok (.if_icmp .ge 18, 3) := by decide +kernel
theorem kd_M_begin_87 : decode kc_M_begin 87 = .ok (.aload_n 0, 1) := by decide +kernel
theorem kd_M_begin_88 : decode kc_M_begin 88 = .ok (.getfield 7, 3) := by decide +kernel
theorem kd_M_begin_91 : decode kc_M_begin 91 = .ok (.iload_n 2, 1) := by decide +kernel
theorem kd_M_begin_92 : decode kc_M_begin 92 = .ok (.baload, 1) := by decide +kernel
theorem kd_M_begin_93 : decode kc_M_begin 93 = .ok (.bipush 47, 2) := by decide +kernel
theorem kd_M_begin_95 : decode kc_M_begin 95 = .ok (.if_icmp .ne 7, 3) := by decide +kernel
theorem kd_M_begin_98 : decode kc_M_begin 98 = .ok (.iconst 1, 1) := by decide +kernel
theorem kd_M_begin_99 : decode kc_M_begin 99 = .ok (.goto 4, 3) := by decide +kernel
theorem kd_M_begin_102 : decode kc_M_begin 102 = .ok (.iload_n 1, 1) := by decide +kernel
theorem kd_M_begin_103 : decode kc_M_begin 103 = .ok (.ireturn, 1) := by decide +kernel
theorem kd_M_step_0 : decode kc_M_step 0 = .ok (.aload_n 0, 1) := by decide +kernel
theorem kd_M_step_1 : decode kc_M_step 1 = .ok (.getfield 24, 3) := by decide +kernel
theorem kd_M_step_4 : decode kc_M_step 4 = .ok (.iload_n 1, 1) := by decide +kernel
theorem kd_M_step_5 : decode kc_M_step 5 = .ok (.iaload, 1) := by decide +kernel
theorem kd_M_step_6 : decode kc_M_step 6 = .ok (.iconst 1, 1) := by decide +kernel
theorem kd_M_step_7 : decode kc_M_step 7 = .ok (.if_icmp .ne 11, 3) := by decide +kernel
theorem kd_M_step_10 : decode kc_M_step 10 = .ok (.aload_n 0, 1) := by decide +kernel
theorem kd_M_step_11 : decode kc_M_step 11 = .ok (.iload_n 1, 1) := by decide +kernel
theorem kd_M_step_12 : decode kc_M_step 12 = .ok (.invokevirtual 116, 3) := by decide +kernel
theorem kd_M_step_15 : decode kc_M_step 15 = .ok (.goto 4, 3) := by decide +kernel
theorem kd_M_step_18 : decode kc_M_step 18 = .ok (.iconst (-1), 1) := by decide +kernel
theorem kd_M_step_19 : decode kc_M_step 19 = .ok (.istore_n 2, 1) := by decide +kernel
theorem kd_M_step_20 : decode kc_M_step 20 = .ok (.iload_n 2, 1) := by decide +kernel
theorem kd_M_step_21 : decode kc_M_step 21 = .ok (.ifCond .ge 7, 3) := by decide +kernel
theorem kd_M_step_24 : decode kc_M_step 24 = .ok (.iconst 0, 1) := by decide +kernel
theorem kd_M_step_25 : decode kc_M_step 25 = .ok (.goto 9, 3) := by decide +kernel
theorem kd_M_step_28 : decode kc_M_step 28 = .ok (.aload_n 0, 1) := by decide +kernel
theorem kd_M_step_29 : decode kc_M_step 29 = .ok (.iload_n 1, 1) := by decide +kernel
theorem kd_M_step_30 : decode kc_M_step 30 = .ok (.iload_n 2, 1) := by decide +kernel
theorem kd_M_step_31 : decode kc_M_step 31 = .ok (.invokevirtual 84, 3) := by decide +kernel
theorem kd_M_step_34 : decode kc_M_step 34 = .ok (.ireturn, 1) := by decide +kernel
theorem kd_M_leads_0 : decode kc_M_leads 0 = .ok (.aload_n 0, 1) := by decide +kernel
theorem kd_M_leads_1 : decode kc_M_leads 1 = .ok (.iload_n 1, 1) := by decide +kernel
theorem kd_M_leads_2 : decode kc_M_leads 2 = .ok (.iload_n 2, 1) := by decide +kernel
theorem kd_M_leads_3 : decode kc_M_leads 3 = .ok (.iload_n 3, 1) := by decide +kernel
theorem kd_M_leads_4 : decode kc_M_leads 4 = .ok (.invokevirtual 119, 3) := by decide +kernel
theorem kd_M_leads_7 : decode kc_M_leads 7 = .ok (.istore 4, 2) := by decide +kernel
theorem kd_M_leads_9 : decode kc_M_leads 9 = .ok (.iload 4, 2) := by decide +kernel
theorem kd_M_leads_11 : decode kc_M_leads 11 = .ok (.ifCond .le 21, 3) := by decide +kernel
theorem kd_M_leads_14 : decode kc_M_leads 14 = .ok (.aload_n 0, 1) := by decide +kernel
theorem kd_M_leads_15 : decode kc_M_leads 15 = .ok (.invokevirtual 123, 3) := by decide +kernel
theorem kd_M_leads_18 : decode kc_M_leads 18 = .ok (.ifCond .eq 14, 3) := by decide +kernel
theorem kd_M_leads_21 : decode kc_M_leads 21 = .ok (.aload_n 0, 1) := by decide +kernel
theorem kd_M_leads_22 : decode kc_M_leads 22 = .ok (.iload 4, 2) := by decide +kernel
theorem kd_M_leads_24 : decode kc_M_leads 24 = .ok (.invokevirtual 127, 3) := by decide +kernel
theorem kd_M_leads_27 : decode kc_M_leads 27 = .ok (.istore 4, 2) := by decide +kernel
theorem kd_M_leads_29 : decode kc_M_leads 29 = .ok (.goto (-20), 3) := by decide +kernel
theorem kd_M_leads_32 : decode kc_M_leads 32 = .ok (.iload 4, 2) := by decide +kernel
theorem kd_M_leads_34 : decode kc_M_leads 34 = .ok (.ireturn, 1) := by decide +kernel
theorem kd_M_before_0 : decode kc_M_before 0 = .ok (.aload_n 0, 1) := by decide +kernel
theorem kd_M_before_1 : decode kc_M_before 1 = .ok (.iload_n 1, 1) := by decide +kernel
theorem kd_M_before_2 : decode kc_M_before 2 = .ok (.iload_n 2, 1) := by decide +kernel
theorem kd_M_before_3 : decode kc_M_before 3 = .ok (.iload_n 3, 1) := by decide +kernel
theorem kd_M_before_4 : decode kc_M_before 4 = .ok (.invokevirtual 119, 3) := by decide +kernel
theorem kd_M_before_7 : decode kc_M_before 7 = .ok (.istore 4, 2) := by decide +kernel
theorem kd_M_before_9 : decode kc_M_before 9 = .ok (.iload 4, 2) := by decide +kernel
theorem kd_M_before_11 : decode kc_M_before 11 = .ok (.ifCond .le 14, 3) := by decide +kernel
theorem kd_M_before_14 : decode kc_M_before 14 = .ok (.aload_n 0, 1) := by decide +kernel
theorem kd_M_before_15 : decode kc_M_before 15 = .ok (.invokevirtual 123, 3) := by decide +kernel
theorem kd_M_before_18 : decode kc_M_before 18 = .ok (.ifCond .eq 7, 3) := by decide +kernel
theorem kd_M_before_21 : decode kc_M_before 21 = .ok (.iconst 1, 1) := by decide +kernel
theorem kd_M_before_22 : decode kc_M_before 22 = .ok (.goto 4, 3) := by decide +kernel
theorem kd_M_before_25 : decode kc_M_before 25 = .ok (.iconst 0, 1) := by decide +kernel
theorem kd_M_before_26 : decode kc_M_before 26 = .ok (.istore 5, 2) := by decide +kernel
theorem kd_M_before_28 : decode kc_M_before 28 = .ok (.iload 5, 2) := by decide +kernel
theorem kd_M_before_30 : decode kc_M_before 30 = .ok (.ifCond .ne 5, 3) := by decide +kernel
theorem kd_M_before_33 : decode kc_M_before 33 = .ok (.iconst 0, 1) := by decide +kernel
theorem kd_M_before_34 : decode kc_M_before 34 = .ok (.ireturn, 1) := by decide +kernel
theorem kd_M_before_35 : decode kc_M_before 35 = .ok (.aload_n 0, 1) := by decide +kernel
theorem kd_M_before_36 : decode kc_M_before 36 = .ok (.invokevirtual 110, 3) := by decide +kernel
theorem kd_M_before_39 : decode kc_M_before 39 = .ok (.aload_n 0, 1) := by decide +kernel
theorem kd_M_before_40 : decode kc_M_before 40 = .ok (.getfield 104, 3) := by decide +kernel
theorem kd_M_before_43 : decode kc_M_before 43 = .ok (.aload_n 0, 1) := by decide +kernel
theorem kd_M_before_44 : decode kc_M_before 44 = .ok (.getfield 107, 3) := by decide +kernel
theorem kd_M_before_47 : decode kc_M_before 47 = .ok (.if_icmp .ge 29, 3) := by decide +kernel
theorem kd_M_before_50 : decode kc_M_before 50 = .ok (.iload 4, 2) := by decide +kernel
theorem kd_M_before_52 : decode kc_M_before 52 = .ok (.ifCond .le 24, 3) := by decide +kernel
theorem kd_M_before_55 : decode kc_M_before 55 = .ok (.aload_n 0, 1) := by decide +kernel
theorem kd_M_before_56 : decode kc_M_before 56 = .ok (.iload 4, 2) := by decide +kernel
theorem kd_M_before_58 : decode kc_M_before 58 = .ok (.invokevirtual 127, 3) := by decide +kernel
theorem kd_M_before_61 : decode kc_M_before 61 = .ok (.istore 4, 2) := by decide +kernel
theorem kd_M_before_63 : decode kc_M_before 63 = .ok (.aload_n 0, 1) := by decide +kernel
theorem kd_M_before_64 : decode kc_M_before 64 = .ok (.invokevirtual 123, 3) := by decide +kernel
theorem kd_M_before_67 : decode kc_M_before 67 = .ok (.istore 6, 2) := by decide +kernel
theorem kd_M_before_69 : decode kc_M_before 69 = .ok (.aload_n 0, 1) := by decide +kernel
theorem kd_M_before_70 : decode kc_M_before 70 = .ok (.invokevirtual 110, 3) := by decide +kernel
theorem kd_M_before_73 : decode kc_M_before 73 = .ok (.goto (-34), 3) := by decide +kernel
theorem kd_M_before_76 : decode kc_M_before 76 = .ok (.iload 4, 2) := by decide +kernel
theorem kd_M_before_78 : decode kc_M_before 78 = .ok (.ifCond .le 19, 3) := by decide +kernel
theorem kd_M_before_81 : decode kc_M_before 81 = .ok (.aload_n 0, 1) := by decide +kernel
theorem kd_M_before_82 : decode kc_M_before 82 = .ok (.getfield 24, 3) := by decide +kernel
theorem kd_M_before_85 : decode kc_M_before 85 = .ok (.iload 4, 2) := by decide +kernel
theorem kd_M_before_87 : decode kc_M_before 87 = .ok (.iaload, 1) := by decide +kernel
theorem kd_M_before_88 : decode kc_M_before 88 = .ok (.iconst 1, 1) := by decide +kernel
theorem kd_M_before_89 : decode kc_M_before 89 = .ok (.if_icmp .ne 8, 3) := by decide +kernel
theorem kd_M_before_92 : decode kc_M_before 92 = .ok (.iload 4, 2) := by decide +kernel
theorem kd_M_before_94 : decode kc_M_before 94 = .ok (.goto 4, 3) := by decide +kernel
theorem kd_M_before_97 : decode kc_M_before 97 = .ok (.iconst 0, 1) := by decide +kernel
theorem kd_M_before_98 : decode kc_M_before 98 = .ok (.ireturn, 1) := by decide +kernel
theorem kd_M_write_0 : decode kc_M_write 0 = .ok (.aload_n 0, 1) := by decide +kernel
theorem kd_M_write_1 : decode kc_M_write 1 = .ok (.iconst 0, 1) := by decide +kernel
theorem kd_M_write_2 : decode kc_M_write 2 = .ok (.putfield 60, 3) := by decide +kernel
theorem kd_M_write_5 : decode kc_M_write 5 = .ok (.aload_n 0, 1) := by decide +kernel
theorem kd_M_write_6 : decode kc_M_write 6 = .ok (.getfield 130, 3) := by decide +kernel
theorem kd_M_write_9 : decode kc_M_write 9 = .ok (.istore_n 3, 1) := by decide +kernel
theorem kd_M_write_10 : decode kc_M_write 10 = .ok (.bipush 7, 2) := by decide +kernel
theorem kd_M_write_12 : decode kc_M_write 12 = .ok (.istore 4, 2) := by decide +kernel
theorem kd_M_write_14 : decode kc_M_write 14 = .ok (.iload 4, 2) := by decide +kernel
theorem kd_M_write_16 : decode kc_M_write 16 = .ok (.ifCond .lt 33, 3) := by decide +kernel
theorem kd_M_write_19 : decode kc_M_write 19 = .ok (.iload_n 3, 1) := by decide +kernel
theorem kd_M_write_20 : decode kc_M_write 20 = .ok (.lload_n 1, 1) := by decide +kernel
theorem kd_M_write_21 : decode kc_M_write 21 = .ok (.bipush 8, 2) := by decide +kernel
theorem kd_M_write_23 : decode kc_M_write 23 = .ok (.iload 4, 2) := by decide +kernel
theorem kd_M_write_25 : decode kc_M_write 25 = .ok (.imul, 1) := by decide +kernel
theorem kd_M_write_26 : decode kc_M_write 26 = .ok (.lushr, 1) := by decide +kernel
theorem kd_M_write_27 : decode kc_M_write 27 = .ok (.ldc2_w 133, 3) := by decide +kernel
theorem kd_M_write_30 : decode kc_M_write 30 = .ok (.land, 1) := by decide +kernel
theorem kd_M_write_31 : decode kc_M_write 31 = .ok (.lconst 0, 1) := by decide +kernel
theorem kd_M_write_32 : decode kc_M_write 32 = .ok (.lcmp, 1) := by decide +kernel
theorem kd_M_write_33 : decode kc_M_write 33 = .ok (.ifCond .le 7, 3) := by decide +kernel
theorem kd_M_write_36 : decode kc_M_write 36 = .ok (.iconst 1, 1) := by decide +kernel
theorem kd_M_write_37 : decode kc_M_write 37 = .ok (.goto 4, 3) := by decide +kernel
theorem kd_M_write_40 : decode kc_M_write 40 = .ok (.iconst 0, 1) := by decide +kernel
theorem kd_M_write_41 : decode kc_M_write 41 = .ok (.iadd, 1) := by decide +kernel
theorem kd_M_write_42 : decode kc_M_write 42 = .ok (.istore_n 3, 1) := by decide +kernel
theorem kd_M_write_43 : decode kc_M_write 43 = .ok (.iinc 4 (-1), 3) := by decide +kernel
theorem kd_M_write_46 : decode kc_M_write 46 = .ok (.goto (-32), 3) := by decide +kernel
theorem kd_M_write_49 : decode kc_M_write 49 = .ok (.iload_n 3, 1) := by decide +kernel
theorem kd_M_write_50 : decode kc_M_write 50 = .ok (.sipush 260, 3) := by decide +kernel
theorem kd_M_write_53 : decode kc_M_write 53 = .ok (.if_icmp .le 5, 3) := by decide +kernel
theorem kd_M_write_56 : decode kc_M_write 56 = .ok (.iconst 0, 1) := by decide +kernel
theorem kd_M_write_57 : decode kc_M_write 57 = .ok (.ireturn, 1) := by decide +kernel
theorem kd_M_write_58 : decode kc_M_write 58 = .ok (.bipush 7, 2) := by decide +kernel
theorem kd_M_write_60 : decode kc_M_write 60 = .ok (.istore 4, 2) := by decide +kernel
theorem kd_M_write_62 : decode kc_M_write 62 = .ok (.iload 4, 2) := by decide +kernel
theorem kd_M_write_64 : decode kc_M_write 64 = .ok (.ifCond .lt 50, 3) := by decide +kernel
theorem kd_M_write_67 : decode kc_M_write 67 = .ok (.lload_n 1, 1) := by decide +kernel
theorem kd_M_write_68 : decode kc_M_write 68 = .ok (.bipush 8, 2) := by decide +kernel
theorem kd_M_write_70 : decode kc_M_write 70 = .ok (.iload 4, 2) := by decide +kernel
theorem kd_M_write_72 : decode kc_M_write 72 = .ok (.imul, 1) := by decide +kernel
theorem kd_M_write_73 : decode kc_M_write 73 = .ok (.lushr, 1) := by decide +kernel
theorem kd_M_write_74 : decode kc_M_write 74 = .ok (.l2i, 1) := by decide +kernel
theorem kd_M_write_75 : decode kc_M_write 75 = .ok (.sipush 255, 3) := by decide +kernel
theorem kd_M_write_78 : decode kc_M_write 78 = .ok (.iand, 1) := by decide +kernel
theorem kd_M_write_79 : decode kc_M_write 79 = .ok (.istore 5, 2) := by decide +kernel
theorem kd_M_write_81 : decode kc_M_write 81 = .ok (.iload 5, 2) := by decide +kernel
theorem kd_M_write_83 : decode kc_M_write 83 = .ok (.ifCond .le 25, 3) := by decide +kernel
theorem kd_M_write_86 : decode kc_M_write 86 = .ok (.aload_n 0, 1) := by decide +kernel
theorem kd_M_write_87 : decode kc_M_write 87 = .ok (.getfield 7, 3) := by decide +kernel
theorem kd_M_write_90 : decode kc_M_write 90 = .ok (.aload_n 0, 1) := by decide +kernel
theorem kd_M_write_91 : decode kc_M_write 91 = .ok (.getfield 130, 3) := by decide +kernel
theorem kd_M_write_94 : decode kc_M_write 94 = .ok (.iload 5, 2) := by decide +kernel
theorem kd_M_write_96 : decode kc_M_write 96 = .ok (.i2b, 1) := by decide +kernel
theorem kd_M_write_97 : decode kc_M_write 97 = .ok (.bastore, 1) := by decide +kernel
theorem kd_M_write_98 : decode kc_M_write 98 = .ok (.aload_n 0, 1) := by decide +kernel
theorem kd_M_write_99 : decode kc_M_write 99 = .ok (.dup, 1) := by decide +kernel
theorem kd_M_write_100 : decode kc_M_write 100 = .ok (.getfield 130, 3) := by decide +kernel
theorem kd_M_write_103 : decode kc_M_write 103 = .ok (.iconst 1, 1) := by decide +kernel
theorem kd_M_write_104 : decode kc_M_write 104 = .ok (.iadd, 1) := by decide +kernel
theorem kd_M_write_105 : decode kc_M_write 105 = .ok (.putfield 130, 3) := by decide +kernel
theorem kd_M_write_108 : decode kc_M_write 108 = .ok (.iinc 4 (-1), 3) := by decide +kernel
theorem kd_M_write_111 : decode kc_M_write 111 = .ok (.goto (-49), 3) := by decide +kernel
theorem kd_M_write_114 : decode kc_M_write 114 = .ok (.iconst 1, 1) := by decide +kernel
theorem kd_M_write_115 : decode kc_M_write 115 = .ok (.ireturn, 1) := by decide +kernel
theorem kd_M_taken_0 : decode kc_M_taken 0 = .ok (.aload_n 0, 1) := by decide +kernel
theorem kd_M_taken_1 : decode kc_M_taken 1 = .ok (.getfield 130, 3) := by decide +kernel
theorem kd_M_taken_4 : decode kc_M_taken 4 = .ok (.istore_n 1, 1) := by decide +kernel
theorem kd_M_taken_5 : decode kc_M_taken 5 = .ok (.aload_n 0, 1) := by decide +kernel
theorem kd_M_taken_6 : decode kc_M_taken 6 = .ok (.iconst 0, 1) := by decide +kernel
theorem kd_M_taken_7 : decode kc_M_taken 7 = .ok (.putfield 130, 3) := by decide +kernel
theorem kd_M_taken_10 : decode kc_M_taken 10 = .ok (.iload_n 1, 1) := by decide +kernel
theorem kd_M_taken_11 : decode kc_M_taken 11 = .ok (.ireturn, 1) := by decide +kernel
theorem kd_M_find_0 : decode kc_M_find 0 = .ok (.aload_n 0, 1) := by decide +kernel
theorem kd_M_find_1 : decode kc_M_find 1 = .ok (.iconst 0, 1) := by decide +kernel
theorem kd_M_find_2 : decode kc_M_find 2 = .ok (.putfield 60, 3) := by decide +kernel
theorem kd_M_find_5 : decode kc_M_find 5 = .ok (.aload_n 0, 1) := by decide +kernel
theorem kd_M_find_6 : decode kc_M_find 6 = .ok (.iload_n 1, 1) := by decide +kernel
theorem kd_M_find_7 : decode kc_M_find 7 = .ok (.iconst 0, 1) := by decide +kernel
theorem kd_M_find_8 : decode kc_M_find 8 = .ok (.aload_n 0, 1) := by decide +kernel
theorem kd_M_find_9 : decode kc_M_find 9 = .ok (.invokevirtual 135, 3) := by decide +kernel
theorem kd_M_find_12 : decode kc_M_find 12 = .ok (.invokevirtual 138, 3) := by decide +kernel
theorem kd_M_find_15 : decode kc_M_find 15 = .ok (.istore_n 2, 1) := by decide +kernel
theorem kd_M_find_16 : decode kc_M_find 16 = .ok (.iload_n 2, 1) := by decide +kernel
theorem kd_M_find_17 : decode kc_M_find 17 = .ok (.ifCond .le 7, 3) := by decide +kernel
theorem kd_M_find_20 : decode kc_M_find 20 = .ok (.iload_n 2, 1) := by decide +kernel
theorem kd_M_find_21 : decode kc_M_find 21 = .ok (.goto 4, 3) := by decide +kernel
theorem kd_M_find_24 : decode kc_M_find 24 = .ok (.iconst (-1), 1) := by decide +kernel
theorem kd_M_find_25 : decode kc_M_find 25 = .ok (.ireturn, 1) := by decide +kernel
theorem kd_M_create_0 : decode kc_M_create 0 = .ok (.aload_n 0, 1) := by decide +kernel
theorem kd_M_create_1 : decode kc_M_create 1 = .ok (.iconst 0, 1) := by decide +kernel
theorem kd_M_create_2 : decode kc_M_create 2 = .ok (.putfield 60, 3) := by decide +kernel
theorem kd_M_create_5 : decode kc_M_create 5 = .ok (.aload_n 0, 1) := by decide +kernel
theorem kd_M_create_6 : decode kc_M_create 6 = .ok (.iload_n 1, 1) := by decide +kernel
theorem kd_M_create_7 : decode kc_M_create 7 = .ok (.iconst 0, 1) := by decide +kernel
theorem kd_M_create_8 : decode kc_M_create 8 = .ok (.aload_n 0, 1) := by decide +kernel
theorem kd_M_create_9 : decode kc_M_create 9 = .ok (.invokevirtual 135, 3) := by decide +kernel
theorem kd_M_create_12 : decode kc_M_create 12 = .ok (.invokevirtual 141, 3) := by decide +kernel
theorem kd_M_create_15 : decode kc_M_create 15 = .ok (.istore 5, 2) := by decide +kernel
theorem kd_M_create_17 : decode kc_M_create 17 = .ok (.iload 5, 2) := by decide +kernel
theorem kd_M_create_19 : decode kc_M_create 19 = .ok (.ifCond .eq 13, 3) := by decide +kernel
theorem kd_M_create_22 : decode kc_M_create 22 = .ok (.iload_n 2, 1) := by decide +kernel
theorem kd_M_create_23 : decode kc_M_create 23 = .ok (.iconst 1, 1) := by decide +kernel
theorem kd_M_create_24 : decode kc_M_create 24 = .ok (.if_icmp .lt 8, 3) := by decide +kernel
theorem kd_M_create_27 : decode kc_M_create 27 = .ok (.iload_n 2, 1) := by decide +kernel
theorem kd_M_create_28 : decode kc_M_create 28 = .ok (.iconst 3, 1) := by decide +kernel
theorem kd_M_create_29 : decode kc_M_create 29 = .ok (.if_icmp .le 5, 3) := by decide +kernel
theorem kd_M_create_32 : decode kc_M_create 32 = .ok (.iconst (-1), 1) := by decide +kernel
theorem kd_M_create_33 : decode kc_M_create 33 = .ok (.ireturn, 1) := by decide +kernel
theorem kd_M_create_34 : decode kc_M_create 34 = .ok (.aload_n 0, 1) := by decide +kernel
theorem kd_M_create_35 : decode kc_M_create 35 = .ok (.iload 5, 2) := by decide +kernel
theorem kd_M_create_37 : decode kc_M_create 37 = .ok (.invokevirtual 116, 3) := by decide +kernel
theorem kd_M_create_40 : decode kc_M_create 40 = .ok (.istore 6, 2) := by decide +kernel
theorem kd_M_create_42 : decode kc_M_create 42 = .ok (.iload 6, 2) := by decide +kernel
theorem kd_M_create_44 : decode kc_M_create 44 = .ok (.ifCond .lt 36, 3) := by decide +kernel
theorem kd_M_create_47 : decode kc_M_create 47 = .ok (.aload_n 0, 1) := by decide +kernel
theorem kd_M_create_48 : decode kc_M_create 48 = .ok (.iload 5, 2) := by decide +kernel
theorem kd_M_create_50 : decode kc_M_create 50 = .ok (.iload 6, 2) := by decide +kernel
theorem kd_M_create_52 : decode kc_M_create 52 = .ok (.invokevirtual 84, 3) := by decide +kernel
theorem kd_M_create_55 : decode kc_M_create 55 = .ok (.istore 7, 2) := by decide +kernel
theorem kd_M_create_57 : decode kc_M_create 57 = .ok (.iload_n 2, 1) := by decide +kernel
theorem kd_M_create_58 : decode kc_M_create 58 = .ok (.iconst 2, 1) := by decide +kernel
theorem kd_M_create_59 : decode kc_M_create 59 = .ok (.if_icmp .ne 19, 3) := by decide +kernel
theorem kd_M_create_62 : decode kc_M_create 62 = .ok (.aload_n 0, 1) := by decide +kernel
theorem kd_M_create_63 : decode kc_M_create 63 = .ok (.getfield 24, 3) := by decide +kernel
theorem kd_M_create_66 : decode kc_M_create 66 = .ok (.iload 7, 2) := by decide +kernel
theorem kd_M_create_68 : decode kc_M_create 68 = .ok (.iaload, 1) := by decide +kernel
theorem kd_M_create_69 : decode kc_M_create 69 = .ok (.iconst 1, 1) := by decide +kernel
theorem kd_M_create_70 : decode kc_M_create 70 = .ok (.if_icmp .le 8, 3) := by decide +kernel
theorem kd_M_create_73 : decode kc_M_create 73 = .ok (.iload 7, 2) := by decide +kernel
theorem kd_M_create_75 : decode kc_M_create 75 = .ok (.goto 4, 3) := by decide +kernel
theorem kd_M_create_78 : decode kc_M_create 78 = .ok (.iconst (-1), 1) := by decide +kernel
theorem kd_M_create_79 : decode kc_M_create 79 = .ok (.ireturn, 1) := by decide +kernel
theorem kd_M_create_80 : decode kc_M_create 80 = .ok (.iconst 1, 1) := by decide +kernel
theorem kd_M_create_81 : decode kc_M_create 81 = .ok (.istore 7, 2) := by decide +kernel
theorem kd_M_create_83 : decode kc_M_create 83 = .ok (.iload 7, 2) := by decide +kernel
theorem kd_M_create_85 : decode kc_M_create 85 = .ok (.bipush 64, 2) := by decide +kernel
theorem kd_M_create_87 : decode kc_M_create 87 = .ok (.if_icmp .ge 19, 3) := by decide +kernel
theorem kd_M_create_90 : decode kc_M_create 90 = .ok (.aload_n 0, 1) := by decide +kernel
theorem kd_M_create_91 : decode kc_M_create 91 = .ok (.getfield 24, 3) := by decide +kernel
theorem kd_M_create_94 : decode kc_M_create 94 = .ok (.iload 7, 2) := by decide +kernel
theorem kd_M_create_96 : decode kc_M_create 96 = .ok (.iaload, 1) := by decide +kernel
theorem kd_M_create_97 : decode kc_M_create 97 = .ok (.ifCond .le 9, 3) := by decide +kernel
theorem kd_M_create_100 : decode kc_M_create 100 = .ok (.iinc 7 1, 3) := by decide +kernel
theorem kd_M_create_103 : decode kc_M_create 103 = .ok (.goto (-20), 3) := by decide +kernel
theorem kd_M_create_106 : decode kc_M_create 106 = .ok (.iload 7, 2) := by decide +kernel
theorem kd_M_create_108 : decode kc_M_create 108 = .ok (.bipush 64, 2) := by decide +kernel
theorem kd_M_create_110 : decode kc_M_create 110 = .ok (.if_icmp .eq 27, 3) := by decide +kernel
theorem kd_M_create_113 : decode kc_M_create 113 = .ok (.aload_n 0, 1) := by decide +kernel
theorem kd_M_create_114 : decode kc_M_create 114 = .ok (.iload 5, 2) := by decide +kernel
theorem kd_M_create_116 : decode kc_M_create 116 = .ok (.invokevirtual 144, 3) := by decide +kernel
theorem kd_M_create_119 : decode kc_M_create 119 = .ok (.iload_n 2, 1) := by decide +kernel
theorem kd_M_create_120 : decode kc_M_create 120 = .ok (.iconst 1, 1) := by decide +kernel
theorem kd_M_create_121 : decode kc_M_create 121 = .ok (.if_icmp .ne 7, 3) := by decide +kernel
theorem kd_M_create_124 : decode kc_M_create 124 = .ok (.iconst 1, 1) := by decide +kernel
theorem kd_M_create_125 : decode kc_M_create 125 = .ok (.goto 4, 3) := by decide +kernel
theorem kd_M_create_128 : decode kc_M_create 128 = .ok (.iconst 0, 1) := by decide +kernel
theorem kd_M_create_129 : decode kc_M_create 129 = .ok (.iadd, 1) := by decide +kernel
theorem kd_M_create_130 : decode kc_M_create 130 = .ok (.aload_n 0, 1) := by decide +kernel
theorem kd_M_create_131 : decode kc_M_create 131 = .ok (.invokevirtual 147, 3) := by decide +kernel
theorem kd_M_create_134 : decode kc_M_create 134 = .ok (.if_icmp .le 5, 3) := by decide +kernel
theorem kd_M_create_137 : decode kc_M_create 137 = .ok (.iconst (-1), 1) := by decide +kernel
theorem kd_M_create_138 : decode kc_M_create 138 = .ok (.ireturn, 1) := by decide +kernel
theorem kd_M_create_139 : decode kc_M_create 139 = .ok (.aload_n 0, 1) := by decide +kernel
theorem kd_M_create_140 : decode kc_M_create 140 = .ok (.getfield 24, 3) := by decide +kernel
theorem kd_M_create_143 : decode kc_M_create 143 = .ok (.iload 7, 2) := by decide +kernel
theorem kd_M_create_145 : decode kc_M_create 145 = .ok (.iload_n 2, 1) := by decide +kernel
theorem kd_M_create_146 : decode kc_M_create 146 = .ok (.iastore, 1) := by decide +kernel
theorem kd_M_create_147 : decode kc_M_create 147 = .ok (.aload_n 0, 1) := by decide +kernel
theorem kd_M_create_148 : decode kc_M_create 148 = .ok (.getfield 28, 3) := by decide +kernel
theorem kd_M_create_151 : decode kc_M_create 151 = .ok (.iload 7, 2) := by decide +kernel
theorem kd_M_create_153 : decode kc_M_create 153 = .ok (.iload_n 3, 1) := by decide +kernel
theorem kd_M_create_154 : decode kc_M_create 154 = .ok (.ldc 150, 2) := by decide +kernel
theorem kd_M_create_156 : decode kc_M_create 156 = .ok (.iand, 1) := by decide +kernel
theorem kd_M_create_157 : decode kc_M_create 157 = .ok (.iastore, 1) := by decide +kernel
theorem kd_M_create_158 : decode kc_M_create 158 = .ok (.aload_n 0, 1) := by decide +kernel
theorem kd_M_create_159 : decode kc_M_create 159 = .ok (.getfield 31, 3) := by decide +kernel
theorem kd_M_create_162 : decode kc_M_create 162 = .ok (.iload 7, 2) := by decide +kernel
theorem kd_M_create_164 : decode kc_M_create 164 = .ok (.iload 4, 2) := by decide +kernel
theorem kd_M_create_166 : decode kc_M_create 166 = .ok (.ldc 150, 2) := by decide +kernel
theorem kd_M_create_168 : decode kc_M_create 168 = .ok (.iand, 1) := by decide +kernel
theorem kd_M_create_169 : decode kc_M_create 169 = .ok (.iastore, 1) := by decide +kernel
theorem kd_M_create_170 : decode kc_M_create 170 = .ok (.aload_n 0, 1) := by decide +kernel
theorem kd_M_create_171 : decode kc_M_create 171 = .ok (.getfield 34, 3) := by decide +kernel
theorem kd_M_create_174 : decode kc_M_create 174 = .ok (.iload 7, 2) := by decide +kernel
theorem kd_M_create_176 : decode kc_M_create 176 = .ok (.iconst 1, 1) := by decide +kernel
theorem kd_M_create_177 : decode kc_M_create 177 = .ok (.iastore, 1) := by decide +kernel
theorem kd_M_create_178 : decode kc_M_create 178 = .ok (.iload_n 2, 1) := by decide +kernel
theorem kd_M_create_179 : decode kc_M_create 179 = .ok (.iconst 1, 1) := by decide +kernel
theorem kd_M_create_180 : decode kc_M_create 180 = .ok (.if_icmp .ne 15, 3) := by decide +kernel
theorem kd_M_create_183 : decode kc_M_create 183 = .ok (.aload_n 0, 1) := by decide +kernel
theorem kd_M_create_184 : decode kc_M_create 184 = .ok (.iload 7, 2) := by decide +kernel
theorem kd_M_create_186 : decode kc_M_create 186 = .ok (.iload 5, 2) := by decide +kernel
theorem kd_M_create_188 : decode kc_M_create 188 = .ok (.invokevirtual 56, 3) := by decide +kernel
theorem kd_M_create_191 : decode kc_M_create 191 = .ok (.aload_n 0, 1) := by decide +kernel
theorem kd_M_create_192 : decode kc_M_create 192 = .ok (.invokevirtual 151, 3) := by decide +kernel
theorem kd_M_create_195 : decode kc_M_create 195 = .ok (.aload_n 0, 1) := by decide +kernel
theorem kd_M_create_196 : decode kc_M_create 196 = .ok (.iload 5, 2) := by decide +kernel
theorem kd_M_create_198 : decode kc_M_create 198 = .ok (.iload 7, 2) := by decide +kernel
theorem kd_M_create_200 : decode kc_M_create 200 = .ok (.invokevirtual 154, 3) := by decide +kernel
theorem kd_M_create_203 : decode kc_M_create 203 = .ok (.iload 7, 2) := by decide +kernel
theorem kd_M_create_205 : decode kc_M_create 205 = .ok (.ireturn, 1) := by decide +kernel
theorem kd_M_again_0 : decode kc_M_again 0 = .ok (.aload_n 0, 1) := by decide +kernel
theorem kd_M_again_1 : decode kc_M_again 1 = .ok (.getfield 107, 3) := by decide +kernel
theorem kd_M_again_4 : decode kc_M_again 4 = .ok (.istore_n 1, 1) := by decide +kernel
theorem kd_M_again_5 : decode kc_M_again 5 = .ok (.aload_n 0, 1) := by decide +kernel
theorem kd_M_again_6 : decode kc_M_again 6 = .ok (.getfield 7, 3) := by decide +kernel
theorem kd_M_again_9 : decode kc_M_again 9 = .ok (.iload_n 1, 1) := by decide +kernel
theorem kd_M_again_10 : decode kc_M_again 10 = .ok (.iconst 1, 1) := by decide +kernel
theorem kd_M_again_11 : decode kc_M_again 11 = .ok (.isub, 1) := by decide +kernel
theorem kd_M_again_12 : decode kc_M_again 12 = .ok (.baload, 1) := by decide +kernel
theorem kd_M_again_13 : decode kc_M_again 13 = .ok (.bipush 47, 2) := by decide +kernel
theorem kd_M_again_15 : decode kc_M_again 15 = .ok (.if_icmp .ne 9, 3) := by decide +kernel
theorem kd_M_again_18 : decode kc_M_again 18 = .ok (.iinc 1 (-1), 3) := by decide +kernel
theorem kd_M_again_21 : decode kc_M_again 21 = .ok (.goto (-16), 3) := by decide +kernel
theorem kd_M_again_24 : decode kc_M_again 24 = .ok (.aload_n 0, 1) := by decide +kernel
theorem kd_M_again_25 : decode kc_M_again 25 = .ok (.iload_n 1, 1) := by decide +kernel
theorem kd_M_again_26 : decode kc_M_again 26 = .ok (.putfield 104, 3) := by decide +kernel
theorem kd_M_again_29 : decode kc_M_again 29 = .ok (.aload_n 0, 1) := by decide +kernel
theorem kd_M_again_30 : decode kc_M_again 30 = .ok (.getfield 104, 3) := by decide +kernel
theorem kd_M_again_33 : decode kc_M_again 33 = .ok (.ifCond .le 48, 3) := by decide +kernel
theorem kd_M_again_36 : decode kc_M_again 36 = .ok (.aload_n 0, 1) := by decide +kernel
theorem kd_M_again_37 : decode kc_M_again 37 = .ok (.getfield 7, 3) := by decide +kernel
theorem kd_M_again_40 : decode kc_M_again 40 = .ok (.aload_n 0, 1) := by decide +kernel
theorem kd_M_again_41 : decode kc_M_again 41 = .ok (.getfield 104, 3) := by decide +kernel
theorem kd_M_again_44 : decode kc_M_again 44 = .ok (.iconst 1, 1) := by decide +kernel
theorem kd_M_again_45 : decode kc_M_again 45 = .ok (.isub, 1) := by decide +kernel
theorem kd_M_again_46 : decode kc_M_again 46 = .ok (.baload, 1) := by decide +kernel
theorem kd_M_again_47 : decode kc_M_again 47 = .ok (.bipush 47, 2) := by decide +kernel
theorem kd_M_again_49 : decode kc_M_again 49 = .ok (.if_icmp .eq 32, 3) := by decide +kernel
theorem kd_M_again_52 : decode kc_M_again 52 = .ok (.aload_n 0, 1) := by decide +kernel
theorem kd_M_again_53 : decode kc_M_again 53 = .ok (.getfield 7, 3) := by decide +kernel
theorem kd_M_again_56 : decode kc_M_again 56 = .ok (.aload_n 0, 1) := by decide +kernel
theorem kd_M_again_57 : decode kc_M_again 57 = .ok (.getfield 104, 3) := by decide +kernel
theorem kd_M_again_60 : decode kc_M_again 60 = .ok (.iconst 1, 1) := by decide +kernel
theorem kd_M_again_61 : decode kc_M_again 61 = .ok (.isub, 1) := by decide +kernel
theorem kd_M_again_62 : decode kc_M_again 62 = .ok (.baload, 1) := by decide +kernel
theorem kd_M_again_63 : decode kc_M_again 63 = .ok (.bipush 32, 2) := by decide +kernel
theorem kd_M_again_65 : decode kc_M_again 65 = .ok (.if_icmp .eq 16, 3) := by decide +kernel
theorem kd_M_again_68 : decode kc_M_again 68 = .ok (.aload_n 0, 1) := by decide +kernel
theorem kd_M_again_69 : decode kc_M_again 69 = .ok (.dup, 1) := by decide +kernel
theorem kd_M_again_70 : decode kc_M_again 70 = .ok (.getfield 104, 3) := by decide +kernel
theorem kd_M_again_73 : decode kc_M_again 73 = .ok (.iconst 1, 1) := by decide +kernel
theorem kd_M_again_74 : decode kc_M_again 74 = .ok (.isub, 1) := by decide +kernel
theorem kd_M_again_75 : decode kc_M_again 75 = .ok (.putfield 104, 3) := by decide +kernel
theorem kd_M_again_78 : decode kc_M_again 78 = .ok (.goto (-49), 3) := by decide +kernel
theorem kd_M_again_81 : decode kc_M_again 81 = .ok (.aload_n 0, 1) := by decide +kernel
theorem kd_M_again_82 : decode kc_M_again 82 = .ok (.invokevirtual 123, 3) := by decide +kernel
theorem kd_M_again_85 : decode kc_M_again 85 = .ok (.istore_n 2, 1) := by decide +kernel
theorem kd_M_again_86 : decode kc_M_again 86 = .ok (.return_, 1) := by decide +kernel
theorem kd_M_link_0 : decode kc_M_link 0 = .ok (.aload_n 0, 1) := by decide +kernel
theorem kd_M_link_1 : decode kc_M_link 1 = .ok (.iconst 0, 1) := by decide +kernel
theorem kd_M_link_2 : decode kc_M_link 2 = .ok (.putfield 60, 3) := by decide +kernel
theorem kd_M_link_5 : decode kc_M_link 5 = .ok (.aload_n 0, 1) := by decide +kernel
theorem kd_M_link_6 : decode kc_M_link 6 = .ok (.invokevirtual 135, 3) := by decide +kernel
theorem kd_M_link_9 : decode kc_M_link 9 = .ok (.istore_n 2, 1) := by decide +kernel
theorem kd_M_link_10 : decode kc_M_link 10 = .ok (.iconst 0, 1) := by decide +kernel
theorem kd_M_link_11 : decode kc_M_link 11 = .ok (.istore_n 3, 1) := by decide +kernel
theorem kd_M_link_12 : decode kc_M_link 12 = .ok (.iload_n 3, 1) := by decide +kernel
theorem kd_M_link_13 : decode kc_M_link 13 = .ok (.iload_n 2, 1) := by decide +kernel
theorem kd_M_link_14 : decode kc_M_link 14 = .ok (.if_icmp .ge 20, 3) := by decide +kernel
theorem kd_M_link_17 : decode kc_M_link 17 = .ok (.aload_n 0, 1) := by decide +kernel
theorem kd_M_link_18 : decode kc_M_link 18 = .ok (.getfield 7, 3) := by decide +kernel
theorem kd_M_link_21 : decode kc_M_link 21 = .ok (.iload_n 3, 1) := by decide +kernel
theorem kd_M_link_22 : decode kc_M_link 22 = .ok (.baload, 1) := by decide +kernel
theorem kd_M_link_23 : decode kc_M_link 23 = .ok (.bipush 32, 2) := by decide +kernel
theorem kd_M_link_25 : decode kc_M_link 25 = .ok (.if_icmp .eq 9, 3) := by decide +kernel
theorem kd_M_link_28 : decode kc_M_link 28 = .ok (.iinc 3 1, 3) := by decide +kernel
theorem kd_M_link_31 : decode kc_M_link 31 = .ok (.goto (-19), 3) := by decide +kernel
theorem kd_M_link_34 : decode kc_M_link 34 = .ok (.iload_n 3, 1) := by decide +kernel
theorem kd_M_link_35 : decode kc_M_link 35 = .ok (.iload_n 2, 1) := by decide +kernel
theorem kd_M_link_36 : decode kc_M_link 36 = .ok (.if_icmp .ge 13, 3) := by decide +kernel
theorem kd_M_link_39 : decode kc_M_link 39 = .ok (.aload_n 0, 1) := by decide +kernel
theorem kd_M_link_40 : decode kc_M_link 40 = .ok (.iload_n 1, 1) := by decide +kernel
theorem kd_M_link_41 : decode kc_M_link 41 = .ok (.iconst 0, 1) := by decide +kernel
theorem kd_M_link_42 : decode kc_M_link 42 = .ok (.iload_n 3, 1) := by decide +kernel
theorem kd_M_link_43 : decode kc_M_link 43 = .ok (.invokevirtual 138, 3) := by decide +kernel
theorem kd_M_link_46 : decode kc_M_link 46 = .ok (.goto 4, 3) := by decide +kernel
theorem kd_M_link_49 : decode kc_M_link 49 = .ok (.iconst 0, 1) := by decide +kernel
theorem kd_M_link_50 : decode kc_M_link 50 = .ok (.istore 4, 2) := by decide +kernel
theorem kd_M_link_52 : decode kc_M_link 52 = .ok (.iload 4, 2) := by decide +kernel
theorem kd_M_link_54 : decode kc_M_link 54 = .ok (.ifCond .eq 27, 3) := by decide +kernel
theorem kd_M_link_57 : decode kc_M_link 57 = .ok (.aload_n 0, 1) := by decide +kernel
theorem kd_M_link_58 : decode kc_M_link 58 = .ok (.getfield 24, 3) := by decide +kernel
theorem kd_M_link_61 : decode kc_M_link 61 = .ok (.iload 4, 2) := by decide +kernel
theorem kd_M_link_63 : decode kc_M_link 63 = .ok (.iaload, 1) := by decide +kernel
theorem kd_M_link_64 : decode kc_M_link 64 = .ok (.iconst 1, 1) := by decide +kernel
theorem kd_M_link_65 : decode kc_M_link 65 = .ok (.if_icmp .eq 16, 3) := by decide +kernel
theorem kd_M_link_68 : decode kc_M_link 68 = .ok (.aload_n 0, 1) := by decide +kernel
theorem kd_M_link_69 : decode kc_M_link 69 = .ok (.getfield 34, 3) := by decide +kernel
theorem kd_M_link_72 : decode kc_M_link 72 = .ok (.iload 4, 2) := by decide +kernel
theorem kd_M_link_74 : decode kc_M_link 74 = .ok (.iaload, 1) := by decide +kernel
theorem kd_M_link_75 : decode kc_M_link 75 = .ok (.sipush 32767, 3) := by decide +kernel
theorem kd_M_link_78 : decode kc_M_link 78 = .ok (.if_icmp .ne 5, 3) := by decide +kernel
theorem kd_M_link_81 : decode kc_M_link 81 = .ok (.iconst (-1), 1) := by decide +kernel
theorem kd_M_link_82 : decode kc_M_link 82 = .ok (.ireturn, 1) := by decide +kernel
theorem kd_M_link_83 : decode kc_M_link 83 = .ok (.aload_n 0, 1) := by decide +kernel
theorem kd_M_link_84 : decode kc_M_link 84 = .ok (.iload_n 1, 1) := by decide +kernel
theorem kd_M_link_85 : decode kc_M_link 85 = .ok (.iload_n 3, 1) := by decide +kernel
theorem kd_M_link_86 : decode kc_M_link 86 = .ok (.iconst 1, 1) := by decide +kernel
theorem kd_M_link_87 : decode kc_M_link 87 = .ok (.iadd, 1) := by decide +kernel
theorem kd_M_link_88 : decode kc_M_link 88 = .ok (.iload_n 2, 1) := by decide +kernel
theorem kd_M_link_89 : decode kc_M_link 89 = .ok (.invokevirtual 141, 3) := by decide +kernel
theorem kd_M_link_92 : decode kc_M_link 92 = .ok (.istore 5, 2) := by decide +kernel
theorem kd_M_link_94 : decode kc_M_link 94 = .ok (.iload 5, 2) := by decide +kernel
theorem kd_M_link_96 : decode kc_M_link 96 = .ok (.ifCond .eq 25, 3) := by decide +kernel
theorem kd_M_link_99 : decode kc_M_link 99 = .ok (.aload_n 0, 1) := by decide +kernel
theorem kd_M_link_100 : decode kc_M_link 100 = .ok (.iload 5, 2) := by decide +kernel
theorem kd_M_link_102 : decode kc_M_link 102 = .ok (.invokevirtual 116, 3) := by decide +kernel
theorem kd_M_link_105 : decode kc_M_link 105 = .ok (.ifCond .ge 16, 3) := by decide +kernel
theorem kd_M_link_108 : decode kc_M_link 108 = .ok (.aload_n 0, 1) := by decide +kernel
theorem kd_M_link_109 : decode kc_M_link 109 = .ok (.iload 5, 2) := by decide +kernel
theorem kd_M_link_111 : decode kc_M_link 111 = .ok (.invokevirtual 144, 3) := by decide +kernel
theorem kd_M_link_114 : decode kc_M_link 114 = .ok (.aload_n 0, 1) := by decide +kernel
theorem kd_M_link_115 : decode kc_M_link 115 = .ok (.invokevirtual 147, 3) := by decide +kernel
theorem kd_M_link_118 : decode kc_M_link 118 = .ok (.if_icmp .le 5, 3) := by decide +kernel
theorem kd_M_link_121 : decode kc_M_link 121 = .ok (.iconst (-1), 1) := by decide +kernel
theorem kd_M_link_122 : decode kc_M_link 122 = .ok (.ireturn, 1) := by decide +kernel
theorem kd_M_link_123 : decode kc_M_link 123 = .ok (.aload_n 0, 1) := by decide +kernel
theorem kd_M_link_124 : decode kc_M_link 124 = .ok (.iload 5, 2) := by decide +kernel
theorem kd_M_link_126 : decode kc_M_link 126 = .ok (.iload 4, 2) := by decide +kernel
theorem kd_M_link_128 : decode kc_M_link 128 = .ok (.invokevirtual 154, 3) := by decide +kernel
theorem kd_M_link_131 : decode kc_M_link 131 = .ok (.aload_n 0, 1) := by decide +kernel
theorem kd_M_link_132 : decode kc_M_link 132 = .ok (.getfield 34, 3) := by decide +kernel
theorem kd_M_link_135 : decode kc_M_link 135 = .ok (.iload 4, 2) := by decide +kernel
theorem kd_M_link_137 : decode kc_M_link 137 = .ok (.dup2, 1) := by decide +kernel
theorem kd_M_link_138 : decode kc_M_link 138 = .ok (.iaload, 1) := by decide +kernel
theorem kd_M_link_139 : decode kc_M_link 139 = .ok (.iconst 1, 1) := by decide +kernel
theorem kd_M_link_140 : decode kc_M_link 140 = .ok (.iadd, 1) := by decide +kernel
theorem kd_M_link_141 : decode kc_M_link 141 = .ok (.iastore, 1) := by decide +kernel
theorem kd_M_link_142 : decode kc_M_link 142 = .ok (.iload 4, 2) := by decide +kernel
theorem kd_M_link_144 : decode kc_M_link 144 = .ok (.ireturn, 1) := by decide +kernel
theorem kd_M_isBare_0 : decode kc_M_isBare 0 = .ok (.iconst 1, 1) := by decide +kernel
theorem kd_M_isBare_1 : decode kc_M_isBare 1 = .ok (.istore_n 2, 1) := by decide +kernel
theorem kd_M_isBare_2 : decode kc_M_isBare 2 = .ok (.bipush 32, 2) := by decide +kernel
theorem kd_M_isBare_4 : decode kc_M_isBare 4 = .ok (.istore_n 3, 1) := by decide +kernel
theorem kd_M_isBare_5 : decode kc_M_isBare 5 = .ok (.iload_n 3, 1) := by decide +kernel
theorem kd_M_isBare_6 : decode kc_M_isBare 6 = .ok (.aload_n 0, 1) := by decide +kernel
theorem kd_M_isBare_7 : decode kc_M_isBare 7 = .ok (.getfield 37, 3) := by decide +kernel
theorem kd_M_isBare_10 : decode kc_M_isBare 10 = .ok (.iload_n 1, 1) := by decide +kernel
theorem kd_M_isBare_11 : decode kc_M_isBare 11 = .ok (.iaload, 1) := by decide +kernel
theorem kd_M_isBare_12 : decode kc_M_isBare 12 = .ok (.if_icmp .ge 28, 3) := by decide +kernel
theorem kd_M_isBare_15 : decode kc_M_isBare 15 = .ok (.iload_n 2, 1) := by decide +kernel
theorem kd_M_isBare_16 : decode kc_M_isBare 16 = .ok (.ifCond .eq 16, 3) := by decide +kernel
theorem kd_M_isBare_19 : decode kc_M_isBare 19 = .ok (.aload_n 0, 1) := by decide +kernel
theorem kd_M_isBare_20 : decode kc_M_isBare 20 = .ok (.iload_n 1, 1) := by decide +kernel
theorem kd_M_isBare_21 : decode kc_M_isBare 21 = .ok (.iload_n 3, 1) := by decide +kernel
theorem kd_M_isBare_22 : decode kc_M_isBare 22 = .ok (.invokevirtual 84, 3) := by decide +kernel
theorem kd_M_isBare_25 : decode kc_M_isBare 25 = .ok (.ifCond .ne 7, 3) := by decide +kernel
theorem kd_M_isBare_28 : decode kc_M_isBare 28 = .ok (.iconst 1, 1) := by decide +kernel
theorem kd_M_isBare_29 : decode kc_M_isBare 29 = .ok (.goto 4, 3) := by decide +kernel
theorem kd_M_isBare_32 : decode kc_M_isBare 32 = .ok (.iconst 0, 1) := by decide +kernel
theorem kd_M_isBare_33 : decode kc_M_isBare 33 = .ok (.istore_n 2, 1) := by decide +kernel
theorem kd_M_isBare_34 : decode kc_M_isBare 34 = .ok (.iinc 3 16, 3) := by decide +kernel
theorem kd_M_isBare_37 : decode kc_M_isBare 37 = .ok (.goto (-32), 3) := by decide +kernel
theorem kd_M_isBare_40 : decode kc_M_isBare 40 = .ok (.iload_n 2, 1) := by decide +kernel
theorem kd_M_isBare_41 : decode kc_M_isBare 41 = .ok (.ireturn, 1) := by decide +kernel
theorem kd_M_unlink_0 : decode kc_M_unlink 0 = .ok (.aload_n 0, 1) := by decide +kernel
theorem kd_M_unlink_1 : decode kc_M_unlink 1 = .ok (.iconst 0, 1) := by decide +kernel
theorem kd_M_unlink_2 : decode kc_M_unlink 2 = .ok (.putfield 60, 3) := by decide +kernel
theorem kd_M_unlink_5 : decode kc_M_unlink 5 = .ok (.aload_n 0, 1) := by decide +kernel
theorem kd_M_unlink_6 : decode kc_M_unlink 6 = .ok (.iload_n 1, 1) := by decide +kernel
theorem kd_M_unlink_7 : decode kc_M_unlink 7 = .ok (.iconst 0, 1) := by decide +kernel
theorem kd_M_unlink_8 : decode kc_M_unlink 8 = .ok (.aload_n 0, 1) := by decide +kernel
theorem kd_M_unlink_9 : decode kc_M_unlink 9 = .ok (.invokevirtual 135, 3) := by decide +kernel
theorem kd_M_unlink_12 : decode kc_M_unlink 12 = .ok (.invokevirtual 141, 3) := by decide +kernel
theorem kd_M_unlink_15 : decode kc_M_unlink 15 = .ok (.istore_n 2, 1) := by decide +kernel
theorem kd_M_unlink_16 : decode kc_M_unlink 16 = .ok (.iload_n 2, 1) := by decide +kernel
theorem kd_M_unlink_17 : decode kc_M_unlink 17 = .ok (.ifCond .eq 10, 3) := by decide +kernel
theorem kd_M_unlink_20 : decode kc_M_unlink 20 = .ok (.aload_n 0, 1) := by decide +kernel
theorem kd_M_unlink_21 : decode kc_M_unlink 21 = .ok (.invokevirtual 157, 3) := by decide +kernel
theorem kd_M_unlink_24 : decode kc_M_unlink 24 = .ok (.ifCond .eq 7, 3) := by decide +kernel
theorem kd_M_unlink_27 : decode kc_M_unlink 27 = .ok (.iconst (-1), 1) := by decide +kernel
theorem kd_M_unlink_28 : decode kc_M_unlink 28 = .ok (.goto 8, 3) := by decide +kernel
theorem kd_M_unlink_31 : decode kc_M_unlink 31 = .ok (.aload_n 0, 1) := by decide +kernel
theorem kd_M_unlink_32 : decode kc_M_unlink 32 = .ok (.iload_n 2, 1) := by decide +kernel
theorem kd_M_unlink_33 : decode kc_M_unlink 33 = .ok (.invokevirtual 116, 3) := by decide +kernel
theorem kd_M_unlink_36 : decode kc_M_unlink 36 = .ok (.istore_n 3, 1) := by decide +kernel
theorem kd_M_unlink_37 : decode kc_M_unlink 37 = .ok (.iload_n 3, 1) := by decide +kernel
theorem kd_M_unlink_38 : decode kc_M_unlink 38 = .ok (.ifCond .ge 7, 3) := by decide +kernel
theorem kd_M_unlink_41 : decode kc_M_unlink 41 = .ok (.iconst 0, 1) := by decide +kernel
theorem kd_M_unlink_42 : decode kc_M_unlink 42 = .ok (.goto 9, 3) := by decide +kernel
theorem kd_M_unlink_45 : decode kc_M_unlink 45 = .ok (.aload_n 0, 1) := by decide +kernel
theorem kd_M_unlink_46 : decode kc_M_unlink 46 = .ok (.iload_n 2, 1) := by decide +kernel
theorem kd_M_unlink_47 : decode kc_M_unlink 47 = .ok (.iload_n 3, 1) := by decide +kernel
theorem kd_M_unlink_48 : decode kc_M_unlink 48 = .ok (.invokevirtual 84, 3) := by decide +kernel
theorem kd_M_unlink_51 : decode kc_M_unlink 51 = .ok (.istore 4, 2) := by decide +kernel
theorem kd_M_unlink_53 : decode kc_M_unlink 53 = .ok (.iload 4, 2) := by decide +kernel
theorem kd_M_unlink_55 : decode kc_M_unlink 55 = .ok (.ifCond .eq 23, 3) := by decide +kernel
theorem kd_M_unlink_58 : decode kc_M_unlink 58 = .ok (.aload_n 0, 1) := by decide +kernel
theorem kd_M_unlink_59 : decode kc_M_unlink 59 = .ok (.getfield 24, 3) := by decide +kernel
theorem kd_M_unlink_62 : decode kc_M_unlink 62 = .ok (.iload 4, 2) := by decide +kernel
theorem kd_M_unlink_64 : decode kc_M_unlink 64 = .ok (.iaload, 1) := by decide +kernel
theorem kd_M_unlink_65 : decode kc_M_unlink 65 = .ok (.iconst 1, 1) := by decide +kernel
theorem kd_M_unlink_66 : decode kc_M_unlink 66 = .ok (.if_icmp .ne 14, 3) := by decide +kernel
theorem kd_M_unlink_69 : decode kc_M_unlink 69 = .ok (.aload_n 0, 1) := by decide +kernel
theorem kd_M_unlink_70 : decode kc_M_unlink 70 = .ok (.iload 4, 2) := by decide +kernel
theorem kd_M_unlink_72 : decode kc_M_unlink 72 = .ok (.invokevirtual 160, 3) := by decide +kernel
theorem kd_M_unlink_75 : decode kc_M_unlink 75 = .ok (.ifCond .ne 5, 3) := by decide +kernel
theorem kd_M_unlink_78 : decode kc_M_unlink 78 = .ok (.iconst (-1), 1) := by decide +kernel
theorem kd_M_unlink_79 : decode kc_M_unlink 79 = .ok (.ireturn, 1) := by decide +kernel
theorem kd_M_unlink_80 : decode kc_M_unlink 80 = .ok (.aload_n 0, 1) := by decide +kernel
theorem kd_M_unlink_81 : decode kc_M_unlink 81 = .ok (.iload_n 2, 1) := by decide +kernel
theorem kd_M_unlink_82 : decode kc_M_unlink 82 = .ok (.iload_n 3, 1) := by decide +kernel
theorem kd_M_unlink_83 : decode kc_M_unlink 83 = .ok (.invokevirtual 163, 3) := by decide +kernel
theorem kd_M_unlink_86 : decode kc_M_unlink 86 = .ok (.aload_n 0, 1) := by decide +kernel
theorem kd_M_unlink_87 : decode kc_M_unlink 87 = .ok (.getfield 34, 3) := by decide +kernel
theorem kd_M_unlink_90 : decode kc_M_unlink 90 = .ok (.iload 4, 2) := by decide +kernel
theorem kd_M_unlink_92 : decode kc_M_unlink 92 = .ok (.dup2, 1) := by decide +kernel
theorem kd_M_unlink_93 : decode kc_M_unlink 93 = .ok (.iaload, 1) := by decide +kernel
theorem kd_M_unlink_94 : decode kc_M_unlink 94 = .ok (.iconst 1, 1) := by decide +kernel
theorem kd_M_unlink_95 : decode kc_M_unlink 95 = .ok (.isub, 1) := by decide +kernel
theorem kd_M_unlink_96 : decode kc_M_unlink 96 = .ok (.iastore, 1) := by decide +kernel
theorem kd_M_unlink_97 : decode kc_M_unlink 97 = .ok (.aload_n 0, 1) := by decide +kernel
theorem kd_M_unlink_98 : decode kc_M_unlink 98 = .ok (.getfield 24, 3) := by decide +kernel
theorem kd_M_unlink_101 : decode kc_M_unlink 101 = .ok (.iload 4, 2) := by decide +kernel
theorem kd_M_unlink_103 : decode kc_M_unlink 103 = .ok (.iaload, 1) := by decide +kernel
theorem kd_M_unlink_104 : decode kc_M_unlink 104 = .ok (.iconst 1, 1) := by decide +kernel
theorem kd_M_unlink_105 : decode kc_M_unlink 105 = .ok (.if_icmp .ne 28, 3) := by decide +kernel
theorem kd_M_unlink_108 : decode kc_M_unlink 108 = .ok (.aload_n 0, 1) := by decide +kernel
theorem kd_M_unlink_109 : decode kc_M_unlink 109 = .ok (.iload 4, 2) := by decide +kernel
theorem kd_M_unlink_111 : decode kc_M_unlink 111 = .ok (.iconst 0, 1) := by decide +kernel
theorem kd_M_unlink_112 : decode kc_M_unlink 112 = .ok (.invokevirtual 163, 3) := by decide +kernel
theorem kd_M_unlink_115 : decode kc_M_unlink 115 = .ok (.aload_n 0, 1) := by decide +kernel
theorem kd_M_unlink_116 : decode kc_M_unlink 116 = .ok (.iload 4, 2) := by decide +kernel
theorem kd_M_unlink_118 : decode kc_M_unlink 118 = .ok (.bipush 16, 2) := by decide +kernel
theorem kd_M_unlink_120 : decode kc_M_unlink 120 = .ok (.invokevirtual 163, 3) := by decide +kernel
theorem kd_M_unlink_123 : decode kc_M_unlink 123 = .ok (.aload_n 0, 1) := by decide +kernel
theorem kd_M_unlink_124 : decode kc_M_unlink 124 = .ok (.getfield 34, 3) := by decide +kernel
theorem kd_M_unlink_127 : decode kc_M_unlink 127 = .ok (.iload_n 2, 1) := by decide +kernel
theorem kd_M_unlink_128 : decode kc_M_unlink 128 = .ok (.dup2, 1) := by decide +kernel
theorem kd_M_unlink_129 : decode kc_M_unlink 129 = .ok (.iaload, 1) := by decide +kernel
theorem kd_M_unlink_130 : decode kc_M_unlink 130 = .ok (.iconst 1, 1) := by decide +kernel
theorem kd_M_unlink_131 : decode kc_M_unlink 131 = .ok (.isub, 1) := by decide +kernel
theorem kd_M_unlink_132 : decode kc_M_unlink 132 = .ok (.iastore, 1) := by decide +kernel
theorem kd_M_unlink_133 : decode kc_M_unlink 133 = .ok (.aload_n 0, 1) := by decide +kernel
theorem kd_M_unlink_134 : decode kc_M_unlink 134 = .ok (.iload 4, 2) := by decide +kernel
theorem kd_M_unlink_136 : decode kc_M_unlink 136 = .ok (.invokevirtual 166, 3) := by decide +kernel
theorem kd_M_unlink_139 : decode kc_M_unlink 139 = .ok (.istore 5, 2) := by decide +kernel
theorem kd_M_unlink_141 : decode kc_M_unlink 141 = .ok (.iload 4, 2) := by decide +kernel
theorem kd_M_unlink_143 : decode kc_M_unlink 143 = .ok (.ireturn, 1) := by decide +kernel
theorem kd_M_hold_0 : decode kc_M_hold 0 = .ok (.aload_n 0, 1) := by decide +kernel
theorem kd_M_hold_1 : decode kc_M_hold 1 = .ok (.iconst 0, 1) := by decide +kernel
theorem kd_M_hold_2 : decode kc_M_hold 2 = .ok (.putfield 60, 3) := by decide +kernel
theorem kd_M_hold_5 : decode kc_M_hold 5 = .ok (.aload_n 0, 1) := by decide +kernel
theorem kd_M_hold_6 : decode kc_M_hold 6 = .ok (.iload_n 1, 1) := by decide +kernel
theorem kd_M_hold_7 : decode kc_M_hold 7 = .ok (.invokevirtual 113, 3) := by decide +kernel
theorem kd_M_hold_10 : decode kc_M_hold 10 = .ok (.ifCond .ne 5, 3) := by decide +kernel
theorem kd_M_hold_13 : decode kc_M_hold 13 = .ok (.iconst 0, 1) := by decide +kernel
theorem kd_M_hold_14 : decode kc_M_hold 14 = .ok (.ireturn, 1) := by decide +kernel
theorem kd_M_hold_15 : decode kc_M_hold 15 = .ok (.aload_n 0, 1) := by decide +kernel
theorem kd_M_hold_16 : decode kc_M_hold 16 = .ok (.getfield 40, 3) := by decide +kernel
theorem kd_M_hold_19 : decode kc_M_hold 19 = .ok (.iload_n 1, 1) := by decide +kernel
theorem kd_M_hold_20 : decode kc_M_hold 20 = .ok (.dup2, 1) := by decide +kernel
theorem kd_M_hold_21 : decode kc_M_hold 21 = .ok (.iaload, 1) := by decide +kernel
theorem kd_M_hold_22 : decode kc_M_hold 22 = .ok (.iconst 1, 1) := by decide +kernel
theorem kd_M_hold_23 : decode kc_M_hold 23 = .ok (.iadd, 1) := by decide +kernel
theorem kd_M_hold_24 : decode kc_M_hold 24 = .ok (.iastore, 1) := by decide +kernel
theorem kd_M_hold_25 : decode kc_M_hold 25 = .ok (.iconst 1, 1) := by decide +kernel
theorem kd_M_hold_26 : decode kc_M_hold 26 = .ok (.ireturn, 1) := by decide +kernel
theorem kd_M_leave_0 : decode kc_M_leave 0 = .ok (.aload_n 0, 1) := by decide +kernel
theorem kd_M_leave_1 : decode kc_M_leave 1 = .ok (.iconst 0, 1) := by decide +kernel
theorem kd_M_leave_2 : decode kc_M_leave 2 = .ok (.putfield 60, 3) := by decide +kernel
theorem kd_M_leave_5 : decode kc_M_leave 5 = .ok (.aload_n 0, 1) := by decide +kernel
theorem kd_M_leave_6 : decode kc_M_leave 6 = .ok (.iload_n 1, 1) := by decide +kernel
theorem kd_M_leave_7 : decode kc_M_leave 7 = .ok (.invokevirtual 113, 3) := by decide +kernel
theorem kd_M_leave_10 : decode kc_M_leave 10 = .ok (.ifCond .eq 12, 3) := by decide +kernel
theorem kd_M_leave_13 : decode kc_M_leave 13 = .ok (.aload_n 0, 1) := by decide +kernel
theorem kd_M_leave_14 : decode kc_M_leave 14 = .ok (.getfield 40, 3) := by decide +kernel
theorem kd_M_leave_17 : decode kc_M_leave 17 = .ok (.iload_n 1, 1) := by decide +kernel
theorem kd_M_leave_18 : decode kc_M_leave 18 = .ok (.iaload, 1) := by decide +kernel
theorem kd_M_leave_19 : decode kc_M_leave 19 = .ok (.ifCond .ne 5, 3) := by decide +kernel
theorem kd_M_leave_22 : decode kc_M_leave 22 = .ok (.iconst 0, 1) := by decide +kernel
theorem kd_M_leave_23 : decode kc_M_leave 23 = .ok (.ireturn, 1) := by decide +kernel
theorem kd_M_leave_24 : decode kc_M_leave 24 = .ok (.aload_n 0, 1) := by decide +kernel
theorem kd_M_leave_25 : decode kc_M_leave 25 = .ok (.getfield 40, 3) := by decide +kernel
theorem kd_M_leave_28 : decode kc_M_leave 28 = .ok (.iload_n 1, 1) := by decide +kernel
theorem kd_M_leave_29 : decode kc_M_leave 29 = .ok (.dup2, 1) := by decide +kernel
theorem kd_M_leave_30 : decode kc_M_leave 30 = .ok (.iaload, 1) := by decide +kernel
theorem kd_M_leave_31 : decode kc_M_leave 31 = .ok (.iconst 1, 1) := by decide +kernel
theorem kd_M_leave_32 : decode kc_M_leave 32 = .ok (.isub, 1) := by decide +kernel
theorem kd_M_leave_33 : decode kc_M_leave 33 = .ok (.iastore, 1) := by decide +kernel
theorem kd_M_leave_34 : decode kc_M_leave 34 = .ok (.aload_n 0, 1) := by decide +kernel
theorem kd_M_leave_35 : decode kc_M_leave 35 = .ok (.iload_n 1, 1) := by decide +kernel
theorem kd_M_leave_36 : decode kc_M_leave 36 = .ok (.invokevirtual 166, 3) := by decide +kernel
theorem kd_M_leave_39 : decode kc_M_leave 39 = .ok (.istore_n 2, 1) := by decide +kernel
theorem kd_M_leave_40 : decode kc_M_leave 40 = .ok (.iconst 1, 1) := by decide +kernel
theorem kd_M_leave_41 : decode kc_M_leave 41 = .ok (.ireturn, 1) := by decide +kernel
theorem kd_M_read_0 : decode kc_M_read 0 = .ok (.aload_n 0, 1) := by decide +kernel
theorem kd_M_read_1 : decode kc_M_read 1 = .ok (.iconst 0, 1) := by decide +kernel
theorem kd_M_read_2 : decode kc_M_read 2 = .ok (.putfield 60, 3) := by decide +kernel
theorem kd_M_read_5 : decode kc_M_read 5 = .ok (.aload_n 0, 1) := by decide +kernel
theorem kd_M_read_6 : decode kc_M_read 6 = .ok (.iload_n 1, 1) := by decide +kernel
theorem kd_M_read_7 : decode kc_M_read 7 = .ok (.invokevirtual 113, 3) := by decide +kernel
theorem kd_M_read_10 : decode kc_M_read 10 = .ok (.ifCond .eq 28, 3) := by decide +kernel
theorem kd_M_read_13 : decode kc_M_read 13 = .ok (.aload_n 0, 1) := by decide +kernel
theorem kd_M_read_14 : decode kc_M_read 14 = .ok (.getfield 24, 3) := by decide +kernel
theorem kd_M_read_17 : decode kc_M_read 17 = .ok (.iload_n 1, 1) := by decide +kernel
theorem kd_M_read_18 : decode kc_M_read 18 = .ok (.iaload, 1) := by decide +kernel
theorem kd_M_read_19 : decode kc_M_read 19 = .ok (.iconst 3, 1) := by decide +kernel
theorem kd_M_read_20 : decode kc_M_read 20 = .ok (.if_icmp .eq 18, 3) := by decide +kernel
theorem kd_M_read_23 : decode kc_M_read 23 = .ok (.iload_n 2, 1) := by decide +kernel
theorem kd_M_read_24 : decode kc_M_read 24 = .ok (.ifCond .lt 14, 3) := by decide +kernel
theorem kd_M_read_27 : decode kc_M_read 27 = .ok (.iload_n 3, 1) := by decide +kernel
theorem kd_M_read_28 : decode kc_M_read 28 = .ok (.ifCond .lt 10, 3) := by decide +kernel
theorem kd_M_read_31 : decode kc_M_read 31 = .ok (.iload_n 3, 1) := by decide +kernel
theorem kd_M_read_32 : decode kc_M_read 32 = .ok (.sipush 3072, 3) := by decide +kernel
theorem kd_M_read_35 : decode kc_M_read 35 = .ok (.if_icmp .le 5, 3) := by decide +kernel
theorem kd_M_read_38 : decode kc_M_read 38 = .ok (.iconst (-1), 1) := by decide +kernel
theorem kd_M_read_39 : decode kc_M_read 39 = .ok (.ireturn, 1) := by decide +kernel
theorem kd_M_read_40 : decode kc_M_read 40 = .ok (.iconst 0, 1) := by decide +kernel
theorem kd_M_read_41 : decode kc_M_read 41 = .ok (.istore 4, 2) := by decide +kernel
theorem kd_M_read_43 : decode kc_M_read 43 = .ok (.iload 4, 2) := by decide +kernel
theorem kd_M_read_45 : decode kc_M_read 45 = .ok (.iload_n 3, 1) := by decide +kernel
theorem kd_M_read_46 : decode kc_M_read 46 = .ok (.if_icmp .ge 43, 3) := by decide +kernel
theorem kd_M_read_49 : decode kc_M_read 49 = .ok (.iload_n 2, 1) := by decide +kernel
theorem kd_M_read_50 : decode kc_M_read 50 = .ok (.aload_n 0, 1) := by decide +kernel
theorem kd_M_read_51 : decode kc_M_read 51 = .ok (.getfield 37, 3) := by decide +kernel
theorem kd_M_read_54 : decode kc_M_read 54 = .ok (.iload_n 1, 1) := by decide +kernel
theorem kd_M_read_55 : decode kc_M_read 55 = .ok (.iaload, 1) := by decide +kernel
theorem kd_M_read_56 : decode kc_M_read 56 = .ok (.iload 4, 2) := by decide +kernel
theorem kd_M_read_58 : decode kc_M_read 58 = .ok (.isub, 1) := by decide +kernel
theorem kd_M_read_59 : decode kc_M_read 59 = .ok (.if_icmp .ge 30, 3) := by decide +kernel
theorem kd_M_read_62 : decode kc_M_read 62 = .ok (.aload_n 0, 1) := by decide +kernel
theorem kd_M_read_63 : decode kc_M_read 63 = .ok (.getfield 13, 3) := by decide +kernel
theorem kd_M_read_66 : decode kc_M_read 66 = .ok (.iload 4, 2) := by decide +kernel
theorem kd_M_read_68 : decode kc_M_read 68 = .ok (.aload_n 0, 1) := by decide +kernel
theorem kd_M_read_69 : decode kc_M_read 69 = .ok (.getfield 17, 3) := by decide +kernel
theorem kd_M_read_72 : decode kc_M_read 72 = .ok (.aload_n 0, 1) := by decide +kernel
theorem kd_M_read_73 : decode kc_M_read 73 = .ok (.iload_n 1, 1) := by decide +kernel
theorem kd_M_read_74 : decode kc_M_read 74 = .ok (.iload_n 2, 1) := by decide +kernel
theorem kd_M_read_75 : decode kc_M_read 75 = .ok (.iload 4, 2) := by decide +kernel
theorem kd_M_read_77 : decode kc_M_read 77 = .ok (.iadd, 1) := by decide +kernel
theorem kd_M_read_78 : decode kc_M_read 78 = .ok (.invokevirtual 80, 3) := by decide +kernel
theorem kd_M_read_81 : decode kc_M_read 81 = .ok (.baload, 1) := by decide +kernel
theorem kd_M_read_82 : decode kc_M_read 82 = .ok (.bastore, 1) := by decide +kernel
theorem kd_M_read_83 : decode kc_M_read 83 = .ok (.iinc 4 1, 3) := by decide +kernel
theorem kd_M_read_86 : decode kc_M_read 86 = .ok (.goto (-43), 3) := by decide +kernel
theorem kd_M_read_89 : decode kc_M_read 89 = .ok (.iload 4, 2) := by decide +kernel
theorem kd_M_read_91 : decode kc_M_read 91 = .ok (.ireturn, 1) := by decide +kernel
theorem kd_M_save_0 : decode kc_M_save 0 = .ok (.aload_n 0, 1) := by decide +kernel
theorem kd_M_save_1 : decode kc_M_save 1 = .ok (.iconst 0, 1) := by decide +kernel
theorem kd_M_save_2 : decode kc_M_save 2 = .ok (.putfield 60, 3) := by decide +kernel
theorem kd_M_save_5 : decode kc_M_save 5 = .ok (.aload_n 0, 1) := by decide +kernel
theorem kd_M_save_6 : decode kc_M_save 6 = .ok (.iload_n 1, 1) := by decide +kernel
theorem kd_M_save_7 : decode kc_M_save 7 = .ok (.invokevirtual 113, 3) := by decide +kernel
theorem kd_M_save_10 : decode kc_M_save 10 = .ok (.ifCond .eq 46, 3) := by decide +kernel
theorem kd_M_save_13 : decode kc_M_save 13 = .ok (.aload_n 0, 1) := by decide +kernel
theorem kd_M_save_14 : decode kc_M_save 14 = .ok (.getfield 24, 3) := by decide +kernel
theorem kd_M_save_17 : decode kc_M_save 17 = .ok (.iload_n 1, 1) := by decide +kernel
theorem kd_M_save_18 : decode kc_M_save 18 = .ok (.iaload, 1) := by decide +kernel
theorem kd_M_save_19 : decode kc_M_save 19 = .ok (.iconst 2, 1) := by decide +kernel
theorem kd_M_save_20 : decode kc_M_save 20 = .ok (.if_icmp .ne 36, 3) := by decide +kernel
theorem kd_M_save_23 : decode kc_M_save 23 = .ok (.iload_n 2, 1) := by decide +kernel
theorem kd_M_save_24 : decode kc_M_save 24 = .ok (.ifCond .lt 32, 3) := by decide +kernel
theorem kd_M_save_27 : decode kc_M_save 27 = .ok (.iload_n 2, 1) := by decide +kernel
theorem kd_M_save_28 : decode kc_M_save 28 = .ok (.aload_n 0, 1) := by decide +kernel
theorem kd_M_save_29 : decode kc_M_save 29 = .ok (.getfield 37, 3) := by decide +kernel
theorem kd_M_save_32 : decode kc_M_save 32 = .ok (.iload_n 1, 1) := by decide +kernel
theorem kd_M_save_33 : decode kc_M_save 33 = .ok (.iaload, 1) := by decide +kernel
theorem kd_M_save_34 : decode kc_M_save 34 = .ok (.if_icmp .gt 22, 3) := by decide +kernel
theorem kd_M_save_37 : decode kc_M_save 37 = .ok (.iload_n 3, 1) := by decide +kernel
theorem kd_M_save_38 : decode kc_M_save 38 = .ok (.ifCond .lt 18, 3) := by decide +kernel
theorem kd_M_save_41 : decode kc_M_save 41 = .ok (.iload_n 3, 1) := by decide +kernel
theorem kd_M_save_42 : decode kc_M_save 42 = .ok (.sipush 3072, 3) := by decide +kernel
theorem kd_M_save_45 : decode kc_M_save 45 = .ok (.if_icmp .gt 11, 3) := by decide +kernel
theorem kd_M_save_48 : decode kc_M_save 48 = .ok (.iload_n 2, 1) := by decide +kernel
theorem kd_M_save_49 : decode kc_M_save 49 = .ok (.iload_n 3, 1) := by decide +kernel
theorem kd_M_save_50 : decode kc_M_save 50 = .ok (.iadd, 1) := by decide +kernel
theorem kd_M_save_51 : decode kc_M_save 51 = .ok (.ldc 91, 2) := by decide +kernel
theorem kd_M_save_53 : decode kc_M_save 53 = .ok (.if_icmp .le 5, 3) := by decide +kernel
theorem kd_M_save_56 : decode kc_M_save 56 = .ok (.iconst (-1), 1) := by decide +kernel
theorem kd_M_save_57 : decode kc_M_save 57 = .ok (.ireturn, 1) := by decide +kernel
theorem kd_M_save_58 : decode kc_M_save 58 = .ok (.iconst 0, 1) := by decide +kernel
theorem kd_M_save_59 : decode kc_M_save 59 = .ok (.istore 4, 2) := by decide +kernel
theorem kd_M_save_61 : decode kc_M_save 61 = .ok (.iconst 1, 1) := by decide +kernel
theorem kd_M_save_62 : decode kc_M_save 62 = .ok (.istore 5, 2) := by decide +kernel
theorem kd_M_save_64 : decode kc_M_save 64 = .ok (.iload 4, 2) := by decide +kernel
theorem kd_M_save_66 : decode kc_M_save 66 = .ok (.iload_n 3, 1) := by decide +kernel
theorem kd_M_save_67 : decode kc_M_save 67 = .ok (.if_icmp .ge 86, 3) := by decide +kernel
theorem kd_M_save_70 : decode kc_M_save 70 = .ok (.iload 5, 2) := by decide +kernel
theorem kd_M_save_72 : decode kc_M_save 72 = .ok (.ifCond .eq 81, 3) := by decide +kernel
theorem kd_M_save_75 : decode kc_M_save 75 = .ok (.iload_n 2, 1) := by decide +kernel
theorem kd_M_save_76 : decode kc_M_save 76 = .ok (.iload 4, 2) := by decide +kernel
theorem kd_M_save_78 : decode kc_M_save 78 = .ok (.iadd, 1) := by decide +kernel
theorem kd_M_save_79 : decode kc_M_save 79 = .ok (.sipush 1024, 3) := by decide +kernel
theorem kd_M_save_82 : decode kc_M_save 82 = .ok (.idiv, 1) := by decide +kernel
theorem kd_M_save_83 : decode kc_M_save 83 = .ok (.aload_n 0, 1) := by decide +kernel
theorem kd_M_save_84 : decode kc_M_save 84 = .ok (.getfield 43, 3) := by decide +kernel
theorem kd_M_save_87 : decode kc_M_save 87 = .ok (.iload_n 1, 1) := by decide +kernel
theorem kd_M_save_88 : decode kc_M_save 88 = .ok (.iaload, 1) := by decide +kernel
theorem kd_M_save_89 : decode kc_M_save 89 = .ok (.if_icmp .ne 32, 3) := by decide +kernel
theorem kd_M_save_92 : decode kc_M_save 92 = .ok (.aload_n 0, 1) := by decide +kernel
theorem kd_M_save_93 : decode kc_M_save 93 = .ok (.invokevirtual 147, 3) := by decide +kernel
theorem kd_M_save_96 : decode kc_M_save 96 = .ok (.aload_n 0, 1) := by decide +kernel
theorem kd_M_save_97 : decode kc_M_save 97 = .ok (.iload_n 1, 1) := by decide +kernel
theorem kd_M_save_98 : decode kc_M_save 98 = .ok (.invokevirtual 92, 3) := by decide +kernel
theorem kd_M_save_101 : decode kc_M_save 101 = .ok (.if_icmp .lt 7, 3) := by decide +kernel
theorem kd_M_save_104 : decode kc_M_save 104 = .ok (.iconst 1, 1) := by decide +kernel
theorem kd_M_save_105 : decode kc_M_save 105 = .ok (.goto 4, 3) := by decide +kernel
theorem kd_M_save_108 : decode kc_M_save 108 = .ok (.iconst 0, 1) := by decide +kernel
theorem kd_M_save_109 : decode kc_M_save 109 = .ok (.istore 5, 2) := by decide +kernel
theorem kd_M_save_111 : decode kc_M_save 111 = .ok (.iload 5, 2) := by decide +kernel
theorem kd_M_save_113 : decode kc_M_save 113 = .ok (.ifCond .eq 8, 3) := by decide +kernel
theorem kd_M_save_116 : decode kc_M_save 116 = .ok (.aload_n 0, 1) := by decide +kernel
theorem kd_M_save_117 : decode kc_M_save 117 = .ok (.iload_n 1, 1) := by decide +kernel
theorem kd_M_save_118 : decode kc_M_save 118 = .ok (.invokevirtual 95, 3) := by decide +kernel
theorem kd_M_save_121 : decode kc_M_save 121 = .ok (.iload 5, 2) := by decide +kernel
theorem kd_M_save_123 : decode kc_M_save 123 = .ok (.ifCond .eq (-59), 3) := by decide +kernel
theorem kd_M_save_126 : decode kc_M_save 126 = .ok (.aload_n 0, 1) := by decide +kernel
theorem kd_M_save_127 : decode kc_M_save 127 = .ok (.getfield 17, 3) := by decide +kernel
theorem kd_M_save_130 : decode kc_M_save 130 = .ok (.aload_n 0, 1) := by decide +kernel
theorem kd_M_save_131 : decode kc_M_save 131 = .ok (.iload_n 1, 1) := by decide +kernel
theorem kd_M_save_132 : decode kc_M_save 132 = .ok (.iload_n 2, 1) := by decide +kernel
theorem kd_M_save_133 : decode kc_M_save 133 = .ok (.iload 4, 2) := by decide +kernel
theorem kd_M_save_135 : decode kc_M_save 135 = .ok (.iadd, 1) := by decide +kernel
theorem kd_M_save_136 : decode kc_M_save 136 = .ok (.invokevirtual 80, 3) := by decide +kernel
theorem kd_M_save_139 : decode kc_M_save 139 = .ok (.aload_n 0, 1) := by decide +kernel
theorem kd_M_save_140 : decode kc_M_save 140 = .ok (.getfield 13, 3) := by decide +kernel
theorem kd_M_save_143 : decode kc_M_save 143 = .ok (.iload 4, 2) := by decide +kernel
theorem kd_M_save_145 : decode kc_M_save 145 = .ok (.baload, 1) := by decide +kernel
theorem kd_M_save_146 : decode kc_M_save 146 = .ok (.bastore, 1) := by decide +kernel
theorem kd_M_save_147 : decode kc_M_save 147 = .ok (.iinc 4 1, 3) := by decide +kernel
theorem kd_M_save_150 : decode kc_M_save 150 = .ok (.goto (-86), 3) := by decide +kernel
theorem kd_M_save_153 : decode kc_M_save 153 = .ok (.aload_n 0, 1) := by decide +kernel
theorem kd_M_save_154 : decode kc_M_save 154 = .ok (.getfield 37, 3) := by decide +kernel
theorem kd_M_save_157 : decode kc_M_save 157 = .ok (.iload_n 1, 1) := by decide +kernel
theorem kd_M_save_158 : decode kc_M_save 158 = .ok (.aload_n 0, 1) := by decide +kernel
theorem kd_M_save_159 : decode kc_M_save 159 = .ok (.getfield 37, 3) := by decide +kernel
theorem kd_M_save_162 : decode kc_M_save 162 = .ok (.iload_n 1, 1) := by decide +kernel
theorem kd_M_save_163 : decode kc_M_save 163 = .ok (.iaload, 1) := by decide +kernel
theorem kd_M_save_164 : decode kc_M_save 164 = .ok (.iload_n 2, 1) := by decide +kernel
theorem kd_M_save_165 : decode kc_M_save 165 = .ok (.iload 4, 2) := by decide +kernel
theorem kd_M_save_167 : decode kc_M_save 167 = .ok (.iadd, 1) := by decide +kernel
theorem kd_M_save_168 : decode kc_M_save 168 = .ok (.if_icmp .ge 10, 3) := by decide +kernel
theorem kd_M_save_171 : decode kc_M_save 171 = .ok (.iload_n 2, 1) := by decide +kernel
theorem kd_M_save_172 : decode kc_M_save 172 = .ok (.iload 4, 2) := by decide +kernel
theorem kd_M_save_174 : decode kc_M_save 174 = .ok (.iadd, 1) := by decide +kernel
theorem kd_M_save_175 : decode kc_M_save 175 = .ok (.goto 9, 3) := by decide +kernel
theorem kd_M_save_178 : decode kc_M_save 178 = .ok (.aload_n 0, 1) := by decide +kernel
theorem kd_M_save_179 : decode kc_M_save 179 = .ok (.getfield 37, 3) := by decide +kernel
theorem kd_M_save_182 : decode kc_M_save 182 = .ok (.iload_n 1, 1) := by decide +kernel
theorem kd_M_save_183 : decode kc_M_save 183 = .ok (.iaload, 1) := by decide +kernel
theorem kd_M_save_184 : decode kc_M_save 184 = .ok (.iastore, 1) := by decide +kernel
theorem kd_M_save_185 : decode kc_M_save 185 = .ok (.iload 4, 2) := by decide +kernel
theorem kd_M_save_187 : decode kc_M_save 187 = .ok (.ireturn, 1) := by decide +kernel
theorem kd_M_clear_0 : decode kc_M_clear 0 = .ok (.aload_n 0, 1) := by decide +kernel
theorem kd_M_clear_1 : decode kc_M_clear 1 = .ok (.iconst 0, 1) := by decide +kernel
theorem kd_M_clear_2 : decode kc_M_clear 2 = .ok (.putfield 60, 3) := by decide +kernel
theorem kd_M_clear_5 : decode kc_M_clear 5 = .ok (.aload_n 0, 1) := by decide +kernel
theorem kd_M_clear_6 : decode kc_M_clear 6 = .ok (.iload_n 1, 1) := by decide +kernel
theorem kd_M_clear_7 : decode kc_M_clear 7 = .ok (.invokevirtual 113, 3) := by decide +kernel
theorem kd_M_clear_10 : decode kc_M_clear 10 = .ok (.ifCond .eq 13, 3) := by decide +kernel
theorem kd_M_clear_13 : decode kc_M_clear 13 = .ok (.aload_n 0, 1) := by decide +kernel
theorem kd_M_clear_14 : decode kc_M_clear 14 = .ok (.getfield 24, 3) := by decide +kernel
theorem kd_M_clear_17 : decode kc_M_clear 17 = .ok (.iload_n 1, 1) := by decide +kernel
theorem kd_M_clear_18 : decode kc_M_clear 18 = .ok (.iaload, 1) := by decide +kernel
theorem kd_M_clear_19 : decode kc_M_clear 19 = .ok (.iconst 2, 1) := by decide +kernel
theorem kd_M_clear_20 : decode kc_M_clear 20 = .ok (.if_icmp .eq 5, 3) := by decide +kernel
theorem kd_M_clear_23 : decode kc_M_clear 23 = .ok (.iconst 0, 1) := by decide +kernel
theorem kd_M_clear_24 : decode kc_M_clear 24 = .ok (.ireturn, 1) := by decide +kernel
theorem kd_M_clear_25 : decode kc_M_clear 25 = .ok (.aload_n 0, 1) := by decide +kernel
theorem kd_M_clear_26 : decode kc_M_clear 26 = .ok (.iload_n 1, 1) := by decide +kernel
theorem kd_M_clear_27 : decode kc_M_clear 27 = .ok (.invokevirtual 72, 3) := by decide +kernel
theorem kd_M_clear_30 : decode kc_M_clear 30 = .ok (.iconst 1, 1) := by decide +kernel
theorem kd_M_clear_31 : decode kc_M_clear 31 = .ok (.ireturn, 1) := by decide +kernel
theorem kd_M_about_0 : decode kc_M_about 0 = .ok (.aload_n 0, 1) := by decide +kernel
theorem kd_M_about_1 : decode kc_M_about 1 = .ok (.iconst 0, 1) := by decide +kernel
theorem kd_M_about_2 : decode kc_M_about 2 = .ok (.putfield 60, 3) := by decide +kernel
theorem kd_M_about_5 : decode kc_M_about 5 = .ok (.iload_n 1, 1) := by decide +kernel
theorem kd_M_about_6 : decode kc_M_about 6 = .ok (.invokestatic 76, 3) := by decide +kernel
theorem kd_M_about_9 : decode kc_M_about 9 = .ok (.ifCond .ne 5, 3) := by decide +kernel
theorem kd_M_about_12 : decode kc_M_about 12 = .ok (.iconst (-1), 1) := by decide +kernel
theorem kd_M_about_13 : decode kc_M_about 13 = .ok (.ireturn, 1) := by decide +kernel
theorem kd_M_about_14 : decode kc_M_about 14 = .ok (.iload_n 2, 1) := by decide +kernel
theorem kd_M_about_15 : decode kc_M_about 15 = .ok (.tableswitch 79 0 5 #[37, 44, 51, 58, 65, 72], 37) := by decide +kernel
theorem kd_M_about_52 : decode kc_M_about 52 = .ok (.aload_n 0, 1) := by decide +kernel
theorem kd_M_about_53 : decode kc_M_about 53 = .ok (.getfield 24, 3) := by decide +kernel
theorem kd_M_about_56 : decode kc_M_about 56 = .ok (.iload_n 1, 1) := by decide +kernel
theorem kd_M_about_57 : decode kc_M_about 57 = .ok (.iaload, 1) := by decide +kernel
theorem kd_M_about_58 : decode kc_M_about 58 = .ok (.ireturn, 1) := by decide +kernel
theorem kd_M_about_59 : decode kc_M_about 59 = .ok (.aload_n 0, 1) := by decide +kernel
theorem kd_M_about_60 : decode kc_M_about 60 = .ok (.getfield 28, 3) := by decide +kernel
theorem kd_M_about_63 : decode kc_M_about 63 = .ok (.iload_n 1, 1) := by decide +kernel
theorem kd_M_about_64 : decode kc_M_about 64 = .ok (.iaload, 1) := by decide +kernel
theorem kd_M_about_65 : decode kc_M_about 65 = .ok (.ireturn, 1) := by decide +kernel
theorem kd_M_about_66 : decode kc_M_about 66 = .ok (.aload_n 0, 1) := by decide +kernel
theorem kd_M_about_67 : decode kc_M_about 67 = .ok (.getfield 31, 3) := by decide +kernel
theorem kd_M_about_70 : decode kc_M_about 70 = .ok (.iload_n 1, 1) := by decide +kernel
theorem kd_M_about_71 : decode kc_M_about 71 = .ok (.iaload, 1) := by decide +kernel
theorem kd_M_about_72 : decode kc_M_about 72 = .ok (.ireturn, 1) := by decide +kernel
theorem kd_M_about_73 : decode kc_M_about 73 = .ok (.aload_n 0, 1) := by decide +kernel
theorem kd_M_about_74 : decode kc_M_about 74 = .ok (.getfield 34, 3) := by decide +kernel
theorem kd_M_about_77 : decode kc_M_about 77 = .ok (.iload_n 1, 1) := by decide +kernel
theorem kd_M_about_78 : decode kc_M_about 78 = .ok (.iaload, 1) := by decide +kernel
theorem kd_M_about_79 : decode kc_M_about 79 = .ok (.ireturn, 1) := by decide +kernel
theorem kd_M_about_80 : decode kc_M_about 80 = .ok (.aload_n 0, 1) := by decide +kernel
theorem kd_M_about_81 : decode kc_M_about 81 = .ok (.getfield 37, 3) := by decide +kernel
theorem kd_M_about_84 : decode kc_M_about 84 = .ok (.iload_n 1, 1) := by decide +kernel
theorem kd_M_about_85 : decode kc_M_about 85 = .ok (.iaload, 1) := by decide +kernel
theorem kd_M_about_86 : decode kc_M_about 86 = .ok (.ireturn, 1) := by decide +kernel
theorem kd_M_about_87 : decode kc_M_about 87 = .ok (.aload_n 0, 1) := by decide +kernel
theorem kd_M_about_88 : decode kc_M_about 88 = .ok (.getfield 40, 3) := by decide +kernel
theorem kd_M_about_91 : decode kc_M_about 91 = .ok (.iload_n 1, 1) := by decide +kernel
theorem kd_M_about_92 : decode kc_M_about 92 = .ok (.iaload, 1) := by decide +kernel
theorem kd_M_about_93 : decode kc_M_about 93 = .ok (.ireturn, 1) := by decide +kernel
theorem kd_M_about_94 : decode kc_M_about 94 = .ok (.iconst (-1), 1) := by decide +kernel
theorem kd_M_about_95 : decode kc_M_about 95 = .ok (.ireturn, 1) := by decide +kernel
theorem kd_M_free_0 : decode kc_M_free 0 = .ok (.aload_n 0, 1) := by decide +kernel
theorem kd_M_free_1 : decode kc_M_free 1 = .ok (.iconst 0, 1) := by decide +kernel
theorem kd_M_free_2 : decode kc_M_free 2 = .ok (.putfield 60, 3) := by decide +kernel
theorem kd_M_free_5 : decode kc_M_free 5 = .ok (.aload_n 0, 1) := by decide +kernel
theorem kd_M_free_6 : decode kc_M_free 6 = .ok (.invokevirtual 147, 3) := by decide +kernel
theorem kd_M_free_9 : decode kc_M_free 9 = .ok (.ireturn, 1) := by decide +kernel
theorem kd_M_forget_0 : decode kc_M_forget 0 = .ok (.aload_n 0, 1) := by decide +kernel
theorem kd_M_forget_1 : decode kc_M_forget 1 = .ok (.iconst 0, 1) := by decide +kernel
theorem kd_M_forget_2 : decode kc_M_forget 2 = .ok (.putfield 60, 3) := by decide +kernel
theorem kd_M_forget_5 : decode kc_M_forget 5 = .ok (.iconst 0, 1) := by decide +kernel
theorem kd_M_forget_6 : decode kc_M_forget 6 = .ok (.istore_n 1, 1) := by decide +kernel
theorem kd_M_forget_7 : decode kc_M_forget 7 = .ok (.iconst 0, 1) := by decide +kernel
theorem kd_M_forget_8 : decode kc_M_forget 8 = .ok (.istore_n 2, 1) := by decide +kernel
theorem kd_M_forget_9 : decode kc_M_forget 9 = .ok (.iload_n 2, 1) := by decide +kernel
theorem kd_M_forget_10 : decode kc_M_forget 10 = .ok (.bipush 64, 2) := by decide +kernel
theorem kd_M_forget_12 : decode kc_M_forget 12 = .ok (.if_icmp .ge 32, 3) := by decide +kernel
theorem kd_M_forget_15 : decode kc_M_forget 15 = .ok (.aload_n 0, 1) := by decide +kernel
theorem kd_M_forget_16 : decode kc_M_forget 16 = .ok (.getfield 40, 3) := by decide +kernel
theorem kd_M_forget_19 : decode kc_M_forget 19 = .ok (.iload_n 2, 1) := by decide +kernel
theorem kd_M_forget_20 : decode kc_M_forget 20 = .ok (.iconst 0, 1) := by decide +kernel
theorem kd_M_forget_21 : decode kc_M_forget 21 = .ok (.iastore, 1) := by decide +kernel
theorem kd_M_forget_22 : decode kc_M_forget 22 = .ok (.iload_n 1, 1) := by decide +kernel
theorem kd_M_forget_23 : decode kc_M_forget 23 = .ok (.aload_n 0, 1) := by decide +kernel
theorem kd_M_forget_24 : decode kc_M_forget 24 = .ok (.iload_n 2, 1) := by decide +kernel
theorem kd_M_forget_25 : decode kc_M_forget 25 = .ok (.invokevirtual 166, 3) := by decide +kernel
theorem kd_M_forget_28 : decode kc_M_forget 28 = .ok (.ifCond .eq 7, 3) := by decide +kernel
theorem kd_M_forget_31 : decode kc_M_forget 31 = .ok (.iconst 1, 1) := by decide +kernel
theorem kd_M_forget_32 : decode kc_M_forget 32 = .ok (.goto 4, 3) := by decide +kernel
theorem kd_M_forget_35 : decode kc_M_forget 35 = .ok (.iconst 0, 1) := by decide +kernel
theorem kd_M_forget_36 : decode kc_M_forget 36 = .ok (.iadd, 1) := by decide +kernel
theorem kd_M_forget_37 : decode kc_M_forget 37 = .ok (.istore_n 1, 1) := by decide +kernel
theorem kd_M_forget_38 : decode kc_M_forget 38 = .ok (.iinc 2 1, 3) := by decide +kernel
theorem kd_M_forget_41 : decode kc_M_forget 41 = .ok (.goto (-32), 3) := by decide +kernel
theorem kd_M_forget_44 : decode kc_M_forget 44 = .ok (.iload_n 1, 1) := by decide +kernel
theorem kd_M_forget_45 : decode kc_M_forget 45 = .ok (.ireturn, 1) := by decide +kernel
theorem kd_M_fill_0 : decode kc_M_fill 0 = .ok (.aload_n 0, 1) := by decide +kernel
theorem kd_M_fill_1 : decode kc_M_fill 1 = .ok (.iconst 0, 1) := by decide +kernel
theorem kd_M_fill_2 : decode kc_M_fill 2 = .ok (.putfield 60, 3) := by decide +kernel
theorem kd_M_fill_5 : decode kc_M_fill 5 = .ok (.iload_n 2, 1) := by decide +kernel
theorem kd_M_fill_6 : decode kc_M_fill 6 = .ok (.ifCond .lt 16, 3) := by decide +kernel
theorem kd_M_fill_9 : decode kc_M_fill 9 = .ok (.iload_n 1, 1) := by decide +kernel
theorem kd_M_fill_10 : decode kc_M_fill 10 = .ok (.ifCond .lt 12, 3) := by decide +kernel
theorem kd_M_fill_13 : decode kc_M_fill 13 = .ok (.iload_n 1, 1) := by decide +kernel
theorem kd_M_fill_14 : decode kc_M_fill 14 = .ok (.sipush 3072, 3) := by decide +kernel
theorem kd_M_fill_17 : decode kc_M_fill 17 = .ok (.iload_n 2, 1) := by decide +kernel
theorem kd_M_fill_18 : decode kc_M_fill 18 = .ok (.isub, 1) := by decide +kernel
theorem kd_M_fill_19 : decode kc_M_fill 19 = .ok (.if_icmp .le 5, 3) := by decide +kernel
theorem kd_M_fill_22 : decode kc_M_fill 22 = .ok (.iconst 0, 1) := by decide +kernel
theorem kd_M_fill_23 : decode kc_M_fill 23 = .ok (.ireturn, 1) := by decide +kernel
theorem kd_M_fill_24 : decode kc_M_fill 24 = .ok (.iconst 0, 1) := by decide +kernel
theorem kd_M_fill_25 : decode kc_M_fill 25 = .ok (.istore 4, 2) := by decide +kernel
theorem kd_M_fill_27 : decode kc_M_fill 27 = .ok (.iload 4, 2) := by decide +kernel
theorem kd_M_fill_29 : decode kc_M_fill 29 = .ok (.iload_n 2, 1) := by decide +kernel
theorem kd_M_fill_30 : decode kc_M_fill 30 = .ok (.if_icmp .ge 23, 3) := by decide +kernel
theorem kd_M_fill_33 : decode kc_M_fill 33 = .ok (.aload_n 0, 1) := by decide +kernel
theorem kd_M_fill_34 : decode kc_M_fill 34 = .ok (.getfield 13, 3) := by decide +kernel
theorem kd_M_fill_37 : decode kc_M_fill 37 = .ok (.iload_n 1, 1) := by decide +kernel
theorem kd_M_fill_38 : decode kc_M_fill 38 = .ok (.iload 4, 2) := by decide +kernel
theorem kd_M_fill_40 : decode kc_M_fill 40 = .ok (.iadd, 1) := by decide +kernel
theorem kd_M_fill_41 : decode kc_M_fill 41 = .ok (.iload_n 3, 1) := by decide +kernel
theorem kd_M_fill_42 : decode kc_M_fill 42 = .ok (.iload 4, 2) := by decide +kernel
theorem kd_M_fill_44 : decode kc_M_fill 44 = .ok (.iadd, 1) := by decide +kernel
theorem kd_M_fill_45 : decode kc_M_fill 45 = .ok (.i2b, 1) := by decide +kernel
theorem kd_M_fill_46 : decode kc_M_fill 46 = .ok (.bastore, 1) := by decide +kernel
theorem kd_M_fill_47 : decode kc_M_fill 47 = .ok (.iinc 4 1, 3) := by decide +kernel
theorem kd_M_fill_50 : decode kc_M_fill 50 = .ok (.goto (-23), 3) := by decide +kernel
theorem kd_M_fill_53 : decode kc_M_fill 53 = .ok (.iconst 1, 1) := by decide +kernel
theorem kd_M_fill_54 : decode kc_M_fill 54 = .ok (.ireturn, 1) := by decide +kernel
theorem kd_M_at_0 : decode kc_M_at 0 = .ok (.aload_n 0, 1) := by decide +kernel
theorem kd_M_at_1 : decode kc_M_at 1 = .ok (.iconst 0, 1) := by decide +kernel
theorem kd_M_at_2 : decode kc_M_at 2 = .ok (.putfield 60, 3) := by decide +kernel
theorem kd_M_at_5 : decode kc_M_at 5 = .ok (.iload_n 1, 1) := by decide +kernel
theorem kd_M_at_6 : decode kc_M_at 6 = .ok (.ifCond .lt 23, 3) := by decide +kernel
theorem kd_M_at_9 : decode kc_M_at 9 = .ok (.iload_n 1, 1) := by decide +kernel
theorem kd_M_at_10 : decode kc_M_at 10 = .ok (.sipush 3072, 3) := by decide +kernel
theorem kd_M_at_13 : decode kc_M_at 13 = .ok (.if_icmp .ge 16, 3) := by decide +kernel
theorem kd_M_at_16 : decode kc_M_at 16 = .ok (.aload_n 0, 1) := by decide +kernel
theorem kd_M_at_17 : decode kc_M_at 17 = .ok (.getfield 13, 3) := by decide +kernel
theorem kd_M_at_20 : decode kc_M_at 20 = .ok (.iload_n 1, 1) := by decide +kernel
theorem kd_M_at_21 : decode kc_M_at 21 = .ok (.baload, 1) := by decide +kernel
theorem kd_M_at_22 : decode kc_M_at 22 = .ok (.sipush 255, 3) := by decide +kernel
theorem kd_M_at_25 : decode kc_M_at 25 = .ok (.iand, 1) := by decide +kernel
theorem kd_M_at_26 : decode kc_M_at 26 = .ok (.goto 4, 3) := by decide +kernel
theorem kd_M_at_29 : decode kc_M_at 29 = .ok (.iconst (-1), 1) := by decide +kernel
theorem kd_M_at_30 : decode kc_M_at 30 = .ok (.ireturn, 1) := by decide +kernel
theorem kd_M_of_0 : decode kc_M_of 0 = .ok (.iload_n 0, 1) := by decide +kernel
theorem kd_M_of_1 : decode kc_M_of 1 = .ok (.bipush 8, 2) := by decide +kernel
theorem kd_M_of_3 : decode kc_M_of 3 = .ok (.iload_n 1, 1) := by decide +kernel
theorem kd_M_of_4 : decode kc_M_of 4 = .ok (.imul, 1) := by decide +kernel
theorem kd_M_of_5 : decode kc_M_of 5 = .ok (.ishr, 1) := by decide +kernel
theorem kd_M_of_6 : decode kc_M_of 6 = .ok (.sipush 255, 3) := by decide +kernel
theorem kd_M_of_9 : decode kc_M_of 9 = .ok (.iand, 1) := by decide +kernel
theorem kd_M_of_10 : decode kc_M_of 10 = .ok (.ireturn, 1) := by decide +kernel
theorem kd_M_superByte_0 : decode kc_M_superByte 0 = .ok (.iload_n 1, 1) := by decide +kernel
theorem kd_M_superByte_1 : decode kc_M_superByte 1 = .ok (.bipush 32, 2) := by decide +kernel
theorem kd_M_superByte_3 : decode kc_M_superByte 3 = .ok (.if_icmp .ge 20, 3) := by decide +kernel
theorem kd_M_superByte_6 : decode kc_M_superByte 6 = .ok (.aload_n 0, 1) := by decide +kernel
theorem kd_M_superByte_7 : decode kc_M_superByte 7 = .ok (.getfield 50, 3) := by decide +kernel
theorem kd_M_superByte_10 : decode kc_M_superByte 10 = .ok (.iload_n 1, 1) := by decide +kernel
theorem kd_M_superByte_11 : decode kc_M_superByte 11 = .ok (.iconst 4, 1) := by decide +kernel
theorem kd_M_superByte_12 : decode kc_M_superByte 12 = .ok (.idiv, 1) := by decide +kernel
theorem kd_M_superByte_13 : decode kc_M_superByte 13 = .ok (.iaload, 1) := by decide +kernel
theorem kd_M_superByte_14 : decode kc_M_superByte 14 = .ok (.iload_n 1, 1) := by decide +kernel
theorem kd_M_superByte_15 : decode kc_M_superByte 15 = .ok (.iconst 4, 1) := by decide +kernel
theorem kd_M_superByte_16 : decode kc_M_superByte 16 = .ok (.irem, 1) := by decide +kernel
theorem kd_M_superByte_17 : decode kc_M_superByte 17 = .ok (.invokestatic 169, 3) := by decide +kernel
theorem kd_M_superByte_20 : decode kc_M_superByte 20 = .ok (.goto 4, 3) := by decide +kernel
theorem kd_M_superByte_23 : decode kc_M_superByte 23 = .ok (.iconst 0, 1) := by decide +kernel
theorem kd_M_superByte_24 : decode kc_M_superByte 24 = .ok (.ireturn, 1) := by decide +kernel
theorem kd_M_inodeByte_0 : decode kc_M_inodeByte 0 = .ok (.iload_n 2, 1) := by decide +kernel
theorem kd_M_inodeByte_1 : decode kc_M_inodeByte 1 = .ok (.bipush 8, 2) := by decide +kernel
theorem kd_M_inodeByte_3 : decode kc_M_inodeByte 3 = .ok (.if_icmp .ge 61, 3) := by decide +kernel
theorem kd_M_inodeByte_6 : decode kc_M_inodeByte 6 = .ok (.iload_n 2, 1) := by decide +kernel
theorem kd_M_inodeByte_7 : decode kc_M_inodeByte 7 = .ok (.iconst 2, 1) := by decide +kernel
theorem kd_M_inodeByte_8 : decode kc_M_inodeByte 8 = .ok (.if_icmp .ge 12, 3) := by decide +kernel
theorem kd_M_inodeByte_11 : decode kc_M_inodeByte 11 = .ok (.aload_n 0, 1) := by decide +kernel
theorem kd_M_inodeByte_12 : decode kc_M_inodeByte 12 = .ok (.getfield 24, 3) := by decide +kernel
theorem kd_M_inodeByte_15 : decode kc_M_inodeByte 15 = .ok (.iload_n 1, 1) := by decide +kernel
theorem kd_M_inodeByte_16 : decode kc_M_inodeByte 16 = .ok (.iaload, 1) := by decide +kernel
theorem kd_M_inodeByte_17 : decode kc_M_inodeByte 17 = .ok (.goto 38, 3) := by decide +kernel
theorem kd_M_inodeByte_20 : decode kc_M_inodeByte 20 = .ok (.iload_n 2, 1) := by decide +kernel
theorem kd_M_inodeByte_21 : decode kc_M_inodeByte 21 = .ok (.iconst 4, 1) := by decide +kernel
theorem kd_M_inodeByte_22 : decode kc_M_inodeByte 22 = .ok (.if_icmp .ge 12, 3) := by decide +kernel
theorem kd_M_inodeByte_25 : decode kc_M_inodeByte 25 = .ok (.aload_n 0, 1) := by decide +kernel
theorem kd_M_inodeByte_26 : decode kc_M_inodeByte 26 = .ok (.getfield 28, 3) := by decide +kernel
theorem kd_M_inodeByte_29 : decode kc_M_inodeByte 29 = .ok (.iload_n 1, 1) := by decide +kernel
theorem kd_M_inodeByte_30 : decode kc_M_inodeByte 30 = .ok (.iaload, 1) := by decide +kernel
theorem kd_M_inodeByte_31 : decode kc_M_inodeByte 31 = .ok (.goto 24, 3) := by decide +kernel
theorem kd_M_inodeByte_34 : decode kc_M_inodeByte 34 = .ok (.iload_n 2, 1) := by decide +kernel
theorem kd_M_inodeByte_35 : decode kc_M_inodeByte 35 = .ok (.bipush 6, 2) := by decide +kernel
theorem kd_M_inodeByte_37 : decode kc_M_inodeByte 37 = .ok (.if_icmp .ge 12, 3) := by decide +kernel
theorem kd_M_inodeByte_40 : decode kc_M_inodeByte 40 = .ok (.aload_n 0, 1) := by decide +kernel
theorem kd_M_inodeByte_41 : decode kc_M_inodeByte 41 = .ok (.getfield 31, 3) := by decide +kernel
theorem kd_M_inodeByte_44 : decode kc_M_inodeByte 44 = .ok (.iload_n 1, 1) := by decide +kernel
theorem kd_M_inodeByte_45 : decode kc_M_inodeByte 45 = .ok (.iaload, 1) := by decide +kernel
theorem kd_M_inodeByte_46 : decode kc_M_inodeByte 46 = .ok (.goto 9, 3) := by decide +kernel
theorem kd_M_inodeByte_49 : decode kc_M_inodeByte 49 = .ok (.aload_n 0, 1) := by decide +kernel
theorem kd_M_inodeByte_50 : decode kc_M_inodeByte 50 = .ok (.getfield 34, 3) := by decide +kernel
theorem kd_M_inodeByte_53 : decode kc_M_inodeByte 53 = .ok (.iload_n 1, 1) := by decide +kernel
theorem kd_M_inodeByte_54 : decode kc_M_inodeByte 54 = .ok (.iaload, 1) := by decide +kernel
theorem kd_M_inodeByte_55 : decode kc_M_inodeByte 55 = .ok (.istore_n 3, 1) := by decide +kernel
theorem kd_M_inodeByte_56 : decode kc_M_inodeByte 56 = .ok (.iload_n 3, 1) := by decide +kernel
theorem kd_M_inodeByte_57 : decode kc_M_inodeByte 57 = .ok (.iload_n 2, 1) := by decide +kernel
theorem kd_M_inodeByte_58 : decode kc_M_inodeByte 58 = .ok (.iconst 2, 1) := by decide +kernel
theorem kd_M_inodeByte_59 : decode kc_M_inodeByte 59 = .ok (.irem, 1) := by decide +kernel
theorem kd_M_inodeByte_60 : decode kc_M_inodeByte 60 = .ok (.invokestatic 169, 3) := by decide +kernel
theorem kd_M_inodeByte_63 : decode kc_M_inodeByte 63 = .ok (.ireturn, 1) := by decide +kernel
theorem kd_M_inodeByte_64 : decode kc_M_inodeByte 64 = .ok (.iload_n 2, 1) := by decide +kernel
theorem kd_M_inodeByte_65 : decode kc_M_inodeByte 65 = .ok (.bipush 12, 2) := by decide +kernel
theorem kd_M_inodeByte_67 : decode kc_M_inodeByte 67 = .ok (.if_icmp .ge 17, 3) := by decide +kernel
theorem kd_M_inodeByte_70 : decode kc_M_inodeByte 70 = .ok (.aload_n 0, 1) := by decide +kernel
theorem kd_M_inodeByte_71 : decode kc_M_inodeByte 71 = .ok (.getfield 37, 3) := by decide +kernel
theorem kd_M_inodeByte_74 : decode kc_M_inodeByte 74 = .ok (.iload_n 1, 1) := by decide +kernel
theorem kd_M_inodeByte_75 : decode kc_M_inodeByte 75 = .ok (.iaload, 1) := by decide +kernel
theorem kd_M_inodeByte_76 : decode kc_M_inodeByte 76 = .ok (.iload_n 2, 1) := by decide +kernel
theorem kd_M_inodeByte_77 : decode kc_M_inodeByte 77 = .ok (.bipush 8, 2) := by decide +kernel
theorem kd_M_inodeByte_79 : decode kc_M_inodeByte 79 = .ok (.isub, 1) := by decide +kernel
theorem kd_M_inodeByte_80 : decode kc_M_inodeByte 80 = .ok (.invokestatic 169, 3) := by decide +kernel
theorem kd_M_inodeByte_83 : decode kc_M_inodeByte 83 = .ok (.ireturn, 1) := by decide +kernel
theorem kd_M_inodeByte_84 : decode kc_M_inodeByte 84 = .ok (.iload_n 2, 1) := by decide +kernel
theorem kd_M_inodeByte_85 : decode kc_M_inodeByte 85 = .ok (.iconst 4, 1) := by decide +kernel
theorem kd_M_inodeByte_86 : decode kc_M_inodeByte 86 = .ok (.idiv, 1) := by decide +kernel
theorem kd_M_inodeByte_87 : decode kc_M_inodeByte 87 = .ok (.iconst 3, 1) := by decide +kernel
theorem kd_M_inodeByte_88 : decode kc_M_inodeByte 88 = .ok (.isub, 1) := by decide +kernel
theorem kd_M_inodeByte_89 : decode kc_M_inodeByte 89 = .ok (.istore_n 3, 1) := by decide +kernel
theorem kd_M_inodeByte_90 : decode kc_M_inodeByte 90 = .ok (.aload_n 0, 1) := by decide +kernel
theorem kd_M_inodeByte_91 : decode kc_M_inodeByte 91 = .ok (.getfield 46, 3) := by decide +kernel
theorem kd_M_inodeByte_94 : decode kc_M_inodeByte 94 = .ok (.sipush 269, 3) := by decide +kernel
theorem kd_M_inodeByte_97 : decode kc_M_inodeByte 97 = .ok (.iload_n 1, 1) := by decide +kernel
theorem kd_M_inodeByte_98 : decode kc_M_inodeByte 98 = .ok (.imul, 1) := by decide +kernel
theorem kd_M_inodeByte_99 : decode kc_M_inodeByte 99 = .ok (.iload_n 3, 1) := by decide +kernel
theorem kd_M_inodeByte_100 : decode kc_M_inodeByte 100 = .ok (.bipush 12, 2) := by decide +kernel
theorem kd_M_inodeByte_102 : decode kc_M_inodeByte 102 = .ok (.if_icmp .ge 7, 3) := by decide +kernel
theorem kd_M_inodeByte_105 : decode kc_M_inodeByte 105 = .ok (.iload_n 3, 1) := by decide +kernel
theorem kd_M_inodeByte_106 : decode kc_M_inodeByte 106 = .ok (.goto 6, 3) := by decide +kernel
theorem kd_M_inodeByte_109 : decode kc_M_inodeByte 109 = .ok (.sipush 268, 3) := by decide +kernel
theorem kd_M_inodeByte_112 : decode kc_M_inodeByte 112 = .ok (.iadd, 1) := by decide +kernel
theorem kd_M_inodeByte_113 : decode kc_M_inodeByte 113 = .ok (.iaload, 1) := by decide +kernel
theorem kd_M_inodeByte_114 : decode kc_M_inodeByte 114 = .ok (.iload_n 2, 1) := by decide +kernel
theorem kd_M_inodeByte_115 : decode kc_M_inodeByte 115 = .ok (.iconst 4, 1) := by decide +kernel
theorem kd_M_inodeByte_116 : decode kc_M_inodeByte 116 = .ok (.irem, 1) := by decide +kernel
theorem kd_M_inodeByte_117 : decode kc_M_inodeByte 117 = .ok (.invokestatic 169, 3) := by decide +kernel
theorem kd_M_inodeByte_120 : decode kc_M_inodeByte 120 = .ok (.ireturn, 1) := by decide +kernel
theorem kd_M_mapByte_0 : decode kc_M_mapByte 0 = .ok (.iconst 0, 1) := by decide +kernel
theorem kd_M_mapByte_1 : decode kc_M_mapByte 1 = .ok (.istore_n 2, 1) := by decide +kernel
theorem kd_M_mapByte_2 : decode kc_M_mapByte 2 = .ok (.iconst 0, 1) := by decide +kernel
theorem kd_M_mapByte_3 : decode kc_M_mapByte 3 = .ok (.istore_n 3, 1) := by decide +kernel
theorem kd_M_mapByte_4 : decode kc_M_mapByte 4 = .ok (.iload_n 3, 1) := by decide +kernel
theorem kd_M_mapByte_5 : decode kc_M_mapByte 5 = .ok (.bipush 8, 2) := by decide +kernel
theorem kd_M_mapByte_7 : decode kc_M_mapByte 7 = .ok (.if_icmp .ge 39, 3) := by decide +kernel
theorem kd_M_mapByte_10 : decode kc_M_mapByte 10 = .ok (.iload_n 1, 1) := by decide +kernel
theorem kd_M_mapByte_11 : decode kc_M_mapByte 11 = .ok (.bipush 64, 2) := by decide +kernel
theorem kd_M_mapByte_13 : decode kc_M_mapByte 13 = .ok (.if_icmp .ge 33, 3) := by decide +kernel
theorem kd_M_mapByte_16 : decode kc_M_mapByte 16 = .ok (.aload_n 0, 1) := by decide +kernel
theorem kd_M_mapByte_17 : decode kc_M_mapByte 17 = .ok (.getfield 20, 3) := by decide +kernel
theorem kd_M_mapByte_20 : decode kc_M_mapByte 20 = .ok (.bipush 8, 2) := by decide +kernel
theorem kd_M_mapByte_22 : decode kc_M_mapByte 22 = .ok (.iload_n 1, 1) := by decide +kernel
theorem kd_M_mapByte_23 : decode kc_M_mapByte 23 = .ok (.imul, 1) := by decide +kernel
theorem kd_M_mapByte_24 : decode kc_M_mapByte 24 = .ok (.iload_n 3, 1) := by decide +kernel
theorem kd_M_mapByte_25 : decode kc_M_mapByte 25 = .ok (.iadd, 1) := by decide +kernel
theorem kd_M_mapByte_26 : decode kc_M_mapByte 26 = .ok (.baload, 1) := by decide +kernel
theorem kd_M_mapByte_27 : decode kc_M_mapByte 27 = .ok (.ifCond .eq 11, 3) := by decide +kernel
theorem kd_M_mapByte_30 : decode kc_M_mapByte 30 = .ok (.iload_n 2, 1) := by decide +kernel
theorem kd_M_mapByte_31 : decode kc_M_mapByte 31 = .ok (.iconst 1, 1) := by decide +kernel
theorem kd_M_mapByte_32 : decode kc_M_mapByte 32 = .ok (.iload_n 3, 1) := by decide +kernel
theorem kd_M_mapByte_33 : decode kc_M_mapByte 33 = .ok (.ishl, 1) := by decide +kernel
theorem kd_M_mapByte_34 : decode kc_M_mapByte 34 = .ok (.ior, 1) := by decide +kernel
theorem kd_M_mapByte_35 : decode kc_M_mapByte 35 = .ok (.goto 4, 3) := by decide +kernel
theorem kd_M_mapByte_38 : decode kc_M_mapByte 38 = .ok (.iload_n 2, 1) := by decide +kernel
theorem kd_M_mapByte_39 : decode kc_M_mapByte 39 = .ok (.istore_n 2, 1) := by decide +kernel
theorem kd_M_mapByte_40 : decode kc_M_mapByte 40 = .ok (.iinc 3 1, 3) := by decide +kernel
theorem kd_M_mapByte_43 : decode kc_M_mapByte 43 = .ok (.goto (-39), 3) := by decide +kernel
theorem kd_M_mapByte_46 : decode kc_M_mapByte 46 = .ok (.iload_n 2, 1) := by decide +kernel
theorem kd_M_mapByte_47 : decode kc_M_mapByte 47 = .ok (.ireturn, 1) := by decide +kernel
theorem kd_M_peek_0 : decode kc_M_peek 0 = .ok (.aload_n 0, 1) := by decide +kernel
theorem kd_M_peek_1 : decode kc_M_peek 1 = .ok (.iconst 0, 1) := by decide +kernel
theorem kd_M_peek_2 : decode kc_M_peek 2 = .ok (.putfield 60, 3) := by decide +kernel
theorem kd_M_peek_5 : decode kc_M_peek 5 = .ok (.iload_n 1, 1) := by decide +kernel
theorem kd_M_peek_6 : decode kc_M_peek 6 = .ok (.ifCond .lt 21, 3) := by decide +kernel
theorem kd_M_peek_9 : decode kc_M_peek 9 = .ok (.iload_n 1, 1) := by decide +kernel
theorem kd_M_peek_10 : decode kc_M_peek 10 = .ok (.sipush 511, 3) := by decide +kernel
theorem kd_M_peek_13 : decode kc_M_peek 13 = .ok (.if_icmp .gt 14, 3) := by decide +kernel
theorem kd_M_peek_16 : decode kc_M_peek 16 = .ok (.iload_n 2, 1) := by decide +kernel
theorem kd_M_peek_17 : decode kc_M_peek 17 = .ok (.ifCond .lt 10, 3) := by decide +kernel
theorem kd_M_peek_20 : decode kc_M_peek 20 = .ok (.iload_n 2, 1) := by decide +kernel
theorem kd_M_peek_21 : decode kc_M_peek 21 = .ok (.sipush 1023, 3) := by decide +kernel
theorem kd_M_peek_24 : decode kc_M_peek 24 = .ok (.if_icmp .le 5, 3) := by decide +kernel
theorem kd_M_peek_27 : decode kc_M_peek 27 = .ok (.iconst (-1), 1) := by decide +kernel
theorem kd_M_peek_28 : decode kc_M_peek 28 = .ok (.ireturn, 1) := by decide +kernel
theorem kd_M_peek_29 : decode kc_M_peek 29 = .ok (.iload_n 1, 1) := by decide +kernel
theorem kd_M_peek_30 : decode kc_M_peek 30 = .ok (.iconst 1, 1) := by decide +kernel
theorem kd_M_peek_31 : decode kc_M_peek 31 = .ok (.if_icmp .ne 9, 3) := by decide +kernel
theorem kd_M_peek_34 : decode kc_M_peek 34 = .ok (.aload_n 0, 1) := by decide +kernel
theorem kd_M_peek_35 : decode kc_M_peek 35 = .ok (.iload_n 2, 1) := by decide +kernel
theorem kd_M_peek_36 : decode kc_M_peek 36 = .ok (.invokevirtual 172, 3) := by decide +kernel
theorem kd_M_peek_39 : decode kc_M_peek 39 = .ok (.ireturn, 1) := by decide +kernel
theorem kd_M_peek_40 : decode kc_M_peek 40 = .ok (.iload_n 1, 1) := by decide +kernel
theorem kd_M_peek_41 : decode kc_M_peek 41 = .ok (.bipush 37, 2) := by decide +kernel
theorem kd_M_peek_43 : decode kc_M_peek 43 = .ok (.if_icmp .ne 9, 3) := by decide +kernel
theorem kd_M_peek_46 : decode kc_M_peek 46 = .ok (.aload_n 0, 1) := by decide +kernel
theorem kd_M_peek_47 : decode kc_M_peek 47 = .ok (.iload_n 2, 1) := by decide +kernel
theorem kd_M_peek_48 : decode kc_M_peek 48 = .ok (.invokevirtual 175, 3) := by decide +kernel
theorem kd_M_peek_51 : decode kc_M_peek 51 = .ok (.ireturn, 1) := by decide +kernel
theorem kd_M_peek_52 : decode kc_M_peek 52 = .ok (.iload_n 1, 1) := by decide +kernel
theorem kd_M_peek_53 : decode kc_M_peek 53 = .ok (.bipush 32, 2) := by decide +kernel
theorem kd_M_peek_55 : decode kc_M_peek 55 = .ok (.if_icmp .le 32, 3) := by decide +kernel
theorem kd_M_peek_58 : decode kc_M_peek 58 = .ok (.iload_n 1, 1) := by decide +kernel
theorem kd_M_peek_59 : decode kc_M_peek 59 = .ok (.bipush 37, 2) := by decide +kernel
theorem kd_M_peek_61 : decode kc_M_peek 61 = .ok (.if_icmp .ge 26, 3) := by decide +kernel
theorem kd_M_peek_64 : decode kc_M_peek 64 = .ok (.aload_n 0, 1) := by decide +kernel
theorem kd_M_peek_65 : decode kc_M_peek 65 = .ok (.bipush 16, 2) := by decide +kernel
theorem kd_M_peek_67 : decode kc_M_peek 67 = .ok (.iload_n 1, 1) := by decide +kernel
theorem kd_M_peek_68 : decode kc_M_peek 68 = .ok (.bipush 33, 2) := by decide +kernel
theorem kd_M_peek_70 : decode kc_M_peek 70 = .ok (.isub, 1) := by decide +kernel
theorem kd_M_peek_71 : decode kc_M_peek 71 = .ok (.imul, 1) := by decide +kernel
theorem kd_M_peek_72 : decode kc_M_peek 72 = .ok (.iload_n 2, 1) := by decide +kernel
theorem kd_M_peek_73 : decode kc_M_peek 73 = .ok (.bipush 64, 2) := by decide +kernel
theorem kd_M_peek_75 : decode kc_M_peek 75 = .ok (.idiv, 1) := by decide +kernel
theorem kd_M_peek_76 : decode kc_M_peek 76 = .ok (.iadd, 1) := by decide +kernel
theorem kd_M_peek_77 : decode kc_M_peek 77 = .ok (.iload_n 2, 1) := by decide +kernel
theorem kd_M_peek_78 : decode kc_M_peek 78 = .ok (.bipush 64, 2) := by decide +kernel
theorem kd_M_peek_80 : decode kc_M_peek 80 = .ok (.irem, 1) := by decide +kernel
theorem kd_M_peek_81 : decode kc_M_peek 81 = .ok (.invokevirtual 178, 3) := by decide +kernel
theorem kd_M_peek_84 : decode kc_M_peek 84 = .ok (.goto 19, 3) := by decide +kernel
theorem kd_M_peek_87 : decode kc_M_peek 87 = .ok (.aload_n 0, 1) := by decide +kernel
theorem kd_M_peek_88 : decode kc_M_peek 88 = .ok (.getfield 17, 3) := by decide +kernel
theorem kd_M_peek_91 : decode kc_M_peek 91 = .ok (.sipush 1024, 3) := by decide +kernel
theorem kd_M_peek_94 : decode kc_M_peek 94 = .ok (.iload_n 1, 1) := by decide +kernel
theorem kd_M_peek_95 : decode kc_M_peek 95 = .ok (.imul, 1) := by decide +kernel
theorem kd_M_peek_96 : decode kc_M_peek 96 = .ok (.iload_n 2, 1) := by decide +kernel
theorem kd_M_peek_97 : decode kc_M_peek 97 = .ok (.iadd, 1) := by decide +kernel
theorem kd_M_peek_98 : decode kc_M_peek 98 = .ok (.baload, 1) := by decide +kernel
theorem kd_M_peek_99 : decode kc_M_peek 99 = .ok (.sipush 255, 3) := by decide +kernel
theorem kd_M_peek_102 : decode kc_M_peek 102 = .ok (.iand, 1) := by decide +kernel
theorem kd_M_peek_103 : decode kc_M_peek 103 = .ok (.ireturn, 1) := by decide +kernel
