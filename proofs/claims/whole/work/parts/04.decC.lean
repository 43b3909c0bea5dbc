theorem kd_T_init_0 : decode kc_T_init 0 = .ok (.aload_n 0, 1) := by decide +kernel
theorem kd_T_init_1 : decode kc_T_init 1 = .ok (.invokespecial 3, 3) := by decide +kernel
theorem kd_T_init_4 : decode kc_T_init 4 = .ok (.aload_n 0, 1) := by decide +kernel
theorem kd_T_init_5 : decode kc_T_init 5 = .ok (.new 9, 3) := by decide +kernel
theorem kd_T_init_8 : decode kc_T_init 8 = .ok (.dup, 1) := by decide +kernel
theorem kd_T_init_9 : decode kc_T_init 9 = .ok (.invokespecial 11, 3) := by decide +kernel
theorem kd_T_init_12 : decode kc_T_init 12 = .ok (.putfield 12, 3) := by decide +kernel
theorem kd_T_init_15 : decode kc_T_init 15 = .ok (.aload_n 0, 1) := by decide +kernel
theorem kd_T_init_16 : decode kc_T_init 16 = .ok (.aload_n 0, 1) := by decide +kernel
theorem kd_T_init_17 : decode kc_T_init 17 = .ok (.getfield 12, 3) := by decide +kernel
theorem kd_T_init_20 : decode kc_T_init 20 = .ok (.getfield 16, 3) := by decide +kernel
theorem kd_T_init_23 : decode kc_T_init 23 = .ok (.putfield 20, 3) := by decide +kernel
theorem kd_T_init_26 : decode kc_T_init 26 = .ok (.aload_n 0, 1) := by decide +kernel
theorem kd_T_init_27 : decode kc_T_init 27 = .ok (.aload_n 0, 1) := by decide +kernel
theorem kd_T_init_28 : decode kc_T_init 28 = .ok (.getfield 20, 3) := by decide +kernel
theorem kd_T_init_31 : decode kc_T_init 31 = .ok (.getfield 21, 3) := by decide +kernel
theorem kd_T_init_34 : decode kc_T_init 34 = .ok (.putfield 27, 3) := by decide +kernel
theorem kd_T_init_37 : decode kc_T_init 37 = .ok (.aload_n 0, 1) := by decide +kernel
theorem kd_T_init_38 : decode kc_T_init 38 = .ok (.new 28, 3) := by decide +kernel
theorem kd_T_init_41 : decode kc_T_init 41 = .ok (.dup, 1) := by decide +kernel
theorem kd_T_init_42 : decode kc_T_init 42 = .ok (.invokespecial 30, 3) := by decide +kernel
theorem kd_T_init_45 : decode kc_T_init 45 = .ok (.putfield 31, 3) := by decide +kernel
theorem kd_T_init_48 : decode kc_T_init 48 = .ok (.aload_n 0, 1) := by decide +kernel
theorem kd_T_init_49 : decode kc_T_init 49 = .ok (.sipush 3072, 3) := by decide +kernel
theorem kd_T_init_52 : decode kc_T_init 52 = .ok (.newarray .byte, 2) := by decide +kernel
theorem kd_T_init_54 : decode kc_T_init 54 = .ok (.putfield 35, 3) := by decide +kernel
theorem kd_T_init_57 : decode kc_T_init 57 = .ok (.aload_n 0, 1) := by decide +kernel
theorem kd_T_init_58 : decode kc_T_init 58 = .ok (.getfield 27, 3) := by decide +kernel
theorem kd_T_init_61 : decode kc_T_init 61 = .ok (.invokevirtual 39, 3) := by decide +kernel
theorem kd_T_init_64 : decode kc_T_init 64 = .ok (.aload_n 0, 1) := by decide +kernel
theorem kd_T_init_65 : decode kc_T_init 65 = .ok (.getfield 20, 3) := by decide +kernel
theorem kd_T_init_68 : decode kc_T_init 68 = .ok (.iconst 1, 1) := by decide +kernel
theorem kd_T_init_69 : decode kc_T_init 69 = .ok (.iconst 1, 1) := by decide +kernel
theorem kd_T_init_70 : decode kc_T_init 70 = .ok (.iconst 0, 1) := by decide +kernel
theorem kd_T_init_71 : decode kc_T_init 71 = .ok (.iconst 0, 1) := by decide +kernel
theorem kd_T_init_72 : decode kc_T_init 72 = .ok (.invokevirtual 44, 3) := by decide +kernel
theorem kd_T_init_75 : decode kc_T_init 75 = .ok (.aload_n 0, 1) := by decide +kernel
theorem kd_T_init_76 : decode kc_T_init 76 = .ok (.getfield 12, 3) := by decide +kernel
theorem kd_T_init_79 : decode kc_T_init 79 = .ok (.iconst 1, 1) := by decide +kernel
theorem kd_T_init_80 : decode kc_T_init 80 = .ok (.iconst 1, 1) := by decide +kernel
theorem kd_T_init_81 : decode kc_T_init 81 = .ok (.invokevirtual 48, 3) := by decide +kernel
theorem kd_T_init_84 : decode kc_T_init 84 = .ok (.return_, 1) := by decide +kernel
theorem kd_T_write_0 : decode kc_T_write 0 = .ok (.aload_n 0, 1) := by decide +kernel
theorem kd_T_write_1 : decode kc_T_write 1 = .ok (.getfield 31, 3) := by decide +kernel
theorem kd_T_write_4 : decode kc_T_write 4 = .ok (.lload_n 1, 1) := by decide +kernel
theorem kd_T_write_5 : decode kc_T_write 5 = .ok (.invokevirtual 52, 3) := by decide +kernel
theorem kd_T_write_8 : decode kc_T_write 8 = .ok (.ireturn, 1) := by decide +kernel
theorem kd_T_find_0 : decode kc_T_find 0 = .ok (.aload_n 0, 1) := by decide +kernel
theorem kd_T_find_1 : decode kc_T_find 1 = .ok (.iload_n 1, 1) := by decide +kernel
theorem kd_T_find_2 : decode kc_T_find 2 = .ok (.iconst 0, 1) := by decide +kernel
theorem kd_T_find_3 : decode kc_T_find 3 = .ok (.aload_n 0, 1) := by decide +kernel
theorem kd_T_find_4 : decode kc_T_find 4 = .ok (.getfield 31, 3) := by decide +kernel
theorem kd_T_find_7 : decode kc_T_find 7 = .ok (.getfield 56, 3) := by decide +kernel
theorem kd_T_find_10 : decode kc_T_find 10 = .ok (.invokevirtual 60, 3) := by decide +kernel
theorem kd_T_find_13 : decode kc_T_find 13 = .ok (.istore_n 2, 1) := by decide +kernel
theorem kd_T_find_14 : decode kc_T_find 14 = .ok (.aload_n 0, 1) := by decide +kernel
theorem kd_T_find_15 : decode kc_T_find 15 = .ok (.getfield 31, 3) := by decide +kernel
theorem kd_T_find_18 : decode kc_T_find 18 = .ok (.invokevirtual 64, 3) := by decide +kernel
theorem kd_T_find_21 : decode kc_T_find 21 = .ok (.iload_n 2, 1) := by decide +kernel
theorem kd_T_find_22 : decode kc_T_find 22 = .ok (.ireturn, 1) := by decide +kernel
theorem kd_T_create_0 : decode kc_T_create 0 = .ok (.aload_n 0, 1) := by decide +kernel
theorem kd_T_create_1 : decode kc_T_create 1 = .ok (.iload_n 1, 1) := by decide +kernel
theorem kd_T_create_2 : decode kc_T_create 2 = .ok (.iconst 0, 1) := by decide +kernel
theorem kd_T_create_3 : decode kc_T_create 3 = .ok (.aload_n 0, 1) := by decide +kernel
theorem kd_T_create_4 : decode kc_T_create 4 = .ok (.getfield 31, 3) := by decide +kernel
theorem kd_T_create_7 : decode kc_T_create 7 = .ok (.iconst 0, 1) := by decide +kernel
theorem kd_T_create_8 : decode kc_T_create 8 = .ok (.aload_n 0, 1) := by decide +kernel
theorem kd_T_create_9 : decode kc_T_create 9 = .ok (.getfield 31, 3) := by decide +kernel
theorem kd_T_create_12 : decode kc_T_create 12 = .ok (.getfield 56, 3) := by decide +kernel
theorem kd_T_create_15 : decode kc_T_create 15 = .ok (.invokevirtual 67, 3) := by decide +kernel
theorem kd_T_create_18 : decode kc_T_create 18 = .ok (.invokevirtual 60, 3) := by decide +kernel
theorem kd_T_create_21 : decode kc_T_create 21 = .ok (.istore 5, 2) := by decide +kernel
theorem kd_T_create_23 : decode kc_T_create 23 = .ok (.aload_n 0, 1) := by decide +kernel
theorem kd_T_create_24 : decode kc_T_create 24 = .ok (.getfield 31, 3) := by decide +kernel
theorem kd_T_create_27 : decode kc_T_create 27 = .ok (.invokevirtual 64, 3) := by decide +kernel
theorem kd_T_create_30 : decode kc_T_create 30 = .ok (.iload 5, 2) := by decide +kernel
theorem kd_T_create_32 : decode kc_T_create 32 = .ok (.iconst (-1), 1) := by decide +kernel
theorem kd_T_create_33 : decode kc_T_create 33 = .ok (.if_icmp .eq 13, 3) := by decide +kernel
theorem kd_T_create_36 : decode kc_T_create 36 = .ok (.iload_n 2, 1) := by decide +kernel
theorem kd_T_create_37 : decode kc_T_create 37 = .ok (.iconst 1, 1) := by decide +kernel
theorem kd_T_create_38 : decode kc_T_create 38 = .ok (.if_icmp .lt 8, 3) := by decide +kernel
theorem kd_T_create_41 : decode kc_T_create 41 = .ok (.iload_n 2, 1) := by decide +kernel
theorem kd_T_create_42 : decode kc_T_create 42 = .ok (.iconst 3, 1) := by decide +kernel
theorem kd_T_create_43 : decode kc_T_create 43 = .ok (.if_icmp .le 5, 3) := by decide +kernel
theorem kd_T_create_46 : decode kc_T_create 46 = .ok (.iconst (-1), 1) := by decide +kernel
theorem kd_T_create_47 : decode kc_T_create 47 = .ok (.ireturn, 1) := by decide +kernel
theorem kd_T_create_48 : decode kc_T_create 48 = .ok (.aload_n 0, 1) := by decide +kernel
theorem kd_T_create_49 : decode kc_T_create 49 = .ok (.getfield 12, 3) := by decide +kernel
theorem kd_T_create_52 : decode kc_T_create 52 = .ok (.iload 5, 2) := by decide +kernel
theorem kd_T_create_54 : decode kc_T_create 54 = .ok (.aload_n 0, 1) := by decide +kernel
theorem kd_T_create_55 : decode kc_T_create 55 = .ok (.getfield 31, 3) := by decide +kernel
theorem kd_T_create_58 : decode kc_T_create 58 = .ok (.getfield 71, 3) := by decide +kernel
theorem kd_T_create_61 : decode kc_T_create 61 = .ok (.invokevirtual 74, 3) := by decide +kernel
theorem kd_T_create_64 : decode kc_T_create 64 = .ok (.istore 6, 2) := by decide +kernel
theorem kd_T_create_66 : decode kc_T_create 66 = .ok (.iload 6, 2) := by decide +kernel
theorem kd_T_create_68 : decode kc_T_create 68 = .ok (.iconst (-1), 1) := by decide +kernel
theorem kd_T_create_69 : decode kc_T_create 69 = .ok (.if_icmp .eq 41, 3) := by decide +kernel
theorem kd_T_create_72 : decode kc_T_create 72 = .ok (.aload_n 0, 1) := by decide +kernel
theorem kd_T_create_73 : decode kc_T_create 73 = .ok (.getfield 27, 3) := by decide +kernel
theorem kd_T_create_76 : decode kc_T_create 76 = .ok (.iload 6, 2) := by decide +kernel
theorem kd_T_create_78 : decode kc_T_create 78 = .ok (.ldc 78, 2) := by decide +kernel
theorem kd_T_create_80 : decode kc_T_create 80 = .ok (.invokevirtual 79, 3) := by decide +kernel
theorem kd_T_create_83 : decode kc_T_create 83 = .ok (.istore 7, 2) := by decide +kernel
theorem kd_T_create_85 : decode kc_T_create 85 = .ok (.iload_n 2, 1) := by decide +kernel
theorem kd_T_create_86 : decode kc_T_create 86 = .ok (.iconst 2, 1) := by decide +kernel
theorem kd_T_create_87 : decode kc_T_create 87 = .ok (.if_icmp .ne 21, 3) := by decide +kernel
theorem kd_T_create_90 : decode kc_T_create 90 = .ok (.aload_n 0, 1) := by decide +kernel
theorem kd_T_create_91 : decode kc_T_create 91 = .ok (.getfield 20, 3) := by decide +kernel
theorem kd_T_create_94 : decode kc_T_create 94 = .ok (.iload 7, 2) := by decide +kernel
theorem kd_T_create_96 : decode kc_T_create 96 = .ok (.invokevirtual 82, 3) := by decide +kernel
theorem kd_T_create_99 : decode kc_T_create 99 = .ok (.iconst 1, 1) := by decide +kernel
theorem kd_T_create_100 : decode kc_T_create 100 = .ok (.if_icmp .eq 8, 3) := by decide +kernel
theorem kd_T_create_103 : decode kc_T_create 103 = .ok (.iload 7, 2) := by decide +kernel
theorem kd_T_create_105 : decode kc_T_create 105 = .ok (.goto 4, 3) := by decide +kernel
theorem kd_T_create_108 : decode kc_T_create 108 = .ok (.iconst (-1), 1) := by decide +kernel
theorem kd_T_create_109 : decode kc_T_create 109 = .ok (.ireturn, 1) := by decide +kernel
theorem kd_T_create_110 : decode kc_T_create 110 = .ok (.aload_n 0, 1) := by decide +kernel
theorem kd_T_create_111 : decode kc_T_create 111 = .ok (.getfield 20, 3) := by decide +kernel
theorem kd_T_create_114 : decode kc_T_create 114 = .ok (.invokevirtual 86, 3) := by decide +kernel
theorem kd_T_create_117 : decode kc_T_create 117 = .ok (.istore 7, 2) := by decide +kernel
theorem kd_T_create_119 : decode kc_T_create 119 = .ok (.iload_n 2, 1) := by decide +kernel
theorem kd_T_create_120 : decode kc_T_create 120 = .ok (.iconst 1, 1) := by decide +kernel
theorem kd_T_create_121 : decode kc_T_create 121 = .ok (.if_icmp .ne 7, 3) := by decide +kernel
theorem kd_T_create_124 : decode kc_T_create 124 = .ok (.iconst 1, 1) := by decide +kernel
theorem kd_T_create_125 : decode kc_T_create 125 = .ok (.goto 4, 3) := by decide +kernel
theorem kd_T_create_128 : decode kc_T_create 128 = .ok (.iconst 0, 1) := by decide +kernel
theorem kd_T_create_129 : decode kc_T_create 129 = .ok (.istore 8, 2) := by decide +kernel
theorem kd_T_create_131 : decode kc_T_create 131 = .ok (.iload 7, 2) := by decide +kernel
theorem kd_T_create_133 : decode kc_T_create 133 = .ok (.iconst (-1), 1) := by decide +kernel
theorem kd_T_create_134 : decode kc_T_create 134 = .ok (.if_icmp .eq 17, 3) := by decide +kernel
theorem kd_T_create_137 : decode kc_T_create 137 = .ok (.aload_n 0, 1) := by decide +kernel
theorem kd_T_create_138 : decode kc_T_create 138 = .ok (.getfield 12, 3) := by decide +kernel
theorem kd_T_create_141 : decode kc_T_create 141 = .ok (.iload 5, 2) := by decide +kernel
theorem kd_T_create_143 : decode kc_T_create 143 = .ok (.iload 8, 2) := by decide +kernel
theorem kd_T_create_145 : decode kc_T_create 145 = .ok (.invokevirtual 90, 3) := by decide +kernel
theorem kd_T_create_148 : decode kc_T_create 148 = .ok (.ifCond .ne 5, 3) := by decide +kernel
theorem kd_T_create_151 : decode kc_T_create 151 = .ok (.iconst (-1), 1) := by decide +kernel
theorem kd_T_create_152 : decode kc_T_create 152 = .ok (.ireturn, 1) := by decide +kernel
theorem kd_T_create_153 : decode kc_T_create 153 = .ok (.aload_n 0, 1) := by decide +kernel
theorem kd_T_create_154 : decode kc_T_create 154 = .ok (.getfield 20, 3) := by decide +kernel
theorem kd_T_create_157 : decode kc_T_create 157 = .ok (.iload 7, 2) := by decide +kernel
theorem kd_T_create_159 : decode kc_T_create 159 = .ok (.iload_n 2, 1) := by decide +kernel
theorem kd_T_create_160 : decode kc_T_create 160 = .ok (.iload_n 3, 1) := by decide +kernel
theorem kd_T_create_161 : decode kc_T_create 161 = .ok (.iload 4, 2) := by decide +kernel
theorem kd_T_create_163 : decode kc_T_create 163 = .ok (.invokevirtual 44, 3) := by decide +kernel
theorem kd_T_create_166 : decode kc_T_create 166 = .ok (.iload_n 2, 1) := by decide +kernel
theorem kd_T_create_167 : decode kc_T_create 167 = .ok (.iconst 1, 1) := by decide +kernel
theorem kd_T_create_168 : decode kc_T_create 168 = .ok (.if_icmp .ne 14, 3) := by decide +kernel
theorem kd_T_create_171 : decode kc_T_create 171 = .ok (.aload_n 0, 1) := by decide +kernel
theorem kd_T_create_172 : decode kc_T_create 172 = .ok (.getfield 12, 3) := by decide +kernel
theorem kd_T_create_175 : decode kc_T_create 175 = .ok (.iload 7, 2) := by decide +kernel
theorem kd_T_create_177 : decode kc_T_create 177 = .ok (.iload 5, 2) := by decide +kernel
theorem kd_T_create_179 : decode kc_T_create 179 = .ok (.invokevirtual 48, 3) := by decide +kernel
theorem kd_T_create_182 : decode kc_T_create 182 = .ok (.aload_n 0, 1) := by decide +kernel
theorem kd_T_create_183 : decode kc_T_create 183 = .ok (.getfield 12, 3) := by decide +kernel
theorem kd_T_create_186 : decode kc_T_create 186 = .ok (.iload 5, 2) := by decide +kernel
theorem kd_T_create_188 : decode kc_T_create 188 = .ok (.aload_n 0, 1) := by decide +kernel
theorem kd_T_create_189 : decode kc_T_create 189 = .ok (.getfield 31, 3) := by decide +kernel
theorem kd_T_create_192 : decode kc_T_create 192 = .ok (.getfield 71, 3) := by decide +kernel
theorem kd_T_create_195 : decode kc_T_create 195 = .ok (.iload 7, 2) := by decide +kernel
theorem kd_T_create_197 : decode kc_T_create 197 = .ok (.invokevirtual 94, 3) := by decide +kernel
theorem kd_T_create_200 : decode kc_T_create 200 = .ok (.iload 7, 2) := by decide +kernel
theorem kd_T_create_202 : decode kc_T_create 202 = .ok (.ireturn, 1) := by decide +kernel
theorem kd_T_link_0 : decode kc_T_link 0 = .ok (.aload_n 0, 1) := by decide +kernel
theorem kd_T_link_1 : decode kc_T_link 1 = .ok (.getfield 31, 3) := by decide +kernel
theorem kd_T_link_4 : decode kc_T_link 4 = .ok (.invokevirtual 98, 3) := by decide +kernel
theorem kd_T_link_7 : decode kc_T_link 7 = .ok (.istore_n 2, 1) := by decide +kernel
theorem kd_T_link_8 : decode kc_T_link 8 = .ok (.aload_n 0, 1) := by decide +kernel
theorem kd_T_link_9 : decode kc_T_link 9 = .ok (.iload_n 1, 1) := by decide +kernel
theorem kd_T_link_10 : decode kc_T_link 10 = .ok (.iconst 0, 1) := by decide +kernel
theorem kd_T_link_11 : decode kc_T_link 11 = .ok (.iload_n 2, 1) := by decide +kernel
theorem kd_T_link_12 : decode kc_T_link 12 = .ok (.invokevirtual 60, 3) := by decide +kernel
theorem kd_T_link_15 : decode kc_T_link 15 = .ok (.istore_n 3, 1) := by decide +kernel
theorem kd_T_link_16 : decode kc_T_link 16 = .ok (.aload_n 0, 1) := by decide +kernel
theorem kd_T_link_17 : decode kc_T_link 17 = .ok (.iload_n 1, 1) := by decide +kernel
theorem kd_T_link_18 : decode kc_T_link 18 = .ok (.iload_n 2, 1) := by decide +kernel
theorem kd_T_link_19 : decode kc_T_link 19 = .ok (.iconst 1, 1) := by decide +kernel
theorem kd_T_link_20 : decode kc_T_link 20 = .ok (.iadd, 1) := by decide +kernel
theorem kd_T_link_21 : decode kc_T_link 21 = .ok (.aload_n 0, 1) := by decide +kernel
theorem kd_T_link_22 : decode kc_T_link 22 = .ok (.getfield 31, 3) := by decide +kernel
theorem kd_T_link_25 : decode kc_T_link 25 = .ok (.iload_n 2, 1) := by decide +kernel
theorem kd_T_link_26 : decode kc_T_link 26 = .ok (.iconst 1, 1) := by decide +kernel
theorem kd_T_link_27 : decode kc_T_link 27 = .ok (.iadd, 1) := by decide +kernel
theorem kd_T_link_28 : decode kc_T_link 28 = .ok (.aload_n 0, 1) := by decide +kernel
theorem kd_T_link_29 : decode kc_T_link 29 = .ok (.getfield 31, 3) := by decide +kernel
theorem kd_T_link_32 : decode kc_T_link 32 = .ok (.getfield 56, 3) := by decide +kernel
theorem kd_T_link_35 : decode kc_T_link 35 = .ok (.invokevirtual 67, 3) := by decide +kernel
theorem kd_T_link_38 : decode kc_T_link 38 = .ok (.invokevirtual 60, 3) := by decide +kernel
theorem kd_T_link_41 : decode kc_T_link 41 = .ok (.istore 4, 2) := by decide +kernel
theorem kd_T_link_43 : decode kc_T_link 43 = .ok (.aload_n 0, 1) := by decide +kernel
theorem kd_T_link_44 : decode kc_T_link 44 = .ok (.getfield 31, 3) := by decide +kernel
theorem kd_T_link_47 : decode kc_T_link 47 = .ok (.invokevirtual 64, 3) := by decide +kernel
theorem kd_T_link_50 : decode kc_T_link 50 = .ok (.iload_n 3, 1) := by decide +kernel
theorem kd_T_link_51 : decode kc_T_link 51 = .ok (.iconst (-1), 1) := by decide +kernel
theorem kd_T_link_52 : decode kc_T_link 52 = .ok (.if_icmp .eq 9, 3) := by decide +kernel
theorem kd_T_link_55 : decode kc_T_link 55 = .ok (.iload 4, 2) := by decide +kernel
theorem kd_T_link_57 : decode kc_T_link 57 = .ok (.iconst (-1), 1) := by decide +kernel
theorem kd_T_link_58 : decode kc_T_link 58 = .ok (.if_icmp .ne 5, 3) := by decide +kernel
theorem kd_T_link_61 : decode kc_T_link 61 = .ok (.iconst (-1), 1) := by decide +kernel
theorem kd_T_link_62 : decode kc_T_link 62 = .ok (.ireturn, 1) := by decide +kernel
theorem kd_T_link_63 : decode kc_T_link 63 = .ok (.aload_n 0, 1) := by decide +kernel
theorem kd_T_link_64 : decode kc_T_link 64 = .ok (.getfield 20, 3) := by decide +kernel
theorem kd_T_link_67 : decode kc_T_link 67 = .ok (.iload_n 3, 1) := by decide +kernel
theorem kd_T_link_68 : decode kc_T_link 68 = .ok (.invokevirtual 82, 3) := by decide +kernel
theorem kd_T_link_71 : decode kc_T_link 71 = .ok (.iconst 1, 1) := by decide +kernel
theorem kd_T_link_72 : decode kc_T_link 72 = .ok (.if_icmp .eq 17, 3) := by decide +kernel
theorem kd_T_link_75 : decode kc_T_link 75 = .ok (.aload_n 0, 1) := by decide +kernel
theorem kd_T_link_76 : decode kc_T_link 76 = .ok (.getfield 20, 3) := by decide +kernel
theorem kd_T_link_79 : decode kc_T_link 79 = .ok (.iload_n 3, 1) := by decide +kernel
theorem kd_T_link_80 : decode kc_T_link 80 = .ok (.invokevirtual 101, 3) := by decide +kernel
theorem kd_T_link_83 : decode kc_T_link 83 = .ok (.sipush 32767, 3) := by decide +kernel
theorem kd_T_link_86 : decode kc_T_link 86 = .ok (.if_icmp .lt 5, 3) := by decide +kernel
theorem kd_T_link_89 : decode kc_T_link 89 = .ok (.iconst (-1), 1) := by decide +kernel
theorem kd_T_link_90 : decode kc_T_link 90 = .ok (.ireturn, 1) := by decide +kernel
theorem kd_T_link_91 : decode kc_T_link 91 = .ok (.aload_n 0, 1) := by decide +kernel
theorem kd_T_link_92 : decode kc_T_link 92 = .ok (.getfield 12, 3) := by decide +kernel
theorem kd_T_link_95 : decode kc_T_link 95 = .ok (.iload 4, 2) := by decide +kernel
theorem kd_T_link_97 : decode kc_T_link 97 = .ok (.aload_n 0, 1) := by decide +kernel
theorem kd_T_link_98 : decode kc_T_link 98 = .ok (.getfield 31, 3) := by decide +kernel
theorem kd_T_link_101 : decode kc_T_link 101 = .ok (.getfield 71, 3) := by decide +kernel
theorem kd_T_link_104 : decode kc_T_link 104 = .ok (.invokevirtual 74, 3) := by decide +kernel
theorem kd_T_link_107 : decode kc_T_link 107 = .ok (.iconst (-1), 1) := by decide +kernel
theorem kd_T_link_108 : decode kc_T_link 108 = .ok (.if_icmp .ne 16, 3) := by decide +kernel
theorem kd_T_link_111 : decode kc_T_link 111 = .ok (.aload_n 0, 1) := by decide +kernel
theorem kd_T_link_112 : decode kc_T_link 112 = .ok (.getfield 12, 3) := by decide +kernel
theorem kd_T_link_115 : decode kc_T_link 115 = .ok (.iload 4, 2) := by decide +kernel
theorem kd_T_link_117 : decode kc_T_link 117 = .ok (.iconst 0, 1) := by decide +kernel
theorem kd_T_link_118 : decode kc_T_link 118 = .ok (.invokevirtual 90, 3) := by decide +kernel
theorem kd_T_link_121 : decode kc_T_link 121 = .ok (.ifCond .ne 5, 3) := by decide +kernel
theorem kd_T_link_124 : decode kc_T_link 124 = .ok (.iconst (-1), 1) := by decide +kernel
theorem kd_T_link_125 : decode kc_T_link 125 = .ok (.ireturn, 1) := by decide +kernel
theorem kd_T_link_126 : decode kc_T_link 126 = .ok (.aload_n 0, 1) := by decide +kernel
theorem kd_T_link_127 : decode kc_T_link 127 = .ok (.getfield 12, 3) := by decide +kernel
theorem kd_T_link_130 : decode kc_T_link 130 = .ok (.iload 4, 2) := by decide +kernel
theorem kd_T_link_132 : decode kc_T_link 132 = .ok (.aload_n 0, 1) := by decide +kernel
theorem kd_T_link_133 : decode kc_T_link 133 = .ok (.getfield 31, 3) := by decide +kernel
theorem kd_T_link_136 : decode kc_T_link 136 = .ok (.getfield 71, 3) := by decide +kernel
theorem kd_T_link_139 : decode kc_T_link 139 = .ok (.iload_n 3, 1) := by decide +kernel
theorem kd_T_link_140 : decode kc_T_link 140 = .ok (.invokevirtual 94, 3) := by decide +kernel
theorem kd_T_link_143 : decode kc_T_link 143 = .ok (.aload_n 0, 1) := by decide +kernel
theorem kd_T_link_144 : decode kc_T_link 144 = .ok (.getfield 20, 3) := by decide +kernel
theorem kd_T_link_147 : decode kc_T_link 147 = .ok (.iload_n 3, 1) := by decide +kernel
theorem kd_T_link_148 : decode kc_T_link 148 = .ok (.iconst 1, 1) := by decide +kernel
theorem kd_T_link_149 : decode kc_T_link 149 = .ok (.invokevirtual 104, 3) := by decide +kernel
theorem kd_T_link_152 : decode kc_T_link 152 = .ok (.iload_n 3, 1) := by decide +kernel
theorem kd_T_link_153 : decode kc_T_link 153 = .ok (.ireturn, 1) := by decide +kernel
theorem kd_T_unlink_0 : decode kc_T_unlink 0 = .ok (.aload_n 0, 1) := by decide +kernel
theorem kd_T_unlink_1 : decode kc_T_unlink 1 = .ok (.iload_n 1, 1) := by decide +kernel
theorem kd_T_unlink_2 : decode kc_T_unlink 2 = .ok (.iconst 0, 1) := by decide +kernel
theorem kd_T_unlink_3 : decode kc_T_unlink 3 = .ok (.aload_n 0, 1) := by decide +kernel
theorem kd_T_unlink_4 : decode kc_T_unlink 4 = .ok (.getfield 31, 3) := by decide +kernel
theorem kd_T_unlink_7 : decode kc_T_unlink 7 = .ok (.iconst 0, 1) := by decide +kernel
theorem kd_T_unlink_8 : decode kc_T_unlink 8 = .ok (.aload_n 0, 1) := by decide +kernel
theorem kd_T_unlink_9 : decode kc_T_unlink 9 = .ok (.getfield 31, 3) := by decide +kernel
theorem kd_T_unlink_12 : decode kc_T_unlink 12 = .ok (.getfield 56, 3) := by decide +kernel
theorem kd_T_unlink_15 : decode kc_T_unlink 15 = .ok (.invokevirtual 67, 3) := by decide +kernel
theorem kd_T_unlink_18 : decode kc_T_unlink 18 = .ok (.invokevirtual 60, 3) := by decide +kernel
theorem kd_T_unlink_21 : decode kc_T_unlink 21 = .ok (.istore_n 2, 1) := by decide +kernel
theorem kd_T_unlink_22 : decode kc_T_unlink 22 = .ok (.aload_n 0, 1) := by decide +kernel
theorem kd_T_unlink_23 : decode kc_T_unlink 23 = .ok (.getfield 31, 3) := by decide +kernel
theorem kd_T_unlink_26 : decode kc_T_unlink 26 = .ok (.invokevirtual 64, 3) := by decide +kernel
theorem kd_T_unlink_29 : decode kc_T_unlink 29 = .ok (.iload_n 2, 1) := by decide +kernel
theorem kd_T_unlink_30 : decode kc_T_unlink 30 = .ok (.iconst (-1), 1) := by decide +kernel
theorem kd_T_unlink_31 : decode kc_T_unlink 31 = .ok (.if_icmp .eq 13, 3) := by decide +kernel
theorem kd_T_unlink_34 : decode kc_T_unlink 34 = .ok (.aload_n 0, 1) := by decide +kernel
theorem kd_T_unlink_35 : decode kc_T_unlink 35 = .ok (.getfield 31, 3) := by decide +kernel
theorem kd_T_unlink_38 : decode kc_T_unlink 38 = .ok (.invokevirtual 107, 3) := by decide +kernel
theorem kd_T_unlink_41 : decode kc_T_unlink 41 = .ok (.ifCond .eq 5, 3) := by decide +kernel
theorem kd_T_unlink_44 : decode kc_T_unlink 44 = .ok (.iconst (-1), 1) := by decide +kernel
theorem kd_T_unlink_45 : decode kc_T_unlink 45 = .ok (.ireturn, 1) := by decide +kernel
theorem kd_T_unlink_46 : decode kc_T_unlink 46 = .ok (.aload_n 0, 1) := by decide +kernel
theorem kd_T_unlink_47 : decode kc_T_unlink 47 = .ok (.getfield 12, 3) := by decide +kernel
theorem kd_T_unlink_50 : decode kc_T_unlink 50 = .ok (.iload_n 2, 1) := by decide +kernel
theorem kd_T_unlink_51 : decode kc_T_unlink 51 = .ok (.aload_n 0, 1) := by decide +kernel
theorem kd_T_unlink_52 : decode kc_T_unlink 52 = .ok (.getfield 31, 3) := by decide +kernel
theorem kd_T_unlink_55 : decode kc_T_unlink 55 = .ok (.getfield 71, 3) := by decide +kernel
theorem kd_T_unlink_58 : decode kc_T_unlink 58 = .ok (.invokevirtual 74, 3) := by decide +kernel
theorem kd_T_unlink_61 : decode kc_T_unlink 61 = .ok (.istore_n 3, 1) := by decide +kernel
theorem kd_T_unlink_62 : decode kc_T_unlink 62 = .ok (.iload_n 3, 1) := by decide +kernel
theorem kd_T_unlink_63 : decode kc_T_unlink 63 = .ok (.iconst (-1), 1) := by decide +kernel
theorem kd_T_unlink_64 : decode kc_T_unlink 64 = .ok (.if_icmp .ne 5, 3) := by decide +kernel
theorem kd_T_unlink_67 : decode kc_T_unlink 67 = .ok (.iconst (-1), 1) := by decide +kernel
theorem kd_T_unlink_68 : decode kc_T_unlink 68 = .ok (.ireturn, 1) := by decide +kernel
theorem kd_T_unlink_69 : decode kc_T_unlink 69 = .ok (.aload_n 0, 1) := by decide +kernel
theorem kd_T_unlink_70 : decode kc_T_unlink 70 = .ok (.getfield 27, 3) := by decide +kernel
theorem kd_T_unlink_73 : decode kc_T_unlink 73 = .ok (.iload_n 3, 1) := by decide +kernel
theorem kd_T_unlink_74 : decode kc_T_unlink 74 = .ok (.ldc 78, 2) := by decide +kernel
theorem kd_T_unlink_76 : decode kc_T_unlink 76 = .ok (.invokevirtual 79, 3) := by decide +kernel
theorem kd_T_unlink_79 : decode kc_T_unlink 79 = .ok (.istore 4, 2) := by decide +kernel
theorem kd_T_unlink_81 : decode kc_T_unlink 81 = .ok (.aload_n 0, 1) := by decide +kernel
theorem kd_T_unlink_82 : decode kc_T_unlink 82 = .ok (.getfield 20, 3) := by decide +kernel
theorem kd_T_unlink_85 : decode kc_T_unlink 85 = .ok (.iload 4, 2) := by decide +kernel
theorem kd_T_unlink_87 : decode kc_T_unlink 87 = .ok (.invokevirtual 82, 3) := by decide +kernel
theorem kd_T_unlink_90 : decode kc_T_unlink 90 = .ok (.iconst 1, 1) := by decide +kernel
theorem kd_T_unlink_91 : decode kc_T_unlink 91 = .ok (.if_icmp .ne 27, 3) := by decide +kernel
theorem kd_T_unlink_94 : decode kc_T_unlink 94 = .ok (.aload_n 0, 1) := by decide +kernel
theorem kd_T_unlink_95 : decode kc_T_unlink 95 = .ok (.getfield 12, 3) := by decide +kernel
theorem kd_T_unlink_98 : decode kc_T_unlink 98 = .ok (.iload 4, 2) := by decide +kernel
theorem kd_T_unlink_100 : decode kc_T_unlink 100 = .ok (.invokevirtual 111, 3) := by decide +kernel
theorem kd_T_unlink_103 : decode kc_T_unlink 103 = .ok (.ifCond .ne 5, 3) := by decide +kernel
theorem kd_T_unlink_106 : decode kc_T_unlink 106 = .ok (.iconst (-1), 1) := by decide +kernel
theorem kd_T_unlink_107 : decode kc_T_unlink 107 = .ok (.ireturn, 1) := by decide +kernel
theorem kd_T_unlink_108 : decode kc_T_unlink 108 = .ok (.aload_n 0, 1) := by decide +kernel
theorem kd_T_unlink_109 : decode kc_T_unlink 109 = .ok (.getfield 12, 3) := by decide +kernel
theorem kd_T_unlink_112 : decode kc_T_unlink 112 = .ok (.iload 4, 2) := by decide +kernel
theorem kd_T_unlink_114 : decode kc_T_unlink 114 = .ok (.iload_n 2, 1) := by decide +kernel
theorem kd_T_unlink_115 : decode kc_T_unlink 115 = .ok (.invokevirtual 115, 3) := by decide +kernel
theorem kd_T_unlink_118 : decode kc_T_unlink 118 = .ok (.aload_n 0, 1) := by decide +kernel
theorem kd_T_unlink_119 : decode kc_T_unlink 119 = .ok (.getfield 12, 3) := by decide +kernel
theorem kd_T_unlink_122 : decode kc_T_unlink 122 = .ok (.iload_n 3, 1) := by decide +kernel
theorem kd_T_unlink_123 : decode kc_T_unlink 123 = .ok (.invokevirtual 118, 3) := by decide +kernel
theorem kd_T_unlink_126 : decode kc_T_unlink 126 = .ok (.aload_n 0, 1) := by decide +kernel
theorem kd_T_unlink_127 : decode kc_T_unlink 127 = .ok (.getfield 20, 3) := by decide +kernel
theorem kd_T_unlink_130 : decode kc_T_unlink 130 = .ok (.iload 4, 2) := by decide +kernel
theorem kd_T_unlink_132 : decode kc_T_unlink 132 = .ok (.iconst (-1), 1) := by decide +kernel
theorem kd_T_unlink_133 : decode kc_T_unlink 133 = .ok (.invokevirtual 104, 3) := by decide +kernel
theorem kd_T_unlink_136 : decode kc_T_unlink 136 = .ok (.aload_n 0, 1) := by decide +kernel
theorem kd_T_unlink_137 : decode kc_T_unlink 137 = .ok (.getfield 20, 3) := by decide +kernel
theorem kd_T_unlink_140 : decode kc_T_unlink 140 = .ok (.iload 4, 2) := by decide +kernel
theorem kd_T_unlink_142 : decode kc_T_unlink 142 = .ok (.invokevirtual 122, 3) := by decide +kernel
theorem kd_T_unlink_145 : decode kc_T_unlink 145 = .ok (.pop, 1) := by decide +kernel
theorem kd_T_unlink_146 : decode kc_T_unlink 146 = .ok (.iload 4, 2) := by decide +kernel
theorem kd_T_unlink_148 : decode kc_T_unlink 148 = .ok (.ireturn, 1) := by decide +kernel
theorem kd_T_hold_0 : decode kc_T_hold 0 = .ok (.aload_n 0, 1) := by decide +kernel
theorem kd_T_hold_1 : decode kc_T_hold 1 = .ok (.getfield 20, 3) := by decide +kernel
theorem kd_T_hold_4 : decode kc_T_hold 4 = .ok (.iload_n 1, 1) := by decide +kernel
theorem kd_T_hold_5 : decode kc_T_hold 5 = .ok (.invokevirtual 125, 3) := by decide +kernel
theorem kd_T_hold_8 : decode kc_T_hold 8 = .ok (.ifCond .ne 5, 3) := by decide +kernel
theorem kd_T_hold_11 : decode kc_T_hold 11 = .ok (.iconst 0, 1) := by decide +kernel
theorem kd_T_hold_12 : decode kc_T_hold 12 = .ok (.ireturn, 1) := by decide +kernel
theorem kd_T_hold_13 : decode kc_T_hold 13 = .ok (.aload_n 0, 1) := by decide +kernel
theorem kd_T_hold_14 : decode kc_T_hold 14 = .ok (.getfield 20, 3) := by decide +kernel
theorem kd_T_hold_17 : decode kc_T_hold 17 = .ok (.iload_n 1, 1) := by decide +kernel
theorem kd_T_hold_18 : decode kc_T_hold 18 = .ok (.iconst 1, 1) := by decide +kernel
theorem kd_T_hold_19 : decode kc_T_hold 19 = .ok (.invokevirtual 128, 3) := by decide +kernel
theorem kd_T_hold_22 : decode kc_T_hold 22 = .ok (.iconst 1, 1) := by decide +kernel
theorem kd_T_hold_23 : decode kc_T_hold 23 = .ok (.ireturn, 1) := by decide +kernel
theorem kd_T_leave_0 : decode kc_T_leave 0 = .ok (.aload_n 0, 1) := by decide +kernel
theorem kd_T_leave_1 : decode kc_T_leave 1 = .ok (.getfield 20, 3) := by decide +kernel
theorem kd_T_leave_4 : decode kc_T_leave 4 = .ok (.iload_n 1, 1) := by decide +kernel
theorem kd_T_leave_5 : decode kc_T_leave 5 = .ok (.invokevirtual 131, 3) := by decide +kernel
theorem kd_T_leave_8 : decode kc_T_leave 8 = .ok (.ifCond .gt 5, 3) := by decide +kernel
theorem kd_T_leave_11 : decode kc_T_leave 11 = .ok (.iconst 0, 1) := by decide +kernel
theorem kd_T_leave_12 : decode kc_T_leave 12 = .ok (.ireturn, 1) := by decide +kernel
theorem kd_T_leave_13 : decode kc_T_leave 13 = .ok (.aload_n 0, 1) := by decide +kernel
theorem kd_T_leave_14 : decode kc_T_leave 14 = .ok (.getfield 20, 3) := by decide +kernel
theorem kd_T_leave_17 : decode kc_T_leave 17 = .ok (.iload_n 1, 1) := by decide +kernel
theorem kd_T_leave_18 : decode kc_T_leave 18 = .ok (.iconst (-1), 1) := by decide +kernel
theorem kd_T_leave_19 : decode kc_T_leave 19 = .ok (.invokevirtual 128, 3) := by decide +kernel
theorem kd_T_leave_22 : decode kc_T_leave 22 = .ok (.aload_n 0, 1) := by decide +kernel
theorem kd_T_leave_23 : decode kc_T_leave 23 = .ok (.getfield 20, 3) := by decide +kernel
theorem kd_T_leave_26 : decode kc_T_leave 26 = .ok (.iload_n 1, 1) := by decide +kernel
theorem kd_T_leave_27 : decode kc_T_leave 27 = .ok (.invokevirtual 122, 3) := by decide +kernel
theorem kd_T_leave_30 : decode kc_T_leave 30 = .ok (.pop, 1) := by decide +kernel
theorem kd_T_leave_31 : decode kc_T_leave 31 = .ok (.iconst 1, 1) := by decide +kernel
theorem kd_T_leave_32 : decode kc_T_leave 32 = .ok (.ireturn, 1) := by decide +kernel
theorem kd_T_read_0 : decode kc_T_read 0 = .ok (.aload_n 0, 1) := by decide +kernel
theorem kd_T_read_1 : decode kc_T_read 1 = .ok (.getfield 20, 3) := by decide +kernel
theorem kd_T_read_4 : decode kc_T_read 4 = .ok (.iload_n 1, 1) := by decide +kernel
theorem kd_T_read_5 : decode kc_T_read 5 = .ok (.invokevirtual 82, 3) := by decide +kernel
theorem kd_T_read_8 : decode kc_T_read 8 = .ok (.istore 4, 2) := by decide +kernel
theorem kd_T_read_10 : decode kc_T_read 10 = .ok (.iload 4, 2) := by decide +kernel
theorem kd_T_read_12 : decode kc_T_read 12 = .ok (.ifCond .eq 24, 3) := by decide +kernel
theorem kd_T_read_15 : decode kc_T_read 15 = .ok (.iload 4, 2) := by decide +kernel
theorem kd_T_read_17 : decode kc_T_read 17 = .ok (.iconst 3, 1) := by decide +kernel
theorem kd_T_read_18 : decode kc_T_read 18 = .ok (.if_icmp .eq 18, 3) := by decide +kernel
theorem kd_T_read_21 : decode kc_T_read 21 = .ok (.iload_n 2, 1) := by decide +kernel
theorem kd_T_read_22 : decode kc_T_read 22 = .ok (.ifCond .lt 14, 3) := by decide +kernel
theorem kd_T_read_25 : decode kc_T_read 25 = .ok (.iload_n 3, 1) := by decide +kernel
theorem kd_T_read_26 : decode kc_T_read 26 = .ok (.ifCond .lt 10, 3) := by decide +kernel
theorem kd_T_read_29 : decode kc_T_read 29 = .ok (.iload_n 3, 1) := by decide +kernel
theorem kd_T_read_30 : decode kc_T_read 30 = .ok (.sipush 3072, 3) := by decide +kernel
theorem kd_T_read_33 : decode kc_T_read 33 = .ok (.if_icmp .le 5, 3) := by decide +kernel
theorem kd_T_read_36 : decode kc_T_read 36 = .ok (.iconst (-1), 1) := by decide +kernel
theorem kd_T_read_37 : decode kc_T_read 37 = .ok (.ireturn, 1) := by decide +kernel
theorem kd_T_read_38 : decode kc_T_read 38 = .ok (.aload_n 0, 1) := by decide +kernel
theorem kd_T_read_39 : decode kc_T_read 39 = .ok (.getfield 20, 3) := by decide +kernel
theorem kd_T_read_42 : decode kc_T_read 42 = .ok (.iload_n 1, 1) := by decide +kernel
theorem kd_T_read_43 : decode kc_T_read 43 = .ok (.invokevirtual 134, 3) := by decide +kernel
theorem kd_T_read_46 : decode kc_T_read 46 = .ok (.istore 5, 2) := by decide +kernel
theorem kd_T_read_48 : decode kc_T_read 48 = .ok (.iload_n 2, 1) := by decide +kernel
theorem kd_T_read_49 : decode kc_T_read 49 = .ok (.iload 5, 2) := by decide +kernel
theorem kd_T_read_51 : decode kc_T_read 51 = .ok (.if_icmp .lt 5, 3) := by decide +kernel
theorem kd_T_read_54 : decode kc_T_read 54 = .ok (.iconst 0, 1) := by decide +kernel
theorem kd_T_read_55 : decode kc_T_read 55 = .ok (.ireturn, 1) := by decide +kernel
theorem kd_T_read_56 : decode kc_T_read 56 = .ok (.aload_n 0, 1) := by decide +kernel
theorem kd_T_read_57 : decode kc_T_read 57 = .ok (.getfield 20, 3) := by decide +kernel
theorem kd_T_read_60 : decode kc_T_read 60 = .ok (.iload_n 1, 1) := by decide +kernel
theorem kd_T_read_61 : decode kc_T_read 61 = .ok (.iload_n 2, 1) := by decide +kernel
theorem kd_T_read_62 : decode kc_T_read 62 = .ok (.iload_n 3, 1) := by decide +kernel
theorem kd_T_read_63 : decode kc_T_read 63 = .ok (.iload 5, 2) := by decide +kernel
theorem kd_T_read_65 : decode kc_T_read 65 = .ok (.iload_n 2, 1) := by decide +kernel
theorem kd_T_read_66 : decode kc_T_read 66 = .ok (.isub, 1) := by decide +kernel
theorem kd_T_read_67 : decode kc_T_read 67 = .ok (.invokestatic 137, 3) := by decide +kernel
theorem kd_T_read_70 : decode kc_T_read 70 = .ok (.aload_n 0, 1) := by decide +kernel
theorem kd_T_read_71 : decode kc_T_read 71 = .ok (.getfield 35, 3) := by decide +kernel
theorem kd_T_read_74 : decode kc_T_read 74 = .ok (.invokevirtual 142, 3) := by decide +kernel
theorem kd_T_read_77 : decode kc_T_read 77 = .ok (.ireturn, 1) := by decide +kernel
theorem kd_T_save_0 : decode kc_T_save 0 = .ok (.aload_n 0, 1) := by decide +kernel
theorem kd_T_save_1 : decode kc_T_save 1 = .ok (.getfield 20, 3) := by decide +kernel
theorem kd_T_save_4 : decode kc_T_save 4 = .ok (.iload_n 1, 1) := by decide +kernel
theorem kd_T_save_5 : decode kc_T_save 5 = .ok (.invokevirtual 82, 3) := by decide +kernel
theorem kd_T_save_8 : decode kc_T_save 8 = .ok (.iconst 2, 1) := by decide +kernel
theorem kd_T_save_9 : decode kc_T_save 9 = .ok (.if_icmp .ne 14, 3) := by decide +kernel
theorem kd_T_save_12 : decode kc_T_save 12 = .ok (.iload_n 3, 1) := by decide +kernel
theorem kd_T_save_13 : decode kc_T_save 13 = .ok (.ifCond .lt 10, 3) := by decide +kernel
theorem kd_T_save_16 : decode kc_T_save 16 = .ok (.iload_n 3, 1) := by decide +kernel
theorem kd_T_save_17 : decode kc_T_save 17 = .ok (.sipush 3072, 3) := by decide +kernel
theorem kd_T_save_20 : decode kc_T_save 20 = .ok (.if_icmp .le 5, 3) := by decide +kernel
theorem kd_T_save_23 : decode kc_T_save 23 = .ok (.iconst (-1), 1) := by decide +kernel
theorem kd_T_save_24 : decode kc_T_save 24 = .ok (.ireturn, 1) := by decide +kernel
theorem kd_T_save_25 : decode kc_T_save 25 = .ok (.iload_n 2, 1) := by decide +kernel
theorem kd_T_save_26 : decode kc_T_save 26 = .ok (.ifCond .lt 23, 3) := by decide +kernel
theorem kd_T_save_29 : decode kc_T_save 29 = .ok (.iload_n 2, 1) := by decide +kernel
theorem kd_T_save_30 : decode kc_T_save 30 = .ok (.aload_n 0, 1) := by decide +kernel
theorem kd_T_save_31 : decode kc_T_save 31 = .ok (.getfield 20, 3) := by decide +kernel
theorem kd_T_save_34 : decode kc_T_save 34 = .ok (.iload_n 1, 1) := by decide +kernel
theorem kd_T_save_35 : decode kc_T_save 35 = .ok (.invokevirtual 134, 3) := by decide +kernel
theorem kd_T_save_38 : decode kc_T_save 38 = .ok (.if_icmp .gt 11, 3) := by decide +kernel
theorem kd_T_save_41 : decode kc_T_save 41 = .ok (.iload_n 2, 1) := by decide +kernel
theorem kd_T_save_42 : decode kc_T_save 42 = .ok (.iload_n 3, 1) := by decide +kernel
theorem kd_T_save_43 : decode kc_T_save 43 = .ok (.iadd, 1) := by decide +kernel
theorem kd_T_save_44 : decode kc_T_save 44 = .ok (.ldc 146, 2) := by decide +kernel
theorem kd_T_save_46 : decode kc_T_save 46 = .ok (.if_icmp .le 5, 3) := by decide +kernel
theorem kd_T_save_49 : decode kc_T_save 49 = .ok (.iconst (-1), 1) := by decide +kernel
theorem kd_T_save_50 : decode kc_T_save 50 = .ok (.ireturn, 1) := by decide +kernel
theorem kd_T_save_51 : decode kc_T_save 51 = .ok (.aload_n 0, 1) := by decide +kernel
theorem kd_T_save_52 : decode kc_T_save 52 = .ok (.getfield 20, 3) := by decide +kernel
theorem kd_T_save_55 : decode kc_T_save 55 = .ok (.iload_n 1, 1) := by decide +kernel
theorem kd_T_save_56 : decode kc_T_save 56 = .ok (.iload_n 2, 1) := by decide +kernel
theorem kd_T_save_57 : decode kc_T_save 57 = .ok (.iload_n 3, 1) := by decide +kernel
theorem kd_T_save_58 : decode kc_T_save 58 = .ok (.aload_n 0, 1) := by decide +kernel
theorem kd_T_save_59 : decode kc_T_save 59 = .ok (.getfield 35, 3) := by decide +kernel
theorem kd_T_save_62 : decode kc_T_save 62 = .ok (.invokevirtual 147, 3) := by decide +kernel
theorem kd_T_save_65 : decode kc_T_save 65 = .ok (.ireturn, 1) := by decide +kernel
theorem kd_T_clear_0 : decode kc_T_clear 0 = .ok (.aload_n 0, 1) := by decide +kernel
theorem kd_T_clear_1 : decode kc_T_clear 1 = .ok (.getfield 20, 3) := by decide +kernel
theorem kd_T_clear_4 : decode kc_T_clear 4 = .ok (.iload_n 1, 1) := by decide +kernel
theorem kd_T_clear_5 : decode kc_T_clear 5 = .ok (.invokevirtual 82, 3) := by decide +kernel
theorem kd_T_clear_8 : decode kc_T_clear 8 = .ok (.iconst 2, 1) := by decide +kernel
theorem kd_T_clear_9 : decode kc_T_clear 9 = .ok (.if_icmp .eq 5, 3) := by decide +kernel
theorem kd_T_clear_12 : decode kc_T_clear 12 = .ok (.iconst 0, 1) := by decide +kernel
theorem kd_T_clear_13 : decode kc_T_clear 13 = .ok (.ireturn, 1) := by decide +kernel
theorem kd_T_clear_14 : decode kc_T_clear 14 = .ok (.aload_n 0, 1) := by decide +kernel
theorem kd_T_clear_15 : decode kc_T_clear 15 = .ok (.getfield 20, 3) := by decide +kernel
theorem kd_T_clear_18 : decode kc_T_clear 18 = .ok (.iload_n 1, 1) := by decide +kernel
theorem kd_T_clear_19 : decode kc_T_clear 19 = .ok (.invokevirtual 150, 3) := by decide +kernel
theorem kd_T_clear_22 : decode kc_T_clear 22 = .ok (.aload_n 0, 1) := by decide +kernel
theorem kd_T_clear_23 : decode kc_T_clear 23 = .ok (.getfield 20, 3) := by decide +kernel
theorem kd_T_clear_26 : decode kc_T_clear 26 = .ok (.iload_n 1, 1) := by decide +kernel
theorem kd_T_clear_27 : decode kc_T_clear 27 = .ok (.iconst 0, 1) := by decide +kernel
theorem kd_T_clear_28 : decode kc_T_clear 28 = .ok (.invokevirtual 153, 3) := by decide +kernel
theorem kd_T_clear_31 : decode kc_T_clear 31 = .ok (.iconst 1, 1) := by decide +kernel
theorem kd_T_clear_32 : decode kc_T_clear 32 = .ok (.ireturn, 1) := by decide +kernel
theorem kd_T_about_0 : decode kc_T_about 0 = .ok (.aload_n 0, 1) := by decide +kernel
theorem kd_T_about_1 : decode kc_T_about 1 = .ok (.getfield 20, 3) := by decide +kernel
theorem kd_T_about_4 : decode kc_T_about 4 = .ok (.iload_n 1, 1) := by decide +kernel
theorem kd_T_about_5 : decode kc_T_about 5 = .ok (.invokevirtual 156, 3) := by decide +kernel
theorem kd_T_about_8 : decode kc_T_about 8 = .ok (.ifCond .ne 5, 3) := by decide +kernel
theorem kd_T_about_11 : decode kc_T_about 11 = .ok (.iconst (-1), 1) := by decide +kernel
theorem kd_T_about_12 : decode kc_T_about 12 = .ok (.ireturn, 1) := by decide +kernel
theorem kd_T_about_13 : decode kc_T_about 13 = .ok (.iload_n 2, 1) := by decide +kernel
theorem kd_T_about_14 : decode kc_T_about 14 = .ok (.tableswitch 92 0 5 #[38, 47, 56, 65, 74, 83], 38) := by decide +kernel
theorem kd_T_about_52 : decode kc_T_about 52 = .ok (.aload_n 0, 1) := by decide +kernel
theorem kd_T_about_53 : decode kc_T_about 53 = .ok (.getfield 20, 3) := by decide +kernel
theorem kd_T_about_56 : decode kc_T_about 56 = .ok (.iload_n 1, 1) := by decide +kernel
theorem kd_T_about_57 : decode kc_T_about 57 = .ok (.invokevirtual 82, 3) := by decide +kernel
theorem kd_T_about_60 : decode kc_T_about 60 = .ok (.ireturn, 1) := by decide +kernel
theorem kd_T_about_61 : decode kc_T_about 61 = .ok (.aload_n 0, 1) := by decide +kernel
theorem kd_T_about_62 : decode kc_T_about 62 = .ok (.getfield 20, 3) := by decide +kernel
theorem kd_T_about_65 : decode kc_T_about 65 = .ok (.iload_n 1, 1) := by decide +kernel
theorem kd_T_about_66 : decode kc_T_about 66 = .ok (.invokevirtual 159, 3) := by decide +kernel
theorem kd_T_about_69 : decode kc_T_about 69 = .ok (.ireturn, 1) := by decide +kernel
theorem kd_T_about_70 : decode kc_T_about 70 = .ok (.aload_n 0, 1) := by decide +kernel
theorem kd_T_about_71 : decode kc_T_about 71 = .ok (.getfield 20, 3) := by decide +kernel
theorem kd_T_about_74 : decode kc_T_about 74 = .ok (.iload_n 1, 1) := by decide +kernel
theorem kd_T_about_75 : decode kc_T_about 75 = .ok (.invokevirtual 162, 3) := by decide +kernel
theorem kd_T_about_78 : decode kc_T_about 78 = .ok (.ireturn, 1) := by decide +kernel
theorem kd_T_about_79 : decode kc_T_about 79 = .ok (.aload_n 0, 1) := by decide +kernel
theorem kd_T_about_80 : decode kc_T_about 80 = .ok (.getfield 20, 3) := by decide +kernel
theorem kd_T_about_83 : decode kc_T_about 83 = .ok (.iload_n 1, 1) := by decide +kernel
theorem kd_T_about_84 : decode kc_T_about 84 = .ok (.invokevirtual 101, 3) := by decide +kernel
theorem kd_T_about_87 : decode kc_T_about 87 = .ok (.ireturn, 1) := by decide +kernel
theorem kd_T_about_88 : decode kc_T_about 88 = .ok (.aload_n 0, 1) := by decide +kernel
theorem kd_T_about_89 : decode kc_T_about 89 = .ok (.getfield 20, 3) := by decide +kernel
theorem kd_T_about_92 : decode kc_T_about 92 = .ok (.iload_n 1, 1) := by decide +kernel
theorem kd_T_about_93 : decode kc_T_about 93 = .ok (.invokevirtual 134, 3) := by decide +kernel
theorem kd_T_about_96 : decode kc_T_about 96 = .ok (.ireturn, 1) := by decide +kernel
theorem kd_T_about_97 : decode kc_T_about 97 = .ok (.aload_n 0, 1) := by decide +kernel
theorem kd_T_about_98 : decode kc_T_about 98 = .ok (.getfield 20, 3) := by decide +kernel
theorem kd_T_about_101 : decode kc_T_about 101 = .ok (.iload_n 1, 1) := by decide +kernel
theorem kd_T_about_102 : decode kc_T_about 102 = .ok (.invokevirtual 131, 3) := by decide +kernel
theorem kd_T_about_105 : decode kc_T_about 105 = .ok (.ireturn, 1) := by decide +kernel
theorem kd_T_about_106 : decode kc_T_about 106 = .ok (.iconst (-1), 1) := by decide +kernel
theorem kd_T_about_107 : decode kc_T_about 107 = .ok (.ireturn, 1) := by decide +kernel
theorem kd_T_free_0 : decode kc_T_free 0 = .ok (.aload_n 0, 1) := by decide +kernel
theorem kd_T_free_1 : decode kc_T_free 1 = .ok (.getfield 27, 3) := by decide +kernel
theorem kd_T_free_4 : decode kc_T_free 4 = .ok (.invokevirtual 165, 3) := by decide +kernel
theorem kd_T_free_7 : decode kc_T_free 7 = .ok (.ireturn, 1) := by decide +kernel
theorem kd_T_forget_0 : decode kc_T_forget 0 = .ok (.iconst 0, 1) := by decide +kernel
theorem kd_T_forget_1 : decode kc_T_forget 1 = .ok (.istore_n 1, 1) := by decide +kernel
theorem kd_T_forget_2 : decode kc_T_forget 2 = .ok (.iconst 0, 1) := by decide +kernel
theorem kd_T_forget_3 : decode kc_T_forget 3 = .ok (.istore_n 2, 1) := by decide +kernel
theorem kd_T_forget_4 : decode kc_T_forget 4 = .ok (.iload_n 2, 1) := by decide +kernel
theorem kd_T_forget_5 : decode kc_T_forget 5 = .ok (.bipush 64, 2) := by decide +kernel
theorem kd_T_forget_7 : decode kc_T_forget 7 = .ok (.if_icmp .ge 40, 3) := by decide +kernel
theorem kd_T_forget_10 : decode kc_T_forget 10 = .ok (.aload_n 0, 1) := by decide +kernel
theorem kd_T_forget_11 : decode kc_T_forget 11 = .ok (.getfield 20, 3) := by decide +kernel
theorem kd_T_forget_14 : decode kc_T_forget 14 = .ok (.iload_n 2, 1) := by decide +kernel
theorem kd_T_forget_15 : decode kc_T_forget 15 = .ok (.aload_n 0, 1) := by decide +kernel
theorem kd_T_forget_16 : decode kc_T_forget 16 = .ok (.getfield 20, 3) := by decide +kernel
theorem kd_T_forget_19 : decode kc_T_forget 19 = .ok (.iload_n 2, 1) := by decide +kernel
theorem kd_T_forget_20 : decode kc_T_forget 20 = .ok (.invokevirtual 131, 3) := by decide +kernel
theorem kd_T_forget_23 : decode kc_T_forget 23 = .ok (.ineg, 1) := by decide +kernel
theorem kd_T_forget_24 : decode kc_T_forget 24 = .ok (.invokevirtual 128, 3) := by decide +kernel
theorem kd_T_forget_27 : decode kc_T_forget 27 = .ok (.aload_n 0, 1) := by decide +kernel
theorem kd_T_forget_28 : decode kc_T_forget 28 = .ok (.getfield 20, 3) := by decide +kernel
theorem kd_T_forget_31 : decode kc_T_forget 31 = .ok (.iload_n 2, 1) := by decide +kernel
theorem kd_T_forget_32 : decode kc_T_forget 32 = .ok (.invokevirtual 122, 3) := by decide +kernel
theorem kd_T_forget_35 : decode kc_T_forget 35 = .ok (.ifCond .eq 6, 3) := by decide +kernel
theorem kd_T_forget_38 : decode kc_T_forget 38 = .ok (.iinc 1 1, 3) := by decide +kernel
theorem kd_T_forget_41 : decode kc_T_forget 41 = .ok (.iinc 2 1, 3) := by decide +kernel
theorem kd_T_forget_44 : decode kc_T_forget 44 = .ok (.goto (-40), 3) := by decide +kernel
theorem kd_T_forget_47 : decode kc_T_forget 47 = .ok (.iload_n 1, 1) := by decide +kernel
theorem kd_T_forget_48 : decode kc_T_forget 48 = .ok (.ireturn, 1) := by decide +kernel
theorem kd_T_fill_0 : decode kc_T_fill 0 = .ok (.iload_n 1, 1) := by decide +kernel
theorem kd_T_fill_1 : decode kc_T_fill 1 = .ok (.ifCond .lt 23, 3) := by decide +kernel
theorem kd_T_fill_4 : decode kc_T_fill 4 = .ok (.iload_n 1, 1) := by decide +kernel
theorem kd_T_fill_5 : decode kc_T_fill 5 = .ok (.sipush 3072, 3) := by decide +kernel
theorem kd_T_fill_8 : decode kc_T_fill 8 = .ok (.if_icmp .gt 16, 3) := by decide +kernel
theorem kd_T_fill_11 : decode kc_T_fill 11 = .ok (.iload_n 2, 1) := by decide +kernel
theorem kd_T_fill_12 : decode kc_T_fill 12 = .ok (.ifCond .lt 12, 3) := by decide +kernel
theorem kd_T_fill_15 : decode kc_T_fill 15 = .ok (.iload_n 2, 1) := by decide +kernel
theorem kd_T_fill_16 : decode kc_T_fill 16 = .ok (.sipush 3072, 3) := by decide +kernel
theorem kd_T_fill_19 : decode kc_T_fill 19 = .ok (.iload_n 1, 1) := by decide +kernel
theorem kd_T_fill_20 : decode kc_T_fill 20 = .ok (.isub, 1) := by decide +kernel
theorem kd_T_fill_21 : decode kc_T_fill 21 = .ok (.if_icmp .le 5, 3) := by decide +kernel
theorem kd_T_fill_24 : decode kc_T_fill 24 = .ok (.iconst 0, 1) := by decide +kernel
theorem kd_T_fill_25 : decode kc_T_fill 25 = .ok (.ireturn, 1) := by decide +kernel
theorem kd_T_fill_26 : decode kc_T_fill 26 = .ok (.iconst 0, 1) := by decide +kernel
theorem kd_T_fill_27 : decode kc_T_fill 27 = .ok (.istore 4, 2) := by decide +kernel
theorem kd_T_fill_29 : decode kc_T_fill 29 = .ok (.iload 4, 2) := by decide +kernel
theorem kd_T_fill_31 : decode kc_T_fill 31 = .ok (.iload_n 2, 1) := by decide +kernel
theorem kd_T_fill_32 : decode kc_T_fill 32 = .ok (.if_icmp .ge 23, 3) := by decide +kernel
theorem kd_T_fill_35 : decode kc_T_fill 35 = .ok (.aload_n 0, 1) := by decide +kernel
theorem kd_T_fill_36 : decode kc_T_fill 36 = .ok (.getfield 35, 3) := by decide +kernel
theorem kd_T_fill_39 : decode kc_T_fill 39 = .ok (.iload_n 1, 1) := by decide +kernel
theorem kd_T_fill_40 : decode kc_T_fill 40 = .ok (.iload 4, 2) := by decide +kernel
theorem kd_T_fill_42 : decode kc_T_fill 42 = .ok (.iadd, 1) := by decide +kernel
theorem kd_T_fill_43 : decode kc_T_fill 43 = .ok (.iload_n 3, 1) := by decide +kernel
theorem kd_T_fill_44 : decode kc_T_fill 44 = .ok (.iload 4, 2) := by decide +kernel
theorem kd_T_fill_46 : decode kc_T_fill 46 = .ok (.iadd, 1) := by decide +kernel
theorem kd_T_fill_47 : decode kc_T_fill 47 = .ok (.i2b, 1) := by decide +kernel
theorem kd_T_fill_48 : decode kc_T_fill 48 = .ok (.bastore, 1) := by decide +kernel
theorem kd_T_fill_49 : decode kc_T_fill 49 = .ok (.iinc 4 1, 3) := by decide +kernel
theorem kd_T_fill_52 : decode kc_T_fill 52 = .ok (.goto (-23), 3) := by decide +kernel
theorem kd_T_fill_55 : decode kc_T_fill 55 = .ok (.iconst 1, 1) := by decide +kernel
theorem kd_T_fill_56 : decode kc_T_fill 56 = .ok (.ireturn, 1) := by decide +kernel
theorem kd_T_at_0 : decode kc_T_at 0 = .ok (.iload_n 1, 1) := by decide +kernel
theorem kd_T_at_1 : decode kc_T_at 1 = .ok (.ifCond .lt 23, 3) := by decide +kernel
theorem kd_T_at_4 : decode kc_T_at 4 = .ok (.iload_n 1, 1) := by decide +kernel
theorem kd_T_at_5 : decode kc_T_at 5 = .ok (.sipush 3072, 3) := by decide +kernel
theorem kd_T_at_8 : decode kc_T_at 8 = .ok (.if_icmp .ge 16, 3) := by decide +kernel
theorem kd_T_at_11 : decode kc_T_at 11 = .ok (.aload_n 0, 1) := by decide +kernel
theorem kd_T_at_12 : decode kc_T_at 12 = .ok (.getfield 35, 3) := by decide +kernel
theorem kd_T_at_15 : decode kc_T_at 15 = .ok (.iload_n 1, 1) := by decide +kernel
theorem kd_T_at_16 : decode kc_T_at 16 = .ok (.baload, 1) := by decide +kernel
theorem kd_T_at_17 : decode kc_T_at 17 = .ok (.sipush 255, 3) := by decide +kernel
theorem kd_T_at_20 : decode kc_T_at 20 = .ok (.iand, 1) := by decide +kernel
theorem kd_T_at_21 : decode kc_T_at 21 = .ok (.goto 4, 3) := by decide +kernel
theorem kd_T_at_24 : decode kc_T_at 24 = .ok (.iconst (-1), 1) := by decide +kernel
theorem kd_T_at_25 : decode kc_T_at 25 = .ok (.ireturn, 1) := by decide +kernel
theorem kd_T_peek_0 : decode kc_T_peek 0 = .ok (.iload_n 1, 1) := by decide +kernel
theorem kd_T_peek_1 : decode kc_T_peek 1 = .ok (.ifCond .lt 21, 3) := by decide +kernel
theorem kd_T_peek_4 : decode kc_T_peek 4 = .ok (.iload_n 1, 1) := by decide +kernel
theorem kd_T_peek_5 : decode kc_T_peek 5 = .ok (.sipush 512, 3) := by decide +kernel
theorem kd_T_peek_8 : decode kc_T_peek 8 = .ok (.if_icmp .ge 14, 3) := by decide +kernel
theorem kd_T_peek_11 : decode kc_T_peek 11 = .ok (.iload_n 2, 1) := by decide +kernel
theorem kd_T_peek_12 : decode kc_T_peek 12 = .ok (.ifCond .lt 10, 3) := by decide +kernel
theorem kd_T_peek_15 : decode kc_T_peek 15 = .ok (.iload_n 2, 1) := by decide +kernel
theorem kd_T_peek_16 : decode kc_T_peek 16 = .ok (.sipush 1024, 3) := by decide +kernel
theorem kd_T_peek_19 : decode kc_T_peek 19 = .ok (.if_icmp .lt 5, 3) := by decide +kernel
theorem kd_T_peek_22 : decode kc_T_peek 22 = .ok (.iconst (-1), 1) := by decide +kernel
theorem kd_T_peek_23 : decode kc_T_peek 23 = .ok (.ireturn, 1) := by decide +kernel
theorem kd_T_peek_24 : decode kc_T_peek 24 = .ok (.aload_n 0, 1) := by decide +kernel
theorem kd_T_peek_25 : decode kc_T_peek 25 = .ok (.getfield 27, 3) := by decide +kernel
theorem kd_T_peek_28 : decode kc_T_peek 28 = .ok (.iload_n 1, 1) := by decide +kernel
theorem kd_T_peek_29 : decode kc_T_peek 29 = .ok (.sipush 1024, 3) := by decide +kernel
theorem kd_T_peek_32 : decode kc_T_peek 32 = .ok (.imul, 1) := by decide +kernel
theorem kd_T_peek_33 : decode kc_T_peek 33 = .ok (.iload_n 2, 1) := by decide +kernel
theorem kd_T_peek_34 : decode kc_T_peek 34 = .ok (.iadd, 1) := by decide +kernel
theorem kd_T_peek_35 : decode kc_T_peek 35 = .ok (.sipush 255, 3) := by decide +kernel
theorem kd_T_peek_38 : decode kc_T_peek 38 = .ok (.invokevirtual 79, 3) := by decide +kernel
theorem kd_T_peek_41 : decode kc_T_peek 41 = .ok (.ireturn, 1) := by decide +kernel
theorem kd_T_lead_0 : decode kc_T_lead 0 = .ok (.aload_n 0, 1) := by decide +kernel
theorem kd_T_lead_1 : decode kc_T_lead 1 = .ok (.getfield 20, 3) := by decide +kernel
theorem kd_T_lead_4 : decode kc_T_lead 4 = .ok (.iload_n 1, 1) := by decide +kernel
theorem kd_T_lead_5 : decode kc_T_lead 5 = .ok (.invokevirtual 125, 3) := by decide +kernel
theorem kd_T_lead_8 : decode kc_T_lead 8 = .ok (.ifCond .eq 15, 3) := by decide +kernel
theorem kd_T_lead_11 : decode kc_T_lead 11 = .ok (.aload_n 0, 1) := by decide +kernel
theorem kd_T_lead_12 : decode kc_T_lead 12 = .ok (.getfield 31, 3) := by decide +kernel
theorem kd_T_lead_15 : decode kc_T_lead 15 = .ok (.iload_n 2, 1) := by decide +kernel
theorem kd_T_lead_16 : decode kc_T_lead 16 = .ok (.iload_n 3, 1) := by decide +kernel
theorem kd_T_lead_17 : decode kc_T_lead 17 = .ok (.invokevirtual 168, 3) := by decide +kernel
theorem kd_T_lead_20 : decode kc_T_lead 20 = .ok (.ifCond .ne 5, 3) := by decide +kernel
theorem kd_T_lead_23 : decode kc_T_lead 23 = .ok (.iconst (-1), 1) := by decide +kernel
theorem kd_T_lead_24 : decode kc_T_lead 24 = .ok (.ireturn, 1) := by decide +kernel
theorem kd_T_lead_25 : decode kc_T_lead 25 = .ok (.iload_n 2, 1) := by decide +kernel
theorem kd_T_lead_26 : decode kc_T_lead 26 = .ok (.iload_n 3, 1) := by decide +kernel
theorem kd_T_lead_27 : decode kc_T_lead 27 = .ok (.if_icmp .ge 20, 3) := by decide +kernel
theorem kd_T_lead_30 : decode kc_T_lead 30 = .ok (.aload_n 0, 1) := by decide +kernel
theorem kd_T_lead_31 : decode kc_T_lead 31 = .ok (.getfield 31, 3) := by decide +kernel
theorem kd_T_lead_34 : decode kc_T_lead 34 = .ok (.iload_n 2, 1) := by decide +kernel
theorem kd_T_lead_35 : decode kc_T_lead 35 = .ok (.invokevirtual 171, 3) := by decide +kernel
theorem kd_T_lead_38 : decode kc_T_lead 38 = .ok (.bipush 47, 2) := by decide +kernel
theorem kd_T_lead_40 : decode kc_T_lead 40 = .ok (.if_icmp .ne 7, 3) := by decide +kernel
theorem kd_T_lead_43 : decode kc_T_lead 43 = .ok (.iconst 1, 1) := by decide +kernel
theorem kd_T_lead_44 : decode kc_T_lead 44 = .ok (.goto 4, 3) := by decide +kernel
theorem kd_T_lead_47 : decode kc_T_lead 47 = .ok (.iload_n 1, 1) := by decide +kernel
theorem kd_T_lead_48 : decode kc_T_lead 48 = .ok (.istore 4, 2) := by decide +kernel
theorem kd_T_lead_50 : decode kc_T_lead 50 = .ok (.iload_n 2, 1) := by decide +kernel
theorem kd_T_lead_51 : decode kc_T_lead 51 = .ok (.istore 5, 2) := by decide +kernel
theorem kd_T_lead_53 : decode kc_T_lead 53 = .ok (.iload 5, 2) := by decide +kernel
theorem kd_T_lead_55 : decode kc_T_lead 55 = .ok (.iload_n 3, 1) := by decide +kernel
theorem kd_T_lead_56 : decode kc_T_lead 56 = .ok (.if_icmp .ge 86, 3) := by decide +kernel
theorem kd_T_lead_59 : decode kc_T_lead 59 = .ok (.iload 4, 2) := by decide +kernel
theorem kd_T_lead_61 : decode kc_T_lead 61 = .ok (.iconst (-1), 1) := by decide +kernel
theorem kd_T_lead_62 : decode kc_T_lead 62 = .ok (.if_icmp .eq 80, 3) := by decide +kernel
theorem kd_T_lead_65 : decode kc_T_lead 65 = .ok (.aload_n 0, 1) := by decide +kernel
theorem kd_T_lead_66 : decode kc_T_lead 66 = .ok (.getfield 31, 3) := by decide +kernel
theorem kd_T_lead_69 : decode kc_T_lead 69 = .ok (.iload_n 2, 1) := by decide +kernel
theorem kd_T_lead_70 : decode kc_T_lead 70 = .ok (.iload 5, 2) := by decide +kernel
theorem kd_T_lead_72 : decode kc_T_lead 72 = .ok (.invokevirtual 174, 3) := by decide +kernel
theorem kd_T_lead_75 : decode kc_T_lead 75 = .ok (.ifCond .eq 61, 3) := by decide +kernel
theorem kd_T_lead_78 : decode kc_T_lead 78 = .ok (.aload_n 0, 1) := by decide +kernel
theorem kd_T_lead_79 : decode kc_T_lead 79 = .ok (.getfield 31, 3) := by decide +kernel
theorem kd_T_lead_82 : decode kc_T_lead 82 = .ok (.aload_n 0, 1) := by decide +kernel
theorem kd_T_lead_83 : decode kc_T_lead 83 = .ok (.getfield 31, 3) := by decide +kernel
theorem kd_T_lead_86 : decode kc_T_lead 86 = .ok (.getfield 177, 3) := by decide +kernel
theorem kd_T_lead_89 : decode kc_T_lead 89 = .ok (.iload 5, 2) := by decide +kernel
theorem kd_T_lead_91 : decode kc_T_lead 91 = .ok (.iload_n 3, 1) := by decide +kernel
theorem kd_T_lead_92 : decode kc_T_lead 92 = .ok (.invokevirtual 180, 3) := by decide +kernel
theorem kd_T_lead_95 : decode kc_T_lead 95 = .ok (.aload_n 0, 1) := by decide +kernel
theorem kd_T_lead_96 : decode kc_T_lead 96 = .ok (.getfield 12, 3) := by decide +kernel
theorem kd_T_lead_99 : decode kc_T_lead 99 = .ok (.iload 4, 2) := by decide +kernel
theorem kd_T_lead_101 : decode kc_T_lead 101 = .ok (.aload_n 0, 1) := by decide +kernel
theorem kd_T_lead_102 : decode kc_T_lead 102 = .ok (.getfield 31, 3) := by decide +kernel
theorem kd_T_lead_105 : decode kc_T_lead 105 = .ok (.getfield 177, 3) := by decide +kernel
theorem kd_T_lead_108 : decode kc_T_lead 108 = .ok (.invokevirtual 74, 3) := by decide +kernel
theorem kd_T_lead_111 : decode kc_T_lead 111 = .ok (.istore 6, 2) := by decide +kernel
theorem kd_T_lead_113 : decode kc_T_lead 113 = .ok (.iload 6, 2) := by decide +kernel
theorem kd_T_lead_115 : decode kc_T_lead 115 = .ok (.iconst (-1), 1) := by decide +kernel
theorem kd_T_lead_116 : decode kc_T_lead 116 = .ok (.if_icmp .ne 7, 3) := by decide +kernel
theorem kd_T_lead_119 : decode kc_T_lead 119 = .ok (.iconst (-1), 1) := by decide +kernel
theorem kd_T_lead_120 : decode kc_T_lead 120 = .ok (.goto 14, 3) := by decide +kernel
theorem kd_T_lead_123 : decode kc_T_lead 123 = .ok (.aload_n 0, 1) := by decide +kernel
theorem kd_T_lead_124 : decode kc_T_lead 124 = .ok (.getfield 27, 3) := by decide +kernel
theorem kd_T_lead_127 : decode kc_T_lead 127 = .ok (.iload 6, 2) := by decide +kernel
theorem kd_T_lead_129 : decode kc_T_lead 129 = .ok (.ldc 78, 2) := by decide +kernel
theorem kd_T_lead_131 : decode kc_T_lead 131 = .ok (.invokevirtual 79, 3) := by decide +kernel
theorem kd_T_lead_134 : decode kc_T_lead 134 = .ok (.istore 4, 2) := by decide +kernel
theorem kd_T_lead_136 : decode kc_T_lead 136 = .ok (.iinc 5 1, 3) := by decide +kernel
theorem kd_T_lead_139 : decode kc_T_lead 139 = .ok (.goto (-86), 3) := by decide +kernel
theorem kd_T_lead_142 : decode kc_T_lead 142 = .ok (.iload 4, 2) := by decide +kernel
theorem kd_T_lead_144 : decode kc_T_lead 144 = .ok (.ireturn, 1) := by decide +kernel
theorem kd_D_init_0 : decode kc_D_init 0 = .ok (.aload_n 0, 1) := by decide +kernel
theorem kd_D_init_1 : decode kc_D_init 1 = .ok (.invokespecial 3, 3) := by decide +kernel
theorem kd_D_init_4 : decode kc_D_init 4 = .ok (.aload_n 0, 1) := by decide +kernel
theorem kd_D_init_5 : decode kc_D_init 5 = .ok (.new 9, 3) := by decide +kernel
theorem kd_D_init_8 : decode kc_D_init 8 = .ok (.dup, 1) := by decide +kernel
theorem kd_D_init_9 : decode kc_D_init 9 = .ok (.invokespecial 11, 3) := by decide +kernel
theorem kd_D_init_12 : decode kc_D_init 12 = .ok (.putfield 12, 3) := by decide +kernel
theorem kd_D_init_15 : decode kc_D_init 15 = .ok (.aload_n 0, 1) := by decide +kernel
theorem kd_D_init_16 : decode kc_D_init 16 = .ok (.aload_n 0, 1) := by decide +kernel
theorem kd_D_init_17 : decode kc_D_init 17 = .ok (.getfield 12, 3) := by decide +kernel
theorem kd_D_init_20 : decode kc_D_init 20 = .ok (.getfield 18, 3) := by decide +kernel
theorem kd_D_init_23 : decode kc_D_init 23 = .ok (.putfield 22, 3) := by decide +kernel
theorem kd_D_init_26 : decode kc_D_init 26 = .ok (.return_, 1) := by decide +kernel
theorem kd_D_entryNamed_0 : decode kc_D_entryNamed 0 = .ok (.aload_n 0, 1) := by decide +kernel
theorem kd_D_entryNamed_1 : decode kc_D_entryNamed 1 = .ok (.iload_n 1, 1) := by decide +kernel
theorem kd_D_entryNamed_2 : decode kc_D_entryNamed 2 = .ok (.invokevirtual 23, 3) := by decide +kernel
theorem kd_D_entryNamed_5 : decode kc_D_entryNamed 5 = .ok (.istore_n 3, 1) := by decide +kernel
theorem kd_D_entryNamed_6 : decode kc_D_entryNamed 6 = .ok (.iconst 0, 1) := by decide +kernel
theorem kd_D_entryNamed_7 : decode kc_D_entryNamed 7 = .ok (.istore 4, 2) := by decide +kernel
theorem kd_D_entryNamed_9 : decode kc_D_entryNamed 9 = .ok (.iload 4, 2) := by decide +kernel
theorem kd_D_entryNamed_11 : decode kc_D_entryNamed 11 = .ok (.iload_n 3, 1) := by decide +kernel
theorem kd_D_entryNamed_12 : decode kc_D_entryNamed 12 = .ok (.if_icmp .ge 48, 3) := by decide +kernel
theorem kd_D_entryNamed_15 : decode kc_D_entryNamed 15 = .ok (.aload_n 0, 1) := by decide +kernel
theorem kd_D_entryNamed_16 : decode kc_D_entryNamed 16 = .ok (.getfield 12, 3) := by decide +kernel
theorem kd_D_entryNamed_19 : decode kc_D_entryNamed 19 = .ok (.iload_n 1, 1) := by decide +kernel
theorem kd_D_entryNamed_20 : decode kc_D_entryNamed 20 = .ok (.iload 4, 2) := by decide +kernel
theorem kd_D_entryNamed_22 : decode kc_D_entryNamed 22 = .ok (.invokevirtual 27, 3) := by decide +kernel
theorem kd_D_entryNamed_25 : decode kc_D_entryNamed 25 = .ok (.istore 5, 2) := by decide +kernel
theorem kd_D_entryNamed_27 : decode kc_D_entryNamed 27 = .ok (.aload_n 0, 1) := by decide +kernel
theorem kd_D_entryNamed_28 : decode kc_D_entryNamed 28 = .ok (.getfield 22, 3) := by decide +kernel
theorem kd_D_entryNamed_31 : decode kc_D_entryNamed 31 = .ok (.iload 5, 2) := by decide +kernel
theorem kd_D_entryNamed_33 : decode kc_D_entryNamed 33 = .ok (.ldc 31, 2) := by decide +kernel
theorem kd_D_entryNamed_35 : decode kc_D_entryNamed 35 = .ok (.invokevirtual 32, 3) := by decide +kernel
theorem kd_D_entryNamed_38 : decode kc_D_entryNamed 38 = .ok (.ifCond .eq 16, 3) := by decide +kernel
theorem kd_D_entryNamed_41 : decode kc_D_entryNamed 41 = .ok (.aload_n 0, 1) := by decide +kernel
theorem kd_D_entryNamed_42 : decode kc_D_entryNamed 42 = .ok (.iload 5, 2) := by decide +kernel
theorem kd_D_entryNamed_44 : decode kc_D_entryNamed 44 = .ok (.aload_n 2, 1) := by decide +kernel
theorem kd_D_entryNamed_45 : decode kc_D_entryNamed 45 = .ok (.invokevirtual 37, 3) := by decide +kernel
theorem kd_D_entryNamed_48 : decode kc_D_entryNamed 48 = .ok (.ifCond .eq 6, 3) := by decide +kernel
theorem kd_D_entryNamed_51 : decode kc_D_entryNamed 51 = .ok (.iload 5, 2) := by decide +kernel
theorem kd_D_entryNamed_53 : decode kc_D_entryNamed 53 = .ok (.ireturn, 1) := by decide +kernel
theorem kd_D_entryNamed_54 : decode kc_D_entryNamed 54 = .ok (.iinc 4 16, 3) := by decide +kernel
theorem kd_D_entryNamed_57 : decode kc_D_entryNamed 57 = .ok (.goto (-48), 3) := by decide +kernel
theorem kd_D_entryNamed_60 : decode kc_D_entryNamed 60 = .ok (.iconst (-1), 1) := by decide +kernel
theorem kd_D_entryNamed_61 : decode kc_D_entryNamed 61 = .ok (.ireturn, 1) := by decide +kernel
theorem kd_D_hasOnlyItsTwo_0 : decode kc_D_hasOnlyItsTwo 0 = .ok (.aload_n 0, 1) := by decide +kernel
theorem kd_D_hasOnlyItsTwo_1 : decode kc_D_hasOnlyItsTwo 1 = .ok (.iload_n 1, 1) := by decide +kernel
theorem kd_D_hasOnlyItsTwo_2 : decode kc_D_hasOnlyItsTwo 2 = .ok (.invokevirtual 23, 3) := by decide +kernel
theorem kd_D_hasOnlyItsTwo_5 : decode kc_D_hasOnlyItsTwo 5 = .ok (.istore_n 2, 1) := by decide +kernel
theorem kd_D_hasOnlyItsTwo_6 : decode kc_D_hasOnlyItsTwo 6 = .ok (.bipush 32, 2) := by decide +kernel
theorem kd_D_hasOnlyItsTwo_8 : decode kc_D_hasOnlyItsTwo 8 = .ok (.istore_n 3, 1) := by decide +kernel
theorem kd_D_hasOnlyItsTwo_9 : decode kc_D_hasOnlyItsTwo 9 = .ok (.iload_n 3, 1) := by decide +kernel
theorem kd_D_hasOnlyItsTwo_10 : decode kc_D_hasOnlyItsTwo 10 = .ok (.iload_n 2, 1) := by decide +kernel
theorem kd_D_hasOnlyItsTwo_11 : decode kc_D_hasOnlyItsTwo 11 = .ok (.if_icmp .ge 32, 3) := by decide +kernel
theorem kd_D_hasOnlyItsTwo_14 : decode kc_D_hasOnlyItsTwo 14 = .ok (.aload_n 0, 1) := by decide +kernel
theorem kd_D_hasOnlyItsTwo_15 : decode kc_D_hasOnlyItsTwo 15 = .ok (.getfield 22, 3) := by decide +kernel
theorem kd_D_hasOnlyItsTwo_18 : decode kc_D_hasOnlyItsTwo 18 = .ok (.aload_n 0, 1) := by decide +kernel
theorem kd_D_hasOnlyItsTwo_19 : decode kc_D_hasOnlyItsTwo 19 = .ok (.getfield 12, 3) := by decide +kernel
theorem kd_D_hasOnlyItsTwo_22 : decode kc_D_hasOnlyItsTwo 22 = .ok (.iload_n 1, 1) := by decide +kernel
theorem kd_D_hasOnlyItsTwo_23 : decode kc_D_hasOnlyItsTwo 23 = .ok (.iload_n 3, 1) := by decide +kernel
theorem kd_D_hasOnlyItsTwo_24 : decode kc_D_hasOnlyItsTwo 24 = .ok (.invokevirtual 27, 3) := by decide +kernel
theorem kd_D_hasOnlyItsTwo_27 : decode kc_D_hasOnlyItsTwo 27 = .ok (.ldc 31, 2) := by decide +kernel
theorem kd_D_hasOnlyItsTwo_29 : decode kc_D_hasOnlyItsTwo 29 = .ok (.invokevirtual 32, 3) := by decide +kernel
theorem kd_D_hasOnlyItsTwo_32 : decode kc_D_hasOnlyItsTwo 32 = .ok (.ifCond .eq 5, 3) := by decide +kernel
theorem kd_D_hasOnlyItsTwo_35 : decode kc_D_hasOnlyItsTwo 35 = .ok (.iconst 0, 1) := by decide +kernel
theorem kd_D_hasOnlyItsTwo_36 : decode kc_D_hasOnlyItsTwo 36 = .ok (.ireturn, 1) := by decide +kernel
theorem kd_D_hasOnlyItsTwo_37 : decode kc_D_hasOnlyItsTwo 37 = .ok (.iinc 3 16, 3) := by decide +kernel
theorem kd_D_hasOnlyItsTwo_40 : decode kc_D_hasOnlyItsTwo 40 = .ok (.goto (-31), 3) := by decide +kernel
theorem kd_D_hasOnlyItsTwo_43 : decode kc_D_hasOnlyItsTwo 43 = .ok (.iconst 1, 1) := by decide +kernel
theorem kd_D_hasOnlyItsTwo_44 : decode kc_D_hasOnlyItsTwo 44 = .ok (.ireturn, 1) := by decide +kernel
theorem kd_D_hasRoom_0 : decode kc_D_hasRoom 0 = .ok (.aload_n 0, 1) := by decide +kernel
theorem kd_D_hasRoom_1 : decode kc_D_hasRoom 1 = .ok (.getfield 12, 3) := by decide +kernel
theorem kd_D_hasRoom_4 : decode kc_D_hasRoom 4 = .ok (.iload_n 1, 1) := by decide +kernel
theorem kd_D_hasRoom_5 : decode kc_D_hasRoom 5 = .ok (.invokevirtual 41, 3) := by decide +kernel
theorem kd_D_hasRoom_8 : decode kc_D_hasRoom 8 = .ok (.iconst 1, 1) := by decide +kernel
theorem kd_D_hasRoom_9 : decode kc_D_hasRoom 9 = .ok (.if_icmp .ne 14, 3) := by decide +kernel
theorem kd_D_hasRoom_12 : decode kc_D_hasRoom 12 = .ok (.aload_n 0, 1) := by decide +kernel
theorem kd_D_hasRoom_13 : decode kc_D_hasRoom 13 = .ok (.getfield 12, 3) := by decide +kernel
theorem kd_D_hasRoom_16 : decode kc_D_hasRoom 16 = .ok (.iload_n 1, 1) := by decide +kernel
theorem kd_D_hasRoom_17 : decode kc_D_hasRoom 17 = .ok (.invokevirtual 44, 3) := by decide +kernel
theorem kd_D_hasRoom_20 : decode kc_D_hasRoom 20 = .ok (.ifCond .ne 5, 3) := by decide +kernel
theorem kd_D_hasRoom_23 : decode kc_D_hasRoom 23 = .ok (.iconst 0, 1) := by decide +kernel
theorem kd_D_hasRoom_24 : decode kc_D_hasRoom 24 = .ok (.ireturn, 1) := by decide +kernel
theorem kd_D_hasRoom_25 : decode kc_D_hasRoom 25 = .ok (.aload_n 0, 1) := by decide +kernel
theorem kd_D_hasRoom_26 : decode kc_D_hasRoom 26 = .ok (.iload_n 1, 1) := by decide +kernel
theorem kd_D_hasRoom_27 : decode kc_D_hasRoom 27 = .ok (.invokevirtual 23, 3) := by decide +kernel
theorem kd_D_hasRoom_30 : decode kc_D_hasRoom 30 = .ok (.istore_n 3, 1) := by decide +kernel
theorem kd_D_hasRoom_31 : decode kc_D_hasRoom 31 = .ok (.iload_n 2, 1) := by decide +kernel
theorem kd_D_hasRoom_32 : decode kc_D_hasRoom 32 = .ok (.istore 4, 2) := by decide +kernel
theorem kd_D_hasRoom_34 : decode kc_D_hasRoom 34 = .ok (.aload_n 0, 1) := by decide +kernel
theorem kd_D_hasRoom_35 : decode kc_D_hasRoom 35 = .ok (.iload_n 1, 1) := by decide +kernel
theorem kd_D_hasRoom_36 : decode kc_D_hasRoom 36 = .ok (.invokevirtual 47, 3) := by decide +kernel
theorem kd_D_hasRoom_39 : decode kc_D_hasRoom 39 = .ok (.iconst (-1), 1) := by decide +kernel
theorem kd_D_hasRoom_40 : decode kc_D_hasRoom 40 = .ok (.if_icmp .ne 36, 3) := by decide +kernel
theorem kd_D_hasRoom_43 : decode kc_D_hasRoom 43 = .ok (.iload_n 3, 1) := by decide +kernel
theorem kd_D_hasRoom_44 : decode kc_D_hasRoom 44 = .ok (.ldc 50, 2) := by decide +kernel
theorem kd_D_hasRoom_46 : decode kc_D_hasRoom 46 = .ok (.if_icmp .le 5, 3) := by decide +kernel
theorem kd_D_hasRoom_49 : decode kc_D_hasRoom 49 = .ok (.iconst 0, 1) := by decide +kernel
theorem kd_D_hasRoom_50 : decode kc_D_hasRoom 50 = .ok (.ireturn, 1) := by decide +kernel
theorem kd_D_hasRoom_51 : decode kc_D_hasRoom 51 = .ok (.iload_n 3, 1) := by decide +kernel
theorem kd_D_hasRoom_52 : decode kc_D_hasRoom 52 = .ok (.sipush 1024, 3) := by decide +kernel
theorem kd_D_hasRoom_55 : decode kc_D_hasRoom 55 = .ok (.irem, 1) := by decide +kernel
theorem kd_D_hasRoom_56 : decode kc_D_hasRoom 56 = .ok (.ifCond .ne 20, 3) := by decide +kernel
theorem kd_D_hasRoom_59 : decode kc_D_hasRoom 59 = .ok (.iload 4, 2) := by decide +kernel
theorem kd_D_hasRoom_61 : decode kc_D_hasRoom 61 = .ok (.aload_n 0, 1) := by decide +kernel
theorem kd_D_hasRoom_62 : decode kc_D_hasRoom 62 = .ok (.getfield 12, 3) := by decide +kernel
theorem kd_D_hasRoom_65 : decode kc_D_hasRoom 65 = .ok (.iload_n 3, 1) := by decide +kernel
theorem kd_D_hasRoom_66 : decode kc_D_hasRoom 66 = .ok (.sipush 1024, 3) := by decide +kernel
theorem kd_D_hasRoom_69 : decode kc_D_hasRoom 69 = .ok (.idiv, 1) := by decide +kernel
theorem kd_D_hasRoom_70 : decode kc_D_hasRoom 70 = .ok (.invokevirtual 51, 3) := by decide +kernel
theorem kd_D_hasRoom_73 : decode kc_D_hasRoom 73 = .ok (.iadd, 1) := by decide +kernel
theorem kd_D_hasRoom_74 : decode kc_D_hasRoom 74 = .ok (.istore 4, 2) := by decide +kernel
theorem kd_D_hasRoom_76 : decode kc_D_hasRoom 76 = .ok (.iload 4, 2) := by decide +kernel
theorem kd_D_hasRoom_78 : decode kc_D_hasRoom 78 = .ok (.aload_n 0, 1) := by decide +kernel
theorem kd_D_hasRoom_79 : decode kc_D_hasRoom 79 = .ok (.getfield 22, 3) := by decide +kernel
theorem kd_D_hasRoom_82 : decode kc_D_hasRoom 82 = .ok (.invokevirtual 54, 3) := by decide +kernel
theorem kd_D_hasRoom_85 : decode kc_D_hasRoom 85 = .ok (.if_icmp .gt 7, 3) := by decide +kernel
theorem kd_D_hasRoom_88 : decode kc_D_hasRoom 88 = .ok (.iconst 1, 1) := by decide +kernel
theorem kd_D_hasRoom_89 : decode kc_D_hasRoom 89 = .ok (.goto 4, 3) := by decide +kernel
theorem kd_D_hasRoom_92 : decode kc_D_hasRoom 92 = .ok (.iconst 0, 1) := by decide +kernel
theorem kd_D_hasRoom_93 : decode kc_D_hasRoom 93 = .ok (.ireturn, 1) := by decide +kernel
theorem kd_D_addEntry_0 : decode kc_D_addEntry 0 = .ok (.aload_n 0, 1) := by decide +kernel
theorem kd_D_addEntry_1 : decode kc_D_addEntry 1 = .ok (.iload_n 1, 1) := by decide +kernel
theorem kd_D_addEntry_2 : decode kc_D_addEntry 2 = .ok (.invokevirtual 47, 3) := by decide +kernel
theorem kd_D_addEntry_5 : decode kc_D_addEntry 5 = .ok (.istore 4, 2) := by decide +kernel
theorem kd_D_addEntry_7 : decode kc_D_addEntry 7 = .ok (.iload 4, 2) := by decide +kernel
theorem kd_D_addEntry_9 : decode kc_D_addEntry 9 = .ok (.iconst (-1), 1) := by decide +kernel
theorem kd_D_addEntry_10 : decode kc_D_addEntry 10 = .ok (.if_icmp .ne 62, 3) := by decide +kernel
theorem kd_D_addEntry_13 : decode kc_D_addEntry 13 = .ok (.aload_n 0, 1) := by decide +kernel
theorem kd_D_addEntry_14 : decode kc_D_addEntry 14 = .ok (.iload_n 1, 1) := by decide +kernel
theorem kd_D_addEntry_15 : decode kc_D_addEntry 15 = .ok (.invokevirtual 23, 3) := by decide +kernel
theorem kd_D_addEntry_18 : decode kc_D_addEntry 18 = .ok (.istore 5, 2) := by decide +kernel
theorem kd_D_addEntry_20 : decode kc_D_addEntry 20 = .ok (.iload 5, 2) := by decide +kernel
theorem kd_D_addEntry_22 : decode kc_D_addEntry 22 = .ok (.sipush 1024, 3) := by decide +kernel
theorem kd_D_addEntry_25 : decode kc_D_addEntry 25 = .ok (.irem, 1) := by decide +kernel
theorem kd_D_addEntry_26 : decode kc_D_addEntry 26 = .ok (.ifCond .ne 21, 3) := by decide +kernel
theorem kd_D_addEntry_29 : decode kc_D_addEntry 29 = .ok (.aload_n 0, 1) := by decide +kernel
theorem kd_D_addEntry_30 : decode kc_D_addEntry 30 = .ok (.getfield 12, 3) := by decide +kernel
theorem kd_D_addEntry_33 : decode kc_D_addEntry 33 = .ok (.iload_n 1, 1) := by decide +kernel
theorem kd_D_addEntry_34 : decode kc_D_addEntry 34 = .ok (.iload 5, 2) := by decide +kernel
theorem kd_D_addEntry_36 : decode kc_D_addEntry 36 = .ok (.sipush 1024, 3) := by decide +kernel
theorem kd_D_addEntry_39 : decode kc_D_addEntry 39 = .ok (.idiv, 1) := by decide +kernel
theorem kd_D_addEntry_40 : decode kc_D_addEntry 40 = .ok (.invokevirtual 58, 3) := by decide +kernel
theorem kd_D_addEntry_43 : decode kc_D_addEntry 43 = .ok (.ifCond .ne 4, 3) := by decide +kernel
theorem kd_D_addEntry_46 : decode kc_D_addEntry 46 = .ok (.return_, 1) := by decide +kernel
theorem kd_D_addEntry_47 : decode kc_D_addEntry 47 = .ok (.aload_n 0, 1) := by decide +kernel
theorem kd_D_addEntry_48 : decode kc_D_addEntry 48 = .ok (.getfield 12, 3) := by decide +kernel
theorem kd_D_addEntry_51 : decode kc_D_addEntry 51 = .ok (.iload_n 1, 1) := by decide +kernel
theorem kd_D_addEntry_52 : decode kc_D_addEntry 52 = .ok (.iload 5, 2) := by decide +kernel
theorem kd_D_addEntry_54 : decode kc_D_addEntry 54 = .ok (.invokevirtual 27, 3) := by decide +kernel
theorem kd_D_addEntry_57 : decode kc_D_addEntry 57 = .ok (.istore 4, 2) := by decide +kernel
theorem kd_D_addEntry_59 : decode kc_D_addEntry 59 = .ok (.aload_n 0, 1) := by decide +kernel
theorem kd_D_addEntry_60 : decode kc_D_addEntry 60 = .ok (.getfield 12, 3) := by decide +kernel
theorem kd_D_addEntry_63 : decode kc_D_addEntry 63 = .ok (.iload_n 1, 1) := by decide +kernel
theorem kd_D_addEntry_64 : decode kc_D_addEntry 64 = .ok (.iload 5, 2) := by decide +kernel
theorem kd_D_addEntry_66 : decode kc_D_addEntry 66 = .ok (.bipush 16, 2) := by decide +kernel
theorem kd_D_addEntry_68 : decode kc_D_addEntry 68 = .ok (.iadd, 1) := by decide +kernel
theorem kd_D_addEntry_69 : decode kc_D_addEntry 69 = .ok (.invokevirtual 62, 3) := by decide +kernel
theorem kd_D_addEntry_72 : decode kc_D_addEntry 72 = .ok (.aload_n 0, 1) := by decide +kernel
theorem kd_D_addEntry_73 : decode kc_D_addEntry 73 = .ok (.getfield 22, 3) := by decide +kernel
theorem kd_D_addEntry_76 : decode kc_D_addEntry 76 = .ok (.iload 4, 2) := by decide +kernel
theorem kd_D_addEntry_78 : decode kc_D_addEntry 78 = .ok (.ldc 31, 2) := by decide +kernel
theorem kd_D_addEntry_80 : decode kc_D_addEntry 80 = .ok (.iload_n 3, 1) := by decide +kernel
theorem kd_D_addEntry_81 : decode kc_D_addEntry 81 = .ok (.invokevirtual 66, 3) := by decide +kernel
theorem kd_D_addEntry_84 : decode kc_D_addEntry 84 = .ok (.iconst 0, 1) := by decide +kernel
theorem kd_D_addEntry_85 : decode kc_D_addEntry 85 = .ok (.istore 5, 2) := by decide +kernel
theorem kd_D_addEntry_87 : decode kc_D_addEntry 87 = .ok (.iload 5, 2) := by decide +kernel
theorem kd_D_addEntry_89 : decode kc_D_addEntry 89 = .ok (.bipush 14, 2) := by decide +kernel
theorem kd_D_addEntry_91 : decode kc_D_addEntry 91 = .ok (.if_icmp .ge 33, 3) := by decide +kernel
theorem kd_D_addEntry_94 : decode kc_D_addEntry 94 = .ok (.aload_n 0, 1) := by decide +kernel
theorem kd_D_addEntry_95 : decode kc_D_addEntry 95 = .ok (.getfield 22, 3) := by decide +kernel
theorem kd_D_addEntry_98 : decode kc_D_addEntry 98 = .ok (.iload 4, 2) := by decide +kernel
theorem kd_D_addEntry_100 : decode kc_D_addEntry 100 = .ok (.iconst 2, 1) := by decide +kernel
theorem kd_D_addEntry_101 : decode kc_D_addEntry 101 = .ok (.iadd, 1) := by decide +kernel
theorem kd_D_addEntry_102 : decode kc_D_addEntry 102 = .ok (.iload 5, 2) := by decide +kernel
theorem kd_D_addEntry_104 : decode kc_D_addEntry 104 = .ok (.iadd, 1) := by decide +kernel
theorem kd_D_addEntry_105 : decode kc_D_addEntry 105 = .ok (.sipush 255, 3) := by decide +kernel
theorem kd_D_addEntry_108 : decode kc_D_addEntry 108 = .ok (.aload_n 0, 1) := by decide +kernel
theorem kd_D_addEntry_109 : decode kc_D_addEntry 109 = .ok (.aload_n 2, 1) := by decide +kernel
theorem kd_D_addEntry_110 : decode kc_D_addEntry 110 = .ok (.iload 5, 2) := by decide +kernel
theorem kd_D_addEntry_112 : decode kc_D_addEntry 112 = .ok (.invokevirtual 70, 3) := by decide +kernel
theorem kd_D_addEntry_115 : decode kc_D_addEntry 115 = .ok (.invokevirtual 66, 3) := by decide +kernel
theorem kd_D_addEntry_118 : decode kc_D_addEntry 118 = .ok (.iinc 5 1, 3) := by decide +kernel
theorem kd_D_addEntry_121 : decode kc_D_addEntry 121 = .ok (.goto (-34), 3) := by decide +kernel
theorem kd_D_addEntry_124 : decode kc_D_addEntry 124 = .ok (.return_, 1) := by decide +kernel
theorem kd_D_wipeEntry_0 : decode kc_D_wipeEntry 0 = .ok (.aload_n 0, 1) := by decide +kernel
theorem kd_D_wipeEntry_1 : decode kc_D_wipeEntry 1 = .ok (.getfield 22, 3) := by decide +kernel
theorem kd_D_wipeEntry_4 : decode kc_D_wipeEntry 4 = .ok (.iload_n 1, 1) := by decide +kernel
theorem kd_D_wipeEntry_5 : decode kc_D_wipeEntry 5 = .ok (.bipush 16, 2) := by decide +kernel
theorem kd_D_wipeEntry_7 : decode kc_D_wipeEntry 7 = .ok (.invokevirtual 74, 3) := by decide +kernel
theorem kd_D_wipeEntry_10 : decode kc_D_wipeEntry 10 = .ok (.return_, 1) := by decide +kernel
theorem kd_D_begin_0 : decode kc_D_begin 0 = .ok (.aload_n 0, 1) := by decide +kernel
theorem kd_D_begin_1 : decode kc_D_begin 1 = .ok (.iload_n 1, 1) := by decide +kernel
theorem kd_D_begin_2 : decode kc_D_begin 2 = .ok (.getstatic 77, 3) := by decide +kernel
theorem kd_D_begin_5 : decode kc_D_begin 5 = .ok (.iload_n 1, 1) := by decide +kernel
theorem kd_D_begin_6 : decode kc_D_begin 6 = .ok (.invokevirtual 81, 3) := by decide +kernel
theorem kd_D_begin_9 : decode kc_D_begin 9 = .ok (.aload_n 0, 1) := by decide +kernel
theorem kd_D_begin_10 : decode kc_D_begin 10 = .ok (.iload_n 1, 1) := by decide +kernel
theorem kd_D_begin_11 : decode kc_D_begin 11 = .ok (.getstatic 85, 3) := by decide +kernel
theorem kd_D_begin_14 : decode kc_D_begin 14 = .ok (.iload_n 2, 1) := by decide +kernel
theorem kd_D_begin_15 : decode kc_D_begin 15 = .ok (.invokevirtual 81, 3) := by decide +kernel
theorem kd_D_begin_18 : decode kc_D_begin 18 = .ok (.aload_n 0, 1) := by decide +kernel
theorem kd_D_begin_19 : decode kc_D_begin 19 = .ok (.getfield 12, 3) := by decide +kernel
theorem kd_D_begin_22 : decode kc_D_begin 22 = .ok (.iload_n 2, 1) := by decide +kernel
theorem kd_D_begin_23 : decode kc_D_begin 23 = .ok (.iconst 1, 1) := by decide +kernel
theorem kd_D_begin_24 : decode kc_D_begin 24 = .ok (.invokevirtual 88, 3) := by decide +kernel
theorem kd_D_begin_27 : decode kc_D_begin 27 = .ok (.return_, 1) := by decide +kernel
theorem kd_D_end_0 : decode kc_D_end 0 = .ok (.aload_n 0, 1) := by decide +kernel
theorem kd_D_end_1 : decode kc_D_end 1 = .ok (.aload_n 0, 1) := by decide +kernel
theorem kd_D_end_2 : decode kc_D_end 2 = .ok (.getfield 12, 3) := by decide +kernel
theorem kd_D_end_5 : decode kc_D_end 5 = .ok (.iload_n 1, 1) := by decide +kernel
theorem kd_D_end_6 : decode kc_D_end 6 = .ok (.iconst 0, 1) := by decide +kernel
theorem kd_D_end_7 : decode kc_D_end 7 = .ok (.invokevirtual 27, 3) := by decide +kernel
theorem kd_D_end_10 : decode kc_D_end 10 = .ok (.invokevirtual 91, 3) := by decide +kernel
theorem kd_D_end_13 : decode kc_D_end 13 = .ok (.aload_n 0, 1) := by decide +kernel
theorem kd_D_end_14 : decode kc_D_end 14 = .ok (.aload_n 0, 1) := by decide +kernel
theorem kd_D_end_15 : decode kc_D_end 15 = .ok (.getfield 12, 3) := by decide +kernel
theorem kd_D_end_18 : decode kc_D_end 18 = .ok (.iload_n 1, 1) := by decide +kernel
theorem kd_D_end_19 : decode kc_D_end 19 = .ok (.bipush 16, 2) := by decide +kernel
theorem kd_D_end_21 : decode kc_D_end 21 = .ok (.invokevirtual 27, 3) := by decide +kernel
theorem kd_D_end_24 : decode kc_D_end 24 = .ok (.invokevirtual 91, 3) := by decide +kernel
theorem kd_D_end_27 : decode kc_D_end 27 = .ok (.aload_n 0, 1) := by decide +kernel
theorem kd_D_end_28 : decode kc_D_end 28 = .ok (.getfield 12, 3) := by decide +kernel
theorem kd_D_end_31 : decode kc_D_end 31 = .ok (.iload_n 2, 1) := by decide +kernel
theorem kd_D_end_32 : decode kc_D_end 32 = .ok (.iconst (-1), 1) := by decide +kernel
theorem kd_D_end_33 : decode kc_D_end 33 = .ok (.invokevirtual 88, 3) := by decide +kernel
theorem kd_D_end_36 : decode kc_D_end 36 = .ok (.return_, 1) := by decide +kernel
theorem kd_D_sizeOf_0 : decode kc_D_sizeOf 0 = .ok (.aload_n 0, 1) := by decide +kernel
theorem kd_D_sizeOf_1 : decode kc_D_sizeOf 1 = .ok (.getfield 12, 3) := by decide +kernel
theorem kd_D_sizeOf_4 : decode kc_D_sizeOf 4 = .ok (.iload_n 1, 1) := by decide +kernel
theorem kd_D_sizeOf_5 : decode kc_D_sizeOf 5 = .ok (.invokevirtual 41, 3) := by decide +kernel
theorem kd_D_sizeOf_8 : decode kc_D_sizeOf 8 = .ok (.iconst 1, 1) := by decide +kernel
theorem kd_D_sizeOf_9 : decode kc_D_sizeOf 9 = .ok (.if_icmp .ne 14, 3) := by decide +kernel
theorem kd_D_sizeOf_12 : decode kc_D_sizeOf 12 = .ok (.aload_n 0, 1) := by decide +kernel
theorem kd_D_sizeOf_13 : decode kc_D_sizeOf 13 = .ok (.getfield 12, 3) := by decide +kernel
theorem kd_D_sizeOf_16 : decode kc_D_sizeOf 16 = .ok (.iload_n 1, 1) := by decide +kernel
theorem kd_D_sizeOf_17 : decode kc_D_sizeOf 17 = .ok (.invokevirtual 95, 3) := by decide +kernel
theorem kd_D_sizeOf_20 : decode kc_D_sizeOf 20 = .ok (.goto 4, 3) := by decide +kernel
theorem kd_D_sizeOf_23 : decode kc_D_sizeOf 23 = .ok (.iconst 0, 1) := by decide +kernel
theorem kd_D_sizeOf_24 : decode kc_D_sizeOf 24 = .ok (.ireturn, 1) := by decide +kernel
theorem kd_D_freeEntry_0 : decode kc_D_freeEntry 0 = .ok (.aload_n 0, 1) := by decide +kernel
theorem kd_D_freeEntry_1 : decode kc_D_freeEntry 1 = .ok (.iload_n 1, 1) := by decide +kernel
theorem kd_D_freeEntry_2 : decode kc_D_freeEntry 2 = .ok (.invokevirtual 23, 3) := by decide +kernel
theorem kd_D_freeEntry_5 : decode kc_D_freeEntry 5 = .ok (.istore_n 2, 1) := by decide +kernel
theorem kd_D_freeEntry_6 : decode kc_D_freeEntry 6 = .ok (.iconst 0, 1) := by decide +kernel
theorem kd_D_freeEntry_7 : decode kc_D_freeEntry 7 = .ok (.istore_n 3, 1) := by decide +kernel
theorem kd_D_freeEntry_8 : decode kc_D_freeEntry 8 = .ok (.iload_n 3, 1) := by decide +kernel
theorem kd_D_freeEntry_9 : decode kc_D_freeEntry 9 = .ok (.iload_n 2, 1) := by decide +kernel
theorem kd_D_freeEntry_10 : decode kc_D_freeEntry 10 = .ok (.if_icmp .ge 37, 3) := by decide +kernel
theorem kd_D_freeEntry_13 : decode kc_D_freeEntry 13 = .ok (.aload_n 0, 1) := by decide +kernel
theorem kd_D_freeEntry_14 : decode kc_D_freeEntry 14 = .ok (.getfield 12, 3) := by decide +kernel
theorem kd_D_freeEntry_17 : decode kc_D_freeEntry 17 = .ok (.iload_n 1, 1) := by decide +kernel
theorem kd_D_freeEntry_18 : decode kc_D_freeEntry 18 = .ok (.iload_n 3, 1) := by decide +kernel
theorem kd_D_freeEntry_19 : decode kc_D_freeEntry 19 = .ok (.invokevirtual 27, 3) := by decide +kernel
theorem kd_D_freeEntry_22 : decode kc_D_freeEntry 22 = .ok (.istore 4, 2) := by decide +kernel
theorem kd_D_freeEntry_24 : decode kc_D_freeEntry 24 = .ok (.aload_n 0, 1) := by decide +kernel
theorem kd_D_freeEntry_25 : decode kc_D_freeEntry 25 = .ok (.getfield 22, 3) := by decide +kernel
theorem kd_D_freeEntry_28 : decode kc_D_freeEntry 28 = .ok (.iload 4, 2) := by decide +kernel
theorem kd_D_freeEntry_30 : decode kc_D_freeEntry 30 = .ok (.ldc 31, 2) := by decide +kernel
theorem kd_D_freeEntry_32 : decode kc_D_freeEntry 32 = .ok (.invokevirtual 32, 3) := by decide +kernel
theorem kd_D_freeEntry_35 : decode kc_D_freeEntry 35 = .ok (.ifCond .ne 6, 3) := by decide +kernel
theorem kd_D_freeEntry_38 : decode kc_D_freeEntry 38 = .ok (.iload 4, 2) := by decide +kernel
theorem kd_D_freeEntry_40 : decode kc_D_freeEntry 40 = .ok (.ireturn, 1) := by decide +kernel
theorem kd_D_freeEntry_41 : decode kc_D_freeEntry 41 = .ok (.iinc 3 16, 3) := by decide +kernel
theorem kd_D_freeEntry_44 : decode kc_D_freeEntry 44 = .ok (.goto (-36), 3) := by decide +kernel
theorem kd_D_freeEntry_47 : decode kc_D_freeEntry 47 = .ok (.iconst (-1), 1) := by decide +kernel
theorem kd_D_freeEntry_48 : decode kc_D_freeEntry 48 = .ok (.ireturn, 1) := by decide +kernel
theorem kd_D_hasName_0 : decode kc_D_hasName 0 = .ok (.iconst 0, 1) := by decide +kernel
theorem kd_D_hasName_1 : decode kc_D_hasName 1 = .ok (.istore_n 3, 1) := by decide +kernel
theorem kd_D_hasName_2 : decode kc_D_hasName 2 = .ok (.iload_n 3, 1) := by decide +kernel
theorem kd_D_hasName_3 : decode kc_D_hasName 3 = .ok (.bipush 14, 2) := by decide +kernel
theorem kd_D_hasName_5 : decode kc_D_hasName 5 = .ok (.if_icmp .ge 35, 3) := by decide +kernel
theorem kd_D_hasName_8 : decode kc_D_hasName 8 = .ok (.aload_n 0, 1) := by decide +kernel
theorem kd_D_hasName_9 : decode kc_D_hasName 9 = .ok (.getfield 22, 3) := by decide +kernel
theorem kd_D_hasName_12 : decode kc_D_hasName 12 = .ok (.iload_n 1, 1) := by decide +kernel
theorem kd_D_hasName_13 : decode kc_D_hasName 13 = .ok (.iconst 2, 1) := by decide +kernel
theorem kd_D_hasName_14 : decode kc_D_hasName 14 = .ok (.iadd, 1) := by decide +kernel
theorem kd_D_hasName_15 : decode kc_D_hasName 15 = .ok (.iload_n 3, 1) := by decide +kernel
theorem kd_D_hasName_16 : decode kc_D_hasName 16 = .ok (.iadd, 1) := by decide +kernel
theorem kd_D_hasName_17 : decode kc_D_hasName 17 = .ok (.sipush 255, 3) := by decide +kernel
theorem kd_D_hasName_20 : decode kc_D_hasName 20 = .ok (.invokevirtual 32, 3) := by decide +kernel
theorem kd_D_hasName_23 : decode kc_D_hasName 23 = .ok (.aload_n 0, 1) := by decide +kernel
theorem kd_D_hasName_24 : decode kc_D_hasName 24 = .ok (.aload_n 2, 1) := by decide +kernel
theorem kd_D_hasName_25 : decode kc_D_hasName 25 = .ok (.iload_n 3, 1) := by decide +kernel
theorem kd_D_hasName_26 : decode kc_D_hasName 26 = .ok (.invokevirtual 70, 3) := by decide +kernel
theorem kd_D_hasName_29 : decode kc_D_hasName 29 = .ok (.if_icmp .eq 5, 3) := by decide +kernel
theorem kd_D_hasName_32 : decode kc_D_hasName 32 = .ok (.iconst 0, 1) := by decide +kernel
theorem kd_D_hasName_33 : decode kc_D_hasName 33 = .ok (.ireturn, 1) := by decide +kernel
theorem kd_D_hasName_34 : decode kc_D_hasName 34 = .ok (.iinc 3 1, 3) := by decide +kernel
theorem kd_D_hasName_37 : decode kc_D_hasName 37 = .ok (.goto (-35), 3) := by decide +kernel
theorem kd_D_hasName_40 : decode kc_D_hasName 40 = .ok (.iconst 1, 1) := by decide +kernel
theorem kd_D_hasName_41 : decode kc_D_hasName 41 = .ok (.ireturn, 1) := by decide +kernel
theorem kd_D_nameByte_0 : decode kc_D_nameByte 0 = .ok (.iload_n 2, 1) := by decide +kernel
theorem kd_D_nameByte_1 : decode kc_D_nameByte 1 = .ok (.ifCond .lt 19, 3) := by decide +kernel
theorem kd_D_nameByte_4 : decode kc_D_nameByte 4 = .ok (.iload_n 2, 1) := by decide +kernel
theorem kd_D_nameByte_5 : decode kc_D_nameByte 5 = .ok (.aload_n 1, 1) := by decide +kernel
theorem kd_D_nameByte_6 : decode kc_D_nameByte 6 = .ok (.arraylength, 1) := by decide +kernel
theorem kd_D_nameByte_7 : decode kc_D_nameByte 7 = .ok (.if_icmp .ge 13, 3) := by decide +kernel
theorem kd_D_nameByte_10 : decode kc_D_nameByte 10 = .ok (.aload_n 1, 1) := by decide +kernel
theorem kd_D_nameByte_11 : decode kc_D_nameByte 11 = .ok (.iload_n 2, 1) := by decide +kernel
theorem kd_D_nameByte_12 : decode kc_D_nameByte 12 = .ok (.baload, 1) := by decide +kernel
theorem kd_D_nameByte_13 : decode kc_D_nameByte 13 = .ok (.sipush 255, 3) := by decide +kernel
theorem kd_D_nameByte_16 : decode kc_D_nameByte 16 = .ok (.iand, 1) := by decide +kernel
theorem kd_D_nameByte_17 : decode kc_D_nameByte 17 = .ok (.goto 4, 3) := by decide +kernel
theorem kd_D_nameByte_20 : decode kc_D_nameByte 20 = .ok (.iconst 0, 1) := by decide +kernel
theorem kd_D_nameByte_21 : decode kc_D_nameByte 21 = .ok (.ireturn, 1) := by decide +kernel
theorem kd_K_init_0 : decode kc_K_init 0 = .ok (.aload_n 0, 1) := by decide +kernel
theorem kd_K_init_1 : decode kc_K_init 1 = .ok (.invokespecial 3, 3) := by decide +kernel
theorem kd_K_init_4 : decode kc_K_init 4 = .ok (.aload_n 0, 1) := by decide +kernel
theorem kd_K_init_5 : decode kc_K_init 5 = .ok (.ldc 9, 2) := by decide +kernel
theorem kd_K_init_7 : decode kc_K_init 7 = .ok (.newarray .int, 2) := by decide +kernel
theorem kd_K_init_9 : decode kc_K_init 9 = .ok (.putfield 10, 3) := by decide +kernel
theorem kd_K_init_12 : decode kc_K_init 12 = .ok (.return_, 1) := by decide +kernel
theorem kd_K_numberAt_0 : decode kc_K_numberAt 0 = .ok (.iload_n 1, 1) := by decide +kernel
theorem kd_K_numberAt_1 : decode kc_K_numberAt 1 = .ok (.iconst 2, 1) := by decide +kernel
theorem kd_K_numberAt_2 : decode kc_K_numberAt 2 = .ok (.ishr, 1) := by decide +kernel
theorem kd_K_numberAt_3 : decode kc_K_numberAt 3 = .ok (.istore_n 2, 1) := by decide +kernel
theorem kd_K_numberAt_4 : decode kc_K_numberAt 4 = .ok (.iload_n 2, 1) := by decide +kernel
theorem kd_K_numberAt_5 : decode kc_K_numberAt 5 = .ok (.ifCond .lt 21, 3) := by decide +kernel
theorem kd_K_numberAt_8 : decode kc_K_numberAt 8 = .ok (.iload_n 2, 1) := by decide +kernel
theorem kd_K_numberAt_9 : decode kc_K_numberAt 9 = .ok (.aload_n 0, 1) := by decide +kernel
theorem kd_K_numberAt_10 : decode kc_K_numberAt 10 = .ok (.getfield 10, 3) := by decide +kernel
theorem kd_K_numberAt_13 : decode kc_K_numberAt 13 = .ok (.arraylength, 1) := by decide +kernel
theorem kd_K_numberAt_14 : decode kc_K_numberAt 14 = .ok (.if_icmp .ge 12, 3) := by decide +kernel
theorem kd_K_numberAt_17 : decode kc_K_numberAt 17 = .ok (.aload_n 0, 1) := by decide +kernel
theorem kd_K_numberAt_18 : decode kc_K_numberAt 18 = .ok (.getfield 10, 3) := by decide +kernel
theorem kd_K_numberAt_21 : decode kc_K_numberAt 21 = .ok (.iload_n 2, 1) := by decide +kernel
theorem kd_K_numberAt_22 : decode kc_K_numberAt 22 = .ok (.iaload, 1) := by decide +kernel
theorem kd_K_numberAt_23 : decode kc_K_numberAt 23 = .ok (.goto 4, 3) := by decide +kernel
theorem kd_K_numberAt_26 : decode kc_K_numberAt 26 = .ok (.iconst 0, 1) := by decide +kernel
theorem kd_K_numberAt_27 : decode kc_K_numberAt 27 = .ok (.ireturn, 1) := by decide +kernel
theorem kd_K_setNumber_0 : decode kc_K_setNumber 0 = .ok (.iload_n 1, 1) := by decide +kernel
theorem kd_K_setNumber_1 : decode kc_K_setNumber 1 = .ok (.iconst 2, 1) := by decide +kernel
theorem kd_K_setNumber_2 : decode kc_K_setNumber 2 = .ok (.ishr, 1) := by decide +kernel
theorem kd_K_setNumber_3 : decode kc_K_setNumber 3 = .ok (.istore_n 3, 1) := by decide +kernel
theorem kd_K_setNumber_4 : decode kc_K_setNumber 4 = .ok (.iload_n 3, 1) := by decide +kernel
theorem kd_K_setNumber_5 : decode kc_K_setNumber 5 = .ok (.ifCond .lt 19, 3) := by decide +kernel
theorem kd_K_setNumber_8 : decode kc_K_setNumber 8 = .ok (.iload_n 3, 1) := by decide +kernel
theorem kd_K_setNumber_9 : decode kc_K_setNumber 9 = .ok (.aload_n 0, 1) := by decide +kernel
theorem kd_K_setNumber_10 : decode kc_K_setNumber 10 = .ok (.getfield 10, 3) := by decide +kernel
theorem kd_K_setNumber_13 : decode kc_K_setNumber 13 = .ok (.arraylength, 1) := by decide +kernel
theorem kd_K_setNumber_14 : decode kc_K_setNumber 14 = .ok (.if_icmp .ge 10, 3) := by decide +kernel
theorem kd_K_setNumber_17 : decode kc_K_setNumber 17 = .ok (.aload_n 0, 1) := by decide +kernel
theorem kd_K_setNumber_18 : decode kc_K_setNumber 18 = .ok (.getfield 10, 3) := by decide +kernel
theorem kd_K_setNumber_21 : decode kc_K_setNumber 21 = .ok (.iload_n 3, 1) := by decide +kernel
theorem kd_K_setNumber_22 : decode kc_K_setNumber 22 = .ok (.iload_n 2, 1) := by decide +kernel
theorem kd_K_setNumber_23 : decode kc_K_setNumber 23 = .ok (.iastore, 1) := by decide +kernel
theorem kd_K_setNumber_24 : decode kc_K_setNumber 24 = .ok (.return_, 1) := by decide +kernel
theorem kd_K_partAt_0 : decode kc_K_partAt 0 = .ok (.iload_n 1, 1) := by decide +kernel
theorem kd_K_partAt_1 : decode kc_K_partAt 1 = .ok (.iconst 2, 1) := by decide +kernel
theorem kd_K_partAt_2 : decode kc_K_partAt 2 = .ok (.ishr, 1) := by decide +kernel
theorem kd_K_partAt_3 : decode kc_K_partAt 3 = .ok (.istore_n 3, 1) := by decide +kernel
theorem kd_K_partAt_4 : decode kc_K_partAt 4 = .ok (.iload_n 1, 1) := by decide +kernel
theorem kd_K_partAt_5 : decode kc_K_partAt 5 = .ok (.iconst 3, 1) := by decide +kernel
theorem kd_K_partAt_6 : decode kc_K_partAt 6 = .ok (.iand, 1) := by decide +kernel
theorem kd_K_partAt_7 : decode kc_K_partAt 7 = .ok (.iconst 3, 1) := by decide +kernel
theorem kd_K_partAt_8 : decode kc_K_partAt 8 = .ok (.ishl, 1) := by decide +kernel
theorem kd_K_partAt_9 : decode kc_K_partAt 9 = .ok (.istore 4, 2) := by decide +kernel
theorem kd_K_partAt_11 : decode kc_K_partAt 11 = .ok (.iload_n 3, 1) := by decide +kernel
theorem kd_K_partAt_12 : decode kc_K_partAt 12 = .ok (.ifCond .lt 26, 3) := by decide +kernel
theorem kd_K_partAt_15 : decode kc_K_partAt 15 = .ok (.iload_n 3, 1) := by decide +kernel
theorem kd_K_partAt_16 : decode kc_K_partAt 16 = .ok (.aload_n 0, 1) := by decide +kernel
theorem kd_K_partAt_17 : decode kc_K_partAt 17 = .ok (.getfield 10, 3) := by decide +kernel
theorem kd_K_partAt_20 : decode kc_K_partAt 20 = .ok (.arraylength, 1) := by decide +kernel
theorem kd_K_partAt_21 : decode kc_K_partAt 21 = .ok (.if_icmp .ge 17, 3) := by decide +kernel
theorem kd_K_partAt_24 : decode kc_K_partAt 24 = .ok (.aload_n 0, 1) := by decide +kernel
theorem kd_K_partAt_25 : decode kc_K_partAt 25 = .ok (.getfield 10, 3) := by decide +kernel
theorem kd_K_partAt_28 : decode kc_K_partAt 28 = .ok (.iload_n 3, 1) := by decide +kernel
theorem kd_K_partAt_29 : decode kc_K_partAt 29 = .ok (.iaload, 1) := by decide +kernel
theorem kd_K_partAt_30 : decode kc_K_partAt 30 = .ok (.iload 4, 2) := by decide +kernel
theorem kd_K_partAt_32 : decode kc_K_partAt 32 = .ok (.iushr, 1) := by decide +kernel
theorem kd_K_partAt_33 : decode kc_K_partAt 33 = .ok (.iload_n 2, 1) := by decide +kernel
theorem kd_K_partAt_34 : decode kc_K_partAt 34 = .ok (.iand, 1) := by decide +kernel
theorem kd_K_partAt_35 : decode kc_K_partAt 35 = .ok (.goto 4, 3) := by decide +kernel
theorem kd_K_partAt_38 : decode kc_K_partAt 38 = .ok (.iconst 0, 1) := by decide +kernel
theorem kd_K_partAt_39 : decode kc_K_partAt 39 = .ok (.ireturn, 1) := by decide +kernel
theorem kd_K_setPart_0 : decode kc_K_setPart 0 = .ok (.iload_n 1, 1) := by decide +kernel
theorem kd_K_setPart_1 : decode kc_K_setPart 1 = .ok (.iconst 2, 1) := by decide +kernel
theorem kd_K_setPart_2 : decode kc_K_setPart 2 = .ok (.ishr, 1) := by decide +kernel
theorem kd_K_setPart_3 : decode kc_K_setPart 3 = .ok (.istore 4, 2) := by decide +kernel
theorem kd_K_setPart_5 : decode kc_K_setPart 5 = .ok (.iload_n 1, 1) := by decide +kernel
theorem kd_K_setPart_6 : decode kc_K_setPart 6 = .ok (.iconst 3, 1) := by decide +kernel
theorem kd_K_setPart_7 : decode kc_K_setPart 7 = .ok (.iand, 1) := by decide +kernel
theorem kd_K_setPart_8 : decode kc_K_setPart 8 = .ok (.iconst 3, 1) := by decide +kernel
theorem kd_K_setPart_9 : decode kc_K_setPart 9 = .ok (.ishl, 1) := by decide +kernel
theorem kd_K_setPart_10 : decode kc_K_setPart 10 = .ok (.istore 5, 2) := by decide +kernel
theorem kd_K_setPart_12 : decode kc_K_setPart 12 = .ok (.iload 4, 2) := by decide +kernel
theorem kd_K_setPart_14 : decode kc_K_setPart 14 = .ok (.ifCond .lt 41, 3) := by decide +kernel
theorem kd_K_setPart_17 : decode kc_K_setPart 17 = .ok (.iload 4, 2) := by decide +kernel
theorem kd_K_setPart_19 : decode kc_K_setPart 19 = .ok (.aload_n 0, 1) := by decide +kernel
theorem kd_K_setPart_20 : decode kc_K_setPart 20 = .ok (.getfield 10, 3) := by decide +kernel
theorem kd_K_setPart_23 : decode kc_K_setPart 23 = .ok (.arraylength, 1) := by decide +kernel
theorem kd_K_setPart_24 : decode kc_K_setPart 24 = .ok (.if_icmp .ge 31, 3) := by decide +kernel
theorem kd_K_setPart_27 : decode kc_K_setPart 27 = .ok (.aload_n 0, 1) := by decide +kernel
theorem kd_K_setPart_28 : decode kc_K_setPart 28 = .ok (.getfield 10, 3) := by decide +kernel
theorem kd_K_setPart_31 : decode kc_K_setPart 31 = .ok (.iload 4, 2) := by decide +kernel
theorem kd_K_setPart_33 : decode kc_K_setPart 33 = .ok (.aload_n 0, 1) := by decide +kernel
theorem kd_K_setPart_34 : decode kc_K_setPart 34 = .ok (.getfield 10, 3) := by decide +kernel
theorem kd_K_setPart_37 : decode kc_K_setPart 37 = .ok (.iload 4, 2) := by decide +kernel
theorem kd_K_setPart_39 : decode kc_K_setPart 39 = .ok (.iaload, 1) := by decide +kernel
theorem kd_K_setPart_40 : decode kc_K_setPart 40 = .ok (.iload_n 2, 1) := by decide +kernel
theorem kd_K_setPart_41 : decode kc_K_setPart 41 = .ok (.iload 5, 2) := by decide +kernel
theorem kd_K_setPart_43 : decode kc_K_setPart 43 = .ok (.ishl, 1) := by decide +kernel
theorem kd_K_setPart_44 : decode kc_K_setPart 44 = .ok (.iconst (-1), 1) := by decide +kernel
theorem kd_K_setPart_45 : decode kc_K_setPart 45 = .ok (.ixor, 1) := by decide +kernel
theorem kd_K_setPart_46 : decode kc_K_setPart 46 = .ok (.iand, 1) := by decide +kernel
theorem kd_K_setPart_47 : decode kc_K_setPart 47 = .ok (.iload_n 3, 1) := by decide +kernel
theorem kd_K_setPart_48 : decode kc_K_setPart 48 = .ok (.iload_n 2, 1) := by decide +kernel
theorem kd_K_setPart_49 : decode kc_K_setPart 49 = .ok (.iand, 1) := by decide +kernel
theorem kd_K_setPart_50 : decode kc_K_setPart 50 = .ok (.iload 5, 2) := by decide +kernel
theorem kd_K_setPart_52 : decode kc_K_setPart 52 = .ok (.ishl, 1) := by decide +kernel
theorem kd_K_setPart_53 : decode kc_K_setPart 53 = .ok (.ior, 1) := by decide +kernel
theorem kd_K_setPart_54 : decode kc_K_setPart 54 = .ok (.iastore, 1) := by decide +kernel
theorem kd_K_setPart_55 : decode kc_K_setPart 55 = .ok (.return_, 1) := by decide +kernel
theorem kd_K_format_0 : decode kc_K_format 0 = .ok (.iconst 0, 1) := by decide +kernel
theorem kd_K_format_1 : decode kc_K_format 1 = .ok (.istore_n 1, 1) := by decide +kernel
theorem kd_K_format_2 : decode kc_K_format 2 = .ok (.iload_n 1, 1) := by decide +kernel
theorem kd_K_format_3 : decode kc_K_format 3 = .ok (.getstatic 16, 3) := by decide +kernel
theorem kd_K_format_6 : decode kc_K_format 6 = .ok (.arraylength, 1) := by decide +kernel
theorem kd_K_format_7 : decode kc_K_format 7 = .ok (.if_icmp .ge 25, 3) := by decide +kernel
theorem kd_K_format_10 : decode kc_K_format 10 = .ok (.aload_n 0, 1) := by decide +kernel
theorem kd_K_format_11 : decode kc_K_format 11 = .ok (.sipush 1024, 3) := by decide +kernel
theorem kd_K_format_14 : decode kc_K_format 14 = .ok (.iconst 4, 1) := by decide +kernel
theorem kd_K_format_15 : decode kc_K_format 15 = .ok (.iload_n 1, 1) := by decide +kernel
theorem kd_K_format_16 : decode kc_K_format 16 = .ok (.imul, 1) := by decide +kernel
theorem kd_K_format_17 : decode kc_K_format 17 = .ok (.iadd, 1) := by decide +kernel
theorem kd_K_format_18 : decode kc_K_format 18 = .ok (.getstatic 16, 3) := by decide +kernel
theorem kd_K_format_21 : decode kc_K_format 21 = .ok (.iload_n 1, 1) := by decide +kernel
theorem kd_K_format_22 : decode kc_K_format 22 = .ok (.iaload, 1) := by decide +kernel
theorem kd_K_format_23 : decode kc_K_format 23 = .ok (.invokevirtual 19, 3) := by decide +kernel
theorem kd_K_format_26 : decode kc_K_format 26 = .ok (.iinc 1 1, 3) := by decide +kernel
theorem kd_K_format_29 : decode kc_K_format 29 = .ok (.goto (-27), 3) := by decide +kernel
theorem kd_K_format_32 : decode kc_K_format 32 = .ok (.iconst 0, 1) := by decide +kernel
theorem kd_K_format_33 : decode kc_K_format 33 = .ok (.istore_n 1, 1) := by decide +kernel
theorem kd_K_format_34 : decode kc_K_format 34 = .ok (.iload_n 1, 1) := by decide +kernel
theorem kd_K_format_35 : decode kc_K_format 35 = .ok (.bipush 38, 2) := by decide +kernel
theorem kd_K_format_37 : decode kc_K_format 37 = .ok (.if_icmp .ge 15, 3) := by decide +kernel
theorem kd_K_format_40 : decode kc_K_format 40 = .ok (.aload_n 0, 1) := by decide +kernel
theorem kd_K_format_41 : decode kc_K_format 41 = .ok (.iload_n 1, 1) := by decide +kernel
theorem kd_K_format_42 : decode kc_K_format 42 = .ok (.iconst 1, 1) := by decide +kernel
theorem kd_K_format_43 : decode kc_K_format 43 = .ok (.invokevirtual 23, 3) := by decide +kernel
theorem kd_K_format_46 : decode kc_K_format 46 = .ok (.iinc 1 1, 3) := by decide +kernel
theorem kd_K_format_49 : decode kc_K_format 49 = .ok (.goto (-15), 3) := by decide +kernel
theorem kd_K_format_52 : decode kc_K_format 52 = .ok (.return_, 1) := by decide +kernel
theorem kd_K_freeBlocks_0 : decode kc_K_freeBlocks 0 = .ok (.iconst 0, 1) := by decide +kernel
theorem kd_K_freeBlocks_1 : decode kc_K_freeBlocks 1 = .ok (.istore_n 1, 1) := by decide +kernel
theorem kd_K_freeBlocks_2 : decode kc_K_freeBlocks 2 = .ok (.iconst 0, 1) := by decide +kernel
theorem kd_K_freeBlocks_3 : decode kc_K_freeBlocks 3 = .ok (.istore_n 2, 1) := by decide +kernel
theorem kd_K_freeBlocks_4 : decode kc_K_freeBlocks 4 = .ok (.iload_n 2, 1) := by decide +kernel
theorem kd_K_freeBlocks_5 : decode kc_K_freeBlocks 5 = .ok (.sipush 512, 3) := by decide +kernel
theorem kd_K_freeBlocks_8 : decode kc_K_freeBlocks 8 = .ok (.if_icmp .ge 26, 3) := by decide +kernel
theorem kd_K_freeBlocks_11 : decode kc_K_freeBlocks 11 = .ok (.iload_n 1, 1) := by decide +kernel
theorem kd_K_freeBlocks_12 : decode kc_K_freeBlocks 12 = .ok (.aload_n 0, 1) := by decide +kernel
theorem kd_K_freeBlocks_13 : decode kc_K_freeBlocks 13 = .ok (.ldc 27, 2) := by decide +kernel
theorem kd_K_freeBlocks_15 : decode kc_K_freeBlocks 15 = .ok (.iload_n 2, 1) := by decide +kernel
theorem kd_K_freeBlocks_16 : decode kc_K_freeBlocks 16 = .ok (.bipush 8, 2) := by decide +kernel
theorem kd_K_freeBlocks_18 : decode kc_K_freeBlocks 18 = .ok (.idiv, 1) := by decide +kernel
theorem kd_K_freeBlocks_19 : decode kc_K_freeBlocks 19 = .ok (.iadd, 1) := by decide +kernel
theorem kd_K_freeBlocks_20 : decode kc_K_freeBlocks 20 = .ok (.invokevirtual 28, 3) := by decide +kernel
theorem kd_K_freeBlocks_23 : decode kc_K_freeBlocks 23 = .ok (.invokestatic 32, 3) := by decide +kernel
theorem kd_K_freeBlocks_26 : decode kc_K_freeBlocks 26 = .ok (.iadd, 1) := by decide +kernel
theorem kd_K_freeBlocks_27 : decode kc_K_freeBlocks 27 = .ok (.istore_n 1, 1) := by decide +kernel
theorem kd_K_freeBlocks_28 : decode kc_K_freeBlocks 28 = .ok (.iinc 2 32, 3) := by decide +kernel
theorem kd_K_freeBlocks_31 : decode kc_K_freeBlocks 31 = .ok (.goto (-27), 3) := by decide +kernel
theorem kd_K_freeBlocks_34 : decode kc_K_freeBlocks 34 = .ok (.sipush 512, 3) := by decide +kernel
theorem kd_K_freeBlocks_37 : decode kc_K_freeBlocks 37 = .ok (.iload_n 1, 1) := by decide +kernel
theorem kd_K_freeBlocks_38 : decode kc_K_freeBlocks 38 = .ok (.isub, 1) := by decide +kernel
theorem kd_K_freeBlocks_39 : decode kc_K_freeBlocks 39 = .ok (.ireturn, 1) := by decide +kernel
theorem kd_K_takeBlock_0 : decode kc_K_takeBlock 0 = .ok (.bipush 38, 2) := by decide +kernel
theorem kd_K_takeBlock_2 : decode kc_K_takeBlock 2 = .ok (.istore_n 1, 1) := by decide +kernel
theorem kd_K_takeBlock_3 : decode kc_K_takeBlock 3 = .ok (.iload_n 1, 1) := by decide +kernel
theorem kd_K_takeBlock_4 : decode kc_K_takeBlock 4 = .ok (.sipush 512, 3) := by decide +kernel
theorem kd_K_takeBlock_7 : decode kc_K_takeBlock 7 = .ok (.if_icmp .ge 55, 3) := by decide +kernel
theorem kd_K_takeBlock_10 : decode kc_K_takeBlock 10 = .ok (.aload_n 0, 1) := by decide +kernel
theorem kd_K_takeBlock_11 : decode kc_K_takeBlock 11 = .ok (.ldc 27, 2) := by decide +kernel
theorem kd_K_takeBlock_13 : decode kc_K_takeBlock 13 = .ok (.iload_n 1, 1) := by decide +kernel
theorem kd_K_takeBlock_14 : decode kc_K_takeBlock 14 = .ok (.bipush 8, 2) := by decide +kernel
theorem kd_K_takeBlock_16 : decode kc_K_takeBlock 16 = .ok (.idiv, 1) := by decide +kernel
theorem kd_K_takeBlock_17 : decode kc_K_takeBlock 17 = .ok (.iadd, 1) := by decide +kernel
theorem kd_K_takeBlock_18 : decode kc_K_takeBlock 18 = .ok (.sipush 255, 3) := by decide +kernel
theorem kd_K_takeBlock_21 : decode kc_K_takeBlock 21 = .ok (.invokevirtual 37, 3) := by decide +kernel
theorem kd_K_takeBlock_24 : decode kc_K_takeBlock 24 = .ok (.iload_n 1, 1) := by decide +kernel
theorem kd_K_takeBlock_25 : decode kc_K_takeBlock 25 = .ok (.bipush 7, 2) := by decide +kernel
theorem kd_K_takeBlock_27 : decode kc_K_takeBlock 27 = .ok (.iand, 1) := by decide +kernel
theorem kd_K_takeBlock_28 : decode kc_K_takeBlock 28 = .ok (.ishr, 1) := by decide +kernel
theorem kd_K_takeBlock_29 : decode kc_K_takeBlock 29 = .ok (.iconst 1, 1) := by decide +kernel
theorem kd_K_takeBlock_30 : decode kc_K_takeBlock 30 = .ok (.iand, 1) := by decide +kernel
theorem kd_K_takeBlock_31 : decode kc_K_takeBlock 31 = .ok (.istore_n 2, 1) := by decide +kernel
theorem kd_K_takeBlock_32 : decode kc_K_takeBlock 32 = .ok (.iload_n 2, 1) := by decide +kernel
theorem kd_K_takeBlock_33 : decode kc_K_takeBlock 33 = .ok (.ifCond .ne 23, 3) := by decide +kernel
theorem kd_K_takeBlock_36 : decode kc_K_takeBlock 36 = .ok (.aload_n 0, 1) := by decide +kernel
theorem kd_K_takeBlock_37 : decode kc_K_takeBlock 37 = .ok (.iload_n 1, 1) := by decide +kernel
theorem kd_K_takeBlock_38 : decode kc_K_takeBlock 38 = .ok (.iconst 1, 1) := by decide +kernel
theorem kd_K_takeBlock_39 : decode kc_K_takeBlock 39 = .ok (.invokevirtual 23, 3) := by decide +kernel
theorem kd_K_takeBlock_42 : decode kc_K_takeBlock 42 = .ok (.aload_n 0, 1) := by decide +kernel
theorem kd_K_takeBlock_43 : decode kc_K_takeBlock 43 = .ok (.iload_n 1, 1) := by decide +kernel
theorem kd_K_takeBlock_44 : decode kc_K_takeBlock 44 = .ok (.sipush 1024, 3) := by decide +kernel
theorem kd_K_takeBlock_47 : decode kc_K_takeBlock 47 = .ok (.imul, 1) := by decide +kernel
theorem kd_K_takeBlock_48 : decode kc_K_takeBlock 48 = .ok (.sipush 1024, 3) := by decide +kernel
theorem kd_K_takeBlock_51 : decode kc_K_takeBlock 51 = .ok (.invokevirtual 41, 3) := by decide +kernel
theorem kd_K_takeBlock_54 : decode kc_K_takeBlock 54 = .ok (.iload_n 1, 1) := by decide +kernel
theorem kd_K_takeBlock_55 : decode kc_K_takeBlock 55 = .ok (.ireturn, 1) := by decide +kernel
theorem kd_K_takeBlock_56 : decode kc_K_takeBlock 56 = .ok (.iinc 1 1, 3) := by decide +kernel
theorem kd_K_takeBlock_59 : decode kc_K_takeBlock 59 = .ok (.goto (-56), 3) := by decide +kernel
theorem kd_K_takeBlock_62 : decode kc_K_takeBlock 62 = .ok (.iconst 0, 1) := by decide +kernel
theorem kd_K_takeBlock_63 : decode kc_K_takeBlock 63 = .ok (.ireturn, 1) := by decide +kernel
theorem kd_K_giveBlock_0 : decode kc_K_giveBlock 0 = .ok (.iload_n 1, 1) := by decide +kernel
theorem kd_K_giveBlock_1 : decode kc_K_giveBlock 1 = .ok (.bipush 38, 2) := by decide +kernel
theorem kd_K_giveBlock_3 : decode kc_K_giveBlock 3 = .ok (.if_icmp .lt 16, 3) := by decide +kernel
theorem kd_K_giveBlock_6 : decode kc_K_giveBlock 6 = .ok (.iload_n 1, 1) := by decide +kernel
theorem kd_K_giveBlock_7 : decode kc_K_giveBlock 7 = .ok (.sipush 512, 3) := by decide +kernel
theorem kd_K_giveBlock_10 : decode kc_K_giveBlock 10 = .ok (.if_icmp .ge 9, 3) := by decide +kernel
theorem kd_K_giveBlock_13 : decode kc_K_giveBlock 13 = .ok (.aload_n 0, 1) := by decide +kernel
theorem kd_K_giveBlock_14 : decode kc_K_giveBlock 14 = .ok (.iload_n 1, 1) := by decide +kernel
theorem kd_K_giveBlock_15 : decode kc_K_giveBlock 15 = .ok (.iconst 0, 1) := by decide +kernel
theorem kd_K_giveBlock_16 : decode kc_K_giveBlock 16 = .ok (.invokevirtual 23, 3) := by decide +kernel
theorem kd_K_giveBlock_19 : decode kc_K_giveBlock 19 = .ok (.return_, 1) := by decide +kernel
theorem kd_K_wipe_0 : decode kc_K_wipe 0 = .ok (.iconst 0, 1) := by decide +kernel
theorem kd_K_wipe_1 : decode kc_K_wipe 1 = .ok (.istore_n 3, 1) := by decide +kernel
theorem kd_K_wipe_2 : decode kc_K_wipe 2 = .ok (.iload_n 3, 1) := by decide +kernel
theorem kd_K_wipe_3 : decode kc_K_wipe 3 = .ok (.iload_n 2, 1) := by decide +kernel
theorem kd_K_wipe_4 : decode kc_K_wipe 4 = .ok (.if_icmp .ge 17, 3) := by decide +kernel
theorem kd_K_wipe_7 : decode kc_K_wipe 7 = .ok (.aload_n 0, 1) := by decide +kernel
theorem kd_K_wipe_8 : decode kc_K_wipe 8 = .ok (.iload_n 1, 1) := by decide +kernel
theorem kd_K_wipe_9 : decode kc_K_wipe 9 = .ok (.iload_n 3, 1) := by decide +kernel
theorem kd_K_wipe_10 : decode kc_K_wipe 10 = .ok (.iadd, 1) := by decide +kernel
theorem kd_K_wipe_11 : decode kc_K_wipe 11 = .ok (.iconst 0, 1) := by decide +kernel
theorem kd_K_wipe_12 : decode kc_K_wipe 12 = .ok (.invokevirtual 19, 3) := by decide +kernel
theorem kd_K_wipe_15 : decode kc_K_wipe 15 = .ok (.iinc 3 4, 3) := by decide +kernel
theorem kd_K_wipe_18 : decode kc_K_wipe 18 = .ok (.goto (-16), 3) := by decide +kernel
theorem kd_K_wipe_21 : decode kc_K_wipe 21 = .ok (.return_, 1) := by decide +kernel
theorem kd_K_mark_0 : decode kc_K_mark 0 = .ok (.ldc 27, 2) := by decide +kernel
theorem kd_K_mark_2 : decode kc_K_mark 2 = .ok (.iload_n 1, 1) := by decide +kernel
theorem kd_K_mark_3 : decode kc_K_mark 3 = .ok (.bipush 8, 2) := by decide +kernel
theorem kd_K_mark_5 : decode kc_K_mark 5 = .ok (.idiv, 1) := by decide +kernel
theorem kd_K_mark_6 : decode kc_K_mark 6 = .ok (.iadd, 1) := by decide +kernel
theorem kd_K_mark_7 : decode kc_K_mark 7 = .ok (.istore_n 3, 1) := by decide +kernel
theorem kd_K_mark_8 : decode kc_K_mark 8 = .ok (.iconst 1, 1) := by decide +kernel
theorem kd_K_mark_9 : decode kc_K_mark 9 = .ok (.iload_n 1, 1) := by decide +kernel
theorem kd_K_mark_10 : decode kc_K_mark 10 = .ok (.bipush 7, 2) := by decide +kernel
theorem kd_K_mark_12 : decode kc_K_mark 12 = .ok (.iand, 1) := by decide +kernel
theorem kd_K_mark_13 : decode kc_K_mark 13 = .ok (.ishl, 1) := by decide +kernel
theorem kd_K_mark_14 : decode kc_K_mark 14 = .ok (.istore 4, 2) := by decide +kernel
theorem kd_K_mark_16 : decode kc_K_mark 16 = .ok (.aload_n 0, 1) := by decide +kernel
theorem kd_K_mark_17 : decode kc_K_mark 17 = .ok (.iload_n 3, 1) := by decide +kernel
theorem kd_K_mark_18 : decode kc_K_mark 18 = .ok (.sipush 255, 3) := by decide +kernel
theorem kd_K_mark_21 : decode kc_K_mark 21 = .ok (.invokevirtual 37, 3) := by decide +kernel
theorem kd_K_mark_24 : decode kc_K_mark 24 = .ok (.iload 4, 2) := by decide +kernel
theorem kd_K_mark_26 : decode kc_K_mark 26 = .ok (.iconst (-1), 1) := by decide +kernel
theorem kd_K_mark_27 : decode kc_K_mark 27 = .ok (.ixor, 1) := by decide +kernel
theorem kd_K_mark_28 : decode kc_K_mark 28 = .ok (.iand, 1) := by decide +kernel
theorem kd_K_mark_29 : decode kc_K_mark 29 = .ok (.istore 5, 2) := by decide +kernel
theorem kd_K_mark_31 : decode kc_K_mark 31 = .ok (.aload_n 0, 1) := by decide +kernel
theorem kd_K_mark_32 : decode kc_K_mark 32 = .ok (.iload_n 3, 1) := by decide +kernel
theorem kd_K_mark_33 : decode kc_K_mark 33 = .ok (.sipush 255, 3) := by decide +kernel
theorem kd_K_mark_36 : decode kc_K_mark 36 = .ok (.iload_n 2, 1) := by decide +kernel
theorem kd_K_mark_37 : decode kc_K_mark 37 = .ok (.ifCond .eq 11, 3) := by decide +kernel
theorem kd_K_mark_40 : decode kc_K_mark 40 = .ok (.iload 5, 2) := by decide +kernel
theorem kd_K_mark_42 : decode kc_K_mark 42 = .ok (.iload 4, 2) := by decide +kernel
theorem kd_K_mark_44 : decode kc_K_mark 44 = .ok (.ior, 1) := by decide +kernel
theorem kd_K_mark_45 : decode kc_K_mark 45 = .ok (.goto 5, 3) := by decide +kernel
theorem kd_K_mark_48 : decode kc_K_mark 48 = .ok (.iload 5, 2) := by decide +kernel
theorem kd_K_mark_50 : decode kc_K_mark 50 = .ok (.invokevirtual 44, 3) := by decide +kernel
theorem kd_K_mark_53 : decode kc_K_mark 53 = .ok (.return_, 1) := by decide +kernel
theorem kd_I_init_0 : decode kc_I_init 0 = .ok (.aload_n 0, 1) := by decide +kernel
theorem kd_I_init_1 : decode kc_I_init 1 = .ok (.invokespecial 5, 3) := by decide +kernel
theorem kd_I_init_4 : decode kc_I_init 4 = .ok (.aload_n 0, 1) := by decide +kernel
theorem kd_I_init_5 : decode kc_I_init 5 = .ok (.new 11, 3) := by decide +kernel
theorem kd_I_init_8 : decode kc_I_init 8 = .ok (.dup, 1) := by decide +kernel
theorem kd_I_init_9 : decode kc_I_init 9 = .ok (.invokespecial 13, 3) := by decide +kernel
theorem kd_I_init_12 : decode kc_I_init 12 = .ok (.putfield 14, 3) := by decide +kernel
theorem kd_I_init_15 : decode kc_I_init 15 = .ok (.aload_n 0, 1) := by decide +kernel
theorem kd_I_init_16 : decode kc_I_init 16 = .ok (.bipush 64, 2) := by decide +kernel
theorem kd_I_init_18 : decode kc_I_init 18 = .ok (.newarray .int, 2) := by decide +kernel
theorem kd_I_init_20 : decode kc_I_init 20 = .ok (.putfield 18, 3) := by decide +kernel
theorem kd_I_init_23 : decode kc_I_init 23 = .ok (.return_, 1) := by decide +kernel
theorem kd_I_isInode_0 : decode kc_I_isInode 0 = .ok (.iload_n 1, 1) := by decide +kernel
theorem kd_I_isInode_1 : decode kc_I_isInode 1 = .ok (.ifCond .lt 13, 3) := by decide +kernel
theorem kd_I_isInode_4 : decode kc_I_isInode 4 = .ok (.iload_n 1, 1) := by decide +kernel
theorem kd_I_isInode_5 : decode kc_I_isInode 5 = .ok (.bipush 64, 2) := by decide +kernel
theorem kd_I_isInode_7 : decode kc_I_isInode 7 = .ok (.if_icmp .ge 7, 3) := by decide +kernel
theorem kd_I_isInode_10 : decode kc_I_isInode 10 = .ok (.iconst 1, 1) := by decide +kernel
theorem kd_I_isInode_11 : decode kc_I_isInode 11 = .ok (.goto 4, 3) := by decide +kernel
theorem kd_I_isInode_14 : decode kc_I_isInode 14 = .ok (.iconst 0, 1) := by decide +kernel
theorem kd_I_isInode_15 : decode kc_I_isInode 15 = .ok (.ireturn, 1) := by decide +kernel
theorem kd_I_inUse_0 : decode kc_I_inUse 0 = .ok (.aload_n 0, 1) := by decide +kernel
theorem kd_I_inUse_1 : decode kc_I_inUse 1 = .ok (.iload_n 1, 1) := by decide +kernel
theorem kd_I_inUse_2 : decode kc_I_inUse 2 = .ok (.invokevirtual 22, 3) := by decide +kernel
theorem kd_I_inUse_5 : decode kc_I_inUse 5 = .ok (.ifCond .eq 7, 3) := by decide +kernel
theorem kd_I_inUse_8 : decode kc_I_inUse 8 = .ok (.iconst 1, 1) := by decide +kernel
theorem kd_I_inUse_9 : decode kc_I_inUse 9 = .ok (.goto 4, 3) := by decide +kernel
theorem kd_I_inUse_12 : decode kc_I_inUse 12 = .ok (.iconst 0, 1) := by decide +kernel
theorem kd_I_inUse_13 : decode kc_I_inUse 13 = .ok (.ireturn, 1) := by decide +kernel
theorem kd_I_kindOf_0 : decode kc_I_kindOf 0 = .ok (.aload_n 0, 1) := by decide +kernel
theorem kd_I_kindOf_1 : decode kc_I_kindOf 1 = .ok (.iload_n 1, 1) := by decide +kernel
theorem kd_I_kindOf_2 : decode kc_I_kindOf 2 = .ok (.invokevirtual 26, 3) := by decide +kernel
theorem kd_I_kindOf_5 : decode kc_I_kindOf 5 = .ok (.ifCond .eq 22, 3) := by decide +kernel
theorem kd_I_kindOf_8 : decode kc_I_kindOf 8 = .ok (.aload_n 0, 1) := by decide +kernel
theorem kd_I_kindOf_9 : decode kc_I_kindOf 9 = .ok (.getfield 14, 3) := by decide +kernel
theorem kd_I_kindOf_12 : decode kc_I_kindOf 12 = .ok (.aload_n 0, 1) := by decide +kernel
theorem kd_I_kindOf_13 : decode kc_I_kindOf 13 = .ok (.iload_n 1, 1) := by decide +kernel
theorem kd_I_kindOf_14 : decode kc_I_kindOf 14 = .ok (.invokevirtual 30, 3) := by decide +kernel
theorem kd_I_kindOf_17 : decode kc_I_kindOf 17 = .ok (.iconst 0, 1) := by decide +kernel
theorem kd_I_kindOf_18 : decode kc_I_kindOf 18 = .ok (.iadd, 1) := by decide +kernel
theorem kd_I_kindOf_19 : decode kc_I_kindOf 19 = .ok (.ldc 33, 2) := by decide +kernel
theorem kd_I_kindOf_21 : decode kc_I_kindOf 21 = .ok (.invokevirtual 34, 3) := by decide +kernel
theorem kd_I_kindOf_24 : decode kc_I_kindOf 24 = .ok (.goto 4, 3) := by decide +kernel
theorem kd_I_kindOf_27 : decode kc_I_kindOf 27 = .ok (.iconst 0, 1) := by decide +kernel
theorem kd_I_kindOf_28 : decode kc_I_kindOf 28 = .ok (.ireturn, 1) := by decide +kernel
theorem kd_I_majorOf_0 : decode kc_I_majorOf 0 = .ok (.aload_n 0, 1) := by decide +kernel
theorem kd_I_majorOf_1 : decode kc_I_majorOf 1 = .ok (.iload_n 1, 1) := by decide +kernel
theorem kd_I_majorOf_2 : decode kc_I_majorOf 2 = .ok (.invokevirtual 26, 3) := by decide +kernel
theorem kd_I_majorOf_5 : decode kc_I_majorOf 5 = .ok (.ifCond .eq 22, 3) := by decide +kernel
theorem kd_I_majorOf_8 : decode kc_I_majorOf 8 = .ok (.aload_n 0, 1) := by decide +kernel
theorem kd_I_majorOf_9 : decode kc_I_majorOf 9 = .ok (.getfield 14, 3) := by decide +kernel
theorem kd_I_majorOf_12 : decode kc_I_majorOf 12 = .ok (.aload_n 0, 1) := by decide +kernel
theorem kd_I_majorOf_13 : decode kc_I_majorOf 13 = .ok (.iload_n 1, 1) := by decide +kernel
theorem kd_I_majorOf_14 : decode kc_I_majorOf 14 = .ok (.invokevirtual 30, 3) := by decide +kernel
theorem kd_I_majorOf_17 : decode kc_I_majorOf 17 = .ok (.iconst 2, 1) := by decide +kernel
theorem kd_I_majorOf_18 : decode kc_I_majorOf 18 = .ok (.iadd, 1) := by decide +kernel
theorem kd_I_majorOf_19 : decode kc_I_majorOf 19 = .ok (.ldc 33, 2) := by decide +kernel
theorem kd_I_majorOf_21 : decode kc_I_majorOf 21 = .ok (.invokevirtual 34, 3) := by decide +kernel
theorem kd_I_majorOf_24 : decode kc_I_majorOf 24 = .ok (.goto 4, 3) := by decide +kernel
theorem kd_I_majorOf_27 : decode kc_I_majorOf 27 = .ok (.iconst 0, 1) := by decide +kernel
theorem kd_I_majorOf_28 : decode kc_I_majorOf 28 = .ok (.ireturn, 1) := by decide +kernel
theorem kd_I_minorOf_0 : decode kc_I_minorOf 0 = .ok (.aload_n 0, 1) := by decide +kernel
theorem kd_I_minorOf_1 : decode kc_I_minorOf 1 = .ok (.iload_n 1, 1) := by decide +kernel
theorem kd_I_minorOf_2 : decode kc_I_minorOf 2 = .ok (.invokevirtual 26, 3) := by decide +kernel
theorem kd_I_minorOf_5 : decode kc_I_minorOf 5 = .ok (.ifCond .eq 22, 3) := by decide +kernel
theorem kd_I_minorOf_8 : decode kc_I_minorOf 8 = .ok (.aload_n 0, 1) := by decide +kernel
theorem kd_I_minorOf_9 : decode kc_I_minorOf 9 = .ok (.getfield 14, 3) := by decide +kernel
theorem kd_I_minorOf_12 : decode kc_I_minorOf 12 = .ok (.aload_n 0, 1) := by decide +kernel
theorem kd_I_minorOf_13 : decode kc_I_minorOf 13 = .ok (.iload_n 1, 1) := by decide +kernel
theorem kd_I_minorOf_14 : decode kc_I_minorOf 14 = .ok (.invokevirtual 30, 3) := by decide +kernel
theorem kd_I_minorOf_17 : decode kc_I_minorOf 17 = .ok (.iconst 4, 1) := by decide +kernel
theorem kd_I_minorOf_18 : decode kc_I_minorOf 18 = .ok (.iadd, 1) := by decide +kernel
theorem kd_I_minorOf_19 : decode kc_I_minorOf 19 = .ok (.ldc 33, 2) := by decide +kernel
theorem kd_I_minorOf_21 : decode kc_I_minorOf 21 = .ok (.invokevirtual 34, 3) := by decide +kernel
theorem kd_I_minorOf_24 : decode kc_I_minorOf 24 = .ok (.goto 4, 3) := by decide +kernel
theorem kd_I_minorOf_27 : decode kc_I_minorOf 27 = .ok (.iconst 0, 1) := by decide +kernel
theorem kd_I_minorOf_28 : decode kc_I_minorOf 28 = .ok (.ireturn, 1) := by decide +kernel
theorem kd_I_linksOf_0 : decode kc_I_linksOf 0 = .ok (.aload_n 0, 1) := by decide +kernel
theorem kd_I_linksOf_1 : decode kc_I_linksOf 1 = .ok (.iload_n 1, 1) := by decide +kernel
theorem kd_I_linksOf_2 : decode kc_I_linksOf 2 = .ok (.invokevirtual 26, 3) := by decide +kernel
theorem kd_I_linksOf_5 : decode kc_I_linksOf 5 = .ok (.ifCond .eq 23, 3) := by decide +kernel
theorem kd_I_linksOf_8 : decode kc_I_linksOf 8 = .ok (.aload_n 0, 1) := by decide +kernel
theorem kd_I_linksOf_9 : decode kc_I_linksOf 9 = .ok (.getfield 14, 3) := by decide +kernel
theorem kd_I_linksOf_12 : decode kc_I_linksOf 12 = .ok (.aload_n 0, 1) := by decide +kernel
theorem kd_I_linksOf_13 : decode kc_I_linksOf 13 = .ok (.iload_n 1, 1) := by decide +kernel
theorem kd_I_linksOf_14 : decode kc_I_linksOf 14 = .ok (.invokevirtual 30, 3) := by decide +kernel
theorem kd_I_linksOf_17 : decode kc_I_linksOf 17 = .ok (.bipush 6, 2) := by decide +kernel
theorem kd_I_linksOf_19 : decode kc_I_linksOf 19 = .ok (.iadd, 1) := by decide +kernel
theorem kd_I_linksOf_20 : decode kc_I_linksOf 20 = .ok (.ldc 33, 2) := by decide +kernel
theorem kd_I_linksOf_22 : decode kc_I_linksOf 22 = .ok (.invokevirtual 34, 3) := by decide +kernel
theorem kd_I_linksOf_25 : decode kc_I_linksOf 25 = .ok (.goto 4, 3) := by decide +kernel
theorem kd_I_linksOf_28 : decode kc_I_linksOf 28 = .ok (.iconst 0, 1) := by decide +kernel
theorem kd_I_linksOf_29 : decode kc_I_linksOf 29 = .ok (.ireturn, 1) := by decide +kernel
theorem kd_I_sizeOf_0 : decode kc_I_sizeOf 0 = .ok (.aload_n 0, 1) := by decide +kernel
theorem kd_I_sizeOf_1 : decode kc_I_sizeOf 1 = .ok (.iload_n 1, 1) := by decide +kernel
theorem kd_I_sizeOf_2 : decode kc_I_sizeOf 2 = .ok (.invokevirtual 26, 3) := by decide +kernel
theorem kd_I_sizeOf_5 : decode kc_I_sizeOf 5 = .ok (.ifCond .eq 21, 3) := by decide +kernel
theorem kd_I_sizeOf_8 : decode kc_I_sizeOf 8 = .ok (.aload_n 0, 1) := by decide +kernel
theorem kd_I_sizeOf_9 : decode kc_I_sizeOf 9 = .ok (.getfield 14, 3) := by decide +kernel
theorem kd_I_sizeOf_12 : decode kc_I_sizeOf 12 = .ok (.aload_n 0, 1) := by decide +kernel
theorem kd_I_sizeOf_13 : decode kc_I_sizeOf 13 = .ok (.iload_n 1, 1) := by decide +kernel
theorem kd_I_sizeOf_14 : decode kc_I_sizeOf 14 = .ok (.invokevirtual 30, 3) := by decide +kernel
theorem kd_I_sizeOf_17 : decode kc_I_sizeOf 17 = .ok (.bipush 8, 2) := by decide +kernel
theorem kd_I_sizeOf_19 : decode kc_I_sizeOf 19 = .ok (.iadd, 1) := by decide +kernel
theorem kd_I_sizeOf_20 : decode kc_I_sizeOf 20 = .ok (.invokevirtual 38, 3) := by decide +kernel
theorem kd_I_sizeOf_23 : decode kc_I_sizeOf 23 = .ok (.goto 4, 3) := by decide +kernel
theorem kd_I_sizeOf_26 : decode kc_I_sizeOf 26 = .ok (.iconst 0, 1) := by decide +kernel
theorem kd_I_sizeOf_27 : decode kc_I_sizeOf 27 = .ok (.ireturn, 1) := by decide +kernel
theorem kd_I_heldOf_0 : decode kc_I_heldOf 0 = .ok (.aload_n 0, 1) := by decide +kernel
theorem kd_I_heldOf_1 : decode kc_I_heldOf 1 = .ok (.iload_n 1, 1) := by decide +kernel
theorem kd_I_heldOf_2 : decode kc_I_heldOf 2 = .ok (.invokevirtual 26, 3) := by decide +kernel
theorem kd_I_heldOf_5 : decode kc_I_heldOf 5 = .ok (.ifCond .eq 12, 3) := by decide +kernel
theorem kd_I_heldOf_8 : decode kc_I_heldOf 8 = .ok (.aload_n 0, 1) := by decide +kernel
theorem kd_I_heldOf_9 : decode kc_I_heldOf 9 = .ok (.getfield 18, 3) := by decide +kernel
theorem kd_I_heldOf_12 : decode kc_I_heldOf 12 = .ok (.iload_n 1, 1) := by decide +kernel
theorem kd_I_heldOf_13 : decode kc_I_heldOf 13 = .ok (.iaload, 1) := by decide +kernel
theorem kd_I_heldOf_14 : decode kc_I_heldOf 14 = .ok (.goto 4, 3) := by decide +kernel
theorem kd_I_heldOf_17 : decode kc_I_heldOf 17 = .ok (.iconst 0, 1) := by decide +kernel
theorem kd_I_heldOf_18 : decode kc_I_heldOf 18 = .ok (.ireturn, 1) := by decide +kernel
theorem kd_I_addLinks_0 : decode kc_I_addLinks 0 = .ok (.aload_n 0, 1) := by decide +kernel
theorem kd_I_addLinks_1 : decode kc_I_addLinks 1 = .ok (.iload_n 1, 1) := by decide +kernel
theorem kd_I_addLinks_2 : decode kc_I_addLinks 2 = .ok (.invokevirtual 26, 3) := by decide +kernel
theorem kd_I_addLinks_5 : decode kc_I_addLinks 5 = .ok (.ifCond .eq 27, 3) := by decide +kernel
theorem kd_I_addLinks_8 : decode kc_I_addLinks 8 = .ok (.aload_n 0, 1) := by decide +kernel
theorem kd_I_addLinks_9 : decode kc_I_addLinks 9 = .ok (.getfield 14, 3) := by decide +kernel
theorem kd_I_addLinks_12 : decode kc_I_addLinks 12 = .ok (.aload_n 0, 1) := by decide +kernel
theorem kd_I_addLinks_13 : decode kc_I_addLinks 13 = .ok (.iload_n 1, 1) := by decide +kernel
theorem kd_I_addLinks_14 : decode kc_I_addLinks 14 = .ok (.invokevirtual 30, 3) := by decide +kernel
theorem kd_I_addLinks_17 : decode kc_I_addLinks 17 = .ok (.bipush 6, 2) := by decide +kernel
theorem kd_I_addLinks_19 : decode kc_I_addLinks 19 = .ok (.iadd, 1) := by decide +kernel
theorem kd_I_addLinks_20 : decode kc_I_addLinks 20 = .ok (.ldc 33, 2) := by decide +kernel
theorem kd_I_addLinks_22 : decode kc_I_addLinks 22 = .ok (.aload_n 0, 1) := by decide +kernel
theorem kd_I_addLinks_23 : decode kc_I_addLinks 23 = .ok (.iload_n 1, 1) := by decide +kernel
theorem kd_I_addLinks_24 : decode kc_I_addLinks 24 = .ok (.invokevirtual 41, 3) := by decide +kernel
theorem kd_I_addLinks_27 : decode kc_I_addLinks 27 = .ok (.iload_n 2, 1) := by decide +kernel
theorem kd_I_addLinks_28 : decode kc_I_addLinks 28 = .ok (.iadd, 1) := by decide +kernel
theorem kd_I_addLinks_29 : decode kc_I_addLinks 29 = .ok (.invokevirtual 44, 3) := by decide +kernel
theorem kd_I_addLinks_32 : decode kc_I_addLinks 32 = .ok (.return_, 1) := by decide +kernel
theorem kd_I_setSize_0 : decode kc_I_setSize 0 = .ok (.aload_n 0, 1) := by decide +kernel
theorem kd_I_setSize_1 : decode kc_I_setSize 1 = .ok (.iload_n 1, 1) := by decide +kernel
theorem kd_I_setSize_2 : decode kc_I_setSize 2 = .ok (.invokevirtual 26, 3) := by decide +kernel
theorem kd_I_setSize_5 : decode kc_I_setSize 5 = .ok (.ifCond .eq 19, 3) := by decide +kernel
theorem kd_I_setSize_8 : decode kc_I_setSize 8 = .ok (.aload_n 0, 1) := by decide +kernel
theorem kd_I_setSize_9 : decode kc_I_setSize 9 = .ok (.getfield 14, 3) := by decide +kernel
theorem kd_I_setSize_12 : decode kc_I_setSize 12 = .ok (.aload_n 0, 1) := by decide +kernel
theorem kd_I_setSize_13 : decode kc_I_setSize 13 = .ok (.iload_n 1, 1) := by decide +kernel
theorem kd_I_setSize_14 : decode kc_I_setSize 14 = .ok (.invokevirtual 30, 3) := by decide +kernel
theorem kd_I_setSize_17 : decode kc_I_setSize 17 = .ok (.bipush 8, 2) := by decide +kernel
theorem kd_I_setSize_19 : decode kc_I_setSize 19 = .ok (.iadd, 1) := by decide +kernel
theorem kd_I_setSize_20 : decode kc_I_setSize 20 = .ok (.iload_n 2, 1) := by decide +kernel
theorem kd_I_setSize_21 : decode kc_I_setSize 21 = .ok (.invokevirtual 48, 3) := by decide +kernel
theorem kd_I_setSize_24 : decode kc_I_setSize 24 = .ok (.return_, 1) := by decide +kernel
theorem kd_I_addHeld_0 : decode kc_I_addHeld 0 = .ok (.aload_n 0, 1) := by decide +kernel
theorem kd_I_addHeld_1 : decode kc_I_addHeld 1 = .ok (.iload_n 1, 1) := by decide +kernel
theorem kd_I_addHeld_2 : decode kc_I_addHeld 2 = .ok (.invokevirtual 26, 3) := by decide +kernel
theorem kd_I_addHeld_5 : decode kc_I_addHeld 5 = .ok (.ifCond .eq 13, 3) := by decide +kernel
theorem kd_I_addHeld_8 : decode kc_I_addHeld 8 = .ok (.aload_n 0, 1) := by decide +kernel
theorem kd_I_addHeld_9 : decode kc_I_addHeld 9 = .ok (.getfield 18, 3) := by decide +kernel
theorem kd_I_addHeld_12 : decode kc_I_addHeld 12 = .ok (.iload_n 1, 1) := by decide +kernel
theorem kd_I_addHeld_13 : decode kc_I_addHeld 13 = .ok (.dup2, 1) := by decide +kernel
theorem kd_I_addHeld_14 : decode kc_I_addHeld 14 = .ok (.iaload, 1) := by decide +kernel
theorem kd_I_addHeld_15 : decode kc_I_addHeld 15 = .ok (.iload_n 2, 1) := by decide +kernel
theorem kd_I_addHeld_16 : decode kc_I_addHeld 16 = .ok (.iadd, 1) := by decide +kernel
theorem kd_I_addHeld_17 : decode kc_I_addHeld 17 = .ok (.iastore, 1) := by decide +kernel
theorem kd_I_addHeld_18 : decode kc_I_addHeld 18 = .ok (.return_, 1) := by decide +kernel
theorem kd_I_leastFree_0 : decode kc_I_leastFree 0 = .ok (.iconst 1, 1) := by decide +kernel
theorem kd_I_leastFree_1 : decode kc_I_leastFree 1 = .ok (.istore_n 1, 1) := by decide +kernel
theorem kd_I_leastFree_2 : decode kc_I_leastFree 2 = .ok (.iload_n 1, 1) := by decide +kernel
theorem kd_I_leastFree_3 : decode kc_I_leastFree 3 = .ok (.bipush 64, 2) := by decide +kernel
theorem kd_I_leastFree_5 : decode kc_I_leastFree 5 = .ok (.if_icmp .ge 19, 3) := by decide +kernel
theorem kd_I_leastFree_8 : decode kc_I_leastFree 8 = .ok (.aload_n 0, 1) := by decide +kernel
theorem kd_I_leastFree_9 : decode kc_I_leastFree 9 = .ok (.iload_n 1, 1) := by decide +kernel
theorem kd_I_leastFree_10 : decode kc_I_leastFree 10 = .ok (.invokevirtual 52, 3) := by decide +kernel
theorem kd_I_leastFree_13 : decode kc_I_leastFree 13 = .ok (.ifCond .ne 5, 3) := by decide +kernel
theorem kd_I_leastFree_16 : decode kc_I_leastFree 16 = .ok (.iload_n 1, 1) := by decide +kernel
theorem kd_I_leastFree_17 : decode kc_I_leastFree 17 = .ok (.ireturn, 1) := by decide +kernel
theorem kd_I_leastFree_18 : decode kc_I_leastFree 18 = .ok (.iinc 1 1, 3) := by decide +kernel
theorem kd_I_leastFree_21 : decode kc_I_leastFree 21 = .ok (.goto (-19), 3) := by decide +kernel
theorem kd_I_leastFree_24 : decode kc_I_leastFree 24 = .ok (.iconst (-1), 1) := by decide +kernel
theorem kd_I_leastFree_25 : decode kc_I_leastFree 25 = .ok (.ireturn, 1) := by decide +kernel
theorem kd_I_make_0 : decode kc_I_make 0 = .ok (.aload_n 0, 1) := by decide +kernel
theorem kd_I_make_1 : decode kc_I_make 1 = .ok (.iload_n 1, 1) := by decide +kernel
theorem kd_I_make_2 : decode kc_I_make 2 = .ok (.invokevirtual 26, 3) := by decide +kernel
theorem kd_I_make_5 : decode kc_I_make 5 = .ok (.ifCond .eq 68, 3) := by decide +kernel
theorem kd_I_make_8 : decode kc_I_make 8 = .ok (.aload_n 0, 1) := by decide +kernel
theorem kd_I_make_9 : decode kc_I_make 9 = .ok (.iload_n 1, 1) := by decide +kernel
theorem kd_I_make_10 : decode kc_I_make 10 = .ok (.invokevirtual 30, 3) := by decide +kernel
theorem kd_I_make_13 : decode kc_I_make 13 = .ok (.istore 5, 2) := by decide +kernel
theorem kd_I_make_15 : decode kc_I_make 15 = .ok (.aload_n 0, 1) := by decide +kernel
theorem kd_I_make_16 : decode kc_I_make 16 = .ok (.getfield 14, 3) := by decide +kernel
theorem kd_I_make_19 : decode kc_I_make 19 = .ok (.iload 5, 2) := by decide +kernel
theorem kd_I_make_21 : decode kc_I_make 21 = .ok (.iconst 0, 1) := by decide +kernel
theorem kd_I_make_22 : decode kc_I_make 22 = .ok (.iadd, 1) := by decide +kernel
theorem kd_I_make_23 : decode kc_I_make 23 = .ok (.ldc 33, 2) := by decide +kernel
theorem kd_I_make_25 : decode kc_I_make 25 = .ok (.iload_n 2, 1) := by decide +kernel
theorem kd_I_make_26 : decode kc_I_make 26 = .ok (.invokevirtual 44, 3) := by decide +kernel
theorem kd_I_make_29 : decode kc_I_make 29 = .ok (.aload_n 0, 1) := by decide +kernel
theorem kd_I_make_30 : decode kc_I_make 30 = .ok (.getfield 14, 3) := by decide +kernel
theorem kd_I_make_33 : decode kc_I_make 33 = .ok (.iload 5, 2) := by decide +kernel
theorem kd_I_make_35 : decode kc_I_make 35 = .ok (.iconst 2, 1) := by decide +kernel
theorem kd_I_make_36 : decode kc_I_make 36 = .ok (.iadd, 1) := by decide +kernel
theorem kd_I_make_37 : decode kc_I_make 37 = .ok (.ldc 33, 2) := by decide +kernel
theorem kd_I_make_39 : decode kc_I_make 39 = .ok (.iload_n 3, 1) := by decide +kernel
theorem kd_I_make_40 : decode kc_I_make 40 = .ok (.invokevirtual 44, 3) := by decide +kernel
theorem kd_I_make_43 : decode kc_I_make 43 = .ok (.aload_n 0, 1) := by decide +kernel
theorem kd_I_make_44 : decode kc_I_make 44 = .ok (.getfield 14, 3) := by decide +kernel
theorem kd_I_make_47 : decode kc_I_make 47 = .ok (.iload 5, 2) := by decide +kernel
theorem kd_I_make_49 : decode kc_I_make 49 = .ok (.iconst 4, 1) := by decide +kernel
theorem kd_I_make_50 : decode kc_I_make 50 = .ok (.iadd, 1) := by decide +kernel
theorem kd_I_make_51 : decode kc_I_make 51 = .ok (.ldc 33, 2) := by decide +kernel
theorem kd_I_make_53 : decode kc_I_make 53 = .ok (.iload 4, 2) := by decide +kernel
theorem kd_I_make_55 : decode kc_I_make 55 = .ok (.invokevirtual 44, 3) := by decide +kernel
theorem kd_I_make_58 : decode kc_I_make 58 = .ok (.aload_n 0, 1) := by decide +kernel
theorem kd_I_make_59 : decode kc_I_make 59 = .ok (.getfield 14, 3) := by decide +kernel
theorem kd_I_make_62 : decode kc_I_make 62 = .ok (.iload 5, 2) := by decide +kernel
theorem kd_I_make_64 : decode kc_I_make 64 = .ok (.bipush 6, 2) := by decide +kernel
theorem kd_I_make_66 : decode kc_I_make 66 = .ok (.iadd, 1) := by decide +kernel
theorem kd_I_make_67 : decode kc_I_make 67 = .ok (.ldc 33, 2) := by decide +kernel
theorem kd_I_make_69 : decode kc_I_make 69 = .ok (.iconst 1, 1) := by decide +kernel
theorem kd_I_make_70 : decode kc_I_make 70 = .ok (.invokevirtual 44, 3) := by decide +kernel
theorem kd_I_make_73 : decode kc_I_make 73 = .ok (.return_, 1) := by decide +kernel
theorem kd_I_freeIfLeft_0 : decode kc_I_freeIfLeft 0 = .ok (.aload_n 0, 1) := by decide +kernel
theorem kd_I_freeIfLeft_1 : decode kc_I_freeIfLeft 1 = .ok (.iload_n 1, 1) := by decide +kernel
theorem kd_I_freeIfLeft_2 : decode kc_I_freeIfLeft 2 = .ok (.invokevirtual 52, 3) := by decide +kernel
theorem kd_I_freeIfLeft_5 : decode kc_I_freeIfLeft 5 = .ok (.ifCond .eq 19, 3) := by decide +kernel
theorem kd_I_freeIfLeft_8 : decode kc_I_freeIfLeft 8 = .ok (.aload_n 0, 1) := by decide +kernel
theorem kd_I_freeIfLeft_9 : decode kc_I_freeIfLeft 9 = .ok (.iload_n 1, 1) := by decide +kernel
theorem kd_I_freeIfLeft_10 : decode kc_I_freeIfLeft 10 = .ok (.invokevirtual 41, 3) := by decide +kernel
theorem kd_I_freeIfLeft_13 : decode kc_I_freeIfLeft 13 = .ok (.ifCond .ne 11, 3) := by decide +kernel
theorem kd_I_freeIfLeft_16 : decode kc_I_freeIfLeft 16 = .ok (.aload_n 0, 1) := by decide +kernel
theorem kd_I_freeIfLeft_17 : decode kc_I_freeIfLeft 17 = .ok (.iload_n 1, 1) := by decide +kernel
theorem kd_I_freeIfLeft_18 : decode kc_I_freeIfLeft 18 = .ok (.invokevirtual 55, 3) := by decide +kernel
theorem kd_I_freeIfLeft_21 : decode kc_I_freeIfLeft 21 = .ok (.ifCond .eq 5, 3) := by decide +kernel
theorem kd_I_freeIfLeft_24 : decode kc_I_freeIfLeft 24 = .ok (.iconst 0, 1) := by decide +kernel
theorem kd_I_freeIfLeft_25 : decode kc_I_freeIfLeft 25 = .ok (.ireturn, 1) := by decide +kernel
theorem kd_I_freeIfLeft_26 : decode kc_I_freeIfLeft 26 = .ok (.aload_n 0, 1) := by decide +kernel
theorem kd_I_freeIfLeft_27 : decode kc_I_freeIfLeft 27 = .ok (.iload_n 1, 1) := by decide +kernel
theorem kd_I_freeIfLeft_28 : decode kc_I_freeIfLeft 28 = .ok (.invokevirtual 58, 3) := by decide +kernel
theorem kd_I_freeIfLeft_31 : decode kc_I_freeIfLeft 31 = .ok (.aload_n 0, 1) := by decide +kernel
theorem kd_I_freeIfLeft_32 : decode kc_I_freeIfLeft 32 = .ok (.getfield 14, 3) := by decide +kernel
theorem kd_I_freeIfLeft_35 : decode kc_I_freeIfLeft 35 = .ok (.aload_n 0, 1) := by decide +kernel
theorem kd_I_freeIfLeft_36 : decode kc_I_freeIfLeft 36 = .ok (.iload_n 1, 1) := by decide +kernel
theorem kd_I_freeIfLeft_37 : decode kc_I_freeIfLeft 37 = .ok (.invokevirtual 30, 3) := by decide +kernel
theorem kd_I_freeIfLeft_40 : decode kc_I_freeIfLeft 40 = .ok (.bipush 64, 2) := by decide +kernel
theorem kd_I_freeIfLeft_42 : decode kc_I_freeIfLeft 42 = .ok (.invokevirtual 62, 3) := by decide +kernel
theorem kd_I_freeIfLeft_45 : decode kc_I_freeIfLeft 45 = .ok (.iconst 1, 1) := by decide +kernel
theorem kd_I_freeIfLeft_46 : decode kc_I_freeIfLeft 46 = .ok (.ireturn, 1) := by decide +kernel
theorem kd_I_dropBlocks_0 : decode kc_I_dropBlocks 0 = .ok (.aload_n 0, 1) := by decide +kernel
theorem kd_I_dropBlocks_1 : decode kc_I_dropBlocks 1 = .ok (.iload_n 1, 1) := by decide +kernel
theorem kd_I_dropBlocks_2 : decode kc_I_dropBlocks 2 = .ok (.invokevirtual 26, 3) := by decide +kernel
theorem kd_I_dropBlocks_5 : decode kc_I_dropBlocks 5 = .ok (.ifCond .ne 4, 3) := by decide +kernel
theorem kd_I_dropBlocks_8 : decode kc_I_dropBlocks 8 = .ok (.return_, 1) := by decide +kernel
theorem kd_I_dropBlocks_9 : decode kc_I_dropBlocks 9 = .ok (.iconst 0, 1) := by decide +kernel
theorem kd_I_dropBlocks_10 : decode kc_I_dropBlocks 10 = .ok (.istore_n 2, 1) := by decide +kernel
theorem kd_I_dropBlocks_11 : decode kc_I_dropBlocks 11 = .ok (.iload_n 2, 1) := by decide +kernel
theorem kd_I_dropBlocks_12 : decode kc_I_dropBlocks 12 = .ok (.sipush 268, 3) := by decide +kernel
theorem kd_I_dropBlocks_15 : decode kc_I_dropBlocks 15 = .ok (.if_icmp .ge 29, 3) := by decide +kernel
theorem kd_I_dropBlocks_18 : decode kc_I_dropBlocks 18 = .ok (.aload_n 0, 1) := by decide +kernel
theorem kd_I_dropBlocks_19 : decode kc_I_dropBlocks 19 = .ok (.getfield 14, 3) := by decide +kernel
theorem kd_I_dropBlocks_22 : decode kc_I_dropBlocks 22 = .ok (.aload_n 0, 1) := by decide +kernel
theorem kd_I_dropBlocks_23 : decode kc_I_dropBlocks 23 = .ok (.getfield 14, 3) := by decide +kernel
theorem kd_I_dropBlocks_26 : decode kc_I_dropBlocks 26 = .ok (.aload_n 0, 1) := by decide +kernel
theorem kd_I_dropBlocks_27 : decode kc_I_dropBlocks 27 = .ok (.iload_n 1, 1) := by decide +kernel
theorem kd_I_dropBlocks_28 : decode kc_I_dropBlocks 28 = .ok (.iload_n 2, 1) := by decide +kernel
theorem kd_I_dropBlocks_29 : decode kc_I_dropBlocks 29 = .ok (.invokevirtual 65, 3) := by decide +kernel
theorem kd_I_dropBlocks_32 : decode kc_I_dropBlocks 32 = .ok (.invokevirtual 38, 3) := by decide +kernel
theorem kd_I_dropBlocks_35 : decode kc_I_dropBlocks 35 = .ok (.invokevirtual 68, 3) := by decide +kernel
theorem kd_I_dropBlocks_38 : decode kc_I_dropBlocks 38 = .ok (.iinc 2 1, 3) := by decide +kernel
theorem kd_I_dropBlocks_41 : decode kc_I_dropBlocks 41 = .ok (.goto (-30), 3) := by decide +kernel
theorem kd_I_dropBlocks_44 : decode kc_I_dropBlocks 44 = .ok (.aload_n 0, 1) := by decide +kernel
theorem kd_I_dropBlocks_45 : decode kc_I_dropBlocks 45 = .ok (.getfield 14, 3) := by decide +kernel
theorem kd_I_dropBlocks_48 : decode kc_I_dropBlocks 48 = .ok (.aload_n 0, 1) := by decide +kernel
theorem kd_I_dropBlocks_49 : decode kc_I_dropBlocks 49 = .ok (.getfield 14, 3) := by decide +kernel
theorem kd_I_dropBlocks_52 : decode kc_I_dropBlocks 52 = .ok (.aload_n 0, 1) := by decide +kernel
theorem kd_I_dropBlocks_53 : decode kc_I_dropBlocks 53 = .ok (.iload_n 1, 1) := by decide +kernel
theorem kd_I_dropBlocks_54 : decode kc_I_dropBlocks 54 = .ok (.invokevirtual 30, 3) := by decide +kernel
theorem kd_I_dropBlocks_57 : decode kc_I_dropBlocks 57 = .ok (.bipush 60, 2) := by decide +kernel
theorem kd_I_dropBlocks_59 : decode kc_I_dropBlocks 59 = .ok (.iadd, 1) := by decide +kernel
theorem kd_I_dropBlocks_60 : decode kc_I_dropBlocks 60 = .ok (.invokevirtual 38, 3) := by decide +kernel
theorem kd_I_dropBlocks_63 : decode kc_I_dropBlocks 63 = .ok (.invokevirtual 68, 3) := by decide +kernel
theorem kd_I_dropBlocks_66 : decode kc_I_dropBlocks 66 = .ok (.aload_n 0, 1) := by decide +kernel
theorem kd_I_dropBlocks_67 : decode kc_I_dropBlocks 67 = .ok (.getfield 14, 3) := by decide +kernel
theorem kd_I_dropBlocks_70 : decode kc_I_dropBlocks 70 = .ok (.aload_n 0, 1) := by decide +kernel
theorem kd_I_dropBlocks_71 : decode kc_I_dropBlocks 71 = .ok (.iload_n 1, 1) := by decide +kernel
theorem kd_I_dropBlocks_72 : decode kc_I_dropBlocks 72 = .ok (.invokevirtual 30, 3) := by decide +kernel
theorem kd_I_dropBlocks_75 : decode kc_I_dropBlocks 75 = .ok (.bipush 12, 2) := by decide +kernel
theorem kd_I_dropBlocks_77 : decode kc_I_dropBlocks 77 = .ok (.iadd, 1) := by decide +kernel
theorem kd_I_dropBlocks_78 : decode kc_I_dropBlocks 78 = .ok (.bipush 52, 2) := by decide +kernel
theorem kd_I_dropBlocks_80 : decode kc_I_dropBlocks 80 = .ok (.invokevirtual 62, 3) := by decide +kernel
theorem kd_I_dropBlocks_83 : decode kc_I_dropBlocks 83 = .ok (.return_, 1) := by decide +kernel
theorem kd_I_blocksToAdd_0 : decode kc_I_blocksToAdd 0 = .ok (.iload_n 1, 1) := by decide +kernel
theorem kd_I_blocksToAdd_1 : decode kc_I_blocksToAdd 1 = .ok (.bipush 12, 2) := by decide +kernel
theorem kd_I_blocksToAdd_3 : decode kc_I_blocksToAdd 3 = .ok (.if_icmp .ne 7, 3) := by decide +kernel
theorem kd_I_blocksToAdd_6 : decode kc_I_blocksToAdd 6 = .ok (.iconst 2, 1) := by decide +kernel
theorem kd_I_blocksToAdd_7 : decode kc_I_blocksToAdd 7 = .ok (.goto 4, 3) := by decide +kernel
theorem kd_I_blocksToAdd_10 : decode kc_I_blocksToAdd 10 = .ok (.iconst 1, 1) := by decide +kernel
theorem kd_I_blocksToAdd_11 : decode kc_I_blocksToAdd 11 = .ok (.ireturn, 1) := by decide +kernel
theorem kd_I_addBlock_0 : decode kc_I_addBlock 0 = .ok (.iload_n 2, 1) := by decide +kernel
theorem kd_I_addBlock_1 : decode kc_I_addBlock 1 = .ok (.sipush 268, 3) := by decide +kernel
theorem kd_I_addBlock_4 : decode kc_I_addBlock 4 = .ok (.if_icmp .ge 18, 3) := by decide +kernel
theorem kd_I_addBlock_7 : decode kc_I_addBlock 7 = .ok (.aload_n 0, 1) := by decide +kernel
theorem kd_I_addBlock_8 : decode kc_I_addBlock 8 = .ok (.iload_n 2, 1) := by decide +kernel
theorem kd_I_addBlock_9 : decode kc_I_addBlock 9 = .ok (.invokevirtual 71, 3) := by decide +kernel
theorem kd_I_addBlock_12 : decode kc_I_addBlock 12 = .ok (.aload_n 0, 1) := by decide +kernel
theorem kd_I_addBlock_13 : decode kc_I_addBlock 13 = .ok (.getfield 14, 3) := by decide +kernel
theorem kd_I_addBlock_16 : decode kc_I_addBlock 16 = .ok (.invokevirtual 74, 3) := by decide +kernel
theorem kd_I_addBlock_19 : decode kc_I_addBlock 19 = .ok (.if_icmp .le 5, 3) := by decide +kernel
theorem kd_I_addBlock_22 : decode kc_I_addBlock 22 = .ok (.iconst 0, 1) := by decide +kernel
theorem kd_I_addBlock_23 : decode kc_I_addBlock 23 = .ok (.ireturn, 1) := by decide +kernel
theorem kd_I_addBlock_24 : decode kc_I_addBlock 24 = .ok (.iload_n 2, 1) := by decide +kernel
theorem kd_I_addBlock_25 : decode kc_I_addBlock 25 = .ok (.bipush 12, 2) := by decide +kernel
theorem kd_I_addBlock_27 : decode kc_I_addBlock 27 = .ok (.if_icmp .ne 25, 3) := by decide +kernel
theorem kd_I_addBlock_30 : decode kc_I_addBlock 30 = .ok (.aload_n 0, 1) := by decide +kernel
theorem kd_I_addBlock_31 : decode kc_I_addBlock 31 = .ok (.getfield 14, 3) := by decide +kernel
theorem kd_I_addBlock_34 : decode kc_I_addBlock 34 = .ok (.aload_n 0, 1) := by decide +kernel
theorem kd_I_addBlock_35 : decode kc_I_addBlock 35 = .ok (.iload_n 1, 1) := by decide +kernel
theorem kd_I_addBlock_36 : decode kc_I_addBlock 36 = .ok (.invokevirtual 30, 3) := by decide +kernel
theorem kd_I_addBlock_39 : decode kc_I_addBlock 39 = .ok (.bipush 60, 2) := by decide +kernel
theorem kd_I_addBlock_41 : decode kc_I_addBlock 41 = .ok (.iadd, 1) := by decide +kernel
theorem kd_I_addBlock_42 : decode kc_I_addBlock 42 = .ok (.aload_n 0, 1) := by decide +kernel
theorem kd_I_addBlock_43 : decode kc_I_addBlock 43 = .ok (.getfield 14, 3) := by decide +kernel
theorem kd_I_addBlock_46 : decode kc_I_addBlock 46 = .ok (.invokevirtual 78, 3) := by decide +kernel
theorem kd_I_addBlock_49 : decode kc_I_addBlock 49 = .ok (.invokevirtual 48, 3) := by decide +kernel
theorem kd_I_addBlock_52 : decode kc_I_addBlock 52 = .ok (.aload_n 0, 1) := by decide +kernel
theorem kd_I_addBlock_53 : decode kc_I_addBlock 53 = .ok (.getfield 14, 3) := by decide +kernel
theorem kd_I_addBlock_56 : decode kc_I_addBlock 56 = .ok (.aload_n 0, 1) := by decide +kernel
theorem kd_I_addBlock_57 : decode kc_I_addBlock 57 = .ok (.iload_n 1, 1) := by decide +kernel
theorem kd_I_addBlock_58 : decode kc_I_addBlock 58 = .ok (.iload_n 2, 1) := by decide +kernel
theorem kd_I_addBlock_59 : decode kc_I_addBlock 59 = .ok (.invokevirtual 65, 3) := by decide +kernel
theorem kd_I_addBlock_62 : decode kc_I_addBlock 62 = .ok (.aload_n 0, 1) := by decide +kernel
theorem kd_I_addBlock_63 : decode kc_I_addBlock 63 = .ok (.getfield 14, 3) := by decide +kernel
theorem kd_I_addBlock_66 : decode kc_I_addBlock 66 = .ok (.invokevirtual 78, 3) := by decide +kernel
theorem kd_I_addBlock_69 : decode kc_I_addBlock 69 = .ok (.invokevirtual 48, 3) := by decide +kernel
theorem kd_I_addBlock_72 : decode kc_I_addBlock 72 = .ok (.iconst 1, 1) := by decide +kernel
theorem kd_I_addBlock_73 : decode kc_I_addBlock 73 = .ok (.ireturn, 1) := by decide +kernel
theorem kd_I_placeOfByte_0 : decode kc_I_placeOfByte 0 = .ok (.aload_n 0, 1) := by decide +kernel
theorem kd_I_placeOfByte_1 : decode kc_I_placeOfByte 1 = .ok (.getfield 14, 3) := by decide +kernel
theorem kd_I_placeOfByte_4 : decode kc_I_placeOfByte 4 = .ok (.aload_n 0, 1) := by decide +kernel
theorem kd_I_placeOfByte_5 : decode kc_I_placeOfByte 5 = .ok (.iload_n 1, 1) := by decide +kernel
theorem kd_I_placeOfByte_6 : decode kc_I_placeOfByte 6 = .ok (.iload_n 2, 1) := by decide +kernel
theorem kd_I_placeOfByte_7 : decode kc_I_placeOfByte 7 = .ok (.sipush 1024, 3) := by decide +kernel
theorem kd_I_placeOfByte_10 : decode kc_I_placeOfByte 10 = .ok (.idiv, 1) := by decide +kernel
theorem kd_I_placeOfByte_11 : decode kc_I_placeOfByte 11 = .ok (.invokevirtual 65, 3) := by decide +kernel
theorem kd_I_placeOfByte_14 : decode kc_I_placeOfByte 14 = .ok (.invokevirtual 38, 3) := by decide +kernel
theorem kd_I_placeOfByte_17 : decode kc_I_placeOfByte 17 = .ok (.istore_n 3, 1) := by decide +kernel
theorem kd_I_placeOfByte_18 : decode kc_I_placeOfByte 18 = .ok (.iload_n 3, 1) := by decide +kernel
theorem kd_I_placeOfByte_19 : decode kc_I_placeOfByte 19 = .ok (.ifCond .ne 7, 3) := by decide +kernel
theorem kd_I_placeOfByte_22 : decode kc_I_placeOfByte 22 = .ok (.iconst (-1), 1) := by decide +kernel
theorem kd_I_placeOfByte_23 : decode kc_I_placeOfByte 23 = .ok (.goto 14, 3) := by decide +kernel
theorem kd_I_placeOfByte_26 : decode kc_I_placeOfByte 26 = .ok (.iload_n 3, 1) := by decide +kernel
theorem kd_I_placeOfByte_27 : decode kc_I_placeOfByte 27 = .ok (.sipush 1024, 3) := by decide +kernel
theorem kd_I_placeOfByte_30 : decode kc_I_placeOfByte 30 = .ok (.imul, 1) := by decide +kernel
theorem kd_I_placeOfByte_31 : decode kc_I_placeOfByte 31 = .ok (.iload_n 2, 1) := by decide +kernel
theorem kd_I_placeOfByte_32 : decode kc_I_placeOfByte 32 = .ok (.sipush 1024, 3) := by decide +kernel
theorem kd_I_placeOfByte_35 : decode kc_I_placeOfByte 35 = .ok (.irem, 1) := by decide +kernel
theorem kd_I_placeOfByte_36 : decode kc_I_placeOfByte 36 = .ok (.iadd, 1) := by decide +kernel
theorem kd_I_placeOfByte_37 : decode kc_I_placeOfByte 37 = .ok (.ireturn, 1) := by decide +kernel
theorem kd_I_bring_0 : decode kc_I_bring 0 = .ok (.iload_n 2, 1) := by decide +kernel
theorem kd_I_bring_1 : decode kc_I_bring 1 = .ok (.iload_n 3, 1) := by decide +kernel
theorem kd_I_bring_2 : decode kc_I_bring 2 = .ok (.aload 4, 2) := by decide +kernel
theorem kd_I_bring_4 : decode kc_I_bring 4 = .ok (.arraylength, 1) := by decide +kernel
theorem kd_I_bring_5 : decode kc_I_bring 5 = .ok (.invokestatic 81, 3) := by decide +kernel
theorem kd_I_bring_8 : decode kc_I_bring 8 = .ok (.iadd, 1) := by decide +kernel
theorem kd_I_bring_9 : decode kc_I_bring 9 = .ok (.istore 5, 2) := by decide +kernel
theorem kd_I_bring_11 : decode kc_I_bring 11 = .ok (.iload_n 2, 1) := by decide +kernel
theorem kd_I_bring_12 : decode kc_I_bring 12 = .ok (.sipush 1024, 3) := by decide +kernel
theorem kd_I_bring_15 : decode kc_I_bring 15 = .ok (.idiv, 1) := by decide +kernel
theorem kd_I_bring_16 : decode kc_I_bring 16 = .ok (.istore 6, 2) := by decide +kernel
theorem kd_I_bring_18 : decode kc_I_bring 18 = .ok (.iload 6, 2) := by decide +kernel
theorem kd_I_bring_20 : decode kc_I_bring 20 = .ok (.sipush 1024, 3) := by decide +kernel
theorem kd_I_bring_23 : decode kc_I_bring 23 = .ok (.imul, 1) := by decide +kernel
theorem kd_I_bring_24 : decode kc_I_bring 24 = .ok (.iload 5, 2) := by decide +kernel
theorem kd_I_bring_26 : decode kc_I_bring 26 = .ok (.if_icmp .ge 88, 3) := by decide +kernel
theorem kd_I_bring_29 : decode kc_I_bring 29 = .ok (.iload_n 2, 1) := by decide +kernel
theorem kd_I_bring_30 : decode kc_I_bring 30 = .ok (.iload 6, 2) := by decide +kernel
theorem kd_I_bring_32 : decode kc_I_bring 32 = .ok (.sipush 1024, 3) := by decide +kernel
theorem kd_I_bring_35 : decode kc_I_bring 35 = .ok (.imul, 1) := by decide +kernel
theorem kd_I_bring_36 : decode kc_I_bring 36 = .ok (.invokestatic 86, 3) := by decide +kernel
theorem kd_I_bring_39 : decode kc_I_bring 39 = .ok (.istore 7, 2) := by decide +kernel
theorem kd_I_bring_41 : decode kc_I_bring 41 = .ok (.iload 5, 2) := by decide +kernel
theorem kd_I_bring_43 : decode kc_I_bring 43 = .ok (.iload 6, 2) := by decide +kernel
theorem kd_I_bring_45 : decode kc_I_bring 45 = .ok (.iconst 1, 1) := by decide +kernel
theorem kd_I_bring_46 : decode kc_I_bring 46 = .ok (.iadd, 1) := by decide +kernel
theorem kd_I_bring_47 : decode kc_I_bring 47 = .ok (.sipush 1024, 3) := by decide +kernel
theorem kd_I_bring_50 : decode kc_I_bring 50 = .ok (.imul, 1) := by decide +kernel
theorem kd_I_bring_51 : decode kc_I_bring 51 = .ok (.invokestatic 81, 3) := by decide +kernel
theorem kd_I_bring_54 : decode kc_I_bring 54 = .ok (.istore 8, 2) := by decide +kernel
theorem kd_I_bring_56 : decode kc_I_bring 56 = .ok (.aload_n 0, 1) := by decide +kernel
theorem kd_I_bring_57 : decode kc_I_bring 57 = .ok (.iload_n 1, 1) := by decide +kernel
theorem kd_I_bring_58 : decode kc_I_bring 58 = .ok (.iload 7, 2) := by decide +kernel
theorem kd_I_bring_60 : decode kc_I_bring 60 = .ok (.invokevirtual 89, 3) := by decide +kernel
theorem kd_I_bring_63 : decode kc_I_bring 63 = .ok (.istore 9, 2) := by decide +kernel
theorem kd_I_bring_65 : decode kc_I_bring 65 = .ok (.iload 7, 2) := by decide +kernel
theorem kd_I_bring_67 : decode kc_I_bring 67 = .ok (.istore 10, 2) := by decide +kernel
theorem kd_I_bring_69 : decode kc_I_bring 69 = .ok (.iload 10, 2) := by decide +kernel
theorem kd_I_bring_71 : decode kc_I_bring 71 = .ok (.iload 8, 2) := by decide +kernel
theorem kd_I_bring_73 : decode kc_I_bring 73 = .ok (.if_icmp .ge 35, 3) := by decide +kernel
theorem kd_I_bring_76 : decode kc_I_bring 76 = .ok (.aload 4, 2) := by decide +kernel
theorem kd_I_bring_78 : decode kc_I_bring 78 = .ok (.iload 10, 2) := by decide +kernel
theorem kd_I_bring_80 : decode kc_I_bring 80 = .ok (.iload_n 2, 1) := by decide +kernel
theorem kd_I_bring_81 : decode kc_I_bring 81 = .ok (.isub, 1) := by decide +kernel
theorem kd_I_bring_82 : decode kc_I_bring 82 = .ok (.aload_n 0, 1) := by decide +kernel
theorem kd_I_bring_83 : decode kc_I_bring 83 = .ok (.getfield 14, 3) := by decide +kernel
theorem kd_I_bring_86 : decode kc_I_bring 86 = .ok (.iload 9, 2) := by decide +kernel
theorem kd_I_bring_88 : decode kc_I_bring 88 = .ok (.iload 10, 2) := by decide +kernel
theorem kd_I_bring_90 : decode kc_I_bring 90 = .ok (.iadd, 1) := by decide +kernel
theorem kd_I_bring_91 : decode kc_I_bring 91 = .ok (.iload 7, 2) := by decide +kernel
theorem kd_I_bring_93 : decode kc_I_bring 93 = .ok (.isub, 1) := by decide +kernel
theorem kd_I_bring_94 : decode kc_I_bring 94 = .ok (.sipush 255, 3) := by decide +kernel
theorem kd_I_bring_97 : decode kc_I_bring 97 = .ok (.invokevirtual 34, 3) := by decide +kernel
theorem kd_I_bring_100 : decode kc_I_bring 100 = .ok (.i2b, 1) := by decide +kernel
theorem kd_I_bring_101 : decode kc_I_bring 101 = .ok (.bastore, 1) := by decide +kernel
theorem kd_I_bring_102 : decode kc_I_bring 102 = .ok (.iinc 10 1, 3) := by decide +kernel
theorem kd_I_bring_105 : decode kc_I_bring 105 = .ok (.goto (-36), 3) := by decide +kernel
theorem kd_I_bring_108 : decode kc_I_bring 108 = .ok (.iinc 6 1, 3) := by decide +kernel
theorem kd_I_bring_111 : decode kc_I_bring 111 = .ok (.goto (-93), 3) := by decide +kernel
theorem kd_I_bring_114 : decode kc_I_bring 114 = .ok (.iload 5, 2) := by decide +kernel
theorem kd_I_bring_116 : decode kc_I_bring 116 = .ok (.iload_n 2, 1) := by decide +kernel
theorem kd_I_bring_117 : decode kc_I_bring 117 = .ok (.isub, 1) := by decide +kernel
theorem kd_I_bring_118 : decode kc_I_bring 118 = .ok (.ireturn, 1) := by decide +kernel
theorem kd_I_put_0 : decode kc_I_put 0 = .ok (.iload_n 2, 1) := by decide +kernel
theorem kd_I_put_1 : decode kc_I_put 1 = .ok (.iload_n 3, 1) := by decide +kernel
theorem kd_I_put_2 : decode kc_I_put 2 = .ok (.aload 4, 2) := by decide +kernel
theorem kd_I_put_4 : decode kc_I_put 4 = .ok (.arraylength, 1) := by decide +kernel
theorem kd_I_put_5 : decode kc_I_put 5 = .ok (.invokestatic 81, 3) := by decide +kernel
theorem kd_I_put_8 : decode kc_I_put 8 = .ok (.iadd, 1) := by decide +kernel
theorem kd_I_put_9 : decode kc_I_put 9 = .ok (.istore 5, 2) := by decide +kernel
theorem kd_I_put_11 : decode kc_I_put 11 = .ok (.iload_n 2, 1) := by decide +kernel
theorem kd_I_put_12 : decode kc_I_put 12 = .ok (.istore 6, 2) := by decide +kernel
theorem kd_I_put_14 : decode kc_I_put 14 = .ok (.iload_n 2, 1) := by decide +kernel
theorem kd_I_put_15 : decode kc_I_put 15 = .ok (.sipush 1024, 3) := by decide +kernel
theorem kd_I_put_18 : decode kc_I_put 18 = .ok (.idiv, 1) := by decide +kernel
theorem kd_I_put_19 : decode kc_I_put 19 = .ok (.istore 7, 2) := by decide +kernel
theorem kd_I_put_21 : decode kc_I_put 21 = .ok (.iload 7, 2) := by decide +kernel
theorem kd_I_put_23 : decode kc_I_put 23 = .ok (.sipush 1024, 3) := by decide +kernel
theorem kd_I_put_26 : decode kc_I_put 26 = .ok (.imul, 1) := by decide +kernel
theorem kd_I_put_27 : decode kc_I_put 27 = .ok (.iload 5, 2) := by decide +kernel
theorem kd_I_put_29 : decode kc_I_put 29 = .ok (.if_icmp .ge 103, 3) := by decide +kernel
theorem kd_I_put_32 : decode kc_I_put 32 = .ok (.aload_n 0, 1) := by decide +kernel
theorem kd_I_put_33 : decode kc_I_put 33 = .ok (.iload_n 1, 1) := by decide +kernel
theorem kd_I_put_34 : decode kc_I_put 34 = .ok (.iload 6, 2) := by decide +kernel
theorem kd_I_put_36 : decode kc_I_put 36 = .ok (.invokevirtual 89, 3) := by decide +kernel
theorem kd_I_put_39 : decode kc_I_put 39 = .ok (.iconst (-1), 1) := by decide +kernel
theorem kd_I_put_40 : decode kc_I_put 40 = .ok (.if_icmp .ne 16, 3) := by decide +kernel
theorem kd_I_put_43 : decode kc_I_put 43 = .ok (.aload_n 0, 1) := by decide +kernel
theorem kd_I_put_44 : decode kc_I_put 44 = .ok (.iload_n 1, 1) := by decide +kernel
theorem kd_I_put_45 : decode kc_I_put 45 = .ok (.iload 7, 2) := by decide +kernel
theorem kd_I_put_47 : decode kc_I_put 47 = .ok (.invokevirtual 92, 3) := by decide +kernel
theorem kd_I_put_50 : decode kc_I_put 50 = .ok (.ifCond .ne 6, 3) := by decide +kernel
theorem kd_I_put_53 : decode kc_I_put 53 = .ok (.goto 79, 3) := by decide +kernel
theorem kd_I_put_56 : decode kc_I_put 56 = .ok (.iload 5, 2) := by decide +kernel
theorem kd_I_put_58 : decode kc_I_put 58 = .ok (.iload 7, 2) := by decide +kernel
theorem kd_I_put_60 : decode kc_I_put 60 = .ok (.iconst 1, 1) := by decide +kernel
theorem kd_I_put_61 : decode kc_I_put 61 = .ok (.iadd, 1) := by decide +kernel
theorem kd_I_put_62 : decode kc_I_put 62 = .ok (.sipush 1024, 3) := by decide +kernel
theorem kd_I_put_65 : decode kc_I_put 65 = .ok (.imul, 1) := by decide +kernel
theorem kd_I_put_66 : decode kc_I_put 66 = .ok (.invokestatic 81, 3) := by decide +kernel
theorem kd_I_put_69 : decode kc_I_put 69 = .ok (.istore 8, 2) := by decide +kernel
theorem kd_I_put_71 : decode kc_I_put 71 = .ok (.aload_n 0, 1) := by decide +kernel
theorem kd_I_put_72 : decode kc_I_put 72 = .ok (.iload_n 1, 1) := by decide +kernel
theorem kd_I_put_73 : decode kc_I_put 73 = .ok (.iload 6, 2) := by decide +kernel
theorem kd_I_put_75 : decode kc_I_put 75 = .ok (.invokevirtual 89, 3) := by decide +kernel
theorem kd_I_put_78 : decode kc_I_put 78 = .ok (.istore 9, 2) := by decide +kernel
theorem kd_I_put_80 : decode kc_I_put 80 = .ok (.iload 6, 2) := by decide +kernel
theorem kd_I_put_82 : decode kc_I_put 82 = .ok (.istore 10, 2) := by decide +kernel
theorem kd_I_put_84 : decode kc_I_put 84 = .ok (.iload 10, 2) := by decide +kernel
theorem kd_I_put_86 : decode kc_I_put 86 = .ok (.iload 8, 2) := by decide +kernel
theorem kd_I_put_88 : decode kc_I_put 88 = .ok (.if_icmp .ge 34, 3) := by decide +kernel
theorem kd_I_put_91 : decode kc_I_put 91 = .ok (.aload_n 0, 1) := by decide +kernel
theorem kd_I_put_92 : decode kc_I_put 92 = .ok (.getfield 14, 3) := by decide +kernel
theorem kd_I_put_95 : decode kc_I_put 95 = .ok (.iload 9, 2) := by decide +kernel
theorem kd_I_put_97 : decode kc_I_put 97 = .ok (.iload 10, 2) := by decide +kernel
theorem kd_I_put_99 : decode kc_I_put 99 = .ok (.iadd, 1) := by decide +kernel
theorem kd_I_put_100 : decode kc_I_put 100 = .ok (.iload 6, 2) := by decide +kernel
theorem kd_I_put_102 : decode kc_I_put 102 = .ok (.isub, 1) := by decide +kernel
theorem kd_I_put_103 : decode kc_I_put 103 = .ok (.sipush 255, 3) := by decide +kernel
theorem kd_I_put_106 : decode kc_I_put 106 = .ok (.aload 4, 2) := by decide +kernel
theorem kd_I_put_108 : decode kc_I_put 108 = .ok (.iload 10, 2) := by decide +kernel
theorem kd_I_put_110 : decode kc_I_put 110 = .ok (.iload_n 2, 1) := by decide +kernel
theorem kd_I_put_111 : decode kc_I_put 111 = .ok (.isub, 1) := by decide +kernel
theorem kd_I_put_112 : decode kc_I_put 112 = .ok (.baload, 1) := by decide +kernel
theorem kd_I_put_113 : decode kc_I_put 113 = .ok (.invokevirtual 44, 3) := by decide +kernel
theorem kd_I_put_116 : decode kc_I_put 116 = .ok (.iinc 10 1, 3) := by decide +kernel
theorem kd_I_put_119 : decode kc_I_put 119 = .ok (.goto (-35), 3) := by decide +kernel
theorem kd_I_put_122 : decode kc_I_put 122 = .ok (.iload 8, 2) := by decide +kernel
theorem kd_I_put_124 : decode kc_I_put 124 = .ok (.istore 6, 2) := by decide +kernel
theorem kd_I_put_126 : decode kc_I_put 126 = .ok (.iinc 7 1, 3) := by decide +kernel
theorem kd_I_put_129 : decode kc_I_put 129 = .ok (.goto (-108), 3) := by decide +kernel
theorem kd_I_put_132 : decode kc_I_put 132 = .ok (.aload_n 0, 1) := by decide +kernel
theorem kd_I_put_133 : decode kc_I_put 133 = .ok (.iload_n 1, 1) := by decide +kernel
theorem kd_I_put_134 : decode kc_I_put 134 = .ok (.iload 6, 2) := by decide +kernel
theorem kd_I_put_136 : decode kc_I_put 136 = .ok (.aload_n 0, 1) := by decide +kernel
theorem kd_I_put_137 : decode kc_I_put 137 = .ok (.iload_n 1, 1) := by decide +kernel
theorem kd_I_put_138 : decode kc_I_put 138 = .ok (.invokevirtual 96, 3) := by decide +kernel
theorem kd_I_put_141 : decode kc_I_put 141 = .ok (.invokestatic 86, 3) := by decide +kernel
theorem kd_I_put_144 : decode kc_I_put 144 = .ok (.invokevirtual 99, 3) := by decide +kernel
theorem kd_I_put_147 : decode kc_I_put 147 = .ok (.iload 6, 2) := by decide +kernel
theorem kd_I_put_149 : decode kc_I_put 149 = .ok (.iload_n 2, 1) := by decide +kernel
theorem kd_I_put_150 : decode kc_I_put 150 = .ok (.isub, 1) := by decide +kernel
theorem kd_I_put_151 : decode kc_I_put 151 = .ok (.ireturn, 1) := by decide +kernel
theorem kd_I_placeOf_0 : decode kc_I_placeOf 0 = .ok (.ldc 102, 2) := by decide +kernel
theorem kd_I_placeOf_2 : decode kc_I_placeOf 2 = .ok (.iload_n 1, 1) := by decide +kernel
theorem kd_I_placeOf_3 : decode kc_I_placeOf 3 = .ok (.bipush 64, 2) := by decide +kernel
theorem kd_I_placeOf_5 : decode kc_I_placeOf 5 = .ok (.imul, 1) := by decide +kernel
theorem kd_I_placeOf_6 : decode kc_I_placeOf 6 = .ok (.iadd, 1) := by decide +kernel
theorem kd_I_placeOf_7 : decode kc_I_placeOf 7 = .ok (.ireturn, 1) := by decide +kernel
theorem kd_I_slotOf_0 : decode kc_I_slotOf 0 = .ok (.aload_n 0, 1) := by decide +kernel
theorem kd_I_slotOf_1 : decode kc_I_slotOf 1 = .ok (.iload_n 1, 1) := by decide +kernel
theorem kd_I_slotOf_2 : decode kc_I_slotOf 2 = .ok (.invokevirtual 26, 3) := by decide +kernel
theorem kd_I_slotOf_5 : decode kc_I_slotOf 5 = .ok (.ifCond .eq 14, 3) := by decide +kernel
theorem kd_I_slotOf_8 : decode kc_I_slotOf 8 = .ok (.iload_n 2, 1) := by decide +kernel
theorem kd_I_slotOf_9 : decode kc_I_slotOf 9 = .ok (.ifCond .lt 10, 3) := by decide +kernel
theorem kd_I_slotOf_12 : decode kc_I_slotOf 12 = .ok (.iload_n 2, 1) := by decide +kernel
theorem kd_I_slotOf_13 : decode kc_I_slotOf 13 = .ok (.sipush 268, 3) := by decide +kernel
theorem kd_I_slotOf_16 : decode kc_I_slotOf 16 = .ok (.if_icmp .lt 5, 3) := by decide +kernel
theorem kd_I_slotOf_19 : decode kc_I_slotOf 19 = .ok (.iconst (-1), 1) := by decide +kernel
theorem kd_I_slotOf_20 : decode kc_I_slotOf 20 = .ok (.ireturn, 1) := by decide +kernel
theorem kd_I_slotOf_21 : decode kc_I_slotOf 21 = .ok (.iload_n 2, 1) := by decide +kernel
theorem kd_I_slotOf_22 : decode kc_I_slotOf 22 = .ok (.bipush 12, 2) := by decide +kernel
theorem kd_I_slotOf_24 : decode kc_I_slotOf 24 = .ok (.if_icmp .ge 16, 3) := by decide +kernel
theorem kd_I_slotOf_27 : decode kc_I_slotOf 27 = .ok (.aload_n 0, 1) := by decide +kernel
theorem kd_I_slotOf_28 : decode kc_I_slotOf 28 = .ok (.iload_n 1, 1) := by decide +kernel
theorem kd_I_slotOf_29 : decode kc_I_slotOf 29 = .ok (.invokevirtual 30, 3) := by decide +kernel
theorem kd_I_slotOf_32 : decode kc_I_slotOf 32 = .ok (.bipush 12, 2) := by decide +kernel
theorem kd_I_slotOf_34 : decode kc_I_slotOf 34 = .ok (.iadd, 1) := by decide +kernel
theorem kd_I_slotOf_35 : decode kc_I_slotOf 35 = .ok (.iconst 4, 1) := by decide +kernel
theorem kd_I_slotOf_36 : decode kc_I_slotOf 36 = .ok (.iload_n 2, 1) := by decide +kernel
theorem kd_I_slotOf_37 : decode kc_I_slotOf 37 = .ok (.imul, 1) := by decide +kernel
theorem kd_I_slotOf_38 : decode kc_I_slotOf 38 = .ok (.iadd, 1) := by decide +kernel
theorem kd_I_slotOf_39 : decode kc_I_slotOf 39 = .ok (.ireturn, 1) := by decide +kernel
theorem kd_I_slotOf_40 : decode kc_I_slotOf 40 = .ok (.aload_n 0, 1) := by decide +kernel
theorem kd_I_slotOf_41 : decode kc_I_slotOf 41 = .ok (.getfield 14, 3) := by decide +kernel
theorem kd_I_slotOf_44 : decode kc_I_slotOf 44 = .ok (.aload_n 0, 1) := by decide +kernel
theorem kd_I_slotOf_45 : decode kc_I_slotOf 45 = .ok (.iload_n 1, 1) := by decide +kernel
theorem kd_I_slotOf_46 : decode kc_I_slotOf 46 = .ok (.invokevirtual 30, 3) := by decide +kernel
theorem kd_I_slotOf_49 : decode kc_I_slotOf 49 = .ok (.bipush 60, 2) := by decide +kernel
theorem kd_I_slotOf_51 : decode kc_I_slotOf 51 = .ok (.iadd, 1) := by decide +kernel
theorem kd_I_slotOf_52 : decode kc_I_slotOf 52 = .ok (.invokevirtual 38, 3) := by decide +kernel
theorem kd_I_slotOf_55 : decode kc_I_slotOf 55 = .ok (.istore_n 3, 1) := by decide +kernel
theorem kd_I_slotOf_56 : decode kc_I_slotOf 56 = .ok (.iload_n 3, 1) := by decide +kernel
theorem kd_I_slotOf_57 : decode kc_I_slotOf 57 = .ok (.ifCond .ne 7, 3) := by decide +kernel
theorem kd_I_slotOf_60 : decode kc_I_slotOf 60 = .ok (.iconst (-1), 1) := by decide +kernel
theorem kd_I_slotOf_61 : decode kc_I_slotOf 61 = .ok (.goto 15, 3) := by decide +kernel
theorem kd_I_slotOf_64 : decode kc_I_slotOf 64 = .ok (.iload_n 3, 1) := by decide +kernel
theorem kd_I_slotOf_65 : decode kc_I_slotOf 65 = .ok (.sipush 1024, 3) := by decide +kernel
theorem kd_I_slotOf_68 : decode kc_I_slotOf 68 = .ok (.imul, 1) := by decide +kernel
theorem kd_I_slotOf_69 : decode kc_I_slotOf 69 = .ok (.iconst 4, 1) := by decide +kernel
theorem kd_I_slotOf_70 : decode kc_I_slotOf 70 = .ok (.iload_n 2, 1) := by decide +kernel
theorem kd_I_slotOf_71 : decode kc_I_slotOf 71 = .ok (.bipush 12, 2) := by decide +kernel
theorem kd_I_slotOf_73 : decode kc_I_slotOf 73 = .ok (.isub, 1) := by decide +kernel
theorem kd_I_slotOf_74 : decode kc_I_slotOf 74 = .ok (.imul, 1) := by decide +kernel
theorem kd_I_slotOf_75 : decode kc_I_slotOf 75 = .ok (.iadd, 1) := by decide +kernel
theorem kd_I_slotOf_76 : decode kc_I_slotOf 76 = .ok (.ireturn, 1) := by decide +kernel
theorem kd_X_init_0 : decode kc_X_init 0 = .ok (.aload_n 0, 1) := by decide +kernel
theorem kd_X_init_1 : decode kc_X_init 1 = .ok (.invokespecial 3, 3) := by decide +kernel
theorem kd_X_init_4 : decode kc_X_init 4 = .ok (.aload_n 0, 1) := by decide +kernel
theorem kd_X_init_5 : decode kc_X_init 5 = .ok (.sipush 260, 3) := by decide +kernel
theorem kd_X_init_8 : decode kc_X_init 8 = .ok (.newarray .byte, 2) := by decide +kernel
theorem kd_X_init_10 : decode kc_X_init 10 = .ok (.putfield 9, 3) := by decide +kernel
theorem kd_X_init_13 : decode kc_X_init 13 = .ok (.aload_n 0, 1) := by decide +kernel
theorem kd_X_init_14 : decode kc_X_init 14 = .ok (.bipush 14, 2) := by decide +kernel
theorem kd_X_init_16 : decode kc_X_init 16 = .ok (.newarray .byte, 2) := by decide +kernel
theorem kd_X_init_18 : decode kc_X_init 18 = .ok (.putfield 15, 3) := by decide +kernel
theorem kd_X_init_21 : decode kc_X_init 21 = .ok (.aload_n 0, 1) := by decide +kernel
theorem kd_X_init_22 : decode kc_X_init 22 = .ok (.bipush 14, 2) := by decide +kernel
theorem kd_X_init_24 : decode kc_X_init 24 = .ok (.newarray .byte, 2) := by decide +kernel
theorem kd_X_init_26 : decode kc_X_init 26 = .ok (.putfield 18, 3) := by decide +kernel
theorem kd_X_init_29 : decode kc_X_init 29 = .ok (.return_, 1) := by decide +kernel
theorem kd_X_append_0 : decode kc_X_append 0 = .ok (.iconst 0, 1) := by decide +kernel
theorem kd_X_append_1 : decode kc_X_append 1 = .ok (.istore_n 3, 1) := by decide +kernel
theorem kd_X_append_2 : decode kc_X_append 2 = .ok (.bipush 56, 2) := by decide +kernel
theorem kd_X_append_4 : decode kc_X_append 4 = .ok (.istore 4, 2) := by decide +kernel
theorem kd_X_append_6 : decode kc_X_append 6 = .ok (.iload 4, 2) := by decide +kernel
theorem kd_X_append_8 : decode kc_X_append 8 = .ok (.ifCond .lt 30, 3) := by decide +kernel
theorem kd_X_append_11 : decode kc_X_append 11 = .ok (.iload_n 3, 1) := by decide +kernel
theorem kd_X_append_12 : decode kc_X_append 12 = .ok (.lload_n 1, 1) := by decide +kernel
theorem kd_X_append_13 : decode kc_X_append 13 = .ok (.iload 4, 2) := by decide +kernel
theorem kd_X_append_15 : decode kc_X_append 15 = .ok (.lushr, 1) := by decide +kernel
theorem kd_X_append_16 : decode kc_X_append 16 = .ok (.ldc2_w 21, 3) := by decide +kernel
theorem kd_X_append_19 : decode kc_X_append 19 = .ok (.land, 1) := by decide +kernel
theorem kd_X_append_20 : decode kc_X_append 20 = .ok (.lconst 0, 1) := by decide +kernel
theorem kd_X_append_21 : decode kc_X_append 21 = .ok (.lcmp, 1) := by decide +kernel
theorem kd_X_append_22 : decode kc_X_append 22 = .ok (.ifCond .eq 7, 3) := by decide +kernel
theorem kd_X_append_25 : decode kc_X_append 25 = .ok (.iconst 1, 1) := by decide +kernel
theorem kd_X_append_26 : decode kc_X_append 26 = .ok (.goto 4, 3) := by decide +kernel
theorem kd_X_append_29 : decode kc_X_append 29 = .ok (.iconst 0, 1) := by decide +kernel
theorem kd_X_append_30 : decode kc_X_append 30 = .ok (.iadd, 1) := by decide +kernel
theorem kd_X_append_31 : decode kc_X_append 31 = .ok (.istore_n 3, 1) := by decide +kernel
theorem kd_X_append_32 : decode kc_X_append 32 = .ok (.iinc 4 (-8), 3) := by decide +kernel
theorem kd_X_append_35 : decode kc_X_append 35 = .ok (.goto (-29), 3) := by decide +kernel
theorem kd_X_append_38 : decode kc_X_append 38 = .ok (.iload_n 3, 1) := by decide +kernel
theorem kd_X_append_39 : decode kc_X_append 39 = .ok (.aload_n 0, 1) := by decide +kernel
theorem kd_X_append_40 : decode kc_X_append 40 = .ok (.getfield 9, 3) := by decide +kernel
theorem kd_X_append_43 : decode kc_X_append 43 = .ok (.arraylength, 1) := by decide +kernel
theorem kd_X_append_44 : decode kc_X_append 44 = .ok (.aload_n 0, 1) := by decide +kernel
theorem kd_X_append_45 : decode kc_X_append 45 = .ok (.getfield 23, 3) := by decide +kernel
theorem kd_X_append_48 : decode kc_X_append 48 = .ok (.isub, 1) := by decide +kernel
theorem kd_X_append_49 : decode kc_X_append 49 = .ok (.if_icmp .le 5, 3) := by decide +kernel
theorem kd_X_append_52 : decode kc_X_append 52 = .ok (.iconst 0, 1) := by decide +kernel
theorem kd_X_append_53 : decode kc_X_append 53 = .ok (.ireturn, 1) := by decide +kernel
theorem kd_X_append_54 : decode kc_X_append 54 = .ok (.bipush 56, 2) := by decide +kernel
theorem kd_X_append_56 : decode kc_X_append 56 = .ok (.istore 4, 2) := by decide +kernel
theorem kd_X_append_58 : decode kc_X_append 58 = .ok (.iload 4, 2) := by decide +kernel
theorem kd_X_append_60 : decode kc_X_append 60 = .ok (.ifCond .lt 62, 3) := by decide +kernel
theorem kd_X_append_63 : decode kc_X_append 63 = .ok (.lload_n 1, 1) := by decide +kernel
theorem kd_X_append_64 : decode kc_X_append 64 = .ok (.iload 4, 2) := by decide +kernel
theorem kd_X_append_66 : decode kc_X_append 66 = .ok (.lushr, 1) := by decide +kernel
theorem kd_X_append_67 : decode kc_X_append 67 = .ok (.l2i, 1) := by decide +kernel
theorem kd_X_append_68 : decode kc_X_append 68 = .ok (.i2b, 1) := by decide +kernel
theorem kd_X_append_69 : decode kc_X_append 69 = .ok (.istore 5, 2) := by decide +kernel
theorem kd_X_append_71 : decode kc_X_append 71 = .ok (.iload 5, 2) := by decide +kernel
theorem kd_X_append_73 : decode kc_X_append 73 = .ok (.ifCond .eq 43, 3) := by decide +kernel
theorem kd_X_append_76 : decode kc_X_append 76 = .ok (.aload_n 0, 1) := by decide +kernel
theorem kd_X_append_77 : decode kc_X_append 77 = .ok (.getfield 23, 3) := by decide +kernel
theorem kd_X_append_80 : decode kc_X_append 80 = .ok (.ifCond .lt 36, 3) := by decide +kernel
theorem kd_X_append_83 : decode kc_X_append 83 = .ok (.aload_n 0, 1) := by decide +kernel
theorem kd_X_append_84 : decode kc_X_append 84 = .ok (.getfield 23, 3) := by decide +kernel
theorem kd_X_append_87 : decode kc_X_append 87 = .ok (.aload_n 0, 1) := by decide +kernel
theorem kd_X_append_88 : decode kc_X_append 88 = .ok (.getfield 9, 3) := by decide +kernel
theorem kd_X_append_91 : decode kc_X_append 91 = .ok (.arraylength, 1) := by decide +kernel
theorem kd_X_append_92 : decode kc_X_append 92 = .ok (.if_icmp .ge 24, 3) := by decide +kernel
theorem kd_X_append_95 : decode kc_X_append 95 = .ok (.aload_n 0, 1) := by decide +kernel
theorem kd_X_append_96 : decode kc_X_append 96 = .ok (.getfield 9, 3) := by decide +kernel
theorem kd_X_append_99 : decode kc_X_append 99 = .ok (.aload_n 0, 1) := by decide +kernel
theorem kd_X_append_100 : decode kc_X_append 100 = .ok (.getfield 23, 3) := by decide +kernel
theorem kd_X_append_103 : decode kc_X_append 103 = .ok (.iload 5, 2) := by decide +kernel
theorem kd_X_append_105 : decode kc_X_append 105 = .ok (.bastore, 1) := by decide +kernel
theorem kd_X_append_106 : decode kc_X_append 106 = .ok (.aload_n 0, 1) := by decide +kernel
theorem kd_X_append_107 : decode kc_X_append 107 = .ok (.dup, 1) := by decide +kernel
theorem kd_X_append_108 : decode kc_X_append 108 = .ok (.getfield 23, 3) := by decide +kernel
theorem kd_X_append_111 : decode kc_X_append 111 = .ok (.iconst 1, 1) := by decide +kernel
theorem kd_X_append_112 : decode kc_X_append 112 = .ok (.iadd, 1) := by decide +kernel
theorem kd_X_append_113 : decode kc_X_append 113 = .ok (.putfield 23, 3) := by decide +kernel
theorem kd_X_append_116 : decode kc_X_append 116 = .ok (.iinc 4 (-8), 3) := by decide +kernel
theorem kd_X_append_119 : decode kc_X_append 119 = .ok (.goto (-61), 3) := by decide +kernel
theorem kd_X_append_122 : decode kc_X_append 122 = .ok (.iconst 1, 1) := by decide +kernel
theorem kd_X_append_123 : decode kc_X_append 123 = .ok (.ireturn, 1) := by decide +kernel
theorem kd_X_empty_0 : decode kc_X_empty 0 = .ok (.aload_n 0, 1) := by decide +kernel
theorem kd_X_empty_1 : decode kc_X_empty 1 = .ok (.iconst 0, 1) := by decide +kernel
theorem kd_X_empty_2 : decode kc_X_empty 2 = .ok (.putfield 23, 3) := by decide +kernel
theorem kd_X_empty_5 : decode kc_X_empty 5 = .ok (.return_, 1) := by decide +kernel
theorem kd_X_byteAt_0 : decode kc_X_byteAt 0 = .ok (.iload_n 1, 1) := by decide +kernel
theorem kd_X_byteAt_1 : decode kc_X_byteAt 1 = .ok (.ifCond .lt 25, 3) := by decide +kernel
theorem kd_X_byteAt_4 : decode kc_X_byteAt 4 = .ok (.iload_n 1, 1) := by decide +kernel
theorem kd_X_byteAt_5 : decode kc_X_byteAt 5 = .ok (.aload_n 0, 1) := by decide +kernel
theorem kd_X_byteAt_6 : decode kc_X_byteAt 6 = .ok (.getfield 9, 3) := by decide +kernel
theorem kd_X_byteAt_9 : decode kc_X_byteAt 9 = .ok (.arraylength, 1) := by decide +kernel
theorem kd_X_byteAt_10 : decode kc_X_byteAt 10 = .ok (.if_icmp .ge 16, 3) := by decide +kernel
theorem kd_X_byteAt_13 : decode kc_X_byteAt 13 = .ok (.aload_n 0, 1) := by decide +kernel
theorem kd_X_byteAt_14 : decode kc_X_byteAt 14 = .ok (.getfield 9, 3) := by decide +kernel
theorem kd_X_byteAt_17 : decode kc_X_byteAt 17 = .ok (.iload_n 1, 1) := by decide +kernel
theorem kd_X_byteAt_18 : decode kc_X_byteAt 18 = .ok (.baload, 1) := by decide +kernel
theorem kd_X_byteAt_19 : decode kc_X_byteAt 19 = .ok (.sipush 255, 3) := by decide +kernel
theorem kd_X_byteAt_22 : decode kc_X_byteAt 22 = .ok (.iand, 1) := by decide +kernel
theorem kd_X_byteAt_23 : decode kc_X_byteAt 23 = .ok (.goto 4, 3) := by decide +kernel
theorem kd_X_byteAt_26 : decode kc_X_byteAt 26 = .ok (.iconst 0, 1) := by decide +kernel
theorem kd_X_byteAt_27 : decode kc_X_byteAt 27 = .ok (.ireturn, 1) := by decide +kernel
theorem kd_X_firstBlank_0 : decode kc_X_firstBlank 0 = .ok (.iconst 0, 1) := by decide +kernel
theorem kd_X_firstBlank_1 : decode kc_X_firstBlank 1 = .ok (.istore_n 1, 1) := by decide +kernel
theorem kd_X_firstBlank_2 : decode kc_X_firstBlank 2 = .ok (.iload_n 1, 1) := by decide +kernel
theorem kd_X_firstBlank_3 : decode kc_X_firstBlank 3 = .ok (.aload_n 0, 1) := by decide +kernel
theorem kd_X_firstBlank_4 : decode kc_X_firstBlank 4 = .ok (.getfield 23, 3) := by decide +kernel
theorem kd_X_firstBlank_7 : decode kc_X_firstBlank 7 = .ok (.if_icmp .ge 21, 3) := by decide +kernel
theorem kd_X_firstBlank_10 : decode kc_X_firstBlank 10 = .ok (.aload_n 0, 1) := by decide +kernel
theorem kd_X_firstBlank_11 : decode kc_X_firstBlank 11 = .ok (.iload_n 1, 1) := by decide +kernel
theorem kd_X_firstBlank_12 : decode kc_X_firstBlank 12 = .ok (.invokevirtual 27, 3) := by decide +kernel
theorem kd_X_firstBlank_15 : decode kc_X_firstBlank 15 = .ok (.bipush 32, 2) := by decide +kernel
theorem kd_X_firstBlank_17 : decode kc_X_firstBlank 17 = .ok (.if_icmp .ne 5, 3) := by decide +kernel
theorem kd_X_firstBlank_20 : decode kc_X_firstBlank 20 = .ok (.iload_n 1, 1) := by decide +kernel
theorem kd_X_firstBlank_21 : decode kc_X_firstBlank 21 = .ok (.ireturn, 1) := by decide +kernel
theorem kd_X_firstBlank_22 : decode kc_X_firstBlank 22 = .ok (.iinc 1 1, 3) := by decide +kernel
theorem kd_X_firstBlank_25 : decode kc_X_firstBlank 25 = .ok (.goto (-23), 3) := by decide +kernel
theorem kd_X_firstBlank_28 : decode kc_X_firstBlank 28 = .ok (.iconst (-1), 1) := by decide +kernel
theorem kd_X_firstBlank_29 : decode kc_X_firstBlank 29 = .ok (.ireturn, 1) := by decide +kernel
theorem kd_X_isPath_0 : decode kc_X_isPath 0 = .ok (.iload_n 2, 1) := by decide +kernel
theorem kd_X_isPath_1 : decode kc_X_isPath 1 = .ok (.iload_n 1, 1) := by decide +kernel
theorem kd_X_isPath_2 : decode kc_X_isPath 2 = .ok (.if_icmp .lt 12, 3) := by decide +kernel
theorem kd_X_isPath_5 : decode kc_X_isPath 5 = .ok (.iload_n 2, 1) := by decide +kernel
theorem kd_X_isPath_6 : decode kc_X_isPath 6 = .ok (.iload_n 1, 1) := by decide +kernel
theorem kd_X_isPath_7 : decode kc_X_isPath 7 = .ok (.isub, 1) := by decide +kernel
theorem kd_X_isPath_8 : decode kc_X_isPath 8 = .ok (.sipush 128, 3) := by decide +kernel
theorem kd_X_isPath_11 : decode kc_X_isPath 11 = .ok (.if_icmp .le 5, 3) := by decide +kernel
theorem kd_X_isPath_14 : decode kc_X_isPath 14 = .ok (.iconst 0, 1) := by decide +kernel
theorem kd_X_isPath_15 : decode kc_X_isPath 15 = .ok (.ireturn, 1) := by decide +kernel
theorem kd_X_isPath_16 : decode kc_X_isPath 16 = .ok (.iload_n 1, 1) := by decide +kernel
theorem kd_X_isPath_17 : decode kc_X_isPath 17 = .ok (.istore_n 3, 1) := by decide +kernel
theorem kd_X_isPath_18 : decode kc_X_isPath 18 = .ok (.iload_n 3, 1) := by decide +kernel
theorem kd_X_isPath_19 : decode kc_X_isPath 19 = .ok (.iload_n 2, 1) := by decide +kernel
theorem kd_X_isPath_20 : decode kc_X_isPath 20 = .ok (.if_icmp .ge 21, 3) := by decide +kernel
theorem kd_X_isPath_23 : decode kc_X_isPath 23 = .ok (.aload_n 0, 1) := by decide +kernel
theorem kd_X_isPath_24 : decode kc_X_isPath 24 = .ok (.iload_n 3, 1) := by decide +kernel
theorem kd_X_isPath_25 : decode kc_X_isPath 25 = .ok (.invokevirtual 27, 3) := by decide +kernel
theorem kd_X_isPath_28 : decode kc_X_isPath 28 = .ok (.bipush 32, 2) := by decide +kernel
theorem kd_X_isPath_30 : decode kc_X_isPath 30 = .ok (.if_icmp .ne 5, 3) := by decide +kernel
theorem kd_X_isPath_33 : decode kc_X_isPath 33 = .ok (.iconst 0, 1) := by decide +kernel
theorem kd_X_isPath_34 : decode kc_X_isPath 34 = .ok (.ireturn, 1) := by decide +kernel
theorem kd_X_isPath_35 : decode kc_X_isPath 35 = .ok (.iinc 3 1, 3) := by decide +kernel
theorem kd_X_isPath_38 : decode kc_X_isPath 38 = .ok (.goto (-20), 3) := by decide +kernel
theorem kd_X_isPath_41 : decode kc_X_isPath 41 = .ok (.iconst 1, 1) := by decide +kernel
theorem kd_X_isPath_42 : decode kc_X_isPath 42 = .ok (.ireturn, 1) := by decide +kernel
theorem kd_X_nameBegins_0 : decode kc_X_nameBegins 0 = .ok (.aload_n 0, 1) := by decide +kernel
theorem kd_X_nameBegins_1 : decode kc_X_nameBegins 1 = .ok (.iload_n 2, 1) := by decide +kernel
theorem kd_X_nameBegins_2 : decode kc_X_nameBegins 2 = .ok (.invokevirtual 27, 3) := by decide +kernel
theorem kd_X_nameBegins_5 : decode kc_X_nameBegins 5 = .ok (.bipush 47, 2) := by decide +kernel
theorem kd_X_nameBegins_7 : decode kc_X_nameBegins 7 = .ok (.if_icmp .eq 24, 3) := by decide +kernel
theorem kd_X_nameBegins_10 : decode kc_X_nameBegins 10 = .ok (.iload_n 2, 1) := by decide +kernel
theorem kd_X_nameBegins_11 : decode kc_X_nameBegins 11 = .ok (.iload_n 1, 1) := by decide +kernel
theorem kd_X_nameBegins_12 : decode kc_X_nameBegins 12 = .ok (.if_icmp .eq 15, 3) := by decide +kernel
theorem kd_X_nameBegins_15 : decode kc_X_nameBegins 15 = .ok (.aload_n 0, 1) := by decide +kernel
theorem kd_X_nameBegins_16 : decode kc_X_nameBegins 16 = .ok (.iload_n 2, 1) := by decide +kernel
theorem kd_X_nameBegins_17 : decode kc_X_nameBegins 17 = .ok (.iconst 1, 1) := by decide +kernel
theorem kd_X_nameBegins_18 : decode kc_X_nameBegins 18 = .ok (.isub, 1) := by decide +kernel
theorem kd_X_nameBegins_19 : decode kc_X_nameBegins 19 = .ok (.invokevirtual 27, 3) := by decide +kernel
theorem kd_X_nameBegins_22 : decode kc_X_nameBegins 22 = .ok (.bipush 47, 2) := by decide +kernel
theorem kd_X_nameBegins_24 : decode kc_X_nameBegins 24 = .ok (.if_icmp .ne 7, 3) := by decide +kernel
theorem kd_X_nameBegins_27 : decode kc_X_nameBegins 27 = .ok (.iconst 1, 1) := by decide +kernel
theorem kd_X_nameBegins_28 : decode kc_X_nameBegins 28 = .ok (.goto 4, 3) := by decide +kernel
theorem kd_X_nameBegins_31 : decode kc_X_nameBegins 31 = .ok (.iconst 0, 1) := by decide +kernel
theorem kd_X_nameBegins_32 : decode kc_X_nameBegins 32 = .ok (.ireturn, 1) := by decide +kernel
theorem kd_X_copyName_0 : decode kc_X_copyName 0 = .ok (.iconst 1, 1) := by decide +kernel
theorem kd_X_copyName_1 : decode kc_X_copyName 1 = .ok (.istore 4, 2) := by decide +kernel
theorem kd_X_copyName_3 : decode kc_X_copyName 3 = .ok (.iconst 0, 1) := by decide +kernel
theorem kd_X_copyName_4 : decode kc_X_copyName 4 = .ok (.istore 5, 2) := by decide +kernel
theorem kd_X_copyName_6 : decode kc_X_copyName 6 = .ok (.iload 5, 2) := by decide +kernel
theorem kd_X_copyName_8 : decode kc_X_copyName 8 = .ok (.aload_n 1, 1) := by decide +kernel
theorem kd_X_copyName_9 : decode kc_X_copyName 9 = .ok (.arraylength, 1) := by decide +kernel
theorem kd_X_copyName_10 : decode kc_X_copyName 10 = .ok (.if_icmp .ge 64, 3) := by decide +kernel
theorem kd_X_copyName_13 : decode kc_X_copyName 13 = .ok (.iload 4, 2) := by decide +kernel
theorem kd_X_copyName_15 : decode kc_X_copyName 15 = .ok (.ifCond .eq 28, 3) := by decide +kernel
theorem kd_X_copyName_18 : decode kc_X_copyName 18 = .ok (.iload_n 2, 1) := by decide +kernel
theorem kd_X_copyName_19 : decode kc_X_copyName 19 = .ok (.iload 5, 2) := by decide +kernel
theorem kd_X_copyName_21 : decode kc_X_copyName 21 = .ok (.iadd, 1) := by decide +kernel
theorem kd_X_copyName_22 : decode kc_X_copyName 22 = .ok (.iload_n 3, 1) := by decide +kernel
theorem kd_X_copyName_23 : decode kc_X_copyName 23 = .ok (.if_icmp .ge 20, 3) := by decide +kernel
theorem kd_X_copyName_26 : decode kc_X_copyName 26 = .ok (.aload_n 0, 1) := by decide +kernel
theorem kd_X_copyName_27 : decode kc_X_copyName 27 = .ok (.iload_n 2, 1) := by decide +kernel
theorem kd_X_copyName_28 : decode kc_X_copyName 28 = .ok (.iload 5, 2) := by decide +kernel
theorem kd_X_copyName_30 : decode kc_X_copyName 30 = .ok (.iadd, 1) := by decide +kernel
theorem kd_X_copyName_31 : decode kc_X_copyName 31 = .ok (.invokevirtual 27, 3) := by decide +kernel
theorem kd_X_copyName_34 : decode kc_X_copyName 34 = .ok (.bipush 47, 2) := by decide +kernel
theorem kd_X_copyName_36 : decode kc_X_copyName 36 = .ok (.if_icmp .eq 7, 3) := by decide +kernel
theorem kd_X_copyName_39 : decode kc_X_copyName 39 = .ok (.iconst 1, 1) := by decide +kernel
theorem kd_X_copyName_40 : decode kc_X_copyName 40 = .ok (.goto 4, 3) := by decide +kernel
theorem kd_X_copyName_43 : decode kc_X_copyName 43 = .ok (.iconst 0, 1) := by decide +kernel
theorem kd_X_copyName_44 : decode kc_X_copyName 44 = .ok (.istore 4, 2) := by decide +kernel
theorem kd_X_copyName_46 : decode kc_X_copyName 46 = .ok (.aload_n 1, 1) := by decide +kernel
theorem kd_X_copyName_47 : decode kc_X_copyName 47 = .ok (.iload 5, 2) := by decide +kernel
theorem kd_X_copyName_49 : decode kc_X_copyName 49 = .ok (.iload 4, 2) := by decide +kernel
theorem kd_X_copyName_51 : decode kc_X_copyName 51 = .ok (.ifCond .eq 15, 3) := by decide +kernel
theorem kd_X_copyName_54 : decode kc_X_copyName 54 = .ok (.aload_n 0, 1) := by decide +kernel
theorem kd_X_copyName_55 : decode kc_X_copyName 55 = .ok (.iload_n 2, 1) := by decide +kernel
theorem kd_X_copyName_56 : decode kc_X_copyName 56 = .ok (.iload 5, 2) := by decide +kernel
theorem kd_X_copyName_58 : decode kc_X_copyName 58 = .ok (.iadd, 1) := by decide +kernel
theorem kd_X_copyName_59 : decode kc_X_copyName 59 = .ok (.invokevirtual 27, 3) := by decide +kernel
theorem kd_X_copyName_62 : decode kc_X_copyName 62 = .ok (.i2b, 1) := by decide +kernel
theorem kd_X_copyName_63 : decode kc_X_copyName 63 = .ok (.goto 4, 3) := by decide +kernel
theorem kd_X_copyName_66 : decode kc_X_copyName 66 = .ok (.iconst 0, 1) := by decide +kernel
theorem kd_X_copyName_67 : decode kc_X_copyName 67 = .ok (.bastore, 1) := by decide +kernel
theorem kd_X_copyName_68 : decode kc_X_copyName 68 = .ok (.iinc 5 1, 3) := by decide +kernel
theorem kd_X_copyName_71 : decode kc_X_copyName 71 = .ok (.goto (-65), 3) := by decide +kernel
theorem kd_X_copyName_74 : decode kc_X_copyName 74 = .ok (.return_, 1) := by decide +kernel
theorem kd_X_cutLastName_0 : decode kc_X_cutLastName 0 = .ok (.iconst (-1), 1) := by decide +kernel
theorem kd_X_cutLastName_1 : decode kc_X_cutLastName 1 = .ok (.istore_n 3, 1) := by decide +kernel
theorem kd_X_cutLastName_2 : decode kc_X_cutLastName 2 = .ok (.aload_n 0, 1) := by decide +kernel
theorem kd_X_cutLastName_3 : decode kc_X_cutLastName 3 = .ok (.iload_n 1, 1) := by decide +kernel
theorem kd_X_cutLastName_4 : decode kc_X_cutLastName 4 = .ok (.iload_n 2, 1) := by decide +kernel
theorem kd_X_cutLastName_5 : decode kc_X_cutLastName 5 = .ok (.invokevirtual 31, 3) := by decide +kernel
theorem kd_X_cutLastName_8 : decode kc_X_cutLastName 8 = .ok (.ifCond .eq 35, 3) := by decide +kernel
theorem kd_X_cutLastName_11 : decode kc_X_cutLastName 11 = .ok (.iload_n 1, 1) := by decide +kernel
theorem kd_X_cutLastName_12 : decode kc_X_cutLastName 12 = .ok (.istore 4, 2) := by decide +kernel
theorem kd_X_cutLastName_14 : decode kc_X_cutLastName 14 = .ok (.iload 4, 2) := by decide +kernel
theorem kd_X_cutLastName_16 : decode kc_X_cutLastName 16 = .ok (.iload_n 2, 1) := by decide +kernel
theorem kd_X_cutLastName_17 : decode kc_X_cutLastName 17 = .ok (.if_icmp .ge 26, 3) := by decide +kernel
theorem kd_X_cutLastName_20 : decode kc_X_cutLastName 20 = .ok (.aload_n 0, 1) := by decide +kernel
theorem kd_X_cutLastName_21 : decode kc_X_cutLastName 21 = .ok (.iload_n 1, 1) := by decide +kernel
theorem kd_X_cutLastName_22 : decode kc_X_cutLastName 22 = .ok (.iload 4, 2) := by decide +kernel
theorem kd_X_cutLastName_24 : decode kc_X_cutLastName 24 = .ok (.invokevirtual 35, 3) := by decide +kernel
theorem kd_X_cutLastName_27 : decode kc_X_cutLastName 27 = .ok (.ifCond .eq 8, 3) := by decide +kernel
theorem kd_X_cutLastName_30 : decode kc_X_cutLastName 30 = .ok (.iload 4, 2) := by decide +kernel
theorem kd_X_cutLastName_32 : decode kc_X_cutLastName 32 = .ok (.goto 4, 3) := by decide +kernel
theorem kd_X_cutLastName_35 : decode kc_X_cutLastName 35 = .ok (.iload_n 3, 1) := by decide +kernel
theorem kd_X_cutLastName_36 : decode kc_X_cutLastName 36 = .ok (.istore_n 3, 1) := by decide +kernel
theorem kd_X_cutLastName_37 : decode kc_X_cutLastName 37 = .ok (.iinc 4 1, 3) := by decide +kernel
theorem kd_X_cutLastName_40 : decode kc_X_cutLastName 40 = .ok (.goto (-26), 3) := by decide +kernel
theorem kd_X_cutLastName_43 : decode kc_X_cutLastName 43 = .ok (.iload_n 3, 1) := by decide +kernel
theorem kd_X_cutLastName_44 : decode kc_X_cutLastName 44 = .ok (.iconst (-1), 1) := by decide +kernel
theorem kd_X_cutLastName_45 : decode kc_X_cutLastName 45 = .ok (.if_icmp .eq 13, 3) := by decide +kernel
theorem kd_X_cutLastName_48 : decode kc_X_cutLastName 48 = .ok (.aload_n 0, 1) := by decide +kernel
theorem kd_X_cutLastName_49 : decode kc_X_cutLastName 49 = .ok (.aload_n 0, 1) := by decide +kernel
theorem kd_X_cutLastName_50 : decode kc_X_cutLastName 50 = .ok (.getfield 18, 3) := by decide +kernel
theorem kd_X_cutLastName_53 : decode kc_X_cutLastName 53 = .ok (.iload_n 3, 1) := by decide +kernel
theorem kd_X_cutLastName_54 : decode kc_X_cutLastName 54 = .ok (.iload_n 2, 1) := by decide +kernel
theorem kd_X_cutLastName_55 : decode kc_X_cutLastName 55 = .ok (.invokevirtual 38, 3) := by decide +kernel
theorem kd_X_cutLastName_58 : decode kc_X_cutLastName 58 = .ok (.iload_n 3, 1) := by decide +kernel
theorem kd_X_cutLastName_59 : decode kc_X_cutLastName 59 = .ok (.ireturn, 1) := by decide +kernel
theorem kd_X_lastIsDots_0 : decode kc_X_lastIsDots 0 = .ok (.aload_n 0, 1) := by decide +kernel
theorem kd_X_lastIsDots_1 : decode kc_X_lastIsDots 1 = .ok (.getfield 18, 3) := by decide +kernel
theorem kd_X_lastIsDots_4 : decode kc_X_lastIsDots 4 = .ok (.iconst 0, 1) := by decide +kernel
theorem kd_X_lastIsDots_5 : decode kc_X_lastIsDots 5 = .ok (.baload, 1) := by decide +kernel
theorem kd_X_lastIsDots_6 : decode kc_X_lastIsDots 6 = .ok (.bipush 46, 2) := by decide +kernel
theorem kd_X_lastIsDots_8 : decode kc_X_lastIsDots 8 = .ok (.if_icmp .ne 36, 3) := by decide +kernel
theorem kd_X_lastIsDots_11 : decode kc_X_lastIsDots 11 = .ok (.aload_n 0, 1) := by decide +kernel
theorem kd_X_lastIsDots_12 : decode kc_X_lastIsDots 12 = .ok (.getfield 18, 3) := by decide +kernel
theorem kd_X_lastIsDots_15 : decode kc_X_lastIsDots 15 = .ok (.iconst 1, 1) := by decide +kernel
theorem kd_X_lastIsDots_16 : decode kc_X_lastIsDots 16 = .ok (.baload, 1) := by decide +kernel
theorem kd_X_lastIsDots_17 : decode kc_X_lastIsDots 17 = .ok (.ifCond .eq 23, 3) := by decide +kernel
theorem kd_X_lastIsDots_20 : decode kc_X_lastIsDots 20 = .ok (.aload_n 0, 1) := by decide +kernel
theorem kd_X_lastIsDots_21 : decode kc_X_lastIsDots 21 = .ok (.getfield 18, 3) := by decide +kernel
theorem kd_X_lastIsDots_24 : decode kc_X_lastIsDots 24 = .ok (.iconst 1, 1) := by decide +kernel
theorem kd_X_lastIsDots_25 : decode kc_X_lastIsDots 25 = .ok (.baload, 1) := by decide +kernel
theorem kd_X_lastIsDots_26 : decode kc_X_lastIsDots 26 = .ok (.bipush 46, 2) := by decide +kernel
theorem kd_X_lastIsDots_28 : decode kc_X_lastIsDots 28 = .ok (.if_icmp .ne 16, 3) := by decide +kernel
theorem kd_X_lastIsDots_31 : decode kc_X_lastIsDots 31 = .ok (.aload_n 0, 1) := by decide +kernel
theorem kd_X_lastIsDots_32 : decode kc_X_lastIsDots 32 = .ok (.getfield 18, 3) := by decide +kernel
theorem kd_X_lastIsDots_35 : decode kc_X_lastIsDots 35 = .ok (.iconst 2, 1) := by decide +kernel
theorem kd_X_lastIsDots_36 : decode kc_X_lastIsDots 36 = .ok (.baload, 1) := by decide +kernel
theorem kd_X_lastIsDots_37 : decode kc_X_lastIsDots 37 = .ok (.ifCond .ne 7, 3) := by decide +kernel
theorem kd_X_lastIsDots_40 : decode kc_X_lastIsDots 40 = .ok (.iconst 1, 1) := by decide +kernel
theorem kd_X_lastIsDots_41 : decode kc_X_lastIsDots 41 = .ok (.goto 4, 3) := by decide +kernel
theorem kd_X_lastIsDots_44 : decode kc_X_lastIsDots 44 = .ok (.iconst 0, 1) := by decide +kernel
theorem kd_X_lastIsDots_45 : decode kc_X_lastIsDots 45 = .ok (.ireturn, 1) := by decide +kernel
theorem kd_J_bitCount_0 : decode kc_J_bitCount 0 = .ok (.iload_n 0, 1) := by decide +kernel
theorem kd_J_bitCount_1 : decode kc_J_bitCount 1 = .ok (.iload_n 0, 1) := by decide +kernel
theorem kd_J_bitCount_2 : decode kc_J_bitCount 2 = .ok (.iconst 1, 1) := by decide +kernel
theorem kd_J_bitCount_3 : decode kc_J_bitCount 3 = .ok (.iushr, 1) := by decide +kernel
theorem kd_J_bitCount_4 : decode kc_J_bitCount 4 = .ok (.ldc_w 265, 3) := by decide +kernel
theorem kd_J_bitCount_7 : decode kc_J_bitCount 7 = .ok (.iand, 1) := by decide +kernel
theorem kd_J_bitCount_8 : decode kc_J_bitCount 8 = .ok (.isub, 1) := by decide +kernel
theorem kd_J_bitCount_9 : decode kc_J_bitCount 9 = .ok (.istore_n 0, 1) := by decide +kernel
theorem kd_J_bitCount_10 : decode kc_J_bitCount 10 = .ok (.iload_n 0, 1) := by decide +kernel
theorem kd_J_bitCount_11 : decode kc_J_bitCount 11 = .ok (.ldc_w 266, 3) := by decide +kernel
theorem kd_J_bitCount_14 : decode kc_J_bitCount 14 = .ok (.iand, 1) := by decide +kernel
theorem kd_J_bitCount_15 : decode kc_J_bitCount 15 = .ok (.iload_n 0, 1) := by decide +kernel
theorem kd_J_bitCount_16 : decode kc_J_bitCount 16 = .ok (.iconst 2, 1) := by decide +kernel
theorem kd_J_bitCount_17 : decode kc_J_bitCount 17 = .ok (.iushr, 1) := by decide +kernel
theorem kd_J_bitCount_18 : decode kc_J_bitCount 18 = .ok (.ldc_w 266, 3) := by decide +kernel
theorem kd_J_bitCount_21 : decode kc_J_bitCount 21 = .ok (.iand, 1) := by decide +kernel
theorem kd_J_bitCount_22 : decode kc_J_bitCount 22 = .ok (.iadd, 1) := by decide +kernel
theorem kd_J_bitCount_23 : decode kc_J_bitCount 23 = .ok (.istore_n 0, 1) := by decide +kernel
theorem kd_J_bitCount_24 : decode kc_J_bitCount 24 = .ok (.iload_n 0, 1) := by decide +kernel
theorem kd_J_bitCount_25 : decode kc_J_bitCount 25 = .ok (.iload_n 0, 1) := by decide +kernel
theorem kd_J_bitCount_26 : decode kc_J_bitCount 26 = .ok (.iconst 4, 1) := by decide +kernel
theorem kd_J_bitCount_27 : decode kc_J_bitCount 27 = .ok (.iushr, 1) := by decide +kernel
theorem kd_J_bitCount_28 : decode kc_J_bitCount 28 = .ok (.iadd, 1) := by decide +kernel
theorem kd_J_bitCount_29 : decode kc_J_bitCount 29 = .ok (.ldc_w 267, 3) := by decide +kernel
theorem kd_J_bitCount_32 : decode kc_J_bitCount 32 = .ok (.iand, 1) := by decide +kernel
theorem kd_J_bitCount_33 : decode kc_J_bitCount 33 = .ok (.istore_n 0, 1) := by decide +kernel
theorem kd_J_bitCount_34 : decode kc_J_bitCount 34 = .ok (.iload_n 0, 1) := by decide +kernel
theorem kd_J_bitCount_35 : decode kc_J_bitCount 35 = .ok (.iload_n 0, 1) := by decide +kernel
theorem kd_J_bitCount_36 : decode kc_J_bitCount 36 = .ok (.bipush 8, 2) := by decide +kernel
theorem kd_J_bitCount_38 : decode kc_J_bitCount 38 = .ok (.iushr, 1) := by decide +kernel
theorem kd_J_bitCount_39 : decode kc_J_bitCount 39 = .ok (.iadd, 1) := by decide +kernel
theorem kd_J_bitCount_40 : decode kc_J_bitCount 40 = .ok (.istore_n 0, 1) := by decide +kernel
theorem kd_J_bitCount_41 : decode kc_J_bitCount 41 = .ok (.iload_n 0, 1) := by decide +kernel
theorem kd_J_bitCount_42 : decode kc_J_bitCount 42 = .ok (.iload_n 0, 1) := by decide +kernel
theorem kd_J_bitCount_43 : decode kc_J_bitCount 43 = .ok (.bipush 16, 2) := by decide +kernel
theorem kd_J_bitCount_45 : decode kc_J_bitCount 45 = .ok (.iushr, 1) := by decide +kernel
theorem kd_J_bitCount_46 : decode kc_J_bitCount 46 = .ok (.iadd, 1) := by decide +kernel
theorem kd_J_bitCount_47 : decode kc_J_bitCount 47 = .ok (.istore_n 0, 1) := by decide +kernel
theorem kd_J_bitCount_48 : decode kc_J_bitCount 48 = .ok (.iload_n 0, 1) := by decide +kernel
theorem kd_J_bitCount_49 : decode kc_J_bitCount 49 = .ok (.bipush 63, 2) := by decide +kernel
theorem kd_J_bitCount_51 : decode kc_J_bitCount 51 = .ok (.iand, 1) := by decide +kernel
theorem kd_J_bitCount_52 : decode kc_J_bitCount 52 = .ok (.ireturn, 1) := by decide +kernel
