theorem dX10_init_0 : decode cX10_init 0 = .ok (.aload_n 0, 1) := by decide +kernel
theorem dX10_init_1 : decode cX10_init 1 = .ok (.invokespecial 1, 3) := by decide +kernel
theorem dX10_init_4 : decode cX10_init 4 = .ok (.aload_n 0, 1) := by decide +kernel
theorem dX10_init_5 : decode cX10_init 5 = .ok (.new 7, 3) := by decide +kernel
theorem dX10_init_8 : decode cX10_init 8 = .ok (.dup, 1) := by decide +kernel
theorem dX10_init_9 : decode cX10_init 9 = .ok (.invokespecial 9, 3) := by decide +kernel
theorem dX10_init_12 : decode cX10_init 12 = .ok (.putfield 10, 3) := by decide +kernel
theorem dX10_init_15 : decode cX10_init 15 = .ok (.aload_n 0, 1) := by decide +kernel
theorem dX10_init_16 : decode cX10_init 16 = .ok (.new 16, 3) := by decide +kernel
theorem dX10_init_19 : decode cX10_init 19 = .ok (.dup, 1) := by decide +kernel
theorem dX10_init_20 : decode cX10_init 20 = .ok (.invokespecial 18, 3) := by decide +kernel
theorem dX10_init_23 : decode cX10_init 23 = .ok (.putfield 19, 3) := by decide +kernel
theorem dX10_init_26 : decode cX10_init 26 = .ok (.aload_n 0, 1) := by decide +kernel
theorem dX10_init_27 : decode cX10_init 27 = .ok (.aload_n 0, 1) := by decide +kernel
theorem dX10_init_28 : decode cX10_init 28 = .ok (.getfield 19, 3) := by decide +kernel
theorem dX10_init_31 : decode cX10_init 31 = .ok (.getfield 23, 3) := by decide +kernel
theorem dX10_init_34 : decode cX10_init 34 = .ok (.putfield 27, 3) := by decide +kernel
theorem dX10_init_37 : decode cX10_init 37 = .ok (.aload_n 0, 1) := by decide +kernel
theorem dX10_init_38 : decode cX10_init 38 = .ok (.new 28, 3) := by decide +kernel
theorem dX10_init_41 : decode cX10_init 41 = .ok (.dup, 1) := by decide +kernel
theorem dX10_init_42 : decode cX10_init 42 = .ok (.invokespecial 30, 3) := by decide +kernel
theorem dX10_init_45 : decode cX10_init 45 = .ok (.putfield 31, 3) := by decide +kernel
theorem dX10_init_48 : decode cX10_init 48 = .ok (.aload_n 0, 1) := by decide +kernel
theorem dX10_init_49 : decode cX10_init 49 = .ok (.new 28, 3) := by decide +kernel
theorem dX10_init_52 : decode cX10_init 52 = .ok (.dup, 1) := by decide +kernel
theorem dX10_init_53 : decode cX10_init 53 = .ok (.invokespecial 30, 3) := by decide +kernel
theorem dX10_init_56 : decode cX10_init 56 = .ok (.putfield 35, 3) := by decide +kernel
theorem dX10_init_59 : decode cX10_init 59 = .ok (.aload_n 0, 1) := by decide +kernel
theorem dX10_init_60 : decode cX10_init 60 = .ok (.sipush 256, 3) := by decide +kernel
theorem dX10_init_63 : decode cX10_init 63 = .ok (.newarray .boolean, 2) := by decide +kernel
theorem dX10_init_65 : decode cX10_init 65 = .ok (.putfield 38, 3) := by decide +kernel
theorem dX10_init_68 : decode cX10_init 68 = .ok (.aload_n 0, 1) := by decide +kernel
theorem dX10_init_69 : decode cX10_init 69 = .ok (.new 42, 3) := by decide +kernel
theorem dX10_init_72 : decode cX10_init 72 = .ok (.dup, 1) := by decide +kernel
theorem dX10_init_73 : decode cX10_init 73 = .ok (.invokespecial 44, 3) := by decide +kernel
theorem dX10_init_76 : decode cX10_init 76 = .ok (.putfield 45, 3) := by decide +kernel
theorem dX10_init_79 : decode cX10_init 79 = .ok (.aload_n 0, 1) := by decide +kernel
theorem dX10_init_80 : decode cX10_init 80 = .ok (.new 49, 3) := by decide +kernel
theorem dX10_init_83 : decode cX10_init 83 = .ok (.dup, 1) := by decide +kernel
theorem dX10_init_84 : decode cX10_init 84 = .ok (.invokespecial 51, 3) := by decide +kernel
theorem dX10_init_87 : decode cX10_init 87 = .ok (.putfield 52, 3) := by decide +kernel
theorem dX10_init_90 : decode cX10_init 90 = .ok (.aload_n 0, 1) := by decide +kernel
theorem dX10_init_91 : decode cX10_init 91 = .ok (.new 56, 3) := by decide +kernel
theorem dX10_init_94 : decode cX10_init 94 = .ok (.dup, 1) := by decide +kernel
theorem dX10_init_95 : decode cX10_init 95 = .ok (.invokespecial 58, 3) := by decide +kernel
theorem dX10_init_98 : decode cX10_init 98 = .ok (.putfield 59, 3) := by decide +kernel
theorem dX10_init_101 : decode cX10_init 101 = .ok (.aload_n 0, 1) := by decide +kernel
theorem dX10_init_102 : decode cX10_init 102 = .ok (.iconst 3, 1) := by decide +kernel
theorem dX10_init_103 : decode cX10_init 103 = .ok (.anewarray 63, 3) := by decide +kernel
theorem dX10_init_106 : decode cX10_init 106 = .ok (.putfield 65, 3) := by decide +kernel
theorem dX10_init_109 : decode cX10_init 109 = .ok (.aload_n 0, 1) := by decide +kernel
theorem dX10_init_110 : decode cX10_init 110 = .ok (.iconst 5, 1) := by decide +kernel
theorem dX10_init_111 : decode cX10_init 111 = .ok (.newarray .int, 2) := by decide +kernel
theorem dX10_init_113 : decode cX10_init 113 = .ok (.dup, 1) := by decide +kernel
theorem dX10_init_114 : decode cX10_init 114 = .ok (.iconst 0, 1) := by decide +kernel
theorem dX10_init_115 : decode cX10_init 115 = .ok (.iconst 1, 1) := by decide +kernel
theorem dX10_init_116 : decode cX10_init 116 = .ok (.iastore, 1) := by decide +kernel
theorem dX10_init_117 : decode cX10_init 117 = .ok (.dup, 1) := by decide +kernel
theorem dX10_init_118 : decode cX10_init 118 = .ok (.iconst 1, 1) := by decide +kernel
theorem dX10_init_119 : decode cX10_init 119 = .ok (.iconst 1, 1) := by decide +kernel
theorem dX10_init_120 : decode cX10_init 120 = .ok (.iastore, 1) := by decide +kernel
theorem dX10_init_121 : decode cX10_init 121 = .ok (.dup, 1) := by decide +kernel
theorem dX10_init_122 : decode cX10_init 122 = .ok (.iconst 2, 1) := by decide +kernel
theorem dX10_init_123 : decode cX10_init 123 = .ok (.iconst 1, 1) := by decide +kernel
theorem dX10_init_124 : decode cX10_init 124 = .ok (.iastore, 1) := by decide +kernel
theorem dX10_init_125 : decode cX10_init 125 = .ok (.dup, 1) := by decide +kernel
theorem dX10_init_126 : decode cX10_init 126 = .ok (.iconst 3, 1) := by decide +kernel
theorem dX10_init_127 : decode cX10_init 127 = .ok (.iconst 1, 1) := by decide +kernel
theorem dX10_init_128 : decode cX10_init 128 = .ok (.iastore, 1) := by decide +kernel
theorem dX10_init_129 : decode cX10_init 129 = .ok (.dup, 1) := by decide +kernel
theorem dX10_init_130 : decode cX10_init 130 = .ok (.iconst 4, 1) := by decide +kernel
theorem dX10_init_131 : decode cX10_init 131 = .ok (.iconst 1, 1) := by decide +kernel
theorem dX10_init_132 : decode cX10_init 132 = .ok (.iastore, 1) := by decide +kernel
theorem dX10_init_133 : decode cX10_init 133 = .ok (.putfield 69, 3) := by decide +kernel
theorem dX10_init_136 : decode cX10_init 136 = .ok (.aload_n 0, 1) := by decide +kernel
theorem dX10_init_137 : decode cX10_init 137 = .ok (.iconst 5, 1) := by decide +kernel
theorem dX10_init_138 : decode cX10_init 138 = .ok (.newarray .int, 2) := by decide +kernel
theorem dX10_init_140 : decode cX10_init 140 = .ok (.dup, 1) := by decide +kernel
theorem dX10_init_141 : decode cX10_init 141 = .ok (.iconst 0, 1) := by decide +kernel
theorem dX10_init_142 : decode cX10_init 142 = .ok (.iconst 1, 1) := by decide +kernel
theorem dX10_init_143 : decode cX10_init 143 = .ok (.iastore, 1) := by decide +kernel
theorem dX10_init_144 : decode cX10_init 144 = .ok (.dup, 1) := by decide +kernel
theorem dX10_init_145 : decode cX10_init 145 = .ok (.iconst 1, 1) := by decide +kernel
theorem dX10_init_146 : decode cX10_init 146 = .ok (.iconst 1, 1) := by decide +kernel
theorem dX10_init_147 : decode cX10_init 147 = .ok (.iastore, 1) := by decide +kernel
theorem dX10_init_148 : decode cX10_init 148 = .ok (.dup, 1) := by decide +kernel
theorem dX10_init_149 : decode cX10_init 149 = .ok (.iconst 2, 1) := by decide +kernel
theorem dX10_init_150 : decode cX10_init 150 = .ok (.iconst 1, 1) := by decide +kernel
theorem dX10_init_151 : decode cX10_init 151 = .ok (.iastore, 1) := by decide +kernel
theorem dX10_init_152 : decode cX10_init 152 = .ok (.dup, 1) := by decide +kernel
theorem dX10_init_153 : decode cX10_init 153 = .ok (.iconst 3, 1) := by decide +kernel
theorem dX10_init_154 : decode cX10_init 154 = .ok (.iconst 1, 1) := by decide +kernel
theorem dX10_init_155 : decode cX10_init 155 = .ok (.iastore, 1) := by decide +kernel
theorem dX10_init_156 : decode cX10_init 156 = .ok (.dup, 1) := by decide +kernel
theorem dX10_init_157 : decode cX10_init 157 = .ok (.iconst 4, 1) := by decide +kernel
theorem dX10_init_158 : decode cX10_init 158 = .ok (.iconst 1, 1) := by decide +kernel
theorem dX10_init_159 : decode cX10_init 159 = .ok (.iastore, 1) := by decide +kernel
theorem dX10_init_160 : decode cX10_init 160 = .ok (.putfield 73, 3) := by decide +kernel
theorem dX10_init_163 : decode cX10_init 163 = .ok (.aload_n 0, 1) := by decide +kernel
theorem dX10_init_164 : decode cX10_init 164 = .ok (.iconst 0, 1) := by decide +kernel
theorem dX10_init_165 : decode cX10_init 165 = .ok (.putfield 76, 3) := by decide +kernel
theorem dX10_init_168 : decode cX10_init 168 = .ok (.iconst 0, 1) := by decide +kernel
theorem dX10_init_169 : decode cX10_init 169 = .ok (.istore_n 1, 1) := by decide +kernel
theorem dX10_init_170 : decode cX10_init 170 = .ok (.iload_n 1, 1) := by decide +kernel
theorem dX10_init_171 : decode cX10_init 171 = .ok (.iconst 3, 1) := by decide +kernel
theorem dX10_init_172 : decode cX10_init 172 = .ok (.if_icmp .ge 22, 3) := by decide +kernel
theorem dX10_init_175 : decode cX10_init 175 = .ok (.aload_n 0, 1) := by decide +kernel
theorem dX10_init_176 : decode cX10_init 176 = .ok (.getfield 65, 3) := by decide +kernel
theorem dX10_init_179 : decode cX10_init 179 = .ok (.iload_n 1, 1) := by decide +kernel
theorem dX10_init_180 : decode cX10_init 180 = .ok (.new 63, 3) := by decide +kernel
theorem dX10_init_183 : decode cX10_init 183 = .ok (.dup, 1) := by decide +kernel
theorem dX10_init_184 : decode cX10_init 184 = .ok (.invokespecial 80, 3) := by decide +kernel
theorem dX10_init_187 : decode cX10_init 187 = .ok (.aastore, 1) := by decide +kernel
theorem dX10_init_188 : decode cX10_init 188 = .ok (.iinc 1 1, 3) := by decide +kernel
theorem dX10_init_191 : decode cX10_init 191 = .ok (.goto (-21), 3) := by decide +kernel
theorem dX10_init_194 : decode cX10_init 194 = .ok (.return_, 1) := by decide +kernel
theorem dX10_sign_0 : decode cX10_sign 0 = .ok (.aload_n 0, 1) := by decide +kernel
theorem dX10_sign_1 : decode cX10_sign 1 = .ok (.getfield 10, 3) := by decide +kernel
theorem dX10_sign_4 : decode cX10_sign 4 = .ok (.getfield 81, 3) := by decide +kernel
theorem dX10_sign_7 : decode cX10_sign 7 = .ok (.iconst 4, 1) := by decide +kernel
theorem dX10_sign_8 : decode cX10_sign 8 = .ok (.iadd, 1) := by decide +kernel
theorem dX10_sign_9 : decode cX10_sign 9 = .ok (.bipush 100, 2) := by decide +kernel
theorem dX10_sign_11 : decode cX10_sign 11 = .ok (.if_icmp .le 5, 3) := by decide +kernel
theorem dX10_sign_14 : decode cX10_sign 14 = .ok (.iconst (-1), 1) := by decide +kernel
theorem dX10_sign_15 : decode cX10_sign 15 = .ok (.ireturn, 1) := by decide +kernel
theorem dX10_sign_16 : decode cX10_sign 16 = .ok (.bipush 24, 2) := by decide +kernel
theorem dX10_sign_18 : decode cX10_sign 18 = .ok (.istore_n 2, 1) := by decide +kernel
theorem dX10_sign_19 : decode cX10_sign 19 = .ok (.iload_n 2, 1) := by decide +kernel
theorem dX10_sign_20 : decode cX10_sign 20 = .ok (.ifCond .lt 45, 3) := by decide +kernel
theorem dX10_sign_23 : decode cX10_sign 23 = .ok (.aload_n 0, 1) := by decide +kernel
theorem dX10_sign_24 : decode cX10_sign 24 = .ok (.getfield 10, 3) := by decide +kernel
theorem dX10_sign_27 : decode cX10_sign 27 = .ok (.getfield 84, 3) := by decide +kernel
theorem dX10_sign_30 : decode cX10_sign 30 = .ok (.aload_n 0, 1) := by decide +kernel
theorem dX10_sign_31 : decode cX10_sign 31 = .ok (.getfield 10, 3) := by decide +kernel
theorem dX10_sign_34 : decode cX10_sign 34 = .ok (.getfield 81, 3) := by decide +kernel
theorem dX10_sign_37 : decode cX10_sign 37 = .ok (.iload_n 1, 1) := by decide +kernel
theorem dX10_sign_38 : decode cX10_sign 38 = .ok (.iload_n 2, 1) := by decide +kernel
theorem dX10_sign_39 : decode cX10_sign 39 = .ok (.iushr, 1) := by decide +kernel
theorem dX10_sign_40 : decode cX10_sign 40 = .ok (.sipush 255, 3) := by decide +kernel
theorem dX10_sign_43 : decode cX10_sign 43 = .ok (.iand, 1) := by decide +kernel
theorem dX10_sign_44 : decode cX10_sign 44 = .ok (.i2c, 1) := by decide +kernel
theorem dX10_sign_45 : decode cX10_sign 45 = .ok (.castore, 1) := by decide +kernel
theorem dX10_sign_46 : decode cX10_sign 46 = .ok (.aload_n 0, 1) := by decide +kernel
theorem dX10_sign_47 : decode cX10_sign 47 = .ok (.getfield 10, 3) := by decide +kernel
theorem dX10_sign_50 : decode cX10_sign 50 = .ok (.dup, 1) := by decide +kernel
theorem dX10_sign_51 : decode cX10_sign 51 = .ok (.getfield 81, 3) := by decide +kernel
theorem dX10_sign_54 : decode cX10_sign 54 = .ok (.iconst 1, 1) := by decide +kernel
theorem dX10_sign_55 : decode cX10_sign 55 = .ok (.iadd, 1) := by decide +kernel
theorem dX10_sign_56 : decode cX10_sign 56 = .ok (.putfield 81, 3) := by decide +kernel
theorem dX10_sign_59 : decode cX10_sign 59 = .ok (.iinc 2 (-8), 3) := by decide +kernel
theorem dX10_sign_62 : decode cX10_sign 62 = .ok (.goto (-43), 3) := by decide +kernel
theorem dX10_sign_65 : decode cX10_sign 65 = .ok (.aload_n 0, 1) := by decide +kernel
theorem dX10_sign_66 : decode cX10_sign 66 = .ok (.getfield 10, 3) := by decide +kernel
theorem dX10_sign_69 : decode cX10_sign 69 = .ok (.getfield 81, 3) := by decide +kernel
theorem dX10_sign_72 : decode cX10_sign 72 = .ok (.ireturn, 1) := by decide +kernel
theorem dX10_end_0 : decode cX10_end 0 = .ok (.iload_n 1, 1) := by decide +kernel
theorem dX10_end_1 : decode cX10_end 1 = .ok (.ifCond .lt 14, 3) := by decide +kernel
theorem dX10_end_4 : decode cX10_end 4 = .ok (.iload_n 1, 1) := by decide +kernel
theorem dX10_end_5 : decode cX10_end 5 = .ok (.aload_n 0, 1) := by decide +kernel
theorem dX10_end_6 : decode cX10_end 6 = .ok (.getfield 10, 3) := by decide +kernel
theorem dX10_end_9 : decode cX10_end 9 = .ok (.getfield 81, 3) := by decide +kernel
theorem dX10_end_12 : decode cX10_end 12 = .ok (.if_icmp .le 5, 3) := by decide +kernel
theorem dX10_end_15 : decode cX10_end 15 = .ok (.iconst 0, 1) := by decide +kernel
theorem dX10_end_16 : decode cX10_end 16 = .ok (.ireturn, 1) := by decide +kernel
theorem dX10_end_17 : decode cX10_end 17 = .ok (.aload_n 0, 1) := by decide +kernel
theorem dX10_end_18 : decode cX10_end 18 = .ok (.getfield 10, 3) := by decide +kernel
theorem dX10_end_21 : decode cX10_end 21 = .ok (.iload_n 1, 1) := by decide +kernel
theorem dX10_end_22 : decode cX10_end 22 = .ok (.putfield 81, 3) := by decide +kernel
theorem dX10_end_25 : decode cX10_end 25 = .ok (.iconst 1, 1) := by decide +kernel
theorem dX10_end_26 : decode cX10_end 26 = .ok (.ireturn, 1) := by decide +kernel
theorem dX10_task_0 : decode cX10_task 0 = .ok (.aload_n 0, 1) := by decide +kernel
theorem dX10_task_1 : decode cX10_task 1 = .ok (.invokevirtual 88, 3) := by decide +kernel
theorem dX10_task_4 : decode cX10_task 4 = .ok (.istore_n 2, 1) := by decide +kernel
theorem dX10_task_5 : decode cX10_task 5 = .ok (.iload_n 1, 1) := by decide +kernel
theorem dX10_task_6 : decode cX10_task 6 = .ok (.ifCond .lt 19, 3) := by decide +kernel
theorem dX10_task_9 : decode cX10_task 9 = .ok (.iload_n 1, 1) := by decide +kernel
theorem dX10_task_10 : decode cX10_task 10 = .ok (.aload_n 0, 1) := by decide +kernel
theorem dX10_task_11 : decode cX10_task 11 = .ok (.getfield 27, 3) := by decide +kernel
theorem dX10_task_14 : decode cX10_task 14 = .ok (.getfield 92, 3) := by decide +kernel
theorem dX10_task_17 : decode cX10_task 17 = .ok (.if_icmp .gt 8, 3) := by decide +kernel
theorem dX10_task_20 : decode cX10_task 20 = .ok (.iload_n 1, 1) := by decide +kernel
theorem dX10_task_21 : decode cX10_task 21 = .ok (.iconst 4, 1) := by decide +kernel
theorem dX10_task_22 : decode cX10_task 22 = .ok (.if_icmp .lt 6, 3) := by decide +kernel
theorem dX10_task_25 : decode cX10_task 25 = .ok (.bipush (-100), 2) := by decide +kernel
theorem dX10_task_27 : decode cX10_task 27 = .ok (.ireturn, 1) := by decide +kernel
theorem dX10_task_28 : decode cX10_task 28 = .ok (.aload_n 0, 1) := by decide +kernel
theorem dX10_task_29 : decode cX10_task 29 = .ok (.getfield 10, 3) := by decide +kernel
theorem dX10_task_32 : decode cX10_task 32 = .ok (.iload_n 2, 1) := by decide +kernel
theorem dX10_task_33 : decode cX10_task 33 = .ok (.bipush 16, 2) := by decide +kernel
theorem dX10_task_35 : decode cX10_task 35 = .ok (.invokevirtual 97, 3) := by decide +kernel
theorem dX10_task_38 : decode cX10_task 38 = .ok (.istore_n 3, 1) := by decide +kernel
theorem dX10_task_39 : decode cX10_task 39 = .ok (.iload_n 3, 1) := by decide +kernel
theorem dX10_task_40 : decode cX10_task 40 = .ok (.ifCond .lt 7, 3) := by decide +kernel
theorem dX10_task_43 : decode cX10_task 43 = .ok (.iconst (-1), 1) := by decide +kernel
theorem dX10_task_44 : decode cX10_task 44 = .ok (.iload_n 3, 1) := by decide +kernel
theorem dX10_task_45 : decode cX10_task 45 = .ok (.isub, 1) := by decide +kernel
theorem dX10_task_46 : decode cX10_task 46 = .ok (.ireturn, 1) := by decide +kernel
theorem dX10_task_47 : decode cX10_task 47 = .ok (.aload_n 0, 1) := by decide +kernel
theorem dX10_task_48 : decode cX10_task 48 = .ok (.getfield 27, 3) := by decide +kernel
theorem dX10_task_51 : decode cX10_task 51 = .ok (.getfield 101, 3) := by decide +kernel
theorem dX10_task_54 : decode cX10_task 54 = .ok (.iload_n 1, 1) := by decide +kernel
theorem dX10_task_55 : decode cX10_task 55 = .ok (.aload_n 0, 1) := by decide +kernel
theorem dX10_task_56 : decode cX10_task 56 = .ok (.getfield 10, 3) := by decide +kernel
theorem dX10_task_59 : decode cX10_task 59 = .ok (.aload_n 0, 1) := by decide +kernel
theorem dX10_task_60 : decode cX10_task 60 = .ok (.getfield 27, 3) := by decide +kernel
theorem dX10_task_63 : decode cX10_task 63 = .ok (.getfield 101, 3) := by decide +kernel
theorem dX10_task_66 : decode cX10_task 66 = .ok (.iload_n 1, 1) := by decide +kernel
theorem dX10_task_67 : decode cX10_task 67 = .ok (.aaload, 1) := by decide +kernel
theorem dX10_task_68 : decode cX10_task 68 = .ok (.invokevirtual 105, 3) := by decide +kernel
theorem dX10_task_71 : decode cX10_task 71 = .ok (.aastore, 1) := by decide +kernel
theorem dX10_task_72 : decode cX10_task 72 = .ok (.iload_n 1, 1) := by decide +kernel
theorem dX10_task_73 : decode cX10_task 73 = .ok (.aload_n 0, 1) := by decide +kernel
theorem dX10_task_74 : decode cX10_task 74 = .ok (.getfield 27, 3) := by decide +kernel
theorem dX10_task_77 : decode cX10_task 77 = .ok (.getfield 92, 3) := by decide +kernel
theorem dX10_task_80 : decode cX10_task 80 = .ok (.if_icmp .ne 16, 3) := by decide +kernel
theorem dX10_task_83 : decode cX10_task 83 = .ok (.aload_n 0, 1) := by decide +kernel
theorem dX10_task_84 : decode cX10_task 84 = .ok (.getfield 27, 3) := by decide +kernel
theorem dX10_task_87 : decode cX10_task 87 = .ok (.dup, 1) := by decide +kernel
theorem dX10_task_88 : decode cX10_task 88 = .ok (.getfield 92, 3) := by decide +kernel
theorem dX10_task_91 : decode cX10_task 91 = .ok (.iconst 1, 1) := by decide +kernel
theorem dX10_task_92 : decode cX10_task 92 = .ok (.iadd, 1) := by decide +kernel
theorem dX10_task_93 : decode cX10_task 93 = .ok (.putfield 92, 3) := by decide +kernel
theorem dX10_task_96 : decode cX10_task 96 = .ok (.aload_n 0, 1) := by decide +kernel
theorem dX10_task_97 : decode cX10_task 97 = .ok (.getfield 31, 3) := by decide +kernel
theorem dX10_task_100 : decode cX10_task 100 = .ok (.iload_n 1, 1) := by decide +kernel
theorem dX10_task_101 : decode cX10_task 101 = .ok (.iconst 0, 1) := by decide +kernel
theorem dX10_task_102 : decode cX10_task 102 = .ok (.invokevirtual 109, 3) := by decide +kernel
theorem dX10_task_105 : decode cX10_task 105 = .ok (.aload_n 0, 1) := by decide +kernel
theorem dX10_task_106 : decode cX10_task 106 = .ok (.invokevirtual 113, 3) := by decide +kernel
theorem dX10_task_109 : decode cX10_task 109 = .ok (.aload_n 0, 1) := by decide +kernel
theorem dX10_task_110 : decode cX10_task 110 = .ok (.getfield 27, 3) := by decide +kernel
theorem dX10_task_113 : decode cX10_task 113 = .ok (.getfield 101, 3) := by decide +kernel
theorem dX10_task_116 : decode cX10_task 116 = .ok (.iload_n 1, 1) := by decide +kernel
theorem dX10_task_117 : decode cX10_task 117 = .ok (.aaload, 1) := by decide +kernel
theorem dX10_task_118 : decode cX10_task 118 = .ok (.getfield 116, 3) := by decide +kernel
theorem dX10_task_121 : decode cX10_task 121 = .ok (.ireturn, 1) := by decide +kernel
theorem dX10_must_0 : decode cX10_must 0 = .ok (.aload_n 0, 1) := by decide +kernel
theorem dX10_must_1 : decode cX10_must 1 = .ok (.invokevirtual 88, 3) := by decide +kernel
theorem dX10_must_4 : decode cX10_must 4 = .ok (.istore_n 1, 1) := by decide +kernel
theorem dX10_must_5 : decode cX10_must 5 = .ok (.iload_n 1, 1) := by decide +kernel
theorem dX10_must_6 : decode cX10_must 6 = .ok (.ifCond .ne 15, 3) := by decide +kernel
theorem dX10_must_9 : decode cX10_must 9 = .ok (.aload_n 0, 1) := by decide +kernel
theorem dX10_must_10 : decode cX10_must 10 = .ok (.getfield 27, 3) := by decide +kernel
theorem dX10_must_13 : decode cX10_must 13 = .ok (.getfield 121, 3) := by decide +kernel
theorem dX10_must_16 : decode cX10_must 16 = .ok (.invokevirtual 125, 3) := by decide +kernel
theorem dX10_must_19 : decode cX10_must 19 = .ok (.iconst 0, 1) := by decide +kernel
theorem dX10_must_20 : decode cX10_must 20 = .ok (.ireturn, 1) := by decide +kernel
theorem dX10_must_21 : decode cX10_must 21 = .ok (.aload_n 0, 1) := by decide +kernel
theorem dX10_must_22 : decode cX10_must 22 = .ok (.getfield 10, 3) := by decide +kernel
theorem dX10_must_25 : decode cX10_must 25 = .ok (.iload_n 1, 1) := by decide +kernel
theorem dX10_must_26 : decode cX10_must 26 = .ok (.invokevirtual 128, 3) := by decide +kernel
theorem dX10_must_29 : decode cX10_must 29 = .ok (.istore_n 2, 1) := by decide +kernel
theorem dX10_must_30 : decode cX10_must 30 = .ok (.iload_n 2, 1) := by decide +kernel
theorem dX10_must_31 : decode cX10_must 31 = .ok (.ifCond .lt 7, 3) := by decide +kernel
theorem dX10_must_34 : decode cX10_must 34 = .ok (.iconst (-1), 1) := by decide +kernel
theorem dX10_must_35 : decode cX10_must 35 = .ok (.iload_n 2, 1) := by decide +kernel
theorem dX10_must_36 : decode cX10_must 36 = .ok (.isub, 1) := by decide +kernel
theorem dX10_must_37 : decode cX10_must 37 = .ok (.ireturn, 1) := by decide +kernel
theorem dX10_must_38 : decode cX10_must 38 = .ok (.aload_n 0, 1) := by decide +kernel
theorem dX10_must_39 : decode cX10_must 39 = .ok (.getfield 27, 3) := by decide +kernel
theorem dX10_must_42 : decode cX10_must 42 = .ok (.aload_n 0, 1) := by decide +kernel
theorem dX10_must_43 : decode cX10_must 43 = .ok (.getfield 10, 3) := by decide +kernel
theorem dX10_must_46 : decode cX10_must 46 = .ok (.aload_n 0, 1) := by decide +kernel
theorem dX10_must_47 : decode cX10_must 47 = .ok (.getfield 27, 3) := by decide +kernel
theorem dX10_must_50 : decode cX10_must 50 = .ok (.getfield 121, 3) := by decide +kernel
theorem dX10_must_53 : decode cX10_must 53 = .ok (.invokevirtual 105, 3) := by decide +kernel
theorem dX10_must_56 : decode cX10_must 56 = .ok (.putfield 121, 3) := by decide +kernel
theorem dX10_must_59 : decode cX10_must 59 = .ok (.iconst 0, 1) := by decide +kernel
theorem dX10_must_60 : decode cX10_must 60 = .ok (.ireturn, 1) := by decide +kernel
theorem dX10_bolt_0 : decode cX10_bolt 0 = .ok (.aload_n 0, 1) := by decide +kernel
theorem dX10_bolt_1 : decode cX10_bolt 1 = .ok (.invokevirtual 88, 3) := by decide +kernel
theorem dX10_bolt_4 : decode cX10_bolt 4 = .ok (.istore_n 1, 1) := by decide +kernel
theorem dX10_bolt_5 : decode cX10_bolt 5 = .ok (.aload_n 0, 1) := by decide +kernel
theorem dX10_bolt_6 : decode cX10_bolt 6 = .ok (.getfield 27, 3) := by decide +kernel
theorem dX10_bolt_9 : decode cX10_bolt 9 = .ok (.getfield 132, 3) := by decide +kernel
theorem dX10_bolt_12 : decode cX10_bolt 12 = .ok (.istore_n 2, 1) := by decide +kernel
theorem dX10_bolt_13 : decode cX10_bolt 13 = .ok (.iload_n 2, 1) := by decide +kernel
theorem dX10_bolt_14 : decode cX10_bolt 14 = .ok (.iconst 3, 1) := by decide +kernel
theorem dX10_bolt_15 : decode cX10_bolt 15 = .ok (.if_icmp .lt 6, 3) := by decide +kernel
theorem dX10_bolt_18 : decode cX10_bolt 18 = .ok (.bipush (-100), 2) := by decide +kernel
theorem dX10_bolt_20 : decode cX10_bolt 20 = .ok (.ireturn, 1) := by decide +kernel
theorem dX10_bolt_21 : decode cX10_bolt 21 = .ok (.aload_n 0, 1) := by decide +kernel
theorem dX10_bolt_22 : decode cX10_bolt 22 = .ok (.getfield 10, 3) := by decide +kernel
theorem dX10_bolt_25 : decode cX10_bolt 25 = .ok (.iload_n 1, 1) := by decide +kernel
theorem dX10_bolt_26 : decode cX10_bolt 26 = .ok (.invokevirtual 128, 3) := by decide +kernel
theorem dX10_bolt_29 : decode cX10_bolt 29 = .ok (.istore_n 3, 1) := by decide +kernel
theorem dX10_bolt_30 : decode cX10_bolt 30 = .ok (.iload_n 3, 1) := by decide +kernel
theorem dX10_bolt_31 : decode cX10_bolt 31 = .ok (.ifCond .lt 7, 3) := by decide +kernel
theorem dX10_bolt_34 : decode cX10_bolt 34 = .ok (.iconst (-1), 1) := by decide +kernel
theorem dX10_bolt_35 : decode cX10_bolt 35 = .ok (.iload_n 3, 1) := by decide +kernel
theorem dX10_bolt_36 : decode cX10_bolt 36 = .ok (.isub, 1) := by decide +kernel
theorem dX10_bolt_37 : decode cX10_bolt 37 = .ok (.ireturn, 1) := by decide +kernel
theorem dX10_bolt_38 : decode cX10_bolt 38 = .ok (.aload_n 0, 1) := by decide +kernel
theorem dX10_bolt_39 : decode cX10_bolt 39 = .ok (.getfield 27, 3) := by decide +kernel
theorem dX10_bolt_42 : decode cX10_bolt 42 = .ok (.getfield 135, 3) := by decide +kernel
theorem dX10_bolt_45 : decode cX10_bolt 45 = .ok (.iload_n 2, 1) := by decide +kernel
theorem dX10_bolt_46 : decode cX10_bolt 46 = .ok (.aload_n 0, 1) := by decide +kernel
theorem dX10_bolt_47 : decode cX10_bolt 47 = .ok (.getfield 10, 3) := by decide +kernel
theorem dX10_bolt_50 : decode cX10_bolt 50 = .ok (.aload_n 0, 1) := by decide +kernel
theorem dX10_bolt_51 : decode cX10_bolt 51 = .ok (.getfield 27, 3) := by decide +kernel
theorem dX10_bolt_54 : decode cX10_bolt 54 = .ok (.getfield 135, 3) := by decide +kernel
theorem dX10_bolt_57 : decode cX10_bolt 57 = .ok (.iload_n 2, 1) := by decide +kernel
theorem dX10_bolt_58 : decode cX10_bolt 58 = .ok (.aaload, 1) := by decide +kernel
theorem dX10_bolt_59 : decode cX10_bolt 59 = .ok (.invokevirtual 105, 3) := by decide +kernel
theorem dX10_bolt_62 : decode cX10_bolt 62 = .ok (.aastore, 1) := by decide +kernel
theorem dX10_bolt_63 : decode cX10_bolt 63 = .ok (.aload_n 0, 1) := by decide +kernel
theorem dX10_bolt_64 : decode cX10_bolt 64 = .ok (.getfield 27, 3) := by decide +kernel
theorem dX10_bolt_67 : decode cX10_bolt 67 = .ok (.dup, 1) := by decide +kernel
theorem dX10_bolt_68 : decode cX10_bolt 68 = .ok (.getfield 138, 3) := by decide +kernel
theorem dX10_bolt_71 : decode cX10_bolt 71 = .ok (.iconst 1, 1) := by decide +kernel
theorem dX10_bolt_72 : decode cX10_bolt 72 = .ok (.iload_n 2, 1) := by decide +kernel
theorem dX10_bolt_73 : decode cX10_bolt 73 = .ok (.ishl, 1) := by decide +kernel
theorem dX10_bolt_74 : decode cX10_bolt 74 = .ok (.ior, 1) := by decide +kernel
theorem dX10_bolt_75 : decode cX10_bolt 75 = .ok (.putfield 138, 3) := by decide +kernel
theorem dX10_bolt_78 : decode cX10_bolt 78 = .ok (.aload_n 0, 1) := by decide +kernel
theorem dX10_bolt_79 : decode cX10_bolt 79 = .ok (.getfield 27, 3) := by decide +kernel
theorem dX10_bolt_82 : decode cX10_bolt 82 = .ok (.dup, 1) := by decide +kernel
theorem dX10_bolt_83 : decode cX10_bolt 83 = .ok (.getfield 132, 3) := by decide +kernel
theorem dX10_bolt_86 : decode cX10_bolt 86 = .ok (.iconst 1, 1) := by decide +kernel
theorem dX10_bolt_87 : decode cX10_bolt 87 = .ok (.iadd, 1) := by decide +kernel
theorem dX10_bolt_88 : decode cX10_bolt 88 = .ok (.putfield 132, 3) := by decide +kernel
theorem dX10_bolt_91 : decode cX10_bolt 91 = .ok (.aload_n 0, 1) := by decide +kernel
theorem dX10_bolt_92 : decode cX10_bolt 92 = .ok (.invokevirtual 113, 3) := by decide +kernel
theorem dX10_bolt_95 : decode cX10_bolt 95 = .ok (.iload_n 2, 1) := by decide +kernel
theorem dX10_bolt_96 : decode cX10_bolt 96 = .ok (.ireturn, 1) := by decide +kernel
theorem dX10_turn_0 : decode cX10_turn 0 = .ok (.iload_n 1, 1) := by decide +kernel
theorem dX10_turn_1 : decode cX10_turn 1 = .ok (.ifCond .lt 14, 3) := by decide +kernel
theorem dX10_turn_4 : decode cX10_turn 4 = .ok (.iload_n 1, 1) := by decide +kernel
theorem dX10_turn_5 : decode cX10_turn 5 = .ok (.aload_n 0, 1) := by decide +kernel
theorem dX10_turn_6 : decode cX10_turn 6 = .ok (.getfield 27, 3) := by decide +kernel
theorem dX10_turn_9 : decode cX10_turn 9 = .ok (.getfield 132, 3) := by decide +kernel
theorem dX10_turn_12 : decode cX10_turn 12 = .ok (.if_icmp .lt 5, 3) := by decide +kernel
theorem dX10_turn_15 : decode cX10_turn 15 = .ok (.iconst 0, 1) := by decide +kernel
theorem dX10_turn_16 : decode cX10_turn 16 = .ok (.ireturn, 1) := by decide +kernel
theorem dX10_turn_17 : decode cX10_turn 17 = .ok (.iconst 1, 1) := by decide +kernel
theorem dX10_turn_18 : decode cX10_turn 18 = .ok (.iload_n 1, 1) := by decide +kernel
theorem dX10_turn_19 : decode cX10_turn 19 = .ok (.ishl, 1) := by decide +kernel
theorem dX10_turn_20 : decode cX10_turn 20 = .ok (.istore_n 3, 1) := by decide +kernel
theorem dX10_turn_21 : decode cX10_turn 21 = .ok (.aload_n 0, 1) := by decide +kernel
theorem dX10_turn_22 : decode cX10_turn 22 = .ok (.getfield 27, 3) := by decide +kernel
theorem dX10_turn_25 : decode cX10_turn 25 = .ok (.iload_n 2, 1) := by decide +kernel
theorem dX10_turn_26 : decode cX10_turn 26 = .ok (.ifCond .eq 15, 3) := by decide +kernel
theorem dX10_turn_29 : decode cX10_turn 29 = .ok (.aload_n 0, 1) := by decide +kernel
theorem dX10_turn_30 : decode cX10_turn 30 = .ok (.getfield 27, 3) := by decide +kernel
theorem dX10_turn_33 : decode cX10_turn 33 = .ok (.getfield 138, 3) := by decide +kernel
theorem dX10_turn_36 : decode cX10_turn 36 = .ok (.iload_n 3, 1) := by decide +kernel
theorem dX10_turn_37 : decode cX10_turn 37 = .ok (.ior, 1) := by decide +kernel
theorem dX10_turn_38 : decode cX10_turn 38 = .ok (.goto 14, 3) := by decide +kernel
theorem dX10_turn_41 : decode cX10_turn 41 = .ok (.aload_n 0, 1) := by decide +kernel
theorem dX10_turn_42 : decode cX10_turn 42 = .ok (.getfield 27, 3) := by decide +kernel
theorem dX10_turn_45 : decode cX10_turn 45 = .ok (.getfield 138, 3) := by decide +kernel
theorem dX10_turn_48 : decode cX10_turn 48 = .ok (.iload_n 3, 1) := by decide +kernel
theorem dX10_turn_49 : decode cX10_turn 49 = .ok (.iconst (-1), 1) := by decide +kernel
theorem dX10_turn_50 : decode cX10_turn 50 = .ok (.ixor, 1) := by decide +kernel
theorem dX10_turn_51 : decode cX10_turn 51 = .ok (.iand, 1) := by decide +kernel
theorem dX10_turn_52 : decode cX10_turn 52 = .ok (.putfield 138, 3) := by decide +kernel
theorem dX10_turn_55 : decode cX10_turn 55 = .ok (.iconst 1, 1) := by decide +kernel
theorem dX10_turn_56 : decode cX10_turn 56 = .ok (.ireturn, 1) := by decide +kernel
theorem dX10_slot_0 : decode cX10_slot 0 = .ok (.iload_n 1, 1) := by decide +kernel
theorem dX10_slot_1 : decode cX10_slot 1 = .ok (.ifCond .lt 20, 3) := by decide +kernel
theorem dX10_slot_4 : decode cX10_slot 4 = .ok (.iload_n 1, 1) := by decide +kernel
theorem dX10_slot_5 : decode cX10_slot 5 = .ok (.bipush 8, 2) := by decide +kernel
theorem dX10_slot_7 : decode cX10_slot 7 = .ok (.if_icmp .ge 14, 3) := by decide +kernel
theorem dX10_slot_10 : decode cX10_slot 10 = .ok (.iload_n 2, 1) := by decide +kernel
theorem dX10_slot_11 : decode cX10_slot 11 = .ok (.ifCond .lt 10, 3) := by decide +kernel
theorem dX10_slot_14 : decode cX10_slot 14 = .ok (.iload_n 2, 1) := by decide +kernel
theorem dX10_slot_15 : decode cX10_slot 15 = .ok (.sipush 255, 3) := by decide +kernel
theorem dX10_slot_18 : decode cX10_slot 18 = .ok (.if_icmp .le 5, 3) := by decide +kernel
theorem dX10_slot_21 : decode cX10_slot 21 = .ok (.iconst (-1), 1) := by decide +kernel
theorem dX10_slot_22 : decode cX10_slot 22 = .ok (.ireturn, 1) := by decide +kernel
theorem dX10_slot_23 : decode cX10_slot 23 = .ok (.aload_n 0, 1) := by decide +kernel
theorem dX10_slot_24 : decode cX10_slot 24 = .ok (.getfield 31, 3) := by decide +kernel
theorem dX10_slot_27 : decode cX10_slot 27 = .ok (.iload_n 1, 1) := by decide +kernel
theorem dX10_slot_28 : decode cX10_slot 28 = .ok (.invokevirtual 141, 3) := by decide +kernel
theorem dX10_slot_31 : decode cX10_slot 31 = .ok (.istore_n 3, 1) := by decide +kernel
theorem dX10_slot_32 : decode cX10_slot 32 = .ok (.aload_n 0, 1) := by decide +kernel
theorem dX10_slot_33 : decode cX10_slot 33 = .ok (.getfield 31, 3) := by decide +kernel
theorem dX10_slot_36 : decode cX10_slot 36 = .ok (.iload_n 1, 1) := by decide +kernel
theorem dX10_slot_37 : decode cX10_slot 37 = .ok (.iload_n 2, 1) := by decide +kernel
theorem dX10_slot_38 : decode cX10_slot 38 = .ok (.invokevirtual 144, 3) := by decide +kernel
theorem dX10_slot_41 : decode cX10_slot 41 = .ok (.iload_n 3, 1) := by decide +kernel
theorem dX10_slot_42 : decode cX10_slot 42 = .ok (.ireturn, 1) := by decide +kernel
theorem dX10_speed_0 : decode cX10_speed 0 = .ok (.iload_n 1, 1) := by decide +kernel
theorem dX10_speed_1 : decode cX10_speed 1 = .ok (.ifCond .lt 18, 3) := by decide +kernel
theorem dX10_speed_4 : decode cX10_speed 4 = .ok (.iload_n 1, 1) := by decide +kernel
theorem dX10_speed_5 : decode cX10_speed 5 = .ok (.iconst 4, 1) := by decide +kernel
theorem dX10_speed_6 : decode cX10_speed 6 = .ok (.if_icmp .ge 13, 3) := by decide +kernel
theorem dX10_speed_9 : decode cX10_speed 9 = .ok (.iload_n 2, 1) := by decide +kernel
theorem dX10_speed_10 : decode cX10_speed 10 = .ok (.ifCond .lt 9, 3) := by decide +kernel
theorem dX10_speed_13 : decode cX10_speed 13 = .ok (.iload_n 2, 1) := by decide +kernel
theorem dX10_speed_14 : decode cX10_speed 14 = .ok (.bipush 15, 2) := by decide +kernel
theorem dX10_speed_16 : decode cX10_speed 16 = .ok (.if_icmp .le 5, 3) := by decide +kernel
theorem dX10_speed_19 : decode cX10_speed 19 = .ok (.iconst (-1), 1) := by decide +kernel
theorem dX10_speed_20 : decode cX10_speed 20 = .ok (.ireturn, 1) := by decide +kernel
theorem dX10_speed_21 : decode cX10_speed 21 = .ok (.aload_n 0, 1) := by decide +kernel
theorem dX10_speed_22 : decode cX10_speed 22 = .ok (.getfield 27, 3) := by decide +kernel
theorem dX10_speed_25 : decode cX10_speed 25 = .ok (.getfield 147, 3) := by decide +kernel
theorem dX10_speed_28 : decode cX10_speed 28 = .ok (.iload_n 1, 1) := by decide +kernel
theorem dX10_speed_29 : decode cX10_speed 29 = .ok (.iaload, 1) := by decide +kernel
theorem dX10_speed_30 : decode cX10_speed 30 = .ok (.istore_n 3, 1) := by decide +kernel
theorem dX10_speed_31 : decode cX10_speed 31 = .ok (.aload_n 0, 1) := by decide +kernel
theorem dX10_speed_32 : decode cX10_speed 32 = .ok (.getfield 27, 3) := by decide +kernel
theorem dX10_speed_35 : decode cX10_speed 35 = .ok (.getfield 147, 3) := by decide +kernel
theorem dX10_speed_38 : decode cX10_speed 38 = .ok (.iload_n 1, 1) := by decide +kernel
theorem dX10_speed_39 : decode cX10_speed 39 = .ok (.iload_n 2, 1) := by decide +kernel
theorem dX10_speed_40 : decode cX10_speed 40 = .ok (.iastore, 1) := by decide +kernel
theorem dX10_speed_41 : decode cX10_speed 41 = .ok (.iload_n 3, 1) := by decide +kernel
theorem dX10_speed_42 : decode cX10_speed 42 = .ok (.ireturn, 1) := by decide +kernel
theorem dX10_keys_0 : decode cX10_keys 0 = .ok (.iload_n 1, 1) := by decide +kernel
theorem dX10_keys_1 : decode cX10_keys 1 = .ok (.ifCond .lt 8, 3) := by decide +kernel
theorem dX10_keys_4 : decode cX10_keys 4 = .ok (.iload_n 1, 1) := by decide +kernel
theorem dX10_keys_5 : decode cX10_keys 5 = .ok (.iconst 4, 1) := by decide +kernel
theorem dX10_keys_6 : decode cX10_keys 6 = .ok (.if_icmp .le 5, 3) := by decide +kernel
theorem dX10_keys_9 : decode cX10_keys 9 = .ok (.iconst (-1), 1) := by decide +kernel
theorem dX10_keys_10 : decode cX10_keys 10 = .ok (.ireturn, 1) := by decide +kernel
theorem dX10_keys_11 : decode cX10_keys 11 = .ok (.aload_n 0, 1) := by decide +kernel
theorem dX10_keys_12 : decode cX10_keys 12 = .ok (.getfield 27, 3) := by decide +kernel
theorem dX10_keys_15 : decode cX10_keys 15 = .ok (.getfield 150, 3) := by decide +kernel
theorem dX10_keys_18 : decode cX10_keys 18 = .ok (.istore_n 2, 1) := by decide +kernel
theorem dX10_keys_19 : decode cX10_keys 19 = .ok (.aload_n 0, 1) := by decide +kernel
theorem dX10_keys_20 : decode cX10_keys 20 = .ok (.getfield 27, 3) := by decide +kernel
theorem dX10_keys_23 : decode cX10_keys 23 = .ok (.iload_n 1, 1) := by decide +kernel
theorem dX10_keys_24 : decode cX10_keys 24 = .ok (.putfield 150, 3) := by decide +kernel
theorem dX10_keys_27 : decode cX10_keys 27 = .ok (.iload_n 2, 1) := by decide +kernel
theorem dX10_keys_28 : decode cX10_keys 28 = .ok (.ireturn, 1) := by decide +kernel
theorem dX10_step_0 : decode cX10_step 0 = .ok (.iload_n 1, 1) := by decide +kernel
theorem dX10_step_1 : decode cX10_step 1 = .ok (.ifCond .lt 29, 3) := by decide +kernel
theorem dX10_step_4 : decode cX10_step 4 = .ok (.iload_n 1, 1) := by decide +kernel
theorem dX10_step_5 : decode cX10_step 5 = .ok (.aload_n 0, 1) := by decide +kernel
theorem dX10_step_6 : decode cX10_step 6 = .ok (.getfield 27, 3) := by decide +kernel
theorem dX10_step_9 : decode cX10_step 9 = .ok (.getfield 92, 3) := by decide +kernel
theorem dX10_step_12 : decode cX10_step 12 = .ok (.if_icmp .ge 18, 3) := by decide +kernel
theorem dX10_step_15 : decode cX10_step 15 = .ok (.iload_n 2, 1) := by decide +kernel
theorem dX10_step_16 : decode cX10_step 16 = .ok (.ifCond .lt 14, 3) := by decide +kernel
theorem dX10_step_19 : decode cX10_step 19 = .ok (.iload_n 2, 1) := by decide +kernel
theorem dX10_step_20 : decode cX10_step 20 = .ok (.aload_n 0, 1) := by decide +kernel
theorem dX10_step_21 : decode cX10_step 21 = .ok (.getfield 27, 3) := by decide +kernel
theorem dX10_step_24 : decode cX10_step 24 = .ok (.getfield 150, 3) := by decide +kernel
theorem dX10_step_27 : decode cX10_step 27 = .ok (.if_icmp .le 5, 3) := by decide +kernel
theorem dX10_step_30 : decode cX10_step 30 = .ok (.iconst (-1), 1) := by decide +kernel
theorem dX10_step_31 : decode cX10_step 31 = .ok (.ireturn, 1) := by decide +kernel
theorem dX10_step_32 : decode cX10_step 32 = .ok (.aload_n 0, 1) := by decide +kernel
theorem dX10_step_33 : decode cX10_step 33 = .ok (.iload_n 1, 1) := by decide +kernel
theorem dX10_step_34 : decode cX10_step 34 = .ok (.iload_n 2, 1) := by decide +kernel
theorem dX10_step_35 : decode cX10_step 35 = .ok (.invokevirtual 153, 3) := by decide +kernel
theorem dX10_step_38 : decode cX10_step 38 = .ok (.aload_n 0, 1) := by decide +kernel
theorem dX10_step_39 : decode cX10_step 39 = .ok (.getfield 31, 3) := by decide +kernel
theorem dX10_step_42 : decode cX10_step 42 = .ok (.getfield 156, 3) := by decide +kernel
theorem dX10_step_45 : decode cX10_step 45 = .ok (.ifCond .eq 5, 3) := by decide +kernel
theorem dX10_step_48 : decode cX10_step 48 = .ok (.iconst 1, 1) := by decide +kernel
theorem dX10_step_49 : decode cX10_step 49 = .ok (.ireturn, 1) := by decide +kernel
theorem dX10_step_50 : decode cX10_step 50 = .ok (.aload_n 0, 1) := by decide +kernel
theorem dX10_step_51 : decode cX10_step 51 = .ok (.getfield 31, 3) := by decide +kernel
theorem dX10_step_54 : decode cX10_step 54 = .ok (.getfield 159, 3) := by decide +kernel
theorem dX10_step_57 : decode cX10_step 57 = .ok (.ifCond .eq 5, 3) := by decide +kernel
theorem dX10_step_60 : decode cX10_step 60 = .ok (.iconst 2, 1) := by decide +kernel
theorem dX10_step_61 : decode cX10_step 61 = .ok (.ireturn, 1) := by decide +kernel
theorem dX10_step_62 : decode cX10_step 62 = .ok (.aload_n 0, 1) := by decide +kernel
theorem dX10_step_63 : decode cX10_step 63 = .ok (.getfield 31, 3) := by decide +kernel
theorem dX10_step_66 : decode cX10_step 66 = .ok (.getfield 162, 3) := by decide +kernel
theorem dX10_step_69 : decode cX10_step 69 = .ok (.ifCond .ne 7, 3) := by decide +kernel
theorem dX10_step_72 : decode cX10_step 72 = .ok (.iconst 0, 1) := by decide +kernel
theorem dX10_step_73 : decode cX10_step 73 = .ok (.goto 12, 3) := by decide +kernel
theorem dX10_step_76 : decode cX10_step 76 = .ok (.aload_n 0, 1) := by decide +kernel
theorem dX10_step_77 : decode cX10_step 77 = .ok (.getfield 31, 3) := by decide +kernel
theorem dX10_step_80 : decode cX10_step 80 = .ok (.getfield 162, 3) := by decide +kernel
theorem dX10_step_83 : decode cX10_step 83 = .ok (.iconst 2, 1) := by decide +kernel
theorem dX10_step_84 : decode cX10_step 84 = .ok (.iadd, 1) := by decide +kernel
theorem dX10_step_85 : decode cX10_step 85 = .ok (.ireturn, 1) := by decide +kernel
theorem dX10_steps_0 : decode cX10_steps 0 = .ok (.iload_n 1, 1) := by decide +kernel
theorem dX10_steps_1 : decode cX10_steps 1 = .ok (.ifCond .lt 14, 3) := by decide +kernel
theorem dX10_steps_4 : decode cX10_steps 4 = .ok (.iload_n 1, 1) := by decide +kernel
theorem dX10_steps_5 : decode cX10_steps 5 = .ok (.iconst 3, 1) := by decide +kernel
theorem dX10_steps_6 : decode cX10_steps 6 = .ok (.if_icmp .gt 9, 3) := by decide +kernel
theorem dX10_steps_9 : decode cX10_steps 9 = .ok (.iload_n 2, 1) := by decide +kernel
theorem dX10_steps_10 : decode cX10_steps 10 = .ok (.bipush 20, 2) := by decide +kernel
theorem dX10_steps_12 : decode cX10_steps 12 = .ok (.if_icmp .le 5, 3) := by decide +kernel
theorem dX10_steps_15 : decode cX10_steps 15 = .ok (.iconst (-1), 1) := by decide +kernel
theorem dX10_steps_16 : decode cX10_steps 16 = .ok (.ireturn, 1) := by decide +kernel
theorem dX10_steps_17 : decode cX10_steps 17 = .ok (.iload_n 1, 1) := by decide +kernel
theorem dX10_steps_18 : decode cX10_steps 18 = .ok (.iconst 3, 1) := by decide +kernel
theorem dX10_steps_19 : decode cX10_steps 19 = .ok (.if_icmp .ne 6, 3) := by decide +kernel
theorem dX10_steps_22 : decode cX10_steps 22 = .ok (.bipush (-3), 2) := by decide +kernel
theorem dX10_steps_24 : decode cX10_steps 24 = .ok (.ireturn, 1) := by decide +kernel
theorem dX10_steps_25 : decode cX10_steps 25 = .ok (.iload_n 2, 1) := by decide +kernel
theorem dX10_steps_26 : decode cX10_steps 26 = .ok (.ifCond .ge 6, 3) := by decide +kernel
theorem dX10_steps_29 : decode cX10_steps 29 = .ok (.bipush (-2), 2) := by decide +kernel
theorem dX10_steps_31 : decode cX10_steps 31 = .ok (.ireturn, 1) := by decide +kernel
theorem dX10_steps_32 : decode cX10_steps 32 = .ok (.aload_n 0, 1) := by decide +kernel
theorem dX10_steps_33 : decode cX10_steps 33 = .ok (.getfield 27, 3) := by decide +kernel
theorem dX10_steps_36 : decode cX10_steps 36 = .ok (.getfield 150, 3) := by decide +kernel
theorem dX10_steps_39 : decode cX10_steps 39 = .ok (.iconst 1, 1) := by decide +kernel
theorem dX10_steps_40 : decode cX10_steps 40 = .ok (.iadd, 1) := by decide +kernel
theorem dX10_steps_41 : decode cX10_steps 41 = .ok (.istore 5, 2) := by decide +kernel
theorem dX10_steps_43 : decode cX10_steps 43 = .ok (.iconst 0, 1) := by decide +kernel
theorem dX10_steps_44 : decode cX10_steps 44 = .ok (.istore 6, 2) := by decide +kernel
theorem dX10_steps_46 : decode cX10_steps 46 = .ok (.iload 6, 2) := by decide +kernel
theorem dX10_steps_48 : decode cX10_steps 48 = .ok (.iload_n 2, 1) := by decide +kernel
theorem dX10_steps_49 : decode cX10_steps 49 = .ok (.if_icmp .ge 59, 3) := by decide +kernel
theorem dX10_steps_52 : decode cX10_steps 52 = .ok (.iload_n 1, 1) := by decide +kernel
theorem dX10_steps_53 : decode cX10_steps 53 = .ok (.iload_n 3, 1) := by decide +kernel
theorem dX10_steps_54 : decode cX10_steps 54 = .ok (.iload 6, 2) := by decide +kernel
theorem dX10_steps_56 : decode cX10_steps 56 = .ok (.iload 4, 2) := by decide +kernel
theorem dX10_steps_58 : decode cX10_steps 58 = .ok (.imul, 1) := by decide +kernel
theorem dX10_steps_59 : decode cX10_steps 59 = .ok (.iadd, 1) := by decide +kernel
theorem dX10_steps_60 : decode cX10_steps 60 = .ok (.invokestatic 165, 3) := by decide +kernel
theorem dX10_steps_63 : decode cX10_steps 63 = .ok (.istore 7, 2) := by decide +kernel
theorem dX10_steps_65 : decode cX10_steps 65 = .ok (.iload 7, 2) := by decide +kernel
theorem dX10_steps_67 : decode cX10_steps 67 = .ok (.ifCond .lt 18, 3) := by decide +kernel
theorem dX10_steps_70 : decode cX10_steps 70 = .ok (.iload 7, 2) := by decide +kernel
theorem dX10_steps_72 : decode cX10_steps 72 = .ok (.aload_n 0, 1) := by decide +kernel
theorem dX10_steps_73 : decode cX10_steps 73 = .ok (.getfield 27, 3) := by decide +kernel
theorem dX10_steps_76 : decode cX10_steps 76 = .ok (.getfield 92, 3) := by decide +kernel
theorem dX10_steps_79 : decode cX10_steps 79 = .ok (.iload 5, 2) := by decide +kernel
theorem dX10_steps_81 : decode cX10_steps 81 = .ok (.imul, 1) := by decide +kernel
theorem dX10_steps_82 : decode cX10_steps 82 = .ok (.if_icmp .lt 6, 3) := by decide +kernel
theorem dX10_steps_85 : decode cX10_steps 85 = .ok (.iload 6, 2) := by decide +kernel
theorem dX10_steps_87 : decode cX10_steps 87 = .ok (.ireturn, 1) := by decide +kernel
theorem dX10_steps_88 : decode cX10_steps 88 = .ok (.aload_n 0, 1) := by decide +kernel
theorem dX10_steps_89 : decode cX10_steps 89 = .ok (.iload 7, 2) := by decide +kernel
theorem dX10_steps_91 : decode cX10_steps 91 = .ok (.iload 5, 2) := by decide +kernel
theorem dX10_steps_93 : decode cX10_steps 93 = .ok (.idiv, 1) := by decide +kernel
theorem dX10_steps_94 : decode cX10_steps 94 = .ok (.iload 7, 2) := by decide +kernel
theorem dX10_steps_96 : decode cX10_steps 96 = .ok (.iload 5, 2) := by decide +kernel
theorem dX10_steps_98 : decode cX10_steps 98 = .ok (.irem, 1) := by decide +kernel
theorem dX10_steps_99 : decode cX10_steps 99 = .ok (.invokevirtual 153, 3) := by decide +kernel
theorem dX10_steps_102 : decode cX10_steps 102 = .ok (.iinc 6 1, 3) := by decide +kernel
theorem dX10_steps_105 : decode cX10_steps 105 = .ok (.goto (-59), 3) := by decide +kernel
theorem dX10_steps_108 : decode cX10_steps 108 = .ok (.iload_n 2, 1) := by decide +kernel
theorem dX10_steps_109 : decode cX10_steps 109 = .ok (.ireturn, 1) := by decide +kernel
theorem dX10_at_0 : decode cX10_at 0 = .ok (.iload_n 1, 1) := by decide +kernel
theorem dX10_at_1 : decode cX10_at 1 = .ok (.ifCond .lt 9, 3) := by decide +kernel
theorem dX10_at_4 : decode cX10_at 4 = .ok (.iload_n 1, 1) := by decide +kernel
theorem dX10_at_5 : decode cX10_at 5 = .ok (.bipush 23, 2) := by decide +kernel
theorem dX10_at_7 : decode cX10_at 7 = .ok (.if_icmp .le 11, 3) := by decide +kernel
theorem dX10_at_10 : decode cX10_at 10 = .ok (.new 168, 3) := by decide +kernel
theorem dX10_at_13 : decode cX10_at 13 = .ok (.dup, 1) := by decide +kernel
theorem dX10_at_14 : decode cX10_at 14 = .ok (.invokespecial 170, 3) := by decide +kernel
theorem dX10_at_17 : decode cX10_at 17 = .ok (.athrow, 1) := by decide +kernel
theorem dX10_at_18 : decode cX10_at 18 = .ok (.iload_n 1, 1) := by decide +kernel
theorem dX10_at_19 : decode cX10_at 19 = .ok (.bipush 8, 2) := by decide +kernel
theorem dX10_at_21 : decode cX10_at 21 = .ok (.if_icmp .ge 12, 3) := by decide +kernel
theorem dX10_at_24 : decode cX10_at 24 = .ok (.aload_n 0, 1) := by decide +kernel
theorem dX10_at_25 : decode cX10_at 25 = .ok (.getfield 31, 3) := by decide +kernel
theorem dX10_at_28 : decode cX10_at 28 = .ok (.iload_n 1, 1) := by decide +kernel
theorem dX10_at_29 : decode cX10_at 29 = .ok (.invokevirtual 141, 3) := by decide +kernel
theorem dX10_at_32 : decode cX10_at 32 = .ok (.ireturn, 1) := by decide +kernel
theorem dX10_at_33 : decode cX10_at 33 = .ok (.iload_n 1, 1) := by decide +kernel
theorem dX10_at_34 : decode cX10_at 34 = .ok (.bipush 12, 2) := by decide +kernel
theorem dX10_at_36 : decode cX10_at 36 = .ok (.if_icmp .ge 15, 3) := by decide +kernel
theorem dX10_at_39 : decode cX10_at 39 = .ok (.aload_n 0, 1) := by decide +kernel
theorem dX10_at_40 : decode cX10_at 40 = .ok (.getfield 31, 3) := by decide +kernel
theorem dX10_at_43 : decode cX10_at 43 = .ok (.iload_n 1, 1) := by decide +kernel
theorem dX10_at_44 : decode cX10_at 44 = .ok (.bipush 8, 2) := by decide +kernel
theorem dX10_at_46 : decode cX10_at 46 = .ok (.isub, 1) := by decide +kernel
theorem dX10_at_47 : decode cX10_at 47 = .ok (.invokevirtual 171, 3) := by decide +kernel
theorem dX10_at_50 : decode cX10_at 50 = .ok (.ireturn, 1) := by decide +kernel
theorem dX10_at_51 : decode cX10_at 51 = .ok (.iload_n 1, 1) := by decide +kernel
theorem dX10_at_52 : decode cX10_at 52 = .ok (.bipush 16, 2) := by decide +kernel
theorem dX10_at_54 : decode cX10_at 54 = .ok (.if_icmp .ge 15, 3) := by decide +kernel
theorem dX10_at_57 : decode cX10_at 57 = .ok (.aload_n 0, 1) := by decide +kernel
theorem dX10_at_58 : decode cX10_at 58 = .ok (.getfield 31, 3) := by decide +kernel
theorem dX10_at_61 : decode cX10_at 61 = .ok (.iload_n 1, 1) := by decide +kernel
theorem dX10_at_62 : decode cX10_at 62 = .ok (.bipush 12, 2) := by decide +kernel
theorem dX10_at_64 : decode cX10_at 64 = .ok (.isub, 1) := by decide +kernel
theorem dX10_at_65 : decode cX10_at 65 = .ok (.invokevirtual 174, 3) := by decide +kernel
theorem dX10_at_68 : decode cX10_at 68 = .ok (.ireturn, 1) := by decide +kernel
theorem dX10_at_69 : decode cX10_at 69 = .ok (.iload_n 1, 1) := by decide +kernel
theorem dX10_at_70 : decode cX10_at 70 = .ok (.bipush 20, 2) := by decide +kernel
theorem dX10_at_72 : decode cX10_at 72 = .ok (.if_icmp .ge 15, 3) := by decide +kernel
theorem dX10_at_75 : decode cX10_at 75 = .ok (.aload_n 0, 1) := by decide +kernel
theorem dX10_at_76 : decode cX10_at 76 = .ok (.getfield 31, 3) := by decide +kernel
theorem dX10_at_79 : decode cX10_at 79 = .ok (.iload_n 1, 1) := by decide +kernel
theorem dX10_at_80 : decode cX10_at 80 = .ok (.bipush 16, 2) := by decide +kernel
theorem dX10_at_82 : decode cX10_at 82 = .ok (.isub, 1) := by decide +kernel
theorem dX10_at_83 : decode cX10_at 83 = .ok (.invokevirtual 177, 3) := by decide +kernel
theorem dX10_at_86 : decode cX10_at 86 = .ok (.ireturn, 1) := by decide +kernel
theorem dX10_at_87 : decode cX10_at 87 = .ok (.iload_n 1, 1) := by decide +kernel
theorem dX10_at_88 : decode cX10_at 88 = .ok (.bipush 20, 2) := by decide +kernel
theorem dX10_at_90 : decode cX10_at 90 = .ok (.isub, 1) := by decide +kernel
theorem dX10_at_91 : decode cX10_at 91 = .ok (.aload_n 0, 1) := by decide +kernel
theorem dX10_at_92 : decode cX10_at 92 = .ok (.getfield 27, 3) := by decide +kernel
theorem dX10_at_95 : decode cX10_at 95 = .ok (.getfield 92, 3) := by decide +kernel
theorem dX10_at_98 : decode cX10_at 98 = .ok (.if_icmp .ge 17, 3) := by decide +kernel
theorem dX10_at_101 : decode cX10_at 101 = .ok (.aload_n 0, 1) := by decide +kernel
theorem dX10_at_102 : decode cX10_at 102 = .ok (.getfield 31, 3) := by decide +kernel
theorem dX10_at_105 : decode cX10_at 105 = .ok (.iload_n 1, 1) := by decide +kernel
theorem dX10_at_106 : decode cX10_at 106 = .ok (.bipush 20, 2) := by decide +kernel
theorem dX10_at_108 : decode cX10_at 108 = .ok (.isub, 1) := by decide +kernel
theorem dX10_at_109 : decode cX10_at 109 = .ok (.invokevirtual 180, 3) := by decide +kernel
theorem dX10_at_112 : decode cX10_at 112 = .ok (.goto 4, 3) := by decide +kernel
theorem dX10_at_115 : decode cX10_at 115 = .ok (.iconst (-1), 1) := by decide +kernel
theorem dX10_at_116 : decode cX10_at 116 = .ok (.ireturn, 1) := by decide +kernel
theorem dX10_ask_0 : decode cX10_ask 0 = .ok (.aload_n 0, 1) := by decide +kernel
theorem dX10_ask_1 : decode cX10_ask 1 = .ok (.getfield 10, 3) := by decide +kernel
theorem dX10_ask_4 : decode cX10_ask 4 = .ok (.aload_n 0, 1) := by decide +kernel
theorem dX10_ask_5 : decode cX10_ask 5 = .ok (.invokevirtual 88, 3) := by decide +kernel
theorem dX10_ask_8 : decode cX10_ask 8 = .ok (.invokevirtual 128, 3) := by decide +kernel
theorem dX10_ask_11 : decode cX10_ask 11 = .ok (.istore_n 1, 1) := by decide +kernel
theorem dX10_ask_12 : decode cX10_ask 12 = .ok (.iload_n 1, 1) := by decide +kernel
theorem dX10_ask_13 : decode cX10_ask 13 = .ok (.ifCond .lt 7, 3) := by decide +kernel
theorem dX10_ask_16 : decode cX10_ask 16 = .ok (.iconst (-1), 1) := by decide +kernel
theorem dX10_ask_17 : decode cX10_ask 17 = .ok (.iload_n 1, 1) := by decide +kernel
theorem dX10_ask_18 : decode cX10_ask 18 = .ok (.isub, 1) := by decide +kernel
theorem dX10_ask_19 : decode cX10_ask 19 = .ok (.ireturn, 1) := by decide +kernel
theorem dX10_ask_20 : decode cX10_ask 20 = .ok (.aload_n 0, 1) := by decide +kernel
theorem dX10_ask_21 : decode cX10_ask 21 = .ok (.getfield 45, 3) := by decide +kernel
theorem dX10_ask_24 : decode cX10_ask 24 = .ok (.aload_n 0, 1) := by decide +kernel
theorem dX10_ask_25 : decode cX10_ask 25 = .ok (.getfield 27, 3) := by decide +kernel
theorem dX10_ask_28 : decode cX10_ask 28 = .ok (.aload_n 0, 1) := by decide +kernel
theorem dX10_ask_29 : decode cX10_ask 29 = .ok (.getfield 10, 3) := by decide +kernel
theorem dX10_ask_32 : decode cX10_ask 32 = .ok (.getfield 183, 3) := by decide +kernel
theorem dX10_ask_35 : decode cX10_ask 35 = .ok (.iconst 0, 1) := by decide +kernel
theorem dX10_ask_36 : decode cX10_ask 36 = .ok (.aload_n 0, 1) := by decide +kernel
theorem dX10_ask_37 : decode cX10_ask 37 = .ok (.getfield 31, 3) := by decide +kernel
theorem dX10_ask_40 : decode cX10_ask 40 = .ok (.invokevirtual 186, 3) := by decide +kernel
theorem dX10_ask_43 : decode cX10_ask 43 = .ok (.i2l, 1) := by decide +kernel
theorem dX10_ask_44 : decode cX10_ask 44 = .ok (.invokevirtual 190, 3) := by decide +kernel
theorem dX10_ask_47 : decode cX10_ask 47 = .ok (.iconst 0, 1) := by decide +kernel
theorem dX10_ask_48 : decode cX10_ask 48 = .ok (.ireturn, 1) := by decide +kernel
theorem dX10_all_0 : decode cX10_all 0 = .ok (.aload_n 0, 1) := by decide +kernel
theorem dX10_all_1 : decode cX10_all 1 = .ok (.iload_n 1, 1) := by decide +kernel
theorem dX10_all_2 : decode cX10_all 2 = .ok (.invokevirtual 194, 3) := by decide +kernel
theorem dX10_all_5 : decode cX10_all 5 = .ok (.ifCond .eq 5, 3) := by decide +kernel
theorem dX10_all_8 : decode cX10_all 8 = .ok (.iconst (-1), 1) := by decide +kernel
theorem dX10_all_9 : decode cX10_all 9 = .ok (.ireturn, 1) := by decide +kernel
theorem dX10_all_10 : decode cX10_all 10 = .ok (.aload_n 0, 1) := by decide +kernel
theorem dX10_all_11 : decode cX10_all 11 = .ok (.iload_n 1, 1) := by decide +kernel
theorem dX10_all_12 : decode cX10_all 12 = .ok (.invokevirtual 198, 3) := by decide +kernel
theorem dX10_all_15 : decode cX10_all 15 = .ok (.ifCond .eq 13, 3) := by decide +kernel
theorem dX10_all_18 : decode cX10_all 18 = .ok (.aload_n 0, 1) := by decide +kernel
theorem dX10_all_19 : decode cX10_all 19 = .ok (.getfield 19, 3) := by decide +kernel
theorem dX10_all_22 : decode cX10_all 22 = .ok (.getfield 201, 3) := by decide +kernel
theorem dX10_all_25 : decode cX10_all 25 = .ok (.goto 5, 3) := by decide +kernel
theorem dX10_all_28 : decode cX10_all 28 = .ok (.bipush (-3), 2) := by decide +kernel
theorem dX10_all_30 : decode cX10_all 30 = .ok (.ireturn, 1) := by decide +kernel
theorem dX10_never_0 : decode cX10_never 0 = .ok (.aload_n 0, 1) := by decide +kernel
theorem dX10_never_1 : decode cX10_never 1 = .ok (.iload_n 1, 1) := by decide +kernel
theorem dX10_never_2 : decode cX10_never 2 = .ok (.invokevirtual 194, 3) := by decide +kernel
theorem dX10_never_5 : decode cX10_never 5 = .ok (.ifCond .eq 5, 3) := by decide +kernel
theorem dX10_never_8 : decode cX10_never 8 = .ok (.iconst (-1), 1) := by decide +kernel
theorem dX10_never_9 : decode cX10_never 9 = .ok (.ireturn, 1) := by decide +kernel
theorem dX10_never_10 : decode cX10_never 10 = .ok (.aload_n 0, 1) := by decide +kernel
theorem dX10_never_11 : decode cX10_never 11 = .ok (.iload_n 1, 1) := by decide +kernel
theorem dX10_never_12 : decode cX10_never 12 = .ok (.invokevirtual 198, 3) := by decide +kernel
theorem dX10_never_15 : decode cX10_never 15 = .ok (.ifCond .ne 6, 3) := by decide +kernel
theorem dX10_never_18 : decode cX10_never 18 = .ok (.bipush (-3), 2) := by decide +kernel
theorem dX10_never_20 : decode cX10_never 20 = .ok (.ireturn, 1) := by decide +kernel
theorem dX10_never_21 : decode cX10_never 21 = .ok (.aload_n 0, 1) := by decide +kernel
theorem dX10_never_22 : decode cX10_never 22 = .ok (.aload_n 0, 1) := by decide +kernel
theorem dX10_never_23 : decode cX10_never 23 = .ok (.getfield 19, 3) := by decide +kernel
theorem dX10_never_26 : decode cX10_never 26 = .ok (.getfield 204, 3) := by decide +kernel
theorem dX10_never_29 : decode cX10_never 29 = .ok (.invokevirtual 207, 3) := by decide +kernel
theorem dX10_never_32 : decode cX10_never 32 = .ok (.ireturn, 1) := by decide +kernel
theorem dX10_reach_0 : decode cX10_reach 0 = .ok (.aload_n 0, 1) := by decide +kernel
theorem dX10_reach_1 : decode cX10_reach 1 = .ok (.getfield 10, 3) := by decide +kernel
theorem dX10_reach_4 : decode cX10_reach 4 = .ok (.aload_n 0, 1) := by decide +kernel
theorem dX10_reach_5 : decode cX10_reach 5 = .ok (.invokevirtual 88, 3) := by decide +kernel
theorem dX10_reach_8 : decode cX10_reach 8 = .ok (.invokevirtual 128, 3) := by decide +kernel
theorem dX10_reach_11 : decode cX10_reach 11 = .ok (.istore_n 2, 1) := by decide +kernel
theorem dX10_reach_12 : decode cX10_reach 12 = .ok (.aload_n 0, 1) := by decide +kernel
theorem dX10_reach_13 : decode cX10_reach 13 = .ok (.iload_n 1, 1) := by decide +kernel
theorem dX10_reach_14 : decode cX10_reach 14 = .ok (.invokevirtual 194, 3) := by decide +kernel
theorem dX10_reach_17 : decode cX10_reach 17 = .ok (.ifCond .eq 5, 3) := by decide +kernel
theorem dX10_reach_20 : decode cX10_reach 20 = .ok (.iconst (-1), 1) := by decide +kernel
theorem dX10_reach_21 : decode cX10_reach 21 = .ok (.ireturn, 1) := by decide +kernel
theorem dX10_reach_22 : decode cX10_reach 22 = .ok (.iload_n 2, 1) := by decide +kernel
theorem dX10_reach_23 : decode cX10_reach 23 = .ok (.ifCond .lt 8, 3) := by decide +kernel
theorem dX10_reach_26 : decode cX10_reach 26 = .ok (.bipush (-100), 2) := by decide +kernel
theorem dX10_reach_28 : decode cX10_reach 28 = .ok (.iload_n 2, 1) := by decide +kernel
theorem dX10_reach_29 : decode cX10_reach 29 = .ok (.isub, 1) := by decide +kernel
theorem dX10_reach_30 : decode cX10_reach 30 = .ok (.ireturn, 1) := by decide +kernel
theorem dX10_reach_31 : decode cX10_reach 31 = .ok (.aload_n 0, 1) := by decide +kernel
theorem dX10_reach_32 : decode cX10_reach 32 = .ok (.getfield 27, 3) := by decide +kernel
theorem dX10_reach_35 : decode cX10_reach 35 = .ok (.aload_n 0, 1) := by decide +kernel
theorem dX10_reach_36 : decode cX10_reach 36 = .ok (.getfield 10, 3) := by decide +kernel
theorem dX10_reach_39 : decode cX10_reach 39 = .ok (.aload_n 0, 1) := by decide +kernel
theorem dX10_reach_40 : decode cX10_reach 40 = .ok (.getfield 27, 3) := by decide +kernel
theorem dX10_reach_43 : decode cX10_reach 43 = .ok (.getfield 210, 3) := by decide +kernel
theorem dX10_reach_46 : decode cX10_reach 46 = .ok (.invokevirtual 105, 3) := by decide +kernel
theorem dX10_reach_49 : decode cX10_reach 49 = .ok (.putfield 210, 3) := by decide +kernel
theorem dX10_reach_52 : decode cX10_reach 52 = .ok (.aload_n 0, 1) := by decide +kernel
theorem dX10_reach_53 : decode cX10_reach 53 = .ok (.getfield 19, 3) := by decide +kernel
theorem dX10_reach_56 : decode cX10_reach 56 = .ok (.aload_n 0, 1) := by decide +kernel
theorem dX10_reach_57 : decode cX10_reach 57 = .ok (.getfield 31, 3) := by decide +kernel
theorem dX10_reach_60 : decode cX10_reach 60 = .ok (.iload_n 1, 1) := by decide +kernel
theorem dX10_reach_61 : decode cX10_reach 61 = .ok (.sipush 4000, 3) := by decide +kernel
theorem dX10_reach_64 : decode cX10_reach 64 = .ok (.iconst 1, 1) := by decide +kernel
theorem dX10_reach_65 : decode cX10_reach 65 = .ok (.iconst 0, 1) := by decide +kernel
theorem dX10_reach_66 : decode cX10_reach 66 = .ok (.invokevirtual 213, 3) := by decide +kernel
theorem dX10_reach_69 : decode cX10_reach 69 = .ok (.ifCond .ne 6, 3) := by decide +kernel
theorem dX10_reach_72 : decode cX10_reach 72 = .ok (.bipush (-3), 2) := by decide +kernel
theorem dX10_reach_74 : decode cX10_reach 74 = .ok (.ireturn, 1) := by decide +kernel
theorem dX10_reach_75 : decode cX10_reach 75 = .ok (.aload_n 0, 1) := by decide +kernel
theorem dX10_reach_76 : decode cX10_reach 76 = .ok (.getfield 27, 3) := by decide +kernel
theorem dX10_reach_79 : decode cX10_reach 79 = .ok (.aload_n 0, 1) := by decide +kernel
theorem dX10_reach_80 : decode cX10_reach 80 = .ok (.getfield 27, 3) := by decide +kernel
theorem dX10_reach_83 : decode cX10_reach 83 = .ok (.getfield 210, 3) := by decide +kernel
theorem dX10_reach_86 : decode cX10_reach 86 = .ok (.iconst 0, 1) := by decide +kernel
theorem dX10_reach_87 : decode cX10_reach 87 = .ok (.aload_n 0, 1) := by decide +kernel
theorem dX10_reach_88 : decode cX10_reach 88 = .ok (.getfield 31, 3) := by decide +kernel
theorem dX10_reach_91 : decode cX10_reach 91 = .ok (.invokevirtual 186, 3) := by decide +kernel
theorem dX10_reach_94 : decode cX10_reach 94 = .ok (.ifCond .eq 12, 3) := by decide +kernel
theorem dX10_reach_97 : decode cX10_reach 97 = .ok (.aload_n 0, 1) := by decide +kernel
theorem dX10_reach_98 : decode cX10_reach 98 = .ok (.getfield 45, 3) := by decide +kernel
theorem dX10_reach_101 : decode cX10_reach 101 = .ok (.invokevirtual 217, 3) := by decide +kernel
theorem dX10_reach_104 : decode cX10_reach 104 = .ok (.iconst 0, 1) := by decide +kernel
theorem dX10_reach_105 : decode cX10_reach 105 = .ok (.ireturn, 1) := by decide +kernel
theorem dX10_reach_106 : decode cX10_reach 106 = .ok (.aload_n 0, 1) := by decide +kernel
theorem dX10_reach_107 : decode cX10_reach 107 = .ok (.aload_n 0, 1) := by decide +kernel
theorem dX10_reach_108 : decode cX10_reach 108 = .ok (.getfield 19, 3) := by decide +kernel
theorem dX10_reach_111 : decode cX10_reach 111 = .ok (.getfield 218, 3) := by decide +kernel
theorem dX10_reach_114 : decode cX10_reach 114 = .ok (.invokevirtual 207, 3) := by decide +kernel
theorem dX10_reach_117 : decode cX10_reach 117 = .ok (.ireturn, 1) := by decide +kernel
theorem dX10_stuck_0 : decode cX10_stuck 0 = .ok (.aload_n 0, 1) := by decide +kernel
theorem dX10_stuck_1 : decode cX10_stuck 1 = .ok (.iload_n 1, 1) := by decide +kernel
theorem dX10_stuck_2 : decode cX10_stuck 2 = .ok (.invokevirtual 194, 3) := by decide +kernel
theorem dX10_stuck_5 : decode cX10_stuck 5 = .ok (.ifCond .eq 5, 3) := by decide +kernel
theorem dX10_stuck_8 : decode cX10_stuck 8 = .ok (.iconst (-1), 1) := by decide +kernel
theorem dX10_stuck_9 : decode cX10_stuck 9 = .ok (.ireturn, 1) := by decide +kernel
theorem dX10_stuck_10 : decode cX10_stuck 10 = .ok (.aload_n 0, 1) := by decide +kernel
theorem dX10_stuck_11 : decode cX10_stuck 11 = .ok (.iload_n 1, 1) := by decide +kernel
theorem dX10_stuck_12 : decode cX10_stuck 12 = .ok (.invokevirtual 198, 3) := by decide +kernel
theorem dX10_stuck_15 : decode cX10_stuck 15 = .ok (.ifCond .ne 6, 3) := by decide +kernel
theorem dX10_stuck_18 : decode cX10_stuck 18 = .ok (.bipush (-3), 2) := by decide +kernel
theorem dX10_stuck_20 : decode cX10_stuck 20 = .ok (.ireturn, 1) := by decide +kernel
theorem dX10_stuck_21 : decode cX10_stuck 21 = .ok (.aload_n 0, 1) := by decide +kernel
theorem dX10_stuck_22 : decode cX10_stuck 22 = .ok (.getfield 19, 3) := by decide +kernel
theorem dX10_stuck_25 : decode cX10_stuck 25 = .ok (.getfield 221, 3) := by decide +kernel
theorem dX10_stuck_28 : decode cX10_stuck 28 = .ok (.ifCond .ge 6, 3) := by decide +kernel
theorem dX10_stuck_31 : decode cX10_stuck 31 = .ok (.bipush (-2), 2) := by decide +kernel
theorem dX10_stuck_33 : decode cX10_stuck 33 = .ok (.ireturn, 1) := by decide +kernel
theorem dX10_stuck_34 : decode cX10_stuck 34 = .ok (.aload_n 0, 1) := by decide +kernel
theorem dX10_stuck_35 : decode cX10_stuck 35 = .ok (.getfield 19, 3) := by decide +kernel
theorem dX10_stuck_38 : decode cX10_stuck 38 = .ok (.aload_n 0, 1) := by decide +kernel
theorem dX10_stuck_39 : decode cX10_stuck 39 = .ok (.getfield 19, 3) := by decide +kernel
theorem dX10_stuck_42 : decode cX10_stuck 42 = .ok (.getfield 224, 3) := by decide +kernel
theorem dX10_stuck_45 : decode cX10_stuck 45 = .ok (.aload_n 0, 1) := by decide +kernel
theorem dX10_stuck_46 : decode cX10_stuck 46 = .ok (.getfield 19, 3) := by decide +kernel
theorem dX10_stuck_49 : decode cX10_stuck 49 = .ok (.getfield 221, 3) := by decide +kernel
theorem dX10_stuck_52 : decode cX10_stuck 52 = .ok (.iaload, 1) := by decide +kernel
theorem dX10_stuck_53 : decode cX10_stuck 53 = .ok (.aload_n 0, 1) := by decide +kernel
theorem dX10_stuck_54 : decode cX10_stuck 54 = .ok (.getfield 45, 3) := by decide +kernel
theorem dX10_stuck_57 : decode cX10_stuck 57 = .ok (.invokevirtual 227, 3) := by decide +kernel
theorem dX10_stuck_60 : decode cX10_stuck 60 = .ok (.aload_n 0, 1) := by decide +kernel
theorem dX10_stuck_61 : decode cX10_stuck 61 = .ok (.getfield 45, 3) := by decide +kernel
theorem dX10_stuck_64 : decode cX10_stuck 64 = .ok (.getfield 231, 3) := by decide +kernel
theorem dX10_stuck_67 : decode cX10_stuck 67 = .ok (.ireturn, 1) := by decide +kernel
theorem dX10_runs_0 : decode cX10_runs 0 = .ok (.aload_n 0, 1) := by decide +kernel
theorem dX10_runs_1 : decode cX10_runs 1 = .ok (.iload_n 1, 1) := by decide +kernel
theorem dX10_runs_2 : decode cX10_runs 2 = .ok (.invokevirtual 194, 3) := by decide +kernel
theorem dX10_runs_5 : decode cX10_runs 5 = .ok (.ifCond .eq 5, 3) := by decide +kernel
theorem dX10_runs_8 : decode cX10_runs 8 = .ok (.iconst (-1), 1) := by decide +kernel
theorem dX10_runs_9 : decode cX10_runs 9 = .ok (.ireturn, 1) := by decide +kernel
theorem dX10_runs_10 : decode cX10_runs 10 = .ok (.aload_n 0, 1) := by decide +kernel
theorem dX10_runs_11 : decode cX10_runs 11 = .ok (.getfield 27, 3) := by decide +kernel
theorem dX10_runs_14 : decode cX10_runs 14 = .ok (.getfield 92, 3) := by decide +kernel
theorem dX10_runs_17 : decode cX10_runs 17 = .ok (.aload_n 0, 1) := by decide +kernel
theorem dX10_runs_18 : decode cX10_runs 18 = .ok (.getfield 27, 3) := by decide +kernel
theorem dX10_runs_21 : decode cX10_runs 21 = .ok (.getfield 150, 3) := by decide +kernel
theorem dX10_runs_24 : decode cX10_runs 24 = .ok (.iconst 1, 1) := by decide +kernel
theorem dX10_runs_25 : decode cX10_runs 25 = .ok (.iadd, 1) := by decide +kernel
theorem dX10_runs_26 : decode cX10_runs 26 = .ok (.imul, 1) := by decide +kernel
theorem dX10_runs_27 : decode cX10_runs 27 = .ok (.iload_n 1, 1) := by decide +kernel
theorem dX10_runs_28 : decode cX10_runs 28 = .ok (.invokestatic 234, 3) := by decide +kernel
theorem dX10_runs_31 : decode cX10_runs 31 = .ok (.lstore_n 2, 1) := by decide +kernel
theorem dX10_runs_32 : decode cX10_runs 32 = .ok (.lload_n 2, 1) := by decide +kernel
theorem dX10_runs_33 : decode cX10_runs 33 = .ok (.ldc2_w 238, 3) := by decide +kernel
theorem dX10_runs_36 : decode cX10_runs 36 = .ok (.lcmp, 1) := by decide +kernel
theorem dX10_runs_37 : decode cX10_runs 37 = .ok (.ifCond .le 5, 3) := by decide +kernel
theorem dX10_runs_40 : decode cX10_runs 40 = .ok (.iconst (-1), 1) := by decide +kernel
theorem dX10_runs_41 : decode cX10_runs 41 = .ok (.ireturn, 1) := by decide +kernel
theorem dX10_runs_42 : decode cX10_runs 42 = .ok (.aload_n 0, 1) := by decide +kernel
theorem dX10_runs_43 : decode cX10_runs 43 = .ok (.iload_n 1, 1) := by decide +kernel
theorem dX10_runs_44 : decode cX10_runs 44 = .ok (.invokevirtual 198, 3) := by decide +kernel
theorem dX10_runs_47 : decode cX10_runs 47 = .ok (.ifCond .ne 6, 3) := by decide +kernel
theorem dX10_runs_50 : decode cX10_runs 50 = .ok (.bipush (-3), 2) := by decide +kernel
theorem dX10_runs_52 : decode cX10_runs 52 = .ok (.ireturn, 1) := by decide +kernel
theorem dX10_runs_53 : decode cX10_runs 53 = .ok (.aload_n 0, 1) := by decide +kernel
theorem dX10_runs_54 : decode cX10_runs 54 = .ok (.getfield 45, 3) := by decide +kernel
theorem dX10_runs_57 : decode cX10_runs 57 = .ok (.lload_n 2, 1) := by decide +kernel
theorem dX10_runs_58 : decode cX10_runs 58 = .ok (.aload_n 0, 1) := by decide +kernel
theorem dX10_runs_59 : decode cX10_runs 59 = .ok (.getfield 19, 3) := by decide +kernel
theorem dX10_runs_62 : decode cX10_runs 62 = .ok (.iconst 1, 1) := by decide +kernel
theorem dX10_runs_63 : decode cX10_runs 63 = .ok (.iload_n 1, 1) := by decide +kernel
theorem dX10_runs_64 : decode cX10_runs 64 = .ok (.getstatic 240, 3) := by decide +kernel
theorem dX10_runs_67 : decode cX10_runs 67 = .ok (.invokevirtual 243, 3) := by decide +kernel
theorem dX10_runs_70 : decode cX10_runs 70 = .ok (.lsub, 1) := by decide +kernel
theorem dX10_runs_71 : decode cX10_runs 71 = .ok (.lload_n 2, 1) := by decide +kernel
theorem dX10_runs_72 : decode cX10_runs 72 = .ok (.invokevirtual 247, 3) := by decide +kernel
theorem dX10_runs_75 : decode cX10_runs 75 = .ok (.iconst 0, 1) := by decide +kernel
theorem dX10_runs_76 : decode cX10_runs 76 = .ok (.ireturn, 1) := by decide +kernel
theorem dX10_weight_0 : decode cX10_weight 0 = .ok (.iload_n 1, 1) := by decide +kernel
theorem dX10_weight_1 : decode cX10_weight 1 = .ok (.ifCond .lt 27, 3) := by decide +kernel
theorem dX10_weight_4 : decode cX10_weight 4 = .ok (.iload_n 1, 1) := by decide +kernel
theorem dX10_weight_5 : decode cX10_weight 5 = .ok (.iconst 1, 1) := by decide +kernel
theorem dX10_weight_6 : decode cX10_weight 6 = .ok (.if_icmp .gt 22, 3) := by decide +kernel
theorem dX10_weight_9 : decode cX10_weight 9 = .ok (.iload_n 2, 1) := by decide +kernel
theorem dX10_weight_10 : decode cX10_weight 10 = .ok (.ifCond .lt 18, 3) := by decide +kernel
theorem dX10_weight_13 : decode cX10_weight 13 = .ok (.iload_n 2, 1) := by decide +kernel
theorem dX10_weight_14 : decode cX10_weight 14 = .ok (.iconst 4, 1) := by decide +kernel
theorem dX10_weight_15 : decode cX10_weight 15 = .ok (.if_icmp .gt 13, 3) := by decide +kernel
theorem dX10_weight_18 : decode cX10_weight 18 = .ok (.iload_n 3, 1) := by decide +kernel
theorem dX10_weight_19 : decode cX10_weight 19 = .ok (.ifCond .lt 9, 3) := by decide +kernel
theorem dX10_weight_22 : decode cX10_weight 22 = .ok (.iload_n 3, 1) := by decide +kernel
theorem dX10_weight_23 : decode cX10_weight 23 = .ok (.bipush 9, 2) := by decide +kernel
theorem dX10_weight_25 : decode cX10_weight 25 = .ok (.if_icmp .le 5, 3) := by decide +kernel
theorem dX10_weight_28 : decode cX10_weight 28 = .ok (.iconst (-1), 1) := by decide +kernel
theorem dX10_weight_29 : decode cX10_weight 29 = .ok (.ireturn, 1) := by decide +kernel
theorem dX10_weight_30 : decode cX10_weight 30 = .ok (.aload_n 0, 1) := by decide +kernel
theorem dX10_weight_31 : decode cX10_weight 31 = .ok (.iload_n 1, 1) := by decide +kernel
theorem dX10_weight_32 : decode cX10_weight 32 = .ok (.invokevirtual 251, 3) := by decide +kernel
theorem dX10_weight_35 : decode cX10_weight 35 = .ok (.astore 4, 2) := by decide +kernel
theorem dX10_weight_37 : decode cX10_weight 37 = .ok (.aload 4, 2) := by decide +kernel
theorem dX10_weight_39 : decode cX10_weight 39 = .ok (.iload_n 2, 1) := by decide +kernel
theorem dX10_weight_40 : decode cX10_weight 40 = .ok (.iaload, 1) := by decide +kernel
theorem dX10_weight_41 : decode cX10_weight 41 = .ok (.istore 5, 2) := by decide +kernel
theorem dX10_weight_43 : decode cX10_weight 43 = .ok (.aload 4, 2) := by decide +kernel
theorem dX10_weight_45 : decode cX10_weight 45 = .ok (.iload_n 2, 1) := by decide +kernel
theorem dX10_weight_46 : decode cX10_weight 46 = .ok (.iload_n 3, 1) := by decide +kernel
theorem dX10_weight_47 : decode cX10_weight 47 = .ok (.iastore, 1) := by decide +kernel
theorem dX10_weight_48 : decode cX10_weight 48 = .ok (.iload 5, 2) := by decide +kernel
theorem dX10_weight_50 : decode cX10_weight 50 = .ok (.ireturn, 1) := by decide +kernel
theorem dX10_odds_0 : decode cX10_odds 0 = .ok (.aload_n 0, 1) := by decide +kernel
theorem dX10_odds_1 : decode cX10_odds 1 = .ok (.iload_n 2, 1) := by decide +kernel
theorem dX10_odds_2 : decode cX10_odds 2 = .ok (.invokevirtual 194, 3) := by decide +kernel
theorem dX10_odds_5 : decode cX10_odds 5 = .ok (.ifCond .ne 12, 3) := by decide +kernel
theorem dX10_odds_8 : decode cX10_odds 8 = .ok (.iload_n 1, 1) := by decide +kernel
theorem dX10_odds_9 : decode cX10_odds 9 = .ok (.ifCond .lt 8, 3) := by decide +kernel
theorem dX10_odds_12 : decode cX10_odds 12 = .ok (.iload_n 1, 1) := by decide +kernel
theorem dX10_odds_13 : decode cX10_odds 13 = .ok (.iconst 1, 1) := by decide +kernel
theorem dX10_odds_14 : decode cX10_odds 14 = .ok (.if_icmp .le 5, 3) := by decide +kernel
theorem dX10_odds_17 : decode cX10_odds 17 = .ok (.iconst (-1), 1) := by decide +kernel
theorem dX10_odds_18 : decode cX10_odds 18 = .ok (.ireturn, 1) := by decide +kernel
theorem dX10_odds_19 : decode cX10_odds 19 = .ok (.aload_n 0, 1) := by decide +kernel
theorem dX10_odds_20 : decode cX10_odds 20 = .ok (.iload_n 1, 1) := by decide +kernel
theorem dX10_odds_21 : decode cX10_odds 21 = .ok (.iload_n 2, 1) := by decide +kernel
theorem dX10_odds_22 : decode cX10_odds 22 = .ok (.invokevirtual 255, 3) := by decide +kernel
theorem dX10_odds_25 : decode cX10_odds 25 = .ok (.lstore_n 3, 1) := by decide +kernel
theorem dX10_odds_26 : decode cX10_odds 26 = .ok (.lload_n 3, 1) := by decide +kernel
theorem dX10_odds_27 : decode cX10_odds 27 = .ok (.ldc2_w 238, 3) := by decide +kernel
theorem dX10_odds_30 : decode cX10_odds 30 = .ok (.lcmp, 1) := by decide +kernel
theorem dX10_odds_31 : decode cX10_odds 31 = .ok (.ifCond .le 5, 3) := by decide +kernel
theorem dX10_odds_34 : decode cX10_odds 34 = .ok (.iconst (-1), 1) := by decide +kernel
theorem dX10_odds_35 : decode cX10_odds 35 = .ok (.ireturn, 1) := by decide +kernel
theorem dX10_odds_36 : decode cX10_odds 36 = .ok (.aload_n 0, 1) := by decide +kernel
theorem dX10_odds_37 : decode cX10_odds 37 = .ok (.iload_n 2, 1) := by decide +kernel
theorem dX10_odds_38 : decode cX10_odds 38 = .ok (.invokevirtual 198, 3) := by decide +kernel
theorem dX10_odds_41 : decode cX10_odds 41 = .ok (.ifCond .ne 6, 3) := by decide +kernel
theorem dX10_odds_44 : decode cX10_odds 44 = .ok (.bipush (-3), 2) := by decide +kernel
theorem dX10_odds_46 : decode cX10_odds 46 = .ok (.ireturn, 1) := by decide +kernel
theorem dX10_odds_47 : decode cX10_odds 47 = .ok (.lload_n 3, 1) := by decide +kernel
theorem dX10_odds_48 : decode cX10_odds 48 = .ok (.lconst 0, 1) := by decide +kernel
theorem dX10_odds_49 : decode cX10_odds 49 = .ok (.lcmp, 1) := by decide +kernel
theorem dX10_odds_50 : decode cX10_odds 50 = .ok (.ifCond .ne 6, 3) := by decide +kernel
theorem dX10_odds_53 : decode cX10_odds 53 = .ok (.bipush (-2), 2) := by decide +kernel
theorem dX10_odds_55 : decode cX10_odds 55 = .ok (.ireturn, 1) := by decide +kernel
theorem dX10_odds_56 : decode cX10_odds 56 = .ok (.lload_n 3, 1) := by decide +kernel
theorem dX10_odds_57 : decode cX10_odds 57 = .ok (.aload_n 0, 1) := by decide +kernel
theorem dX10_odds_58 : decode cX10_odds 58 = .ok (.getfield 19, 3) := by decide +kernel
theorem dX10_odds_61 : decode cX10_odds 61 = .ok (.iconst 1, 1) := by decide +kernel
theorem dX10_odds_62 : decode cX10_odds 62 = .ok (.iload_n 2, 1) := by decide +kernel
theorem dX10_odds_63 : decode cX10_odds 63 = .ok (.aload_n 0, 1) := by decide +kernel
theorem dX10_odds_64 : decode cX10_odds 64 = .ok (.iload_n 1, 1) := by decide +kernel
theorem dX10_odds_65 : decode cX10_odds 65 = .ok (.invokevirtual 251, 3) := by decide +kernel
theorem dX10_odds_68 : decode cX10_odds 68 = .ok (.invokevirtual 243, 3) := by decide +kernel
theorem dX10_odds_71 : decode cX10_odds 71 = .ok (.lsub, 1) := by decide +kernel
theorem dX10_odds_72 : decode cX10_odds 72 = .ok (.lstore 5, 2) := by decide +kernel
theorem dX10_odds_74 : decode cX10_odds 74 = .ok (.lload_n 3, 1) := by decide +kernel
theorem dX10_odds_75 : decode cX10_odds 75 = .ok (.lload 5, 2) := by decide +kernel
theorem dX10_odds_77 : decode cX10_odds 77 = .ok (.invokestatic 258, 3) := by decide +kernel
theorem dX10_odds_80 : decode cX10_odds 80 = .ok (.lstore 7, 2) := by decide +kernel
theorem dX10_odds_82 : decode cX10_odds 82 = .ok (.aload_n 0, 1) := by decide +kernel
theorem dX10_odds_83 : decode cX10_odds 83 = .ok (.getfield 45, 3) := by decide +kernel
theorem dX10_odds_86 : decode cX10_odds 86 = .ok (.lload 5, 2) := by decide +kernel
theorem dX10_odds_88 : decode cX10_odds 88 = .ok (.lload 7, 2) := by decide +kernel
theorem dX10_odds_90 : decode cX10_odds 90 = .ok (.ldiv, 1) := by decide +kernel
theorem dX10_odds_91 : decode cX10_odds 91 = .ok (.lload_n 3, 1) := by decide +kernel
theorem dX10_odds_92 : decode cX10_odds 92 = .ok (.lload 7, 2) := by decide +kernel
theorem dX10_odds_94 : decode cX10_odds 94 = .ok (.ldiv, 1) := by decide +kernel
theorem dX10_odds_95 : decode cX10_odds 95 = .ok (.invokevirtual 247, 3) := by decide +kernel
theorem dX10_odds_98 : decode cX10_odds 98 = .ok (.iconst 0, 1) := by decide +kernel
theorem dX10_odds_99 : decode cX10_odds 99 = .ok (.ireturn, 1) := by decide +kernel
theorem dX10_quick_0 : decode cX10_quick 0 = .ok (.aload_n 0, 1) := by decide +kernel
theorem dX10_quick_1 : decode cX10_quick 1 = .ok (.iload_n 1, 1) := by decide +kernel
theorem dX10_quick_2 : decode cX10_quick 2 = .ok (.invokevirtual 194, 3) := by decide +kernel
theorem dX10_quick_5 : decode cX10_quick 5 = .ok (.ifCond .eq 5, 3) := by decide +kernel
theorem dX10_quick_8 : decode cX10_quick 8 = .ok (.iconst (-1), 1) := by decide +kernel
theorem dX10_quick_9 : decode cX10_quick 9 = .ok (.ireturn, 1) := by decide +kernel
theorem dX10_quick_10 : decode cX10_quick 10 = .ok (.aload_n 0, 1) := by decide +kernel
theorem dX10_quick_11 : decode cX10_quick 11 = .ok (.iconst 0, 1) := by decide +kernel
theorem dX10_quick_12 : decode cX10_quick 12 = .ok (.iload_n 1, 1) := by decide +kernel
theorem dX10_quick_13 : decode cX10_quick 13 = .ok (.invokevirtual 255, 3) := by decide +kernel
theorem dX10_quick_16 : decode cX10_quick 16 = .ok (.lstore_n 2, 1) := by decide +kernel
theorem dX10_quick_17 : decode cX10_quick 17 = .ok (.aload_n 0, 1) := by decide +kernel
theorem dX10_quick_18 : decode cX10_quick 18 = .ok (.iconst 1, 1) := by decide +kernel
theorem dX10_quick_19 : decode cX10_quick 19 = .ok (.iload_n 1, 1) := by decide +kernel
theorem dX10_quick_20 : decode cX10_quick 20 = .ok (.invokevirtual 255, 3) := by decide +kernel
theorem dX10_quick_23 : decode cX10_quick 23 = .ok (.lstore 4, 2) := by decide +kernel
theorem dX10_quick_25 : decode cX10_quick 25 = .ok (.lload_n 2, 1) := by decide +kernel
theorem dX10_quick_26 : decode cX10_quick 26 = .ok (.ldc2_w 238, 3) := by decide +kernel
theorem dX10_quick_29 : decode cX10_quick 29 = .ok (.lcmp, 1) := by decide +kernel
theorem dX10_quick_30 : decode cX10_quick 30 = .ok (.ifCond .gt 12, 3) := by decide +kernel
theorem dX10_quick_33 : decode cX10_quick 33 = .ok (.lload 4, 2) := by decide +kernel
theorem dX10_quick_35 : decode cX10_quick 35 = .ok (.ldc2_w 238, 3) := by decide +kernel
theorem dX10_quick_38 : decode cX10_quick 38 = .ok (.lcmp, 1) := by decide +kernel
theorem dX10_quick_39 : decode cX10_quick 39 = .ok (.ifCond .le 5, 3) := by decide +kernel
theorem dX10_quick_42 : decode cX10_quick 42 = .ok (.iconst (-1), 1) := by decide +kernel
theorem dX10_quick_43 : decode cX10_quick 43 = .ok (.ireturn, 1) := by decide +kernel
theorem dX10_quick_44 : decode cX10_quick 44 = .ok (.aload_n 0, 1) := by decide +kernel
theorem dX10_quick_45 : decode cX10_quick 45 = .ok (.iload_n 1, 1) := by decide +kernel
theorem dX10_quick_46 : decode cX10_quick 46 = .ok (.invokevirtual 198, 3) := by decide +kernel
theorem dX10_quick_49 : decode cX10_quick 49 = .ok (.ifCond .ne 6, 3) := by decide +kernel
theorem dX10_quick_52 : decode cX10_quick 52 = .ok (.bipush (-3), 2) := by decide +kernel
theorem dX10_quick_54 : decode cX10_quick 54 = .ok (.ireturn, 1) := by decide +kernel
theorem dX10_quick_55 : decode cX10_quick 55 = .ok (.lload_n 2, 1) := by decide +kernel
theorem dX10_quick_56 : decode cX10_quick 56 = .ok (.lconst 0, 1) := by decide +kernel
theorem dX10_quick_57 : decode cX10_quick 57 = .ok (.lcmp, 1) := by decide +kernel
theorem dX10_quick_58 : decode cX10_quick 58 = .ok (.ifCond .eq 10, 3) := by decide +kernel
theorem dX10_quick_61 : decode cX10_quick 61 = .ok (.lload 4, 2) := by decide +kernel
theorem dX10_quick_63 : decode cX10_quick 63 = .ok (.lconst 0, 1) := by decide +kernel
theorem dX10_quick_64 : decode cX10_quick 64 = .ok (.lcmp, 1) := by decide +kernel
theorem dX10_quick_65 : decode cX10_quick 65 = .ok (.ifCond .ne 6, 3) := by decide +kernel
theorem dX10_quick_68 : decode cX10_quick 68 = .ok (.bipush (-2), 2) := by decide +kernel
theorem dX10_quick_70 : decode cX10_quick 70 = .ok (.ireturn, 1) := by decide +kernel
theorem dX10_quick_71 : decode cX10_quick 71 = .ok (.aload_n 0, 1) := by decide +kernel
theorem dX10_quick_72 : decode cX10_quick 72 = .ok (.getfield 19, 3) := by decide +kernel
theorem dX10_quick_75 : decode cX10_quick 75 = .ok (.iconst 1, 1) := by decide +kernel
theorem dX10_quick_76 : decode cX10_quick 76 = .ok (.iload_n 1, 1) := by decide +kernel
theorem dX10_quick_77 : decode cX10_quick 77 = .ok (.aload_n 0, 1) := by decide +kernel
theorem dX10_quick_78 : decode cX10_quick 78 = .ok (.getfield 69, 3) := by decide +kernel
theorem dX10_quick_81 : decode cX10_quick 81 = .ok (.invokevirtual 243, 3) := by decide +kernel
theorem dX10_quick_84 : decode cX10_quick 84 = .ok (.lstore 6, 2) := by decide +kernel
theorem dX10_quick_86 : decode cX10_quick 86 = .ok (.aload_n 0, 1) := by decide +kernel
theorem dX10_quick_87 : decode cX10_quick 87 = .ok (.getfield 19, 3) := by decide +kernel
theorem dX10_quick_90 : decode cX10_quick 90 = .ok (.iconst 1, 1) := by decide +kernel
theorem dX10_quick_91 : decode cX10_quick 91 = .ok (.iload_n 1, 1) := by decide +kernel
theorem dX10_quick_92 : decode cX10_quick 92 = .ok (.aload_n 0, 1) := by decide +kernel
theorem dX10_quick_93 : decode cX10_quick 93 = .ok (.getfield 73, 3) := by decide +kernel
theorem dX10_quick_96 : decode cX10_quick 96 = .ok (.invokevirtual 243, 3) := by decide +kernel
theorem dX10_quick_99 : decode cX10_quick 99 = .ok (.lstore 8, 2) := by decide +kernel
theorem dX10_quick_101 : decode cX10_quick 101 = .ok (.lload 6, 2) := by decide +kernel
theorem dX10_quick_103 : decode cX10_quick 103 = .ok (.lload_n 2, 1) := by decide +kernel
theorem dX10_quick_104 : decode cX10_quick 104 = .ok (.lload 8, 2) := by decide +kernel
theorem dX10_quick_106 : decode cX10_quick 106 = .ok (.lload 4, 2) := by decide +kernel
theorem dX10_quick_108 : decode cX10_quick 108 = .ok (.invokestatic 262, 3) := by decide +kernel
theorem dX10_quick_111 : decode cX10_quick 111 = .ok (.istore 10, 2) := by decide +kernel
theorem dX10_quick_113 : decode cX10_quick 113 = .ok (.iload 10, 2) := by decide +kernel
theorem dX10_quick_115 : decode cX10_quick 115 = .ok (.ifCond .ne 7, 3) := by decide +kernel
theorem dX10_quick_118 : decode cX10_quick 118 = .ok (.iconst 2, 1) := by decide +kernel
theorem dX10_quick_119 : decode cX10_quick 119 = .ok (.goto 13, 3) := by decide +kernel
theorem dX10_quick_122 : decode cX10_quick 122 = .ok (.iload 10, 2) := by decide +kernel
theorem dX10_quick_124 : decode cX10_quick 124 = .ok (.ifCond .ge 7, 3) := by decide +kernel
theorem dX10_quick_127 : decode cX10_quick 127 = .ok (.iconst 0, 1) := by decide +kernel
theorem dX10_quick_128 : decode cX10_quick 128 = .ok (.goto 4, 3) := by decide +kernel
theorem dX10_quick_131 : decode cX10_quick 131 = .ok (.iconst 1, 1) := by decide +kernel
theorem dX10_quick_132 : decode cX10_quick 132 = .ok (.ireturn, 1) := by decide +kernel
theorem dX10_round_0 : decode cX10_round 0 = .ok (.aload_n 0, 1) := by decide +kernel
theorem dX10_round_1 : decode cX10_round 1 = .ok (.iload_n 2, 1) := by decide +kernel
theorem dX10_round_2 : decode cX10_round 2 = .ok (.invokevirtual 194, 3) := by decide +kernel
theorem dX10_round_5 : decode cX10_round 5 = .ok (.ifCond .ne 19, 3) := by decide +kernel
theorem dX10_round_8 : decode cX10_round 8 = .ok (.iload_n 2, 1) := by decide +kernel
theorem dX10_round_9 : decode cX10_round 9 = .ok (.bipush 6, 2) := by decide +kernel
theorem dX10_round_11 : decode cX10_round 11 = .ok (.if_icmp .gt 13, 3) := by decide +kernel
theorem dX10_round_14 : decode cX10_round 14 = .ok (.iload_n 1, 1) := by decide +kernel
theorem dX10_round_15 : decode cX10_round 15 = .ok (.ifCond .lt 9, 3) := by decide +kernel
theorem dX10_round_18 : decode cX10_round 18 = .ok (.iload_n 1, 1) := by decide +kernel
theorem dX10_round_19 : decode cX10_round 19 = .ok (.bipush 8, 2) := by decide +kernel
theorem dX10_round_21 : decode cX10_round 21 = .ok (.if_icmp .lt 5, 3) := by decide +kernel
theorem dX10_round_24 : decode cX10_round 24 = .ok (.iconst (-1), 1) := by decide +kernel
theorem dX10_round_25 : decode cX10_round 25 = .ok (.ireturn, 1) := by decide +kernel
theorem dX10_round_26 : decode cX10_round 26 = .ok (.iconst 0, 1) := by decide +kernel
theorem dX10_round_27 : decode cX10_round 27 = .ok (.istore_n 3, 1) := by decide +kernel
theorem dX10_round_28 : decode cX10_round 28 = .ok (.iload_n 3, 1) := by decide +kernel
theorem dX10_round_29 : decode cX10_round 29 = .ok (.sipush 256, 3) := by decide +kernel
theorem dX10_round_32 : decode cX10_round 32 = .ok (.if_icmp .ge 73, 3) := by decide +kernel
theorem dX10_round_35 : decode cX10_round 35 = .ok (.aload_n 0, 1) := by decide +kernel
theorem dX10_round_36 : decode cX10_round 36 = .ok (.getfield 35, 3) := by decide +kernel
theorem dX10_round_39 : decode cX10_round 39 = .ok (.aload_n 0, 1) := by decide +kernel
theorem dX10_round_40 : decode cX10_round 40 = .ok (.getfield 31, 3) := by decide +kernel
theorem dX10_round_43 : decode cX10_round 43 = .ok (.invokevirtual 266, 3) := by decide +kernel
theorem dX10_round_46 : decode cX10_round 46 = .ok (.aload_n 0, 1) := by decide +kernel
theorem dX10_round_47 : decode cX10_round 47 = .ok (.getfield 35, 3) := by decide +kernel
theorem dX10_round_50 : decode cX10_round 50 = .ok (.iload_n 1, 1) := by decide +kernel
theorem dX10_round_51 : decode cX10_round 51 = .ok (.iload_n 3, 1) := by decide +kernel
theorem dX10_round_52 : decode cX10_round 52 = .ok (.invokevirtual 144, 3) := by decide +kernel
theorem dX10_round_55 : decode cX10_round 55 = .ok (.aload_n 0, 1) := by decide +kernel
theorem dX10_round_56 : decode cX10_round 56 = .ok (.getfield 19, 3) := by decide +kernel
theorem dX10_round_59 : decode cX10_round 59 = .ok (.aload_n 0, 1) := by decide +kernel
theorem dX10_round_60 : decode cX10_round 60 = .ok (.getfield 35, 3) := by decide +kernel
theorem dX10_round_63 : decode cX10_round 63 = .ok (.iload_n 2, 1) := by decide +kernel
theorem dX10_round_64 : decode cX10_round 64 = .ok (.sipush 300, 3) := by decide +kernel
theorem dX10_round_67 : decode cX10_round 67 = .ok (.iconst 0, 1) := by decide +kernel
theorem dX10_round_68 : decode cX10_round 68 = .ok (.iconst 0, 1) := by decide +kernel
theorem dX10_round_69 : decode cX10_round 69 = .ok (.invokevirtual 213, 3) := by decide +kernel
theorem dX10_round_72 : decode cX10_round 72 = .ok (.ifCond .ne 6, 3) := by decide +kernel
theorem dX10_round_75 : decode cX10_round 75 = .ok (.bipush (-3), 2) := by decide +kernel
theorem dX10_round_77 : decode cX10_round 77 = .ok (.ireturn, 1) := by decide +kernel
theorem dX10_round_78 : decode cX10_round 78 = .ok (.aload_n 0, 1) := by decide +kernel
theorem dX10_round_79 : decode cX10_round 79 = .ok (.getfield 38, 3) := by decide +kernel
theorem dX10_round_82 : decode cX10_round 82 = .ok (.iload_n 3, 1) := by decide +kernel
theorem dX10_round_83 : decode cX10_round 83 = .ok (.aload_n 0, 1) := by decide +kernel
theorem dX10_round_84 : decode cX10_round 84 = .ok (.getfield 19, 3) := by decide +kernel
theorem dX10_round_87 : decode cX10_round 87 = .ok (.getfield 204, 3) := by decide +kernel
theorem dX10_round_90 : decode cX10_round 90 = .ok (.ifCond .lt 7, 3) := by decide +kernel
theorem dX10_round_93 : decode cX10_round 93 = .ok (.iconst 1, 1) := by decide +kernel
theorem dX10_round_94 : decode cX10_round 94 = .ok (.goto 4, 3) := by decide +kernel
theorem dX10_round_97 : decode cX10_round 97 = .ok (.iconst 0, 1) := by decide +kernel
theorem dX10_round_98 : decode cX10_round 98 = .ok (.bastore, 1) := by decide +kernel
theorem dX10_round_99 : decode cX10_round 99 = .ok (.iinc 3 1, 3) := by decide +kernel
theorem dX10_round_102 : decode cX10_round 102 = .ok (.goto (-74), 3) := by decide +kernel
theorem dX10_round_105 : decode cX10_round 105 = .ok (.aload_n 0, 1) := by decide +kernel
theorem dX10_round_106 : decode cX10_round 106 = .ok (.invokevirtual 270, 3) := by decide +kernel
theorem dX10_round_109 : decode cX10_round 109 = .ok (.ireturn, 1) := by decide +kernel
theorem dX10_means_0 : decode cX10_means 0 = .ok (.aload_n 0, 1) := by decide +kernel
theorem dX10_means_1 : decode cX10_means 1 = .ok (.iload_n 2, 1) := by decide +kernel
theorem dX10_means_2 : decode cX10_means 2 = .ok (.invokevirtual 194, 3) := by decide +kernel
theorem dX10_means_5 : decode cX10_means 5 = .ok (.ifCond .ne 13, 3) := by decide +kernel
theorem dX10_means_8 : decode cX10_means 8 = .ok (.iload_n 1, 1) := by decide +kernel
theorem dX10_means_9 : decode cX10_means 9 = .ok (.ifCond .lt 9, 3) := by decide +kernel
theorem dX10_means_12 : decode cX10_means 12 = .ok (.iload_n 1, 1) := by decide +kernel
theorem dX10_means_13 : decode cX10_means 13 = .ok (.bipush 99, 2) := by decide +kernel
theorem dX10_means_15 : decode cX10_means 15 = .ok (.if_icmp .le 5, 3) := by decide +kernel
theorem dX10_means_18 : decode cX10_means 18 = .ok (.iconst (-1), 1) := by decide +kernel
theorem dX10_means_19 : decode cX10_means 19 = .ok (.ireturn, 1) := by decide +kernel
theorem dX10_means_20 : decode cX10_means 20 = .ok (.aload_n 0, 1) := by decide +kernel
theorem dX10_means_21 : decode cX10_means 21 = .ok (.getfield 27, 3) := by decide +kernel
theorem dX10_means_24 : decode cX10_means 24 = .ok (.getfield 92, 3) := by decide +kernel
theorem dX10_means_27 : decode cX10_means 27 = .ok (.aload_n 0, 1) := by decide +kernel
theorem dX10_means_28 : decode cX10_means 28 = .ok (.getfield 27, 3) := by decide +kernel
theorem dX10_means_31 : decode cX10_means 31 = .ok (.getfield 150, 3) := by decide +kernel
theorem dX10_means_34 : decode cX10_means 34 = .ok (.iconst 1, 1) := by decide +kernel
theorem dX10_means_35 : decode cX10_means 35 = .ok (.iadd, 1) := by decide +kernel
theorem dX10_means_36 : decode cX10_means 36 = .ok (.imul, 1) := by decide +kernel
theorem dX10_means_37 : decode cX10_means 37 = .ok (.iload_n 2, 1) := by decide +kernel
theorem dX10_means_38 : decode cX10_means 38 = .ok (.invokestatic 234, 3) := by decide +kernel
theorem dX10_means_41 : decode cX10_means 41 = .ok (.lstore_n 3, 1) := by decide +kernel
theorem dX10_means_42 : decode cX10_means 42 = .ok (.lload_n 3, 1) := by decide +kernel
theorem dX10_means_43 : decode cX10_means 43 = .ok (.ldc2_w 238, 3) := by decide +kernel
theorem dX10_means_46 : decode cX10_means 46 = .ok (.lcmp, 1) := by decide +kernel
theorem dX10_means_47 : decode cX10_means 47 = .ok (.ifCond .le 5, 3) := by decide +kernel
theorem dX10_means_50 : decode cX10_means 50 = .ok (.iconst (-1), 1) := by decide +kernel
theorem dX10_means_51 : decode cX10_means 51 = .ok (.ireturn, 1) := by decide +kernel
theorem dX10_means_52 : decode cX10_means 52 = .ok (.aload_n 0, 1) := by decide +kernel
theorem dX10_means_53 : decode cX10_means 53 = .ok (.getfield 19, 3) := by decide +kernel
theorem dX10_means_56 : decode cX10_means 56 = .ok (.aload_n 0, 1) := by decide +kernel
theorem dX10_means_57 : decode cX10_means 57 = .ok (.getfield 31, 3) := by decide +kernel
theorem dX10_means_60 : decode cX10_means 60 = .ok (.iload_n 2, 1) := by decide +kernel
theorem dX10_means_61 : decode cX10_means 61 = .ok (.sipush 4000, 3) := by decide +kernel
theorem dX10_means_64 : decode cX10_means 64 = .ok (.iconst 2, 1) := by decide +kernel
theorem dX10_means_65 : decode cX10_means 65 = .ok (.iload_n 1, 1) := by decide +kernel
theorem dX10_means_66 : decode cX10_means 66 = .ok (.invokevirtual 213, 3) := by decide +kernel
theorem dX10_means_69 : decode cX10_means 69 = .ok (.ifCond .ne 6, 3) := by decide +kernel
theorem dX10_means_72 : decode cX10_means 72 = .ok (.bipush (-3), 2) := by decide +kernel
theorem dX10_means_74 : decode cX10_means 74 = .ok (.ireturn, 1) := by decide +kernel
theorem dX10_means_75 : decode cX10_means 75 = .ok (.aload_n 0, 1) := by decide +kernel
theorem dX10_means_76 : decode cX10_means 76 = .ok (.getfield 19, 3) := by decide +kernel
theorem dX10_means_79 : decode cX10_means 79 = .ok (.iconst 2, 1) := by decide +kernel
theorem dX10_means_80 : decode cX10_means 80 = .ok (.iload_n 2, 1) := by decide +kernel
theorem dX10_means_81 : decode cX10_means 81 = .ok (.getstatic 240, 3) := by decide +kernel
theorem dX10_means_84 : decode cX10_means 84 = .ok (.invokevirtual 243, 3) := by decide +kernel
theorem dX10_means_87 : decode cX10_means 87 = .ok (.lstore 5, 2) := by decide +kernel
theorem dX10_means_89 : decode cX10_means 89 = .ok (.aload_n 0, 1) := by decide +kernel
theorem dX10_means_90 : decode cX10_means 90 = .ok (.getfield 19, 3) := by decide +kernel
theorem dX10_means_93 : decode cX10_means 93 = .ok (.iconst 1, 1) := by decide +kernel
theorem dX10_means_94 : decode cX10_means 94 = .ok (.iload_n 2, 1) := by decide +kernel
theorem dX10_means_95 : decode cX10_means 95 = .ok (.getstatic 240, 3) := by decide +kernel
theorem dX10_means_98 : decode cX10_means 98 = .ok (.invokevirtual 243, 3) := by decide +kernel
theorem dX10_means_101 : decode cX10_means 101 = .ok (.lstore 7, 2) := by decide +kernel
theorem dX10_means_103 : decode cX10_means 103 = .ok (.aload_n 0, 1) := by decide +kernel
theorem dX10_means_104 : decode cX10_means 104 = .ok (.getfield 19, 3) := by decide +kernel
theorem dX10_means_107 : decode cX10_means 107 = .ok (.iconst 3, 1) := by decide +kernel
theorem dX10_means_108 : decode cX10_means 108 = .ok (.iload_n 2, 1) := by decide +kernel
theorem dX10_means_109 : decode cX10_means 109 = .ok (.getstatic 240, 3) := by decide +kernel
theorem dX10_means_112 : decode cX10_means 112 = .ok (.invokevirtual 243, 3) := by decide +kernel
theorem dX10_means_115 : decode cX10_means 115 = .ok (.lstore 9, 2) := by decide +kernel
theorem dX10_means_117 : decode cX10_means 117 = .ok (.aload_n 0, 1) := by decide +kernel
theorem dX10_means_118 : decode cX10_means 118 = .ok (.getfield 45, 3) := by decide +kernel
theorem dX10_means_121 : decode cX10_means 121 = .ok (.lload_n 3, 1) := by decide +kernel
theorem dX10_means_122 : decode cX10_means 122 = .ok (.lload 5, 2) := by decide +kernel
theorem dX10_means_124 : decode cX10_means 124 = .ok (.lsub, 1) := by decide +kernel
theorem dX10_means_125 : decode cX10_means 125 = .ok (.lload_n 3, 1) := by decide +kernel
theorem dX10_means_126 : decode cX10_means 126 = .ok (.lload 5, 2) := by decide +kernel
theorem dX10_means_128 : decode cX10_means 128 = .ok (.lsub, 1) := by decide +kernel
theorem dX10_means_129 : decode cX10_means 129 = .ok (.lload 7, 2) := by decide +kernel
theorem dX10_means_131 : decode cX10_means 131 = .ok (.lsub, 1) := by decide +kernel
theorem dX10_means_132 : decode cX10_means 132 = .ok (.lload 9, 2) := by decide +kernel
theorem dX10_means_134 : decode cX10_means 134 = .ok (.ladd, 1) := by decide +kernel
theorem dX10_means_135 : decode cX10_means 135 = .ok (.invokevirtual 247, 3) := by decide +kernel
theorem dX10_means_138 : decode cX10_means 138 = .ok (.iconst 0, 1) := by decide +kernel
theorem dX10_means_139 : decode cX10_means 139 = .ok (.ireturn, 1) := by decide +kernel
theorem dX10_hid_0 : decode cX10_hid 0 = .ok (.aload_n 0, 1) := by decide +kernel
theorem dX10_hid_1 : decode cX10_hid 1 = .ok (.iload_n 2, 1) := by decide +kernel
theorem dX10_hid_2 : decode cX10_hid 2 = .ok (.invokevirtual 194, 3) := by decide +kernel
theorem dX10_hid_5 : decode cX10_hid 5 = .ok (.ifCond .ne 18, 3) := by decide +kernel
theorem dX10_hid_8 : decode cX10_hid 8 = .ok (.iload_n 1, 1) := by decide +kernel
theorem dX10_hid_9 : decode cX10_hid 9 = .ok (.ifCond .lt 14, 3) := by decide +kernel
theorem dX10_hid_12 : decode cX10_hid 12 = .ok (.iload_n 1, 1) := by decide +kernel
theorem dX10_hid_13 : decode cX10_hid 13 = .ok (.aload_n 0, 1) := by decide +kernel
theorem dX10_hid_14 : decode cX10_hid 14 = .ok (.getfield 27, 3) := by decide +kernel
theorem dX10_hid_17 : decode cX10_hid 17 = .ok (.getfield 132, 3) := by decide +kernel
theorem dX10_hid_20 : decode cX10_hid 20 = .ok (.if_icmp .lt 5, 3) := by decide +kernel
theorem dX10_hid_23 : decode cX10_hid 23 = .ok (.iconst (-1), 1) := by decide +kernel
theorem dX10_hid_24 : decode cX10_hid 24 = .ok (.ireturn, 1) := by decide +kernel
theorem dX10_hid_25 : decode cX10_hid 25 = .ok (.aload_n 0, 1) := by decide +kernel
theorem dX10_hid_26 : decode cX10_hid 26 = .ok (.getfield 27, 3) := by decide +kernel
theorem dX10_hid_29 : decode cX10_hid 29 = .ok (.getfield 138, 3) := by decide +kernel
theorem dX10_hid_32 : decode cX10_hid 32 = .ok (.iconst 1, 1) := by decide +kernel
theorem dX10_hid_33 : decode cX10_hid 33 = .ok (.iload_n 1, 1) := by decide +kernel
theorem dX10_hid_34 : decode cX10_hid 34 = .ok (.ishl, 1) := by decide +kernel
theorem dX10_hid_35 : decode cX10_hid 35 = .ok (.iand, 1) := by decide +kernel
theorem dX10_hid_36 : decode cX10_hid 36 = .ok (.ifCond .ne 5, 3) := by decide +kernel
theorem dX10_hid_39 : decode cX10_hid 39 = .ok (.iconst (-1), 1) := by decide +kernel
theorem dX10_hid_40 : decode cX10_hid 40 = .ok (.ireturn, 1) := by decide +kernel
theorem dX10_hid_41 : decode cX10_hid 41 = .ok (.aload_n 0, 1) := by decide +kernel
theorem dX10_hid_42 : decode cX10_hid 42 = .ok (.getfield 19, 3) := by decide +kernel
theorem dX10_hid_45 : decode cX10_hid 45 = .ok (.aload_n 0, 1) := by decide +kernel
theorem dX10_hid_46 : decode cX10_hid 46 = .ok (.getfield 31, 3) := by decide +kernel
theorem dX10_hid_49 : decode cX10_hid 49 = .ok (.iload_n 2, 1) := by decide +kernel
theorem dX10_hid_50 : decode cX10_hid 50 = .ok (.sipush 4000, 3) := by decide +kernel
theorem dX10_hid_53 : decode cX10_hid 53 = .ok (.iconst 3, 1) := by decide +kernel
theorem dX10_hid_54 : decode cX10_hid 54 = .ok (.iload_n 1, 1) := by decide +kernel
theorem dX10_hid_55 : decode cX10_hid 55 = .ok (.invokevirtual 213, 3) := by decide +kernel
theorem dX10_hid_58 : decode cX10_hid 58 = .ok (.ifCond .ne 6, 3) := by decide +kernel
theorem dX10_hid_61 : decode cX10_hid 61 = .ok (.bipush (-3), 2) := by decide +kernel
theorem dX10_hid_63 : decode cX10_hid 63 = .ok (.ireturn, 1) := by decide +kernel
theorem dX10_hid_64 : decode cX10_hid 64 = .ok (.aload_n 0, 1) := by decide +kernel
theorem dX10_hid_65 : decode cX10_hid 65 = .ok (.aload_n 0, 1) := by decide +kernel
theorem dX10_hid_66 : decode cX10_hid 66 = .ok (.getfield 19, 3) := by decide +kernel
theorem dX10_hid_69 : decode cX10_hid 69 = .ok (.getfield 218, 3) := by decide +kernel
theorem dX10_hid_72 : decode cX10_hid 72 = .ok (.invokevirtual 207, 3) := by decide +kernel
theorem dX10_hid_75 : decode cX10_hid 75 = .ok (.ireturn, 1) := by decide +kernel
theorem dX10_iron_0 : decode cX10_iron 0 = .ok (.aload_n 0, 1) := by decide +kernel
theorem dX10_iron_1 : decode cX10_iron 1 = .ok (.iload_n 1, 1) := by decide +kernel
theorem dX10_iron_2 : decode cX10_iron 2 = .ok (.invokevirtual 194, 3) := by decide +kernel
theorem dX10_iron_5 : decode cX10_iron 5 = .ok (.ifCond .eq 5, 3) := by decide +kernel
theorem dX10_iron_8 : decode cX10_iron 8 = .ok (.iconst (-1), 1) := by decide +kernel
theorem dX10_iron_9 : decode cX10_iron 9 = .ok (.ireturn, 1) := by decide +kernel
theorem dX10_iron_10 : decode cX10_iron 10 = .ok (.aload_n 0, 1) := by decide +kernel
theorem dX10_iron_11 : decode cX10_iron 11 = .ok (.getfield 27, 3) := by decide +kernel
theorem dX10_iron_14 : decode cX10_iron 14 = .ok (.getfield 138, 3) := by decide +kernel
theorem dX10_iron_17 : decode cX10_iron 17 = .ok (.istore_n 2, 1) := by decide +kernel
theorem dX10_iron_18 : decode cX10_iron 18 = .ok (.aload_n 0, 1) := by decide +kernel
theorem dX10_iron_19 : decode cX10_iron 19 = .ok (.iconst 0, 1) := by decide +kernel
theorem dX10_iron_20 : decode cX10_iron 20 = .ok (.iload_n 1, 1) := by decide +kernel
theorem dX10_iron_21 : decode cX10_iron 21 = .ok (.aload_n 0, 1) := by decide +kernel
theorem dX10_iron_22 : decode cX10_iron 22 = .ok (.getfield 27, 3) := by decide +kernel
theorem dX10_iron_25 : decode cX10_iron 25 = .ok (.getfield 132, 3) := by decide +kernel
theorem dX10_iron_28 : decode cX10_iron 28 = .ok (.invokevirtual 273, 3) := by decide +kernel
theorem dX10_iron_31 : decode cX10_iron 31 = .ok (.istore_n 3, 1) := by decide +kernel
theorem dX10_iron_32 : decode cX10_iron 32 = .ok (.aload_n 0, 1) := by decide +kernel
theorem dX10_iron_33 : decode cX10_iron 33 = .ok (.getfield 27, 3) := by decide +kernel
theorem dX10_iron_36 : decode cX10_iron 36 = .ok (.iload_n 2, 1) := by decide +kernel
theorem dX10_iron_37 : decode cX10_iron 37 = .ok (.putfield 138, 3) := by decide +kernel
theorem dX10_iron_40 : decode cX10_iron 40 = .ok (.iload_n 3, 1) := by decide +kernel
theorem dX10_iron_41 : decode cX10_iron 41 = .ok (.ireturn, 1) := by decide +kernel
theorem dX10_patch_0 : decode cX10_patch 0 = .ok (.aload_n 0, 1) := by decide +kernel
theorem dX10_patch_1 : decode cX10_patch 1 = .ok (.invokevirtual 88, 3) := by decide +kernel
theorem dX10_patch_4 : decode cX10_patch 4 = .ok (.istore_n 3, 1) := by decide +kernel
theorem dX10_patch_5 : decode cX10_patch 5 = .ok (.aload_n 0, 1) := by decide +kernel
theorem dX10_patch_6 : decode cX10_patch 6 = .ok (.getfield 27, 3) := by decide +kernel
theorem dX10_patch_9 : decode cX10_patch 9 = .ok (.getfield 277, 3) := by decide +kernel
theorem dX10_patch_12 : decode cX10_patch 12 = .ok (.istore 4, 2) := by decide +kernel
theorem dX10_patch_14 : decode cX10_patch 14 = .ok (.iload_n 1, 1) := by decide +kernel
theorem dX10_patch_15 : decode cX10_patch 15 = .ok (.ifCond .lt 20, 3) := by decide +kernel
theorem dX10_patch_18 : decode cX10_patch 18 = .ok (.iload_n 1, 1) := by decide +kernel
theorem dX10_patch_19 : decode cX10_patch 19 = .ok (.aload_n 0, 1) := by decide +kernel
theorem dX10_patch_20 : decode cX10_patch 20 = .ok (.getfield 27, 3) := by decide +kernel
theorem dX10_patch_23 : decode cX10_patch 23 = .ok (.getfield 92, 3) := by decide +kernel
theorem dX10_patch_26 : decode cX10_patch 26 = .ok (.if_icmp .ge 9, 3) := by decide +kernel
theorem dX10_patch_29 : decode cX10_patch 29 = .ok (.iload 4, 2) := by decide +kernel
theorem dX10_patch_31 : decode cX10_patch 31 = .ok (.iconst 5, 1) := by decide +kernel
theorem dX10_patch_32 : decode cX10_patch 32 = .ok (.if_icmp .lt 6, 3) := by decide +kernel
theorem dX10_patch_35 : decode cX10_patch 35 = .ok (.bipush (-100), 2) := by decide +kernel
theorem dX10_patch_37 : decode cX10_patch 37 = .ok (.ireturn, 1) := by decide +kernel
theorem dX10_patch_38 : decode cX10_patch 38 = .ok (.iload_n 2, 1) := by decide +kernel
theorem dX10_patch_39 : decode cX10_patch 39 = .ok (.ifCond .lt 19, 3) := by decide +kernel
theorem dX10_patch_42 : decode cX10_patch 42 = .ok (.iload_n 2, 1) := by decide +kernel
theorem dX10_patch_43 : decode cX10_patch 43 = .ok (.aload_n 0, 1) := by decide +kernel
theorem dX10_patch_44 : decode cX10_patch 44 = .ok (.getfield 27, 3) := by decide +kernel
theorem dX10_patch_47 : decode cX10_patch 47 = .ok (.getfield 101, 3) := by decide +kernel
theorem dX10_patch_50 : decode cX10_patch 50 = .ok (.iload_n 1, 1) := by decide +kernel
theorem dX10_patch_51 : decode cX10_patch 51 = .ok (.aaload, 1) := by decide +kernel
theorem dX10_patch_52 : decode cX10_patch 52 = .ok (.getfield 116, 3) := by decide +kernel
theorem dX10_patch_55 : decode cX10_patch 55 = .ok (.if_icmp .lt 6, 3) := by decide +kernel
theorem dX10_patch_58 : decode cX10_patch 58 = .ok (.bipush (-100), 2) := by decide +kernel
theorem dX10_patch_60 : decode cX10_patch 60 = .ok (.ireturn, 1) := by decide +kernel
theorem dX10_patch_61 : decode cX10_patch 61 = .ok (.aload_n 0, 1) := by decide +kernel
theorem dX10_patch_62 : decode cX10_patch 62 = .ok (.getfield 10, 3) := by decide +kernel
theorem dX10_patch_65 : decode cX10_patch 65 = .ok (.iload_n 3, 1) := by decide +kernel
theorem dX10_patch_66 : decode cX10_patch 66 = .ok (.iconst 1, 1) := by decide +kernel
theorem dX10_patch_67 : decode cX10_patch 67 = .ok (.invokevirtual 97, 3) := by decide +kernel
theorem dX10_patch_70 : decode cX10_patch 70 = .ok (.istore 5, 2) := by decide +kernel
theorem dX10_patch_72 : decode cX10_patch 72 = .ok (.iload 5, 2) := by decide +kernel
theorem dX10_patch_74 : decode cX10_patch 74 = .ok (.ifCond .lt 8, 3) := by decide +kernel
theorem dX10_patch_77 : decode cX10_patch 77 = .ok (.iconst (-1), 1) := by decide +kernel
theorem dX10_patch_78 : decode cX10_patch 78 = .ok (.iload 5, 2) := by decide +kernel
theorem dX10_patch_80 : decode cX10_patch 80 = .ok (.isub, 1) := by decide +kernel
theorem dX10_patch_81 : decode cX10_patch 81 = .ok (.ireturn, 1) := by decide +kernel
theorem dX10_patch_82 : decode cX10_patch 82 = .ok (.aload_n 0, 1) := by decide +kernel
theorem dX10_patch_83 : decode cX10_patch 83 = .ok (.getfield 27, 3) := by decide +kernel
theorem dX10_patch_86 : decode cX10_patch 86 = .ok (.getfield 280, 3) := by decide +kernel
theorem dX10_patch_89 : decode cX10_patch 89 = .ok (.iload 4, 2) := by decide +kernel
theorem dX10_patch_91 : decode cX10_patch 91 = .ok (.aload_n 0, 1) := by decide +kernel
theorem dX10_patch_92 : decode cX10_patch 92 = .ok (.getfield 10, 3) := by decide +kernel
theorem dX10_patch_95 : decode cX10_patch 95 = .ok (.aload_n 0, 1) := by decide +kernel
theorem dX10_patch_96 : decode cX10_patch 96 = .ok (.getfield 27, 3) := by decide +kernel
theorem dX10_patch_99 : decode cX10_patch 99 = .ok (.getfield 280, 3) := by decide +kernel
theorem dX10_patch_102 : decode cX10_patch 102 = .ok (.iload 4, 2) := by decide +kernel
theorem dX10_patch_104 : decode cX10_patch 104 = .ok (.aaload, 1) := by decide +kernel
theorem dX10_patch_105 : decode cX10_patch 105 = .ok (.invokevirtual 105, 3) := by decide +kernel
theorem dX10_patch_108 : decode cX10_patch 108 = .ok (.aastore, 1) := by decide +kernel
theorem dX10_patch_109 : decode cX10_patch 109 = .ok (.aload_n 0, 1) := by decide +kernel
theorem dX10_patch_110 : decode cX10_patch 110 = .ok (.getfield 27, 3) := by decide +kernel
theorem dX10_patch_113 : decode cX10_patch 113 = .ok (.getfield 283, 3) := by decide +kernel
theorem dX10_patch_116 : decode cX10_patch 116 = .ok (.iload 4, 2) := by decide +kernel
theorem dX10_patch_118 : decode cX10_patch 118 = .ok (.iload_n 1, 1) := by decide +kernel
theorem dX10_patch_119 : decode cX10_patch 119 = .ok (.iastore, 1) := by decide +kernel
theorem dX10_patch_120 : decode cX10_patch 120 = .ok (.aload_n 0, 1) := by decide +kernel
theorem dX10_patch_121 : decode cX10_patch 121 = .ok (.getfield 27, 3) := by decide +kernel
theorem dX10_patch_124 : decode cX10_patch 124 = .ok (.getfield 286, 3) := by decide +kernel
theorem dX10_patch_127 : decode cX10_patch 127 = .ok (.iload 4, 2) := by decide +kernel
theorem dX10_patch_129 : decode cX10_patch 129 = .ok (.iload_n 2, 1) := by decide +kernel
theorem dX10_patch_130 : decode cX10_patch 130 = .ok (.iastore, 1) := by decide +kernel
theorem dX10_patch_131 : decode cX10_patch 131 = .ok (.aload_n 0, 1) := by decide +kernel
theorem dX10_patch_132 : decode cX10_patch 132 = .ok (.getfield 27, 3) := by decide +kernel
theorem dX10_patch_135 : decode cX10_patch 135 = .ok (.dup, 1) := by decide +kernel
theorem dX10_patch_136 : decode cX10_patch 136 = .ok (.getfield 277, 3) := by decide +kernel
theorem dX10_patch_139 : decode cX10_patch 139 = .ok (.iconst 1, 1) := by decide +kernel
theorem dX10_patch_140 : decode cX10_patch 140 = .ok (.iadd, 1) := by decide +kernel
theorem dX10_patch_141 : decode cX10_patch 141 = .ok (.putfield 277, 3) := by decide +kernel
theorem dX10_patch_144 : decode cX10_patch 144 = .ok (.iload 4, 2) := by decide +kernel
theorem dX10_patch_146 : decode cX10_patch 146 = .ok (.ireturn, 1) := by decide +kernel
theorem dX10_mend_0 : decode cX10_mend 0 = .ok (.aload_n 0, 1) := by decide +kernel
theorem dX10_mend_1 : decode cX10_mend 1 = .ok (.iload_n 1, 1) := by decide +kernel
theorem dX10_mend_2 : decode cX10_mend 2 = .ok (.invokevirtual 194, 3) := by decide +kernel
theorem dX10_mend_5 : decode cX10_mend 5 = .ok (.ifCond .eq 5, 3) := by decide +kernel
theorem dX10_mend_8 : decode cX10_mend 8 = .ok (.iconst (-1), 1) := by decide +kernel
theorem dX10_mend_9 : decode cX10_mend 9 = .ok (.ireturn, 1) := by decide +kernel
theorem dX10_mend_10 : decode cX10_mend 10 = .ok (.aload_n 0, 1) := by decide +kernel
theorem dX10_mend_11 : decode cX10_mend 11 = .ok (.iconst 1, 1) := by decide +kernel
theorem dX10_mend_12 : decode cX10_mend 12 = .ok (.iload_n 1, 1) := by decide +kernel
theorem dX10_mend_13 : decode cX10_mend 13 = .ok (.aload_n 0, 1) := by decide +kernel
theorem dX10_mend_14 : decode cX10_mend 14 = .ok (.getfield 27, 3) := by decide +kernel
theorem dX10_mend_17 : decode cX10_mend 17 = .ok (.getfield 277, 3) := by decide +kernel
theorem dX10_mend_20 : decode cX10_mend 20 = .ok (.invokevirtual 273, 3) := by decide +kernel
theorem dX10_mend_23 : decode cX10_mend 23 = .ok (.istore_n 2, 1) := by decide +kernel
theorem dX10_mend_24 : decode cX10_mend 24 = .ok (.aload_n 0, 1) := by decide +kernel
theorem dX10_mend_25 : decode cX10_mend 25 = .ok (.getfield 27, 3) := by decide +kernel
theorem dX10_mend_28 : decode cX10_mend 28 = .ok (.iconst 0, 1) := by decide +kernel
theorem dX10_mend_29 : decode cX10_mend 29 = .ok (.invokevirtual 289, 3) := by decide +kernel
theorem dX10_mend_32 : decode cX10_mend 32 = .ok (.iload_n 2, 1) := by decide +kernel
theorem dX10_mend_33 : decode cX10_mend 33 = .ok (.ireturn, 1) := by decide +kernel
theorem dX10_drop_0 : decode cX10_drop 0 = .ok (.aload_n 0, 1) := by decide +kernel
theorem dX10_drop_1 : decode cX10_drop 1 = .ok (.getfield 27, 3) := by decide +kernel
theorem dX10_drop_4 : decode cX10_drop 4 = .ok (.getfield 277, 3) := by decide +kernel
theorem dX10_drop_7 : decode cX10_drop 7 = .ok (.istore_n 1, 1) := by decide +kernel
theorem dX10_drop_8 : decode cX10_drop 8 = .ok (.aload_n 0, 1) := by decide +kernel
theorem dX10_drop_9 : decode cX10_drop 9 = .ok (.getfield 27, 3) := by decide +kernel
theorem dX10_drop_12 : decode cX10_drop 12 = .ok (.iconst 0, 1) := by decide +kernel
theorem dX10_drop_13 : decode cX10_drop 13 = .ok (.putfield 277, 3) := by decide +kernel
theorem dX10_drop_16 : decode cX10_drop 16 = .ok (.iload_n 1, 1) := by decide +kernel
theorem dX10_drop_17 : decode cX10_drop 17 = .ok (.ireturn, 1) := by decide +kernel
theorem dX10_type_0 : decode cX10_type 0 = .ok (.iload_n 1, 1) := by decide +kernel
theorem dX10_type_1 : decode cX10_type 1 = .ok (.ifCond .lt 20, 3) := by decide +kernel
theorem dX10_type_4 : decode cX10_type 4 = .ok (.iload_n 1, 1) := by decide +kernel
theorem dX10_type_5 : decode cX10_type 5 = .ok (.iconst 4, 1) := by decide +kernel
theorem dX10_type_6 : decode cX10_type 6 = .ok (.if_icmp .gt 15, 3) := by decide +kernel
theorem dX10_type_9 : decode cX10_type 9 = .ok (.aload_n 0, 1) := by decide +kernel
theorem dX10_type_10 : decode cX10_type 10 = .ok (.getfield 52, 3) := by decide +kernel
theorem dX10_type_13 : decode cX10_type 13 = .ok (.getfield 293, 3) := by decide +kernel
theorem dX10_type_16 : decode cX10_type 16 = .ok (.bipush 8, 2) := by decide +kernel
theorem dX10_type_18 : decode cX10_type 18 = .ok (.if_icmp .lt 5, 3) := by decide +kernel
theorem dX10_type_21 : decode cX10_type 21 = .ok (.iconst (-1), 1) := by decide +kernel
theorem dX10_type_22 : decode cX10_type 22 = .ok (.ireturn, 1) := by decide +kernel
theorem dX10_type_23 : decode cX10_type 23 = .ok (.aload_n 0, 1) := by decide +kernel
theorem dX10_type_24 : decode cX10_type 24 = .ok (.getfield 52, 3) := by decide +kernel
theorem dX10_type_27 : decode cX10_type 27 = .ok (.getfield 296, 3) := by decide +kernel
theorem dX10_type_30 : decode cX10_type 30 = .ok (.aload_n 0, 1) := by decide +kernel
theorem dX10_type_31 : decode cX10_type 31 = .ok (.getfield 52, 3) := by decide +kernel
theorem dX10_type_34 : decode cX10_type 34 = .ok (.getfield 293, 3) := by decide +kernel
theorem dX10_type_37 : decode cX10_type 37 = .ok (.iload_n 1, 1) := by decide +kernel
theorem dX10_type_38 : decode cX10_type 38 = .ok (.iastore, 1) := by decide +kernel
theorem dX10_type_39 : decode cX10_type 39 = .ok (.aload_n 0, 1) := by decide +kernel
theorem dX10_type_40 : decode cX10_type 40 = .ok (.getfield 52, 3) := by decide +kernel
theorem dX10_type_43 : decode cX10_type 43 = .ok (.dup, 1) := by decide +kernel
theorem dX10_type_44 : decode cX10_type 44 = .ok (.getfield 293, 3) := by decide +kernel
theorem dX10_type_47 : decode cX10_type 47 = .ok (.iconst 1, 1) := by decide +kernel
theorem dX10_type_48 : decode cX10_type 48 = .ok (.iadd, 1) := by decide +kernel
theorem dX10_type_49 : decode cX10_type 49 = .ok (.putfield 293, 3) := by decide +kernel
theorem dX10_type_52 : decode cX10_type 52 = .ok (.aload_n 0, 1) := by decide +kernel
theorem dX10_type_53 : decode cX10_type 53 = .ok (.getfield 52, 3) := by decide +kernel
theorem dX10_type_56 : decode cX10_type 56 = .ok (.getfield 293, 3) := by decide +kernel
theorem dX10_type_59 : decode cX10_type 59 = .ok (.ireturn, 1) := by decide +kernel
theorem dX10_wipe_0 : decode cX10_wipe 0 = .ok (.aload_n 0, 1) := by decide +kernel
theorem dX10_wipe_1 : decode cX10_wipe 1 = .ok (.getfield 52, 3) := by decide +kernel
theorem dX10_wipe_4 : decode cX10_wipe 4 = .ok (.getfield 293, 3) := by decide +kernel
theorem dX10_wipe_7 : decode cX10_wipe 7 = .ok (.istore_n 1, 1) := by decide +kernel
theorem dX10_wipe_8 : decode cX10_wipe 8 = .ok (.aload_n 0, 1) := by decide +kernel
theorem dX10_wipe_9 : decode cX10_wipe 9 = .ok (.getfield 52, 3) := by decide +kernel
theorem dX10_wipe_12 : decode cX10_wipe 12 = .ok (.iconst 0, 1) := by decide +kernel
theorem dX10_wipe_13 : decode cX10_wipe 13 = .ok (.putfield 293, 3) := by decide +kernel
theorem dX10_wipe_16 : decode cX10_wipe 16 = .ok (.iload_n 1, 1) := by decide +kernel
theorem dX10_wipe_17 : decode cX10_wipe 17 = .ok (.ireturn, 1) := by decide +kernel
theorem dX10_fits_0 : decode cX10_fits 0 = .ok (.aload_n 0, 1) := by decide +kernel
theorem dX10_fits_1 : decode cX10_fits 1 = .ok (.invokevirtual 299, 3) := by decide +kernel
theorem dX10_fits_4 : decode cX10_fits 4 = .ok (.ifCond .eq 5, 3) := by decide +kernel
theorem dX10_fits_7 : decode cX10_fits 7 = .ok (.iconst (-1), 1) := by decide +kernel
theorem dX10_fits_8 : decode cX10_fits 8 = .ok (.ireturn, 1) := by decide +kernel
theorem dX10_fits_9 : decode cX10_fits 9 = .ok (.aload_n 0, 1) := by decide +kernel
theorem dX10_fits_10 : decode cX10_fits 10 = .ok (.invokevirtual 303, 3) := by decide +kernel
theorem dX10_fits_13 : decode cX10_fits 13 = .ok (.ifCond .ne 6, 3) := by decide +kernel
theorem dX10_fits_16 : decode cX10_fits 16 = .ok (.bipush (-3), 2) := by decide +kernel
theorem dX10_fits_18 : decode cX10_fits 18 = .ok (.ireturn, 1) := by decide +kernel
theorem dX10_fits_19 : decode cX10_fits 19 = .ok (.aload_n 0, 1) := by decide +kernel
theorem dX10_fits_20 : decode cX10_fits 20 = .ok (.getfield 19, 3) := by decide +kernel
theorem dX10_fits_23 : decode cX10_fits 23 = .ok (.getfield 306, 3) := by decide +kernel
theorem dX10_fits_26 : decode cX10_fits 26 = .ok (.ifCond .ge 5, 3) := by decide +kernel
theorem dX10_fits_29 : decode cX10_fits 29 = .ok (.iconst 0, 1) := by decide +kernel
theorem dX10_fits_30 : decode cX10_fits 30 = .ok (.ireturn, 1) := by decide +kernel
theorem dX10_fits_31 : decode cX10_fits 31 = .ok (.aload_n 0, 1) := by decide +kernel
theorem dX10_fits_32 : decode cX10_fits 32 = .ok (.getfield 19, 3) := by decide +kernel
theorem dX10_fits_35 : decode cX10_fits 35 = .ok (.aload_n 0, 1) := by decide +kernel
theorem dX10_fits_36 : decode cX10_fits 36 = .ok (.getfield 19, 3) := by decide +kernel
theorem dX10_fits_39 : decode cX10_fits 39 = .ok (.getfield 306, 3) := by decide +kernel
theorem dX10_fits_42 : decode cX10_fits 42 = .ok (.aload_n 0, 1) := by decide +kernel
theorem dX10_fits_43 : decode cX10_fits 43 = .ok (.getfield 45, 3) := by decide +kernel
theorem dX10_fits_46 : decode cX10_fits 46 = .ok (.invokevirtual 227, 3) := by decide +kernel
theorem dX10_fits_49 : decode cX10_fits 49 = .ok (.iconst 1, 1) := by decide +kernel
theorem dX10_fits_50 : decode cX10_fits 50 = .ok (.ireturn, 1) := by decide +kernel
theorem dX10_many_0 : decode cX10_many 0 = .ok (.aload_n 0, 1) := by decide +kernel
theorem dX10_many_1 : decode cX10_many 1 = .ok (.invokevirtual 299, 3) := by decide +kernel
theorem dX10_many_4 : decode cX10_many 4 = .ok (.ifCond .eq 5, 3) := by decide +kernel
theorem dX10_many_7 : decode cX10_many 7 = .ok (.iconst (-1), 1) := by decide +kernel
theorem dX10_many_8 : decode cX10_many 8 = .ok (.ireturn, 1) := by decide +kernel
theorem dX10_many_9 : decode cX10_many 9 = .ok (.aload_n 0, 1) := by decide +kernel
theorem dX10_many_10 : decode cX10_many 10 = .ok (.invokevirtual 303, 3) := by decide +kernel
theorem dX10_many_13 : decode cX10_many 13 = .ok (.ifCond .ne 6, 3) := by decide +kernel
theorem dX10_many_16 : decode cX10_many 16 = .ok (.bipush (-3), 2) := by decide +kernel
theorem dX10_many_18 : decode cX10_many 18 = .ok (.ireturn, 1) := by decide +kernel
theorem dX10_many_19 : decode cX10_many 19 = .ok (.aload_n 0, 1) := by decide +kernel
theorem dX10_many_20 : decode cX10_many 20 = .ok (.getfield 45, 3) := by decide +kernel
theorem dX10_many_23 : decode cX10_many 23 = .ok (.aload_n 0, 1) := by decide +kernel
theorem dX10_many_24 : decode cX10_many 24 = .ok (.getfield 19, 3) := by decide +kernel
theorem dX10_many_27 : decode cX10_many 27 = .ok (.getfield 309, 3) := by decide +kernel
theorem dX10_many_30 : decode cX10_many 30 = .ok (.aload_n 0, 1) := by decide +kernel
theorem dX10_many_31 : decode cX10_many 31 = .ok (.getfield 27, 3) := by decide +kernel
theorem dX10_many_34 : decode cX10_many 34 = .ok (.getfield 92, 3) := by decide +kernel
theorem dX10_many_37 : decode cX10_many 37 = .ok (.aload_n 0, 1) := by decide +kernel
theorem dX10_many_38 : decode cX10_many 38 = .ok (.getfield 52, 3) := by decide +kernel
theorem dX10_many_41 : decode cX10_many 41 = .ok (.getfield 293, 3) := by decide +kernel
theorem dX10_many_44 : decode cX10_many 44 = .ok (.invokestatic 234, 3) := by decide +kernel
theorem dX10_many_47 : decode cX10_many 47 = .ok (.invokevirtual 247, 3) := by decide +kernel
theorem dX10_many_50 : decode cX10_many 50 = .ok (.iconst 0, 1) := by decide +kernel
theorem dX10_many_51 : decode cX10_many 51 = .ok (.ireturn, 1) := by decide +kernel
theorem dX10_spare_0 : decode cX10_spare 0 = .ok (.aload_n 0, 1) := by decide +kernel
theorem dX10_spare_1 : decode cX10_spare 1 = .ok (.invokevirtual 299, 3) := by decide +kernel
theorem dX10_spare_4 : decode cX10_spare 4 = .ok (.ifCond .eq 5, 3) := by decide +kernel
theorem dX10_spare_7 : decode cX10_spare 7 = .ok (.iconst (-1), 1) := by decide +kernel
theorem dX10_spare_8 : decode cX10_spare 8 = .ok (.ireturn, 1) := by decide +kernel
theorem dX10_spare_9 : decode cX10_spare 9 = .ok (.aload_n 0, 1) := by decide +kernel
theorem dX10_spare_10 : decode cX10_spare 10 = .ok (.iconst 2, 1) := by decide +kernel
theorem dX10_spare_11 : decode cX10_spare 11 = .ok (.iconst 0, 1) := by decide +kernel
theorem dX10_spare_12 : decode cX10_spare 12 = .ok (.aload_n 0, 1) := by decide +kernel
theorem dX10_spare_13 : decode cX10_spare 13 = .ok (.getfield 52, 3) := by decide +kernel
theorem dX10_spare_16 : decode cX10_spare 16 = .ok (.getfield 293, 3) := by decide +kernel
theorem dX10_spare_19 : decode cX10_spare 19 = .ok (.invokevirtual 273, 3) := by decide +kernel
theorem dX10_spare_22 : decode cX10_spare 22 = .ok (.ireturn, 1) := by decide +kernel
theorem dX10_like_0 : decode cX10_like 0 = .ok (.aload_n 0, 1) := by decide +kernel
theorem dX10_like_1 : decode cX10_like 1 = .ok (.getfield 27, 3) := by decide +kernel
theorem dX10_like_4 : decode cX10_like 4 = .ok (.getfield 92, 3) := by decide +kernel
theorem dX10_like_7 : decode cX10_like 7 = .ok (.istore_n 3, 1) := by decide +kernel
theorem dX10_like_8 : decode cX10_like 8 = .ok (.iload_n 1, 1) := by decide +kernel
theorem dX10_like_9 : decode cX10_like 9 = .ok (.ifCond .lt 17, 3) := by decide +kernel
theorem dX10_like_12 : decode cX10_like 12 = .ok (.iload_n 1, 1) := by decide +kernel
theorem dX10_like_13 : decode cX10_like 13 = .ok (.iload_n 3, 1) := by decide +kernel
theorem dX10_like_14 : decode cX10_like 14 = .ok (.if_icmp .ge 12, 3) := by decide +kernel
theorem dX10_like_17 : decode cX10_like 17 = .ok (.iload_n 2, 1) := by decide +kernel
theorem dX10_like_18 : decode cX10_like 18 = .ok (.ifCond .lt 8, 3) := by decide +kernel
theorem dX10_like_21 : decode cX10_like 21 = .ok (.iload_n 2, 1) := by decide +kernel
theorem dX10_like_22 : decode cX10_like 22 = .ok (.iload_n 3, 1) := by decide +kernel
theorem dX10_like_23 : decode cX10_like 23 = .ok (.if_icmp .lt 5, 3) := by decide +kernel
theorem dX10_like_26 : decode cX10_like 26 = .ok (.iconst (-1), 1) := by decide +kernel
theorem dX10_like_27 : decode cX10_like 27 = .ok (.ireturn, 1) := by decide +kernel
theorem dX10_like_28 : decode cX10_like 28 = .ok (.aload_n 0, 1) := by decide +kernel
theorem dX10_like_29 : decode cX10_like 29 = .ok (.aload_n 0, 1) := by decide +kernel
theorem dX10_like_30 : decode cX10_like 30 = .ok (.getfield 27, 3) := by decide +kernel
theorem dX10_like_33 : decode cX10_like 33 = .ok (.getfield 101, 3) := by decide +kernel
theorem dX10_like_36 : decode cX10_like 36 = .ok (.iload_n 1, 1) := by decide +kernel
theorem dX10_like_37 : decode cX10_like 37 = .ok (.aaload, 1) := by decide +kernel
theorem dX10_like_38 : decode cX10_like 38 = .ok (.aload_n 0, 1) := by decide +kernel
theorem dX10_like_39 : decode cX10_like 39 = .ok (.getfield 27, 3) := by decide +kernel
theorem dX10_like_42 : decode cX10_like 42 = .ok (.getfield 101, 3) := by decide +kernel
theorem dX10_like_45 : decode cX10_like 45 = .ok (.iload_n 2, 1) := by decide +kernel
theorem dX10_like_46 : decode cX10_like 46 = .ok (.aaload, 1) := by decide +kernel
theorem dX10_like_47 : decode cX10_like 47 = .ok (.invokevirtual 313, 3) := by decide +kernel
theorem dX10_like_50 : decode cX10_like 50 = .ok (.ifCond .eq 7, 3) := by decide +kernel
theorem dX10_like_53 : decode cX10_like 53 = .ok (.iconst 1, 1) := by decide +kernel
theorem dX10_like_54 : decode cX10_like 54 = .ok (.goto 4, 3) := by decide +kernel
theorem dX10_like_57 : decode cX10_like 57 = .ok (.iconst 0, 1) := by decide +kernel
theorem dX10_like_58 : decode cX10_like 58 = .ok (.ireturn, 1) := by decide +kernel
theorem dX10_given_0 : decode cX10_given 0 = .ok (.iload_n 1, 1) := by decide +kernel
theorem dX10_given_1 : decode cX10_given 1 = .ok (.invokestatic 317, 3) := by decide +kernel
theorem dX10_given_4 : decode cX10_given 4 = .ok (.ifCond .eq 24, 3) := by decide +kernel
theorem dX10_given_7 : decode cX10_given 7 = .ok (.iload_n 2, 1) := by decide +kernel
theorem dX10_given_8 : decode cX10_given 8 = .ok (.ifCond .lt 20, 3) := by decide +kernel
theorem dX10_given_11 : decode cX10_given 11 = .ok (.iload_n 2, 1) := by decide +kernel
theorem dX10_given_12 : decode cX10_given 12 = .ok (.bipush 99, 2) := by decide +kernel
theorem dX10_given_14 : decode cX10_given 14 = .ok (.if_icmp .gt 14, 3) := by decide +kernel
theorem dX10_given_17 : decode cX10_given 17 = .ok (.iload_n 3, 1) := by decide +kernel
theorem dX10_given_18 : decode cX10_given 18 = .ok (.ifCond .lt 10, 3) := by decide +kernel
theorem dX10_given_21 : decode cX10_given 21 = .ok (.iload_n 3, 1) := by decide +kernel
theorem dX10_given_22 : decode cX10_given 22 = .ok (.sipush 255, 3) := by decide +kernel
theorem dX10_given_25 : decode cX10_given 25 = .ok (.if_icmp .le 5, 3) := by decide +kernel
theorem dX10_given_28 : decode cX10_given 28 = .ok (.iconst (-1), 1) := by decide +kernel
theorem dX10_given_29 : decode cX10_given 29 = .ok (.ireturn, 1) := by decide +kernel
theorem dX10_given_30 : decode cX10_given 30 = .ok (.aload_n 0, 1) := by decide +kernel
theorem dX10_given_31 : decode cX10_given 31 = .ok (.getfield 59, 3) := by decide +kernel
theorem dX10_given_34 : decode cX10_given 34 = .ok (.iload_n 1, 1) := by decide +kernel
theorem dX10_given_35 : decode cX10_given 35 = .ok (.iload_n 2, 1) := by decide +kernel
theorem dX10_given_36 : decode cX10_given 36 = .ok (.iload_n 3, 1) := by decide +kernel
theorem dX10_given_37 : decode cX10_given 37 = .ok (.invokevirtual 320, 3) := by decide +kernel
theorem dX10_given_40 : decode cX10_given 40 = .ok (.ireturn, 1) := by decide +kernel
theorem dX10_letter_0 : decode cX10_letter 0 = .ok (.iload_n 1, 1) := by decide +kernel
theorem dX10_letter_1 : decode cX10_letter 1 = .ok (.invokestatic 317, 3) := by decide +kernel
theorem dX10_letter_4 : decode cX10_letter 4 = .ok (.ifCond .eq 15, 3) := by decide +kernel
theorem dX10_letter_7 : decode cX10_letter 7 = .ok (.iload_n 2, 1) := by decide +kernel
theorem dX10_letter_8 : decode cX10_letter 8 = .ok (.invokestatic 317, 3) := by decide +kernel
theorem dX10_letter_11 : decode cX10_letter 11 = .ok (.ifCond .eq 8, 3) := by decide +kernel
theorem dX10_letter_14 : decode cX10_letter 14 = .ok (.iload_n 1, 1) := by decide +kernel
theorem dX10_letter_15 : decode cX10_letter 15 = .ok (.iload_n 2, 1) := by decide +kernel
theorem dX10_letter_16 : decode cX10_letter 16 = .ok (.if_icmp .ne 5, 3) := by decide +kernel
theorem dX10_letter_19 : decode cX10_letter 19 = .ok (.iconst (-1), 1) := by decide +kernel
theorem dX10_letter_20 : decode cX10_letter 20 = .ok (.ireturn, 1) := by decide +kernel
theorem dX10_letter_21 : decode cX10_letter 21 = .ok (.iload_n 3, 1) := by decide +kernel
theorem dX10_letter_22 : decode cX10_letter 22 = .ok (.ifCond .lt 21, 3) := by decide +kernel
theorem dX10_letter_25 : decode cX10_letter 25 = .ok (.iload_n 3, 1) := by decide +kernel
theorem dX10_letter_26 : decode cX10_letter 26 = .ok (.bipush 99, 2) := by decide +kernel
theorem dX10_letter_28 : decode cX10_letter 28 = .ok (.if_icmp .gt 15, 3) := by decide +kernel
theorem dX10_letter_31 : decode cX10_letter 31 = .ok (.iload 4, 2) := by decide +kernel
theorem dX10_letter_33 : decode cX10_letter 33 = .ok (.ifCond .lt 10, 3) := by decide +kernel
theorem dX10_letter_36 : decode cX10_letter 36 = .ok (.iload 4, 2) := by decide +kernel
theorem dX10_letter_38 : decode cX10_letter 38 = .ok (.bipush 50, 2) := by decide +kernel
theorem dX10_letter_40 : decode cX10_letter 40 = .ok (.if_icmp .le 5, 3) := by decide +kernel
theorem dX10_letter_43 : decode cX10_letter 43 = .ok (.iconst (-1), 1) := by decide +kernel
theorem dX10_letter_44 : decode cX10_letter 44 = .ok (.ireturn, 1) := by decide +kernel
theorem dX10_letter_45 : decode cX10_letter 45 = .ok (.aload_n 0, 1) := by decide +kernel
theorem dX10_letter_46 : decode cX10_letter 46 = .ok (.getfield 59, 3) := by decide +kernel
theorem dX10_letter_49 : decode cX10_letter 49 = .ok (.iload_n 1, 1) := by decide +kernel
theorem dX10_letter_50 : decode cX10_letter 50 = .ok (.iload_n 2, 1) := by decide +kernel
theorem dX10_letter_51 : decode cX10_letter 51 = .ok (.iload_n 3, 1) := by decide +kernel
theorem dX10_letter_52 : decode cX10_letter 52 = .ok (.iload 4, 2) := by decide +kernel
theorem dX10_letter_54 : decode cX10_letter 54 = .ok (.invokevirtual 323, 3) := by decide +kernel
theorem dX10_letter_57 : decode cX10_letter 57 = .ok (.ireturn, 1) := by decide +kernel
theorem dX10_knew_0 : decode cX10_knew 0 = .ok (.iload_n 1, 1) := by decide +kernel
theorem dX10_knew_1 : decode cX10_knew 1 = .ok (.invokestatic 317, 3) := by decide +kernel
theorem dX10_knew_4 : decode cX10_knew 4 = .ok (.ifCond .eq 14, 3) := by decide +kernel
theorem dX10_knew_7 : decode cX10_knew 7 = .ok (.iload_n 2, 1) := by decide +kernel
theorem dX10_knew_8 : decode cX10_knew 8 = .ok (.ifCond .lt 10, 3) := by decide +kernel
theorem dX10_knew_11 : decode cX10_knew 11 = .ok (.iload_n 2, 1) := by decide +kernel
theorem dX10_knew_12 : decode cX10_knew 12 = .ok (.sipush 200, 3) := by decide +kernel
theorem dX10_knew_15 : decode cX10_knew 15 = .ok (.if_icmp .le 5, 3) := by decide +kernel
theorem dX10_knew_18 : decode cX10_knew 18 = .ok (.iconst (-1), 1) := by decide +kernel
theorem dX10_knew_19 : decode cX10_knew 19 = .ok (.ireturn, 1) := by decide +kernel
theorem dX10_knew_20 : decode cX10_knew 20 = .ok (.aload_n 0, 1) := by decide +kernel
theorem dX10_knew_21 : decode cX10_knew 21 = .ok (.getfield 59, 3) := by decide +kernel
theorem dX10_knew_24 : decode cX10_knew 24 = .ok (.iload_n 1, 1) := by decide +kernel
theorem dX10_knew_25 : decode cX10_knew 25 = .ok (.iload_n 2, 1) := by decide +kernel
theorem dX10_knew_26 : decode cX10_knew 26 = .ok (.invokevirtual 327, 3) := by decide +kernel
theorem dX10_knew_29 : decode cX10_knew 29 = .ok (.ireturn, 1) := by decide +kernel
theorem dX10_enough_0 : decode cX10_enough 0 = .ok (.iload_n 1, 1) := by decide +kernel
theorem dX10_enough_1 : decode cX10_enough 1 = .ok (.ifCond .lt 20, 3) := by decide +kernel
theorem dX10_enough_4 : decode cX10_enough 4 = .ok (.iload_n 1, 1) := by decide +kernel
theorem dX10_enough_5 : decode cX10_enough 5 = .ok (.sipush 255, 3) := by decide +kernel
theorem dX10_enough_8 : decode cX10_enough 8 = .ok (.if_icmp .gt 13, 3) := by decide +kernel
theorem dX10_enough_11 : decode cX10_enough 11 = .ok (.iload_n 2, 1) := by decide +kernel
theorem dX10_enough_12 : decode cX10_enough 12 = .ok (.ifCond .lt 9, 3) := by decide +kernel
theorem dX10_enough_15 : decode cX10_enough 15 = .ok (.iload_n 2, 1) := by decide +kernel
theorem dX10_enough_16 : decode cX10_enough 16 = .ok (.bipush 12, 2) := by decide +kernel
theorem dX10_enough_18 : decode cX10_enough 18 = .ok (.if_icmp .le 5, 3) := by decide +kernel
theorem dX10_enough_21 : decode cX10_enough 21 = .ok (.iconst (-1), 1) := by decide +kernel
theorem dX10_enough_22 : decode cX10_enough 22 = .ok (.ireturn, 1) := by decide +kernel
theorem dX10_enough_23 : decode cX10_enough 23 = .ok (.iconst 0, 1) := by decide +kernel
theorem dX10_enough_24 : decode cX10_enough 24 = .ok (.istore_n 3, 1) := by decide +kernel
theorem dX10_enough_25 : decode cX10_enough 25 = .ok (.iload_n 3, 1) := by decide +kernel
theorem dX10_enough_26 : decode cX10_enough 26 = .ok (.sipush 200, 3) := by decide +kernel
theorem dX10_enough_29 : decode cX10_enough 29 = .ok (.if_icmp .gt 59, 3) := by decide +kernel
theorem dX10_enough_32 : decode cX10_enough 32 = .ok (.iconst 0, 1) := by decide +kernel
theorem dX10_enough_33 : decode cX10_enough 33 = .ok (.istore 4, 2) := by decide +kernel
theorem dX10_enough_35 : decode cX10_enough 35 = .ok (.iload 4, 2) := by decide +kernel
theorem dX10_enough_37 : decode cX10_enough 37 = .ok (.bipush 6, 2) := by decide +kernel
theorem dX10_enough_39 : decode cX10_enough 39 = .ok (.if_icmp .ge 43, 3) := by decide +kernel
theorem dX10_enough_42 : decode cX10_enough 42 = .ok (.aload_n 0, 1) := by decide +kernel
theorem dX10_enough_43 : decode cX10_enough 43 = .ok (.getfield 59, 3) := by decide +kernel
theorem dX10_enough_46 : decode cX10_enough 46 = .ok (.aload_n 0, 1) := by decide +kernel
theorem dX10_enough_47 : decode cX10_enough 47 = .ok (.getfield 59, 3) := by decide +kernel
theorem dX10_enough_50 : decode cX10_enough 50 = .ok (.iload 4, 2) := by decide +kernel
theorem dX10_enough_52 : decode cX10_enough 52 = .ok (.iload_n 3, 1) := by decide +kernel
theorem dX10_enough_53 : decode cX10_enough 53 = .ok (.invokevirtual 327, 3) := by decide +kernel
theorem dX10_enough_56 : decode cX10_enough 56 = .ok (.iload_n 1, 1) := by decide +kernel
theorem dX10_enough_57 : decode cX10_enough 57 = .ok (.iload_n 2, 1) := by decide +kernel
theorem dX10_enough_58 : decode cX10_enough 58 = .ok (.invokevirtual 330, 3) := by decide +kernel
theorem dX10_enough_61 : decode cX10_enough 61 = .ok (.ifCond .eq 15, 3) := by decide +kernel
theorem dX10_enough_64 : decode cX10_enough 64 = .ok (.aload_n 0, 1) := by decide +kernel
theorem dX10_enough_65 : decode cX10_enough 65 = .ok (.getfield 45, 3) := by decide +kernel
theorem dX10_enough_68 : decode cX10_enough 68 = .ok (.iload 4, 2) := by decide +kernel
theorem dX10_enough_70 : decode cX10_enough 70 = .ok (.i2l, 1) := by decide +kernel
theorem dX10_enough_71 : decode cX10_enough 71 = .ok (.invokevirtual 190, 3) := by decide +kernel
theorem dX10_enough_74 : decode cX10_enough 74 = .ok (.iload_n 3, 1) := by decide +kernel
theorem dX10_enough_75 : decode cX10_enough 75 = .ok (.ireturn, 1) := by decide +kernel
theorem dX10_enough_76 : decode cX10_enough 76 = .ok (.iinc 4 1, 3) := by decide +kernel
theorem dX10_enough_79 : decode cX10_enough 79 = .ok (.goto (-44), 3) := by decide +kernel
theorem dX10_enough_82 : decode cX10_enough 82 = .ok (.iinc 3 1, 3) := by decide +kernel
theorem dX10_enough_85 : decode cX10_enough 85 = .ok (.goto (-60), 3) := by decide +kernel
theorem dX10_enough_88 : decode cX10_enough 88 = .ok (.bipush (-2), 2) := by decide +kernel
theorem dX10_enough_90 : decode cX10_enough 90 = .ok (.ireturn, 1) := by decide +kernel
theorem dX10_keep_0 : decode cX10_keep 0 = .ok (.iload_n 1, 1) := by decide +kernel
theorem dX10_keep_1 : decode cX10_keep 1 = .ok (.ifCond .lt 8, 3) := by decide +kernel
theorem dX10_keep_4 : decode cX10_keep 4 = .ok (.iload_n 1, 1) := by decide +kernel
theorem dX10_keep_5 : decode cX10_keep 5 = .ok (.iconst 3, 1) := by decide +kernel
theorem dX10_keep_6 : decode cX10_keep 6 = .ok (.if_icmp .lt 5, 3) := by decide +kernel
theorem dX10_keep_9 : decode cX10_keep 9 = .ok (.iconst 0, 1) := by decide +kernel
theorem dX10_keep_10 : decode cX10_keep 10 = .ok (.ireturn, 1) := by decide +kernel
theorem dX10_keep_11 : decode cX10_keep 11 = .ok (.aload_n 0, 1) := by decide +kernel
theorem dX10_keep_12 : decode cX10_keep 12 = .ok (.getfield 65, 3) := by decide +kernel
theorem dX10_keep_15 : decode cX10_keep 15 = .ok (.iload_n 1, 1) := by decide +kernel
theorem dX10_keep_16 : decode cX10_keep 16 = .ok (.aaload, 1) := by decide +kernel
theorem dX10_keep_17 : decode cX10_keep 17 = .ok (.aload_n 0, 1) := by decide +kernel
theorem dX10_keep_18 : decode cX10_keep 18 = .ok (.getfield 31, 3) := by decide +kernel
theorem dX10_keep_21 : decode cX10_keep 21 = .ok (.aload_n 0, 1) := by decide +kernel
theorem dX10_keep_22 : decode cX10_keep 22 = .ok (.getfield 27, 3) := by decide +kernel
theorem dX10_keep_25 : decode cX10_keep 25 = .ok (.invokevirtual 334, 3) := by decide +kernel
theorem dX10_keep_28 : decode cX10_keep 28 = .ok (.iconst 1, 1) := by decide +kernel
theorem dX10_keep_29 : decode cX10_keep 29 = .ok (.ireturn, 1) := by decide +kernel
theorem dX10_again_0 : decode cX10_again 0 = .ok (.iload_n 1, 1) := by decide +kernel
theorem dX10_again_1 : decode cX10_again 1 = .ok (.ifCond .lt 20, 3) := by decide +kernel
theorem dX10_again_4 : decode cX10_again 4 = .ok (.iload_n 1, 1) := by decide +kernel
theorem dX10_again_5 : decode cX10_again 5 = .ok (.iconst 3, 1) := by decide +kernel
theorem dX10_again_6 : decode cX10_again 6 = .ok (.if_icmp .ge 15, 3) := by decide +kernel
theorem dX10_again_9 : decode cX10_again 9 = .ok (.aload_n 0, 1) := by decide +kernel
theorem dX10_again_10 : decode cX10_again 10 = .ok (.getfield 65, 3) := by decide +kernel
theorem dX10_again_13 : decode cX10_again 13 = .ok (.iload_n 1, 1) := by decide +kernel
theorem dX10_again_14 : decode cX10_again 14 = .ok (.aaload, 1) := by decide +kernel
theorem dX10_again_15 : decode cX10_again 15 = .ok (.getfield 338, 3) := by decide +kernel
theorem dX10_again_18 : decode cX10_again 18 = .ok (.ifCond .ne 5, 3) := by decide +kernel
theorem dX10_again_21 : decode cX10_again 21 = .ok (.iconst 0, 1) := by decide +kernel
theorem dX10_again_22 : decode cX10_again 22 = .ok (.ireturn, 1) := by decide +kernel
theorem dX10_again_23 : decode cX10_again 23 = .ok (.aload_n 0, 1) := by decide +kernel
theorem dX10_again_24 : decode cX10_again 24 = .ok (.getfield 65, 3) := by decide +kernel
theorem dX10_again_27 : decode cX10_again 27 = .ok (.iload_n 1, 1) := by decide +kernel
theorem dX10_again_28 : decode cX10_again 28 = .ok (.aaload, 1) := by decide +kernel
theorem dX10_again_29 : decode cX10_again 29 = .ok (.aload_n 0, 1) := by decide +kernel
theorem dX10_again_30 : decode cX10_again 30 = .ok (.getfield 31, 3) := by decide +kernel
theorem dX10_again_33 : decode cX10_again 33 = .ok (.aload_n 0, 1) := by decide +kernel
theorem dX10_again_34 : decode cX10_again 34 = .ok (.getfield 27, 3) := by decide +kernel
theorem dX10_again_37 : decode cX10_again 37 = .ok (.invokevirtual 342, 3) := by decide +kernel
theorem dX10_again_40 : decode cX10_again 40 = .ok (.iconst 1, 1) := by decide +kernel
theorem dX10_again_41 : decode cX10_again 41 = .ok (.ireturn, 1) := by decide +kernel
theorem dX10_count_0 : decode cX10_count 0 = .ok (.iload_n 1, 1) := by decide +kernel
theorem dX10_count_1 : decode cX10_count 1 = .ok (.tableswitch 192 0 14 #[75, 83, 91, 99, 107, 115, 123, 131, 139, 147, 155, 160, 168, 176, 184], 75) := by decide +kernel
theorem dX10_count_76 : decode cX10_count 76 = .ok (.aload_n 0, 1) := by decide +kernel
theorem dX10_count_77 : decode cX10_count 77 = .ok (.getfield 27, 3) := by decide +kernel
theorem dX10_count_80 : decode cX10_count 80 = .ok (.getfield 92, 3) := by decide +kernel
theorem dX10_count_83 : decode cX10_count 83 = .ok (.ireturn, 1) := by decide +kernel
theorem dX10_count_84 : decode cX10_count 84 = .ok (.aload_n 0, 1) := by decide +kernel
theorem dX10_count_85 : decode cX10_count 85 = .ok (.getfield 27, 3) := by decide +kernel
theorem dX10_count_88 : decode cX10_count 88 = .ok (.getfield 150, 3) := by decide +kernel
theorem dX10_count_91 : decode cX10_count 91 = .ok (.ireturn, 1) := by decide +kernel
theorem dX10_count_92 : decode cX10_count 92 = .ok (.aload_n 0, 1) := by decide +kernel
theorem dX10_count_93 : decode cX10_count 93 = .ok (.getfield 27, 3) := by decide +kernel
theorem dX10_count_96 : decode cX10_count 96 = .ok (.getfield 132, 3) := by decide +kernel
theorem dX10_count_99 : decode cX10_count 99 = .ok (.ireturn, 1) := by decide +kernel
theorem dX10_count_100 : decode cX10_count 100 = .ok (.aload_n 0, 1) := by decide +kernel
theorem dX10_count_101 : decode cX10_count 101 = .ok (.getfield 27, 3) := by decide +kernel
theorem dX10_count_104 : decode cX10_count 104 = .ok (.getfield 138, 3) := by decide +kernel
theorem dX10_count_107 : decode cX10_count 107 = .ok (.ireturn, 1) := by decide +kernel
theorem dX10_count_108 : decode cX10_count 108 = .ok (.aload_n 0, 1) := by decide +kernel
theorem dX10_count_109 : decode cX10_count 109 = .ok (.getfield 27, 3) := by decide +kernel
theorem dX10_count_112 : decode cX10_count 112 = .ok (.getfield 277, 3) := by decide +kernel
theorem dX10_count_115 : decode cX10_count 115 = .ok (.ireturn, 1) := by decide +kernel
theorem dX10_count_116 : decode cX10_count 116 = .ok (.aload_n 0, 1) := by decide +kernel
theorem dX10_count_117 : decode cX10_count 117 = .ok (.getfield 52, 3) := by decide +kernel
theorem dX10_count_120 : decode cX10_count 120 = .ok (.getfield 293, 3) := by decide +kernel
theorem dX10_count_123 : decode cX10_count 123 = .ok (.ireturn, 1) := by decide +kernel
theorem dX10_count_124 : decode cX10_count 124 = .ok (.aload_n 0, 1) := by decide +kernel
theorem dX10_count_125 : decode cX10_count 125 = .ok (.getfield 59, 3) := by decide +kernel
theorem dX10_count_128 : decode cX10_count 128 = .ok (.getfield 345, 3) := by decide +kernel
theorem dX10_count_131 : decode cX10_count 131 = .ok (.ireturn, 1) := by decide +kernel
theorem dX10_count_132 : decode cX10_count 132 = .ok (.aload_n 0, 1) := by decide +kernel
theorem dX10_count_133 : decode cX10_count 133 = .ok (.getfield 59, 3) := by decide +kernel
theorem dX10_count_136 : decode cX10_count 136 = .ok (.getfield 348, 3) := by decide +kernel
theorem dX10_count_139 : decode cX10_count 139 = .ok (.ireturn, 1) := by decide +kernel
theorem dX10_count_140 : decode cX10_count 140 = .ok (.aload_n 0, 1) := by decide +kernel
theorem dX10_count_141 : decode cX10_count 141 = .ok (.getfield 45, 3) := by decide +kernel
theorem dX10_count_144 : decode cX10_count 144 = .ok (.getfield 231, 3) := by decide +kernel
theorem dX10_count_147 : decode cX10_count 147 = .ok (.ireturn, 1) := by decide +kernel
theorem dX10_count_148 : decode cX10_count 148 = .ok (.aload_n 0, 1) := by decide +kernel
theorem dX10_count_149 : decode cX10_count 149 = .ok (.getfield 10, 3) := by decide +kernel
theorem dX10_count_152 : decode cX10_count 152 = .ok (.getfield 81, 3) := by decide +kernel
theorem dX10_count_155 : decode cX10_count 155 = .ok (.ireturn, 1) := by decide +kernel
theorem dX10_count_156 : decode cX10_count 156 = .ok (.aload_n 0, 1) := by decide +kernel
theorem dX10_count_157 : decode cX10_count 157 = .ok (.getfield 76, 3) := by decide +kernel
theorem dX10_count_160 : decode cX10_count 160 = .ok (.ireturn, 1) := by decide +kernel
theorem dX10_count_161 : decode cX10_count 161 = .ok (.aload_n 0, 1) := by decide +kernel
theorem dX10_count_162 : decode cX10_count 162 = .ok (.getfield 31, 3) := by decide +kernel
theorem dX10_count_165 : decode cX10_count 165 = .ok (.getfield 156, 3) := by decide +kernel
theorem dX10_count_168 : decode cX10_count 168 = .ok (.ireturn, 1) := by decide +kernel
theorem dX10_count_169 : decode cX10_count 169 = .ok (.aload_n 0, 1) := by decide +kernel
theorem dX10_count_170 : decode cX10_count 170 = .ok (.getfield 31, 3) := by decide +kernel
theorem dX10_count_173 : decode cX10_count 173 = .ok (.getfield 159, 3) := by decide +kernel
theorem dX10_count_176 : decode cX10_count 176 = .ok (.ireturn, 1) := by decide +kernel
theorem dX10_count_177 : decode cX10_count 177 = .ok (.aload_n 0, 1) := by decide +kernel
theorem dX10_count_178 : decode cX10_count 178 = .ok (.getfield 31, 3) := by decide +kernel
theorem dX10_count_181 : decode cX10_count 181 = .ok (.getfield 162, 3) := by decide +kernel
theorem dX10_count_184 : decode cX10_count 184 = .ok (.ireturn, 1) := by decide +kernel
theorem dX10_count_185 : decode cX10_count 185 = .ok (.aload_n 0, 1) := by decide +kernel
theorem dX10_count_186 : decode cX10_count 186 = .ok (.getfield 31, 3) := by decide +kernel
theorem dX10_count_189 : decode cX10_count 189 = .ok (.getfield 351, 3) := by decide +kernel
theorem dX10_count_192 : decode cX10_count 192 = .ok (.ireturn, 1) := by decide +kernel
theorem dX10_count_193 : decode cX10_count 193 = .ok (.iconst (-1), 1) := by decide +kernel
theorem dX10_count_194 : decode cX10_count 194 = .ok (.ireturn, 1) := by decide +kernel
theorem dX10_row_0 : decode cX10_row 0 = .ok (.iload_n 1, 1) := by decide +kernel
theorem dX10_row_1 : decode cX10_row 1 = .ok (.ifCond .lt 14, 3) := by decide +kernel
theorem dX10_row_4 : decode cX10_row 4 = .ok (.iload_n 1, 1) := by decide +kernel
theorem dX10_row_5 : decode cX10_row 5 = .ok (.aload_n 0, 1) := by decide +kernel
theorem dX10_row_6 : decode cX10_row 6 = .ok (.getfield 45, 3) := by decide +kernel
theorem dX10_row_9 : decode cX10_row 9 = .ok (.getfield 231, 3) := by decide +kernel
theorem dX10_row_12 : decode cX10_row 12 = .ok (.if_icmp .lt 11, 3) := by decide +kernel
theorem dX10_row_15 : decode cX10_row 15 = .ok (.new 168, 3) := by decide +kernel
theorem dX10_row_18 : decode cX10_row 18 = .ok (.dup, 1) := by decide +kernel
theorem dX10_row_19 : decode cX10_row 19 = .ok (.invokespecial 170, 3) := by decide +kernel
theorem dX10_row_22 : decode cX10_row 22 = .ok (.athrow, 1) := by decide +kernel
theorem dX10_row_23 : decode cX10_row 23 = .ok (.aload_n 0, 1) := by decide +kernel
theorem dX10_row_24 : decode cX10_row 24 = .ok (.getfield 45, 3) := by decide +kernel
theorem dX10_row_27 : decode cX10_row 27 = .ok (.getfield 354, 3) := by decide +kernel
theorem dX10_row_30 : decode cX10_row 30 = .ok (.iload_n 1, 1) := by decide +kernel
theorem dX10_row_31 : decode cX10_row 31 = .ok (.laload, 1) := by decide +kernel
theorem dX10_row_32 : decode cX10_row 32 = .ok (.lreturn, 1) := by decide +kernel
theorem dX10_takeText_0 : decode cX10_takeText 0 = .ok (.aload_n 0, 1) := by decide +kernel
theorem dX10_takeText_1 : decode cX10_takeText 1 = .ok (.getfield 10, 3) := by decide +kernel
theorem dX10_takeText_4 : decode cX10_takeText 4 = .ok (.getfield 81, 3) := by decide +kernel
theorem dX10_takeText_7 : decode cX10_takeText 7 = .ok (.istore_n 1, 1) := by decide +kernel
theorem dX10_takeText_8 : decode cX10_takeText 8 = .ok (.aload_n 0, 1) := by decide +kernel
theorem dX10_takeText_9 : decode cX10_takeText 9 = .ok (.getfield 10, 3) := by decide +kernel
theorem dX10_takeText_12 : decode cX10_takeText 12 = .ok (.iconst 0, 1) := by decide +kernel
theorem dX10_takeText_13 : decode cX10_takeText 13 = .ok (.putfield 81, 3) := by decide +kernel
theorem dX10_takeText_16 : decode cX10_takeText 16 = .ok (.iload_n 1, 1) := by decide +kernel
theorem dX10_takeText_17 : decode cX10_takeText 17 = .ok (.ireturn, 1) := by decide +kernel
theorem dX10_refusesRuns_0 : decode cX10_refusesRuns 0 = .ok (.iload_n 1, 1) := by decide +kernel
theorem dX10_refusesRuns_1 : decode cX10_refusesRuns 1 = .ok (.ifCond .lt 19, 3) := by decide +kernel
theorem dX10_refusesRuns_4 : decode cX10_refusesRuns 4 = .ok (.iload_n 1, 1) := by decide +kernel
theorem dX10_refusesRuns_5 : decode cX10_refusesRuns 5 = .ok (.bipush 20, 2) := by decide +kernel
theorem dX10_refusesRuns_7 : decode cX10_refusesRuns 7 = .ok (.if_icmp .gt 13, 3) := by decide +kernel
theorem dX10_refusesRuns_10 : decode cX10_refusesRuns 10 = .ok (.aload_n 0, 1) := by decide +kernel
theorem dX10_refusesRuns_11 : decode cX10_refusesRuns 11 = .ok (.getfield 27, 3) := by decide +kernel
theorem dX10_refusesRuns_14 : decode cX10_refusesRuns 14 = .ok (.getfield 92, 3) := by decide +kernel
theorem dX10_refusesRuns_17 : decode cX10_refusesRuns 17 = .ok (.ifCond .ne 7, 3) := by decide +kernel
theorem dX10_refusesRuns_20 : decode cX10_refusesRuns 20 = .ok (.iconst 1, 1) := by decide +kernel
theorem dX10_refusesRuns_21 : decode cX10_refusesRuns 21 = .ok (.goto 4, 3) := by decide +kernel
theorem dX10_refusesRuns_24 : decode cX10_refusesRuns 24 = .ok (.iconst 0, 1) := by decide +kernel
theorem dX10_refusesRuns_25 : decode cX10_refusesRuns 25 = .ok (.ireturn, 1) := by decide +kernel
theorem dX10_refusesTyping_0 : decode cX10_refusesTyping 0 = .ok (.aload_n 0, 1) := by decide +kernel
theorem dX10_refusesTyping_1 : decode cX10_refusesTyping 1 = .ok (.getfield 27, 3) := by decide +kernel
theorem dX10_refusesTyping_4 : decode cX10_refusesTyping 4 = .ok (.getfield 92, 3) := by decide +kernel
theorem dX10_refusesTyping_7 : decode cX10_refusesTyping 7 = .ok (.ifCond .eq 13, 3) := by decide +kernel
theorem dX10_refusesTyping_10 : decode cX10_refusesTyping 10 = .ok (.aload_n 0, 1) := by decide +kernel
theorem dX10_refusesTyping_11 : decode cX10_refusesTyping 11 = .ok (.getfield 52, 3) := by decide +kernel
theorem dX10_refusesTyping_14 : decode cX10_refusesTyping 14 = .ok (.getfield 293, 3) := by decide +kernel
theorem dX10_refusesTyping_17 : decode cX10_refusesTyping 17 = .ok (.ifCond .ne 7, 3) := by decide +kernel
theorem dX10_refusesTyping_20 : decode cX10_refusesTyping 20 = .ok (.iconst 1, 1) := by decide +kernel
theorem dX10_refusesTyping_21 : decode cX10_refusesTyping 21 = .ok (.goto 4, 3) := by decide +kernel
theorem dX10_refusesTyping_24 : decode cX10_refusesTyping 24 = .ok (.iconst 0, 1) := by decide +kernel
theorem dX10_refusesTyping_25 : decode cX10_refusesTyping 25 = .ok (.ireturn, 1) := by decide +kernel
theorem dX10_explored_0 : decode cX10_explored 0 = .ok (.aload_n 0, 1) := by decide +kernel
theorem dX10_explored_1 : decode cX10_explored 1 = .ok (.getfield 19, 3) := by decide +kernel
theorem dX10_explored_4 : decode cX10_explored 4 = .ok (.aload_n 0, 1) := by decide +kernel
theorem dX10_explored_5 : decode cX10_explored 5 = .ok (.getfield 31, 3) := by decide +kernel
theorem dX10_explored_8 : decode cX10_explored 8 = .ok (.iload_n 1, 1) := by decide +kernel
theorem dX10_explored_9 : decode cX10_explored 9 = .ok (.sipush 4000, 3) := by decide +kernel
theorem dX10_explored_12 : decode cX10_explored 12 = .ok (.iconst 0, 1) := by decide +kernel
theorem dX10_explored_13 : decode cX10_explored 13 = .ok (.iconst 0, 1) := by decide +kernel
theorem dX10_explored_14 : decode cX10_explored 14 = .ok (.invokevirtual 213, 3) := by decide +kernel
theorem dX10_explored_17 : decode cX10_explored 17 = .ok (.ireturn, 1) := by decide +kernel
theorem dX10_followed_0 : decode cX10_followed 0 = .ok (.aload_n 0, 1) := by decide +kernel
theorem dX10_followed_1 : decode cX10_followed 1 = .ok (.getfield 52, 3) := by decide +kernel
theorem dX10_followed_4 : decode cX10_followed 4 = .ok (.iconst 0, 1) := by decide +kernel
theorem dX10_followed_5 : decode cX10_followed 5 = .ok (.aload_n 0, 1) := by decide +kernel
theorem dX10_followed_6 : decode cX10_followed 6 = .ok (.getfield 27, 3) := by decide +kernel
theorem dX10_followed_9 : decode cX10_followed 9 = .ok (.getfield 150, 3) := by decide +kernel
theorem dX10_followed_12 : decode cX10_followed 12 = .ok (.invokevirtual 358, 3) := by decide +kernel
theorem dX10_followed_15 : decode cX10_followed 15 = .ok (.aload_n 0, 1) := by decide +kernel
theorem dX10_followed_16 : decode cX10_followed 16 = .ok (.getfield 19, 3) := by decide +kernel
theorem dX10_followed_19 : decode cX10_followed 19 = .ok (.aload_n 0, 1) := by decide +kernel
theorem dX10_followed_20 : decode cX10_followed 20 = .ok (.getfield 31, 3) := by decide +kernel
theorem dX10_followed_23 : decode cX10_followed 23 = .ok (.aload_n 0, 1) := by decide +kernel
theorem dX10_followed_24 : decode cX10_followed 24 = .ok (.getfield 52, 3) := by decide +kernel
theorem dX10_followed_27 : decode cX10_followed 27 = .ok (.getfield 361, 3) := by decide +kernel
theorem dX10_followed_30 : decode cX10_followed 30 = .ok (.aload_n 0, 1) := by decide +kernel
theorem dX10_followed_31 : decode cX10_followed 31 = .ok (.getfield 52, 3) := by decide +kernel
theorem dX10_followed_34 : decode cX10_followed 34 = .ok (.getfield 293, 3) := by decide +kernel
theorem dX10_followed_37 : decode cX10_followed 37 = .ok (.invokevirtual 364, 3) := by decide +kernel
theorem dX10_followed_40 : decode cX10_followed 40 = .ok (.ireturn, 1) := by decide +kernel
theorem dX10_forgetKept_0 : decode cX10_forgetKept 0 = .ok (.iconst 0, 1) := by decide +kernel
theorem dX10_forgetKept_1 : decode cX10_forgetKept 1 = .ok (.istore_n 1, 1) := by decide +kernel
theorem dX10_forgetKept_2 : decode cX10_forgetKept 2 = .ok (.iload_n 1, 1) := by decide +kernel
theorem dX10_forgetKept_3 : decode cX10_forgetKept 3 = .ok (.iconst 3, 1) := by decide +kernel
theorem dX10_forgetKept_4 : decode cX10_forgetKept 4 = .ok (.if_icmp .ge 19, 3) := by decide +kernel
theorem dX10_forgetKept_7 : decode cX10_forgetKept 7 = .ok (.aload_n 0, 1) := by decide +kernel
theorem dX10_forgetKept_8 : decode cX10_forgetKept 8 = .ok (.getfield 65, 3) := by decide +kernel
theorem dX10_forgetKept_11 : decode cX10_forgetKept 11 = .ok (.iload_n 1, 1) := by decide +kernel
theorem dX10_forgetKept_12 : decode cX10_forgetKept 12 = .ok (.aaload, 1) := by decide +kernel
theorem dX10_forgetKept_13 : decode cX10_forgetKept 13 = .ok (.iconst 0, 1) := by decide +kernel
theorem dX10_forgetKept_14 : decode cX10_forgetKept 14 = .ok (.putfield 338, 3) := by decide +kernel
theorem dX10_forgetKept_17 : decode cX10_forgetKept 17 = .ok (.iinc 1 1, 3) := by decide +kernel
theorem dX10_forgetKept_20 : decode cX10_forgetKept 20 = .ok (.goto (-18), 3) := by decide +kernel
theorem dX10_forgetKept_23 : decode cX10_forgetKept 23 = .ok (.return_, 1) := by decide +kernel
theorem dX10_stepByHand_0 : decode cX10_stepByHand 0 = .ok (.aload_n 0, 1) := by decide +kernel
theorem dX10_stepByHand_1 : decode cX10_stepByHand 1 = .ok (.getfield 27, 3) := by decide +kernel
theorem dX10_stepByHand_4 : decode cX10_stepByHand 4 = .ok (.aload_n 0, 1) := by decide +kernel
theorem dX10_stepByHand_5 : decode cX10_stepByHand 5 = .ok (.getfield 31, 3) := by decide +kernel
theorem dX10_stepByHand_8 : decode cX10_stepByHand 8 = .ok (.iload_n 1, 1) := by decide +kernel
theorem dX10_stepByHand_9 : decode cX10_stepByHand 9 = .ok (.iload_n 2, 1) := by decide +kernel
theorem dX10_stepByHand_10 : decode cX10_stepByHand 10 = .ok (.invokevirtual 368, 3) := by decide +kernel
theorem dX10_stepByHand_13 : decode cX10_stepByHand 13 = .ok (.aload_n 0, 1) := by decide +kernel
theorem dX10_stepByHand_14 : decode cX10_stepByHand 14 = .ok (.dup, 1) := by decide +kernel
theorem dX10_stepByHand_15 : decode cX10_stepByHand 15 = .ok (.getfield 76, 3) := by decide +kernel
theorem dX10_stepByHand_18 : decode cX10_stepByHand 18 = .ok (.iconst 1, 1) := by decide +kernel
theorem dX10_stepByHand_19 : decode cX10_stepByHand 19 = .ok (.iadd, 1) := by decide +kernel
theorem dX10_stepByHand_20 : decode cX10_stepByHand 20 = .ok (.putfield 76, 3) := by decide +kernel
theorem dX10_stepByHand_23 : decode cX10_stepByHand 23 = .ok (.return_, 1) := by decide +kernel
theorem dX10_narrowed_0 : decode cX10_narrowed 0 = .ok (.iload_n 0, 1) := by decide +kernel
theorem dX10_narrowed_1 : decode cX10_narrowed 1 = .ok (.ifCond .ne 6, 3) := by decide +kernel
theorem dX10_narrowed_4 : decode cX10_narrowed 4 = .ok (.iload_n 1, 1) := by decide +kernel
theorem dX10_narrowed_5 : decode cX10_narrowed 5 = .ok (.i2b, 1) := by decide +kernel
theorem dX10_narrowed_6 : decode cX10_narrowed 6 = .ok (.ireturn, 1) := by decide +kernel
theorem dX10_narrowed_7 : decode cX10_narrowed 7 = .ok (.iload_n 0, 1) := by decide +kernel
theorem dX10_narrowed_8 : decode cX10_narrowed 8 = .ok (.iconst 1, 1) := by decide +kernel
theorem dX10_narrowed_9 : decode cX10_narrowed 9 = .ok (.if_icmp .ne 8, 3) := by decide +kernel
theorem dX10_narrowed_12 : decode cX10_narrowed 12 = .ok (.iload_n 1, 1) := by decide +kernel
theorem dX10_narrowed_13 : decode cX10_narrowed 13 = .ok (.i2s, 1) := by decide +kernel
theorem dX10_narrowed_14 : decode cX10_narrowed 14 = .ok (.goto 4, 3) := by decide +kernel
theorem dX10_narrowed_17 : decode cX10_narrowed 17 = .ok (.iload_n 1, 1) := by decide +kernel
theorem dX10_narrowed_18 : decode cX10_narrowed 18 = .ok (.ireturn, 1) := by decide +kernel
theorem dX10_tellStepsTo_0 : decode cX10_tellStepsTo 0 = .ok (.iload_n 1, 1) := by decide +kernel
theorem dX10_tellStepsTo_1 : decode cX10_tellStepsTo 1 = .ok (.ifCond .ge 6, 3) := by decide +kernel
theorem dX10_tellStepsTo_4 : decode cX10_tellStepsTo 4 = .ok (.bipush (-2), 2) := by decide +kernel
theorem dX10_tellStepsTo_6 : decode cX10_tellStepsTo 6 = .ok (.ireturn, 1) := by decide +kernel
theorem dX10_tellStepsTo_7 : decode cX10_tellStepsTo 7 = .ok (.aload_n 0, 1) := by decide +kernel
theorem dX10_tellStepsTo_8 : decode cX10_tellStepsTo 8 = .ok (.getfield 19, 3) := by decide +kernel
theorem dX10_tellStepsTo_11 : decode cX10_tellStepsTo 11 = .ok (.iload_n 1, 1) := by decide +kernel
theorem dX10_tellStepsTo_12 : decode cX10_tellStepsTo 12 = .ok (.aload_n 0, 1) := by decide +kernel
theorem dX10_tellStepsTo_13 : decode cX10_tellStepsTo 13 = .ok (.getfield 45, 3) := by decide +kernel
theorem dX10_tellStepsTo_16 : decode cX10_tellStepsTo 16 = .ok (.invokevirtual 227, 3) := by decide +kernel
theorem dX10_tellStepsTo_19 : decode cX10_tellStepsTo 19 = .ok (.aload_n 0, 1) := by decide +kernel
theorem dX10_tellStepsTo_20 : decode cX10_tellStepsTo 20 = .ok (.getfield 45, 3) := by decide +kernel
theorem dX10_tellStepsTo_23 : decode cX10_tellStepsTo 23 = .ok (.getfield 231, 3) := by decide +kernel
theorem dX10_tellStepsTo_26 : decode cX10_tellStepsTo 26 = .ok (.ireturn, 1) := by decide +kernel
theorem dX10_tellBreakingNumbers_0 : decode cX10_tellBreakingNumbers 0 = .ok (.iconst 0, 1) := by decide +kernel
theorem dX10_tellBreakingNumbers_1 : decode cX10_tellBreakingNumbers 1 = .ok (.istore_n 1, 1) := by decide +kernel
theorem dX10_tellBreakingNumbers_2 : decode cX10_tellBreakingNumbers 2 = .ok (.aload_n 0, 1) := by decide +kernel
theorem dX10_tellBreakingNumbers_3 : decode cX10_tellBreakingNumbers 3 = .ok (.getfield 45, 3) := by decide +kernel
theorem dX10_tellBreakingNumbers_6 : decode cX10_tellBreakingNumbers 6 = .ok (.invokevirtual 217, 3) := by decide +kernel
theorem dX10_tellBreakingNumbers_9 : decode cX10_tellBreakingNumbers 9 = .ok (.iconst 0, 1) := by decide +kernel
theorem dX10_tellBreakingNumbers_10 : decode cX10_tellBreakingNumbers 10 = .ok (.istore_n 2, 1) := by decide +kernel
theorem dX10_tellBreakingNumbers_11 : decode cX10_tellBreakingNumbers 11 = .ok (.iload_n 2, 1) := by decide +kernel
theorem dX10_tellBreakingNumbers_12 : decode cX10_tellBreakingNumbers 12 = .ok (.sipush 256, 3) := by decide +kernel
theorem dX10_tellBreakingNumbers_15 : decode cX10_tellBreakingNumbers 15 = .ok (.if_icmp .ge 30, 3) := by decide +kernel
theorem dX10_tellBreakingNumbers_18 : decode cX10_tellBreakingNumbers 18 = .ok (.aload_n 0, 1) := by decide +kernel
theorem dX10_tellBreakingNumbers_19 : decode cX10_tellBreakingNumbers 19 = .ok (.getfield 38, 3) := by decide +kernel
theorem dX10_tellBreakingNumbers_22 : decode cX10_tellBreakingNumbers 22 = .ok (.iload_n 2, 1) := by decide +kernel
theorem dX10_tellBreakingNumbers_23 : decode cX10_tellBreakingNumbers 23 = .ok (.baload, 1) := by decide +kernel
theorem dX10_tellBreakingNumbers_24 : decode cX10_tellBreakingNumbers 24 = .ok (.ifCond .eq 15, 3) := by decide +kernel
theorem dX10_tellBreakingNumbers_27 : decode cX10_tellBreakingNumbers 27 = .ok (.iinc 1 1, 3) := by decide +kernel
theorem dX10_tellBreakingNumbers_30 : decode cX10_tellBreakingNumbers 30 = .ok (.aload_n 0, 1) := by decide +kernel
theorem dX10_tellBreakingNumbers_31 : decode cX10_tellBreakingNumbers 31 = .ok (.getfield 45, 3) := by decide +kernel
theorem dX10_tellBreakingNumbers_34 : decode cX10_tellBreakingNumbers 34 = .ok (.iload_n 2, 1) := by decide +kernel
theorem dX10_tellBreakingNumbers_35 : decode cX10_tellBreakingNumbers 35 = .ok (.i2l, 1) := by decide +kernel
theorem dX10_tellBreakingNumbers_36 : decode cX10_tellBreakingNumbers 36 = .ok (.invokevirtual 372, 3) := by decide +kernel
theorem dX10_tellBreakingNumbers_39 : decode cX10_tellBreakingNumbers 39 = .ok (.iinc 2 1, 3) := by decide +kernel
theorem dX10_tellBreakingNumbers_42 : decode cX10_tellBreakingNumbers 42 = .ok (.goto (-31), 3) := by decide +kernel
theorem dX10_tellBreakingNumbers_45 : decode cX10_tellBreakingNumbers 45 = .ok (.iload_n 1, 1) := by decide +kernel
theorem dX10_tellBreakingNumbers_46 : decode cX10_tellBreakingNumbers 46 = .ok (.ireturn, 1) := by decide +kernel
theorem dX10_fewest_0 : decode cX10_fewest 0 = .ok (.iconst 1, 1) := by decide +kernel
theorem dX10_fewest_1 : decode cX10_fewest 1 = .ok (.iload_n 3, 1) := by decide +kernel
theorem dX10_fewest_2 : decode cX10_fewest 2 = .ok (.ishl, 1) := by decide +kernel
theorem dX10_fewest_3 : decode cX10_fewest 3 = .ok (.istore 4, 2) := by decide +kernel
theorem dX10_fewest_5 : decode cX10_fewest 5 = .ok (.iload_n 1, 1) := by decide +kernel
theorem dX10_fewest_6 : decode cX10_fewest 6 = .ok (.iconst 2, 1) := by decide +kernel
theorem dX10_fewest_7 : decode cX10_fewest 7 = .ok (.if_icmp .ne 13, 3) := by decide +kernel
theorem dX10_fewest_10 : decode cX10_fewest 10 = .ok (.aload_n 0, 1) := by decide +kernel
theorem dX10_fewest_11 : decode cX10_fewest 11 = .ok (.getfield 52, 3) := by decide +kernel
theorem dX10_fewest_14 : decode cX10_fewest 14 = .ok (.invokevirtual 375, 3) := by decide +kernel
theorem dX10_fewest_17 : decode cX10_fewest 17 = .ok (.goto 7, 3) := by decide +kernel
theorem dX10_fewest_20 : decode cX10_fewest 20 = .ok (.iload 4, 2) := by decide +kernel
theorem dX10_fewest_22 : decode cX10_fewest 22 = .ok (.iconst 1, 1) := by decide +kernel
theorem dX10_fewest_23 : decode cX10_fewest 23 = .ok (.isub, 1) := by decide +kernel
theorem dX10_fewest_24 : decode cX10_fewest 24 = .ok (.istore 5, 2) := by decide +kernel
theorem dX10_fewest_26 : decode cX10_fewest 26 = .ok (.iconst 0, 1) := by decide +kernel
theorem dX10_fewest_27 : decode cX10_fewest 27 = .ok (.istore 6, 2) := by decide +kernel
theorem dX10_fewest_29 : decode cX10_fewest 29 = .ok (.iload 6, 2) := by decide +kernel
theorem dX10_fewest_31 : decode cX10_fewest 31 = .ok (.iload_n 3, 1) := by decide +kernel
theorem dX10_fewest_32 : decode cX10_fewest 32 = .ok (.if_icmp .gt 138, 3) := by decide +kernel
theorem dX10_fewest_35 : decode cX10_fewest 35 = .ok (.iconst 0, 1) := by decide +kernel
theorem dX10_fewest_36 : decode cX10_fewest 36 = .ok (.istore 7, 2) := by decide +kernel
theorem dX10_fewest_38 : decode cX10_fewest 38 = .ok (.iload 7, 2) := by decide +kernel
theorem dX10_fewest_40 : decode cX10_fewest 40 = .ok (.iload 4, 2) := by decide +kernel
theorem dX10_fewest_42 : decode cX10_fewest 42 = .ok (.if_icmp .ge 122, 3) := by decide +kernel
theorem dX10_fewest_45 : decode cX10_fewest 45 = .ok (.iload 7, 2) := by decide +kernel
theorem dX10_fewest_47 : decode cX10_fewest 47 = .ok (.invokestatic 378, 3) := by decide +kernel
theorem dX10_fewest_50 : decode cX10_fewest 50 = .ok (.iload 6, 2) := by decide +kernel
theorem dX10_fewest_52 : decode cX10_fewest 52 = .ok (.if_icmp .ne 106, 3) := by decide +kernel
theorem dX10_fewest_55 : decode cX10_fewest 55 = .ok (.iload 7, 2) := by decide +kernel
theorem dX10_fewest_57 : decode cX10_fewest 57 = .ok (.iload 5, 2) := by decide +kernel
theorem dX10_fewest_59 : decode cX10_fewest 59 = .ok (.iconst (-1), 1) := by decide +kernel
theorem dX10_fewest_60 : decode cX10_fewest 60 = .ok (.ixor, 1) := by decide +kernel
theorem dX10_fewest_61 : decode cX10_fewest 61 = .ok (.iand, 1) := by decide +kernel
theorem dX10_fewest_62 : decode cX10_fewest 62 = .ok (.ifCond .eq 6, 3) := by decide +kernel
theorem dX10_fewest_65 : decode cX10_fewest 65 = .ok (.goto 93, 3) := by decide +kernel
theorem dX10_fewest_68 : decode cX10_fewest 68 = .ok (.aload_n 0, 1) := by decide +kernel
theorem dX10_fewest_69 : decode cX10_fewest 69 = .ok (.iload_n 1, 1) := by decide +kernel
theorem dX10_fewest_70 : decode cX10_fewest 70 = .ok (.iload 7, 2) := by decide +kernel
theorem dX10_fewest_72 : decode cX10_fewest 72 = .ok (.invokevirtual 383, 3) := by decide +kernel
theorem dX10_fewest_75 : decode cX10_fewest 75 = .ok (.iload_n 1, 1) := by decide +kernel
theorem dX10_fewest_76 : decode cX10_fewest 76 = .ok (.iconst 2, 1) := by decide +kernel
theorem dX10_fewest_77 : decode cX10_fewest 77 = .ok (.if_icmp .ne 31, 3) := by decide +kernel
theorem dX10_fewest_80 : decode cX10_fewest 80 = .ok (.aload_n 0, 1) := by decide +kernel
theorem dX10_fewest_81 : decode cX10_fewest 81 = .ok (.getfield 19, 3) := by decide +kernel
theorem dX10_fewest_84 : decode cX10_fewest 84 = .ok (.aload_n 0, 1) := by decide +kernel
theorem dX10_fewest_85 : decode cX10_fewest 85 = .ok (.getfield 31, 3) := by decide +kernel
theorem dX10_fewest_88 : decode cX10_fewest 88 = .ok (.aload_n 0, 1) := by decide +kernel
theorem dX10_fewest_89 : decode cX10_fewest 89 = .ok (.getfield 52, 3) := by decide +kernel
theorem dX10_fewest_92 : decode cX10_fewest 92 = .ok (.getfield 361, 3) := by decide +kernel
theorem dX10_fewest_95 : decode cX10_fewest 95 = .ok (.aload_n 0, 1) := by decide +kernel
theorem dX10_fewest_96 : decode cX10_fewest 96 = .ok (.getfield 52, 3) := by decide +kernel
theorem dX10_fewest_99 : decode cX10_fewest 99 = .ok (.getfield 293, 3) := by decide +kernel
theorem dX10_fewest_102 : decode cX10_fewest 102 = .ok (.invokevirtual 364, 3) := by decide +kernel
theorem dX10_fewest_105 : decode cX10_fewest 105 = .ok (.goto 20, 3) := by decide +kernel
theorem dX10_fewest_108 : decode cX10_fewest 108 = .ok (.aload_n 0, 1) := by decide +kernel
theorem dX10_fewest_109 : decode cX10_fewest 109 = .ok (.getfield 19, 3) := by decide +kernel
theorem dX10_fewest_112 : decode cX10_fewest 112 = .ok (.aload_n 0, 1) := by decide +kernel
theorem dX10_fewest_113 : decode cX10_fewest 113 = .ok (.getfield 31, 3) := by decide +kernel
theorem dX10_fewest_116 : decode cX10_fewest 116 = .ok (.iload_n 2, 1) := by decide +kernel
theorem dX10_fewest_117 : decode cX10_fewest 117 = .ok (.sipush 4000, 3) := by decide +kernel
theorem dX10_fewest_120 : decode cX10_fewest 120 = .ok (.iconst 0, 1) := by decide +kernel
theorem dX10_fewest_121 : decode cX10_fewest 121 = .ok (.iconst 0, 1) := by decide +kernel
theorem dX10_fewest_122 : decode cX10_fewest 122 = .ok (.invokevirtual 213, 3) := by decide +kernel
theorem dX10_fewest_125 : decode cX10_fewest 125 = .ok (.istore 8, 2) := by decide +kernel
theorem dX10_fewest_127 : decode cX10_fewest 127 = .ok (.iload 8, 2) := by decide +kernel
theorem dX10_fewest_129 : decode cX10_fewest 129 = .ok (.ifCond .ne 6, 3) := by decide +kernel
theorem dX10_fewest_132 : decode cX10_fewest 132 = .ok (.bipush (-3), 2) := by decide +kernel
theorem dX10_fewest_134 : decode cX10_fewest 134 = .ok (.ireturn, 1) := by decide +kernel
theorem dX10_fewest_135 : decode cX10_fewest 135 = .ok (.aload_n 0, 1) := by decide +kernel
theorem dX10_fewest_136 : decode cX10_fewest 136 = .ok (.getfield 19, 3) := by decide +kernel
theorem dX10_fewest_139 : decode cX10_fewest 139 = .ok (.getfield 204, 3) := by decide +kernel
theorem dX10_fewest_142 : decode cX10_fewest 142 = .ok (.ifCond .ge 16, 3) := by decide +kernel
theorem dX10_fewest_145 : decode cX10_fewest 145 = .ok (.aload_n 0, 1) := by decide +kernel
theorem dX10_fewest_146 : decode cX10_fewest 146 = .ok (.getfield 45, 3) := by decide +kernel
theorem dX10_fewest_149 : decode cX10_fewest 149 = .ok (.iload 7, 2) := by decide +kernel
theorem dX10_fewest_151 : decode cX10_fewest 151 = .ok (.i2l, 1) := by decide +kernel
theorem dX10_fewest_152 : decode cX10_fewest 152 = .ok (.invokevirtual 190, 3) := by decide +kernel
theorem dX10_fewest_155 : decode cX10_fewest 155 = .ok (.iload 6, 2) := by decide +kernel
theorem dX10_fewest_157 : decode cX10_fewest 157 = .ok (.ireturn, 1) := by decide +kernel
theorem dX10_fewest_158 : decode cX10_fewest 158 = .ok (.iinc 7 1, 3) := by decide +kernel
theorem dX10_fewest_161 : decode cX10_fewest 161 = .ok (.goto (-123), 3) := by decide +kernel
theorem dX10_fewest_164 : decode cX10_fewest 164 = .ok (.iinc 6 1, 3) := by decide +kernel
theorem dX10_fewest_167 : decode cX10_fewest 167 = .ok (.goto (-138), 3) := by decide +kernel
theorem dX10_fewest_170 : decode cX10_fewest 170 = .ok (.bipush (-2), 2) := by decide +kernel
theorem dX10_fewest_172 : decode cX10_fewest 172 = .ok (.ireturn, 1) := by decide +kernel
theorem dX10_useSet_0 : decode cX10_useSet 0 = .ok (.iload_n 1, 1) := by decide +kernel
theorem dX10_useSet_1 : decode cX10_useSet 1 = .ok (.ifCond .ne 14, 3) := by decide +kernel
theorem dX10_useSet_4 : decode cX10_useSet 4 = .ok (.aload_n 0, 1) := by decide +kernel
theorem dX10_useSet_5 : decode cX10_useSet 5 = .ok (.getfield 27, 3) := by decide +kernel
theorem dX10_useSet_8 : decode cX10_useSet 8 = .ok (.iload_n 2, 1) := by decide +kernel
theorem dX10_useSet_9 : decode cX10_useSet 9 = .ok (.putfield 138, 3) := by decide +kernel
theorem dX10_useSet_12 : decode cX10_useSet 12 = .ok (.goto 34, 3) := by decide +kernel
theorem dX10_useSet_15 : decode cX10_useSet 15 = .ok (.iload_n 1, 1) := by decide +kernel
theorem dX10_useSet_16 : decode cX10_useSet 16 = .ok (.iconst 1, 1) := by decide +kernel
theorem dX10_useSet_17 : decode cX10_useSet 17 = .ok (.if_icmp .ne 14, 3) := by decide +kernel
theorem dX10_useSet_20 : decode cX10_useSet 20 = .ok (.aload_n 0, 1) := by decide +kernel
theorem dX10_useSet_21 : decode cX10_useSet 21 = .ok (.getfield 27, 3) := by decide +kernel
theorem dX10_useSet_24 : decode cX10_useSet 24 = .ok (.iload_n 2, 1) := by decide +kernel
theorem dX10_useSet_25 : decode cX10_useSet 25 = .ok (.invokevirtual 289, 3) := by decide +kernel
theorem dX10_useSet_28 : decode cX10_useSet 28 = .ok (.goto 18, 3) := by decide +kernel
theorem dX10_useSet_31 : decode cX10_useSet 31 = .ok (.aload_n 0, 1) := by decide +kernel
theorem dX10_useSet_32 : decode cX10_useSet 32 = .ok (.getfield 52, 3) := by decide +kernel
theorem dX10_useSet_35 : decode cX10_useSet 35 = .ok (.iload_n 2, 1) := by decide +kernel
theorem dX10_useSet_36 : decode cX10_useSet 36 = .ok (.aload_n 0, 1) := by decide +kernel
theorem dX10_useSet_37 : decode cX10_useSet 37 = .ok (.getfield 27, 3) := by decide +kernel
theorem dX10_useSet_40 : decode cX10_useSet 40 = .ok (.getfield 150, 3) := by decide +kernel
theorem dX10_useSet_43 : decode cX10_useSet 43 = .ok (.invokevirtual 358, 3) := by decide +kernel
theorem dX10_useSet_46 : decode cX10_useSet 46 = .ok (.return_, 1) := by decide +kernel
theorem dX10_weightsOf_0 : decode cX10_weightsOf 0 = .ok (.iload_n 1, 1) := by decide +kernel
theorem dX10_weightsOf_1 : decode cX10_weightsOf 1 = .ok (.ifCond .ne 10, 3) := by decide +kernel
theorem dX10_weightsOf_4 : decode cX10_weightsOf 4 = .ok (.aload_n 0, 1) := by decide +kernel
theorem dX10_weightsOf_5 : decode cX10_weightsOf 5 = .ok (.getfield 69, 3) := by decide +kernel
theorem dX10_weightsOf_8 : decode cX10_weightsOf 8 = .ok (.goto 7, 3) := by decide +kernel
theorem dX10_weightsOf_11 : decode cX10_weightsOf 11 = .ok (.aload_n 0, 1) := by decide +kernel
theorem dX10_weightsOf_12 : decode cX10_weightsOf 12 = .ok (.getfield 73, 3) := by decide +kernel
theorem dX10_weightsOf_15 : decode cX10_weightsOf 15 = .ok (.areturn, 1) := by decide +kernel
theorem dX10_weightOfAll_0 : decode cX10_weightOfAll 0 = .ok (.aload_n 0, 1) := by decide +kernel
theorem dX10_weightOfAll_1 : decode cX10_weightOfAll 1 = .ok (.iload_n 1, 1) := by decide +kernel
theorem dX10_weightOfAll_2 : decode cX10_weightOfAll 2 = .ok (.invokevirtual 251, 3) := by decide +kernel
theorem dX10_weightOfAll_5 : decode cX10_weightOfAll 5 = .ok (.astore_n 3, 1) := by decide +kernel
theorem dX10_weightOfAll_6 : decode cX10_weightOfAll 6 = .ok (.iconst 0, 1) := by decide +kernel
theorem dX10_weightOfAll_7 : decode cX10_weightOfAll 7 = .ok (.istore 4, 2) := by decide +kernel
theorem dX10_weightOfAll_9 : decode cX10_weightOfAll 9 = .ok (.iconst 0, 1) := by decide +kernel
theorem dX10_weightOfAll_10 : decode cX10_weightOfAll 10 = .ok (.istore 5, 2) := by decide +kernel
theorem dX10_weightOfAll_12 : decode cX10_weightOfAll 12 = .ok (.iload 5, 2) := by decide +kernel
theorem dX10_weightOfAll_14 : decode cX10_weightOfAll 14 = .ok (.aload_n 0, 1) := by decide +kernel
theorem dX10_weightOfAll_15 : decode cX10_weightOfAll 15 = .ok (.getfield 27, 3) := by decide +kernel
theorem dX10_weightOfAll_18 : decode cX10_weightOfAll 18 = .ok (.getfield 150, 3) := by decide +kernel
theorem dX10_weightOfAll_21 : decode cX10_weightOfAll 21 = .ok (.if_icmp .gt 18, 3) := by decide +kernel
theorem dX10_weightOfAll_24 : decode cX10_weightOfAll 24 = .ok (.iload 4, 2) := by decide +kernel
theorem dX10_weightOfAll_26 : decode cX10_weightOfAll 26 = .ok (.aload_n 3, 1) := by decide +kernel
theorem dX10_weightOfAll_27 : decode cX10_weightOfAll 27 = .ok (.iload 5, 2) := by decide +kernel
theorem dX10_weightOfAll_29 : decode cX10_weightOfAll 29 = .ok (.iaload, 1) := by decide +kernel
theorem dX10_weightOfAll_30 : decode cX10_weightOfAll 30 = .ok (.iadd, 1) := by decide +kernel
theorem dX10_weightOfAll_31 : decode cX10_weightOfAll 31 = .ok (.istore 4, 2) := by decide +kernel
theorem dX10_weightOfAll_33 : decode cX10_weightOfAll 33 = .ok (.iinc 5 1, 3) := by decide +kernel
theorem dX10_weightOfAll_36 : decode cX10_weightOfAll 36 = .ok (.goto (-24), 3) := by decide +kernel
theorem dX10_weightOfAll_39 : decode cX10_weightOfAll 39 = .ok (.iload 4, 2) := by decide +kernel
theorem dX10_weightOfAll_41 : decode cX10_weightOfAll 41 = .ok (.ifCond .ne 7, 3) := by decide +kernel
theorem dX10_weightOfAll_44 : decode cX10_weightOfAll 44 = .ok (.lconst 0, 1) := by decide +kernel
theorem dX10_weightOfAll_45 : decode cX10_weightOfAll 45 = .ok (.goto 17, 3) := by decide +kernel
theorem dX10_weightOfAll_48 : decode cX10_weightOfAll 48 = .ok (.aload_n 0, 1) := by decide +kernel
theorem dX10_weightOfAll_49 : decode cX10_weightOfAll 49 = .ok (.getfield 27, 3) := by decide +kernel
theorem dX10_weightOfAll_52 : decode cX10_weightOfAll 52 = .ok (.getfield 92, 3) := by decide +kernel
theorem dX10_weightOfAll_55 : decode cX10_weightOfAll 55 = .ok (.iload 4, 2) := by decide +kernel
theorem dX10_weightOfAll_57 : decode cX10_weightOfAll 57 = .ok (.imul, 1) := by decide +kernel
theorem dX10_weightOfAll_58 : decode cX10_weightOfAll 58 = .ok (.iload_n 2, 1) := by decide +kernel
theorem dX10_weightOfAll_59 : decode cX10_weightOfAll 59 = .ok (.invokestatic 234, 3) := by decide +kernel
theorem dX10_weightOfAll_62 : decode cX10_weightOfAll 62 = .ok (.lreturn, 1) := by decide +kernel
theorem dX10_power_0 : decode cX10_power 0 = .ok (.lconst 1, 1) := by decide +kernel
theorem dX10_power_1 : decode cX10_power 1 = .ok (.lstore_n 2, 1) := by decide +kernel
theorem dX10_power_2 : decode cX10_power 2 = .ok (.iconst 0, 1) := by decide +kernel
theorem dX10_power_3 : decode cX10_power 3 = .ok (.istore 4, 2) := by decide +kernel
theorem dX10_power_5 : decode cX10_power 5 = .ok (.iload 4, 2) := by decide +kernel
theorem dX10_power_7 : decode cX10_power 7 = .ok (.iload_n 1, 1) := by decide +kernel
theorem dX10_power_8 : decode cX10_power 8 = .ok (.if_icmp .ge 22, 3) := by decide +kernel
theorem dX10_power_11 : decode cX10_power 11 = .ok (.lload_n 2, 1) := by decide +kernel
theorem dX10_power_12 : decode cX10_power 12 = .ok (.ldc2_w 238, 3) := by decide +kernel
theorem dX10_power_15 : decode cX10_power 15 = .ok (.lcmp, 1) := by decide +kernel
theorem dX10_power_16 : decode cX10_power 16 = .ok (.ifCond .gt 14, 3) := by decide +kernel
theorem dX10_power_19 : decode cX10_power 19 = .ok (.lload_n 2, 1) := by decide +kernel
theorem dX10_power_20 : decode cX10_power 20 = .ok (.iload_n 0, 1) := by decide +kernel
theorem dX10_power_21 : decode cX10_power 21 = .ok (.i2l, 1) := by decide +kernel
theorem dX10_power_22 : decode cX10_power 22 = .ok (.lmul, 1) := by decide +kernel
theorem dX10_power_23 : decode cX10_power 23 = .ok (.lstore_n 2, 1) := by decide +kernel
theorem dX10_power_24 : decode cX10_power 24 = .ok (.iinc 4 1, 3) := by decide +kernel
theorem dX10_power_27 : decode cX10_power 27 = .ok (.goto (-22), 3) := by decide +kernel
theorem dX10_power_30 : decode cX10_power 30 = .ok (.lload_n 2, 1) := by decide +kernel
theorem dX10_power_31 : decode cX10_power 31 = .ok (.lreturn, 1) := by decide +kernel
theorem dX10_commonDivisor_0 : decode cX10_commonDivisor 0 = .ok (.lload_n 0, 1) := by decide +kernel
theorem dX10_commonDivisor_1 : decode cX10_commonDivisor 1 = .ok (.lstore 4, 2) := by decide +kernel
theorem dX10_commonDivisor_3 : decode cX10_commonDivisor 3 = .ok (.lload_n 2, 1) := by decide +kernel
theorem dX10_commonDivisor_4 : decode cX10_commonDivisor 4 = .ok (.lstore 6, 2) := by decide +kernel
theorem dX10_commonDivisor_6 : decode cX10_commonDivisor 6 = .ok (.iconst 0, 1) := by decide +kernel
theorem dX10_commonDivisor_7 : decode cX10_commonDivisor 7 = .ok (.istore 8, 2) := by decide +kernel
theorem dX10_commonDivisor_9 : decode cX10_commonDivisor 9 = .ok (.iload 8, 2) := by decide +kernel
theorem dX10_commonDivisor_11 : decode cX10_commonDivisor 11 = .ok (.sipush 200, 3) := by decide +kernel
theorem dX10_commonDivisor_14 : decode cX10_commonDivisor 14 = .ok (.if_icmp .ge 31, 3) := by decide +kernel
theorem dX10_commonDivisor_17 : decode cX10_commonDivisor 17 = .ok (.lload 6, 2) := by decide +kernel
theorem dX10_commonDivisor_19 : decode cX10_commonDivisor 19 = .ok (.lconst 0, 1) := by decide +kernel
theorem dX10_commonDivisor_20 : decode cX10_commonDivisor 20 = .ok (.lcmp, 1) := by decide +kernel
theorem dX10_commonDivisor_21 : decode cX10_commonDivisor 21 = .ok (.ifCond .eq 24, 3) := by decide +kernel
theorem dX10_commonDivisor_24 : decode cX10_commonDivisor 24 = .ok (.lload 4, 2) := by decide +kernel
theorem dX10_commonDivisor_26 : decode cX10_commonDivisor 26 = .ok (.lload 6, 2) := by decide +kernel
theorem dX10_commonDivisor_28 : decode cX10_commonDivisor 28 = .ok (.lrem, 1) := by decide +kernel
theorem dX10_commonDivisor_29 : decode cX10_commonDivisor 29 = .ok (.lstore 9, 2) := by decide +kernel
theorem dX10_commonDivisor_31 : decode cX10_commonDivisor 31 = .ok (.lload 6, 2) := by decide +kernel
theorem dX10_commonDivisor_33 : decode cX10_commonDivisor 33 = .ok (.lstore 4, 2) := by decide +kernel
theorem dX10_commonDivisor_35 : decode cX10_commonDivisor 35 = .ok (.lload 9, 2) := by decide +kernel
theorem dX10_commonDivisor_37 : decode cX10_commonDivisor 37 = .ok (.lstore 6, 2) := by decide +kernel
theorem dX10_commonDivisor_39 : decode cX10_commonDivisor 39 = .ok (.iinc 8 1, 3) := by decide +kernel
theorem dX10_commonDivisor_42 : decode cX10_commonDivisor 42 = .ok (.goto (-33), 3) := by decide +kernel
theorem dX10_commonDivisor_45 : decode cX10_commonDivisor 45 = .ok (.lload 4, 2) := by decide +kernel
theorem dX10_commonDivisor_47 : decode cX10_commonDivisor 47 = .ok (.lconst 0, 1) := by decide +kernel
theorem dX10_commonDivisor_48 : decode cX10_commonDivisor 48 = .ok (.lcmp, 1) := by decide +kernel
theorem dX10_commonDivisor_49 : decode cX10_commonDivisor 49 = .ok (.ifCond .ne 7, 3) := by decide +kernel
theorem dX10_commonDivisor_52 : decode cX10_commonDivisor 52 = .ok (.lconst 1, 1) := by decide +kernel
theorem dX10_commonDivisor_53 : decode cX10_commonDivisor 53 = .ok (.goto 5, 3) := by decide +kernel
theorem dX10_commonDivisor_56 : decode cX10_commonDivisor 56 = .ok (.lload 4, 2) := by decide +kernel
theorem dX10_commonDivisor_58 : decode cX10_commonDivisor 58 = .ok (.lreturn, 1) := by decide +kernel
theorem dX10_comparedFractions_0 : decode cX10_comparedFractions 0 = .ok (.iconst 1, 1) := by decide +kernel
theorem dX10_comparedFractions_1 : decode cX10_comparedFractions 1 = .ok (.istore 8, 2) := by decide +kernel
theorem dX10_comparedFractions_3 : decode cX10_comparedFractions 3 = .ok (.iconst 0, 1) := by decide +kernel
theorem dX10_comparedFractions_4 : decode cX10_comparedFractions 4 = .ok (.istore 9, 2) := by decide +kernel
theorem dX10_comparedFractions_6 : decode cX10_comparedFractions 6 = .ok (.iload 9, 2) := by decide +kernel
theorem dX10_comparedFractions_8 : decode cX10_comparedFractions 8 = .ok (.sipush 200, 3) := by decide +kernel
theorem dX10_comparedFractions_11 : decode cX10_comparedFractions 11 = .ok (.if_icmp .ge 89, 3) := by decide +kernel
theorem dX10_comparedFractions_14 : decode cX10_comparedFractions 14 = .ok (.lload_n 2, 1) := by decide +kernel
theorem dX10_comparedFractions_15 : decode cX10_comparedFractions 15 = .ok (.lconst 0, 1) := by decide +kernel
theorem dX10_comparedFractions_16 : decode cX10_comparedFractions 16 = .ok (.lcmp, 1) := by decide +kernel
theorem dX10_comparedFractions_17 : decode cX10_comparedFractions 17 = .ok (.ifCond .eq 83, 3) := by decide +kernel
theorem dX10_comparedFractions_20 : decode cX10_comparedFractions 20 = .ok (.lload 6, 2) := by decide +kernel
theorem dX10_comparedFractions_22 : decode cX10_comparedFractions 22 = .ok (.lconst 0, 1) := by decide +kernel
theorem dX10_comparedFractions_23 : decode cX10_comparedFractions 23 = .ok (.lcmp, 1) := by decide +kernel
theorem dX10_comparedFractions_24 : decode cX10_comparedFractions 24 = .ok (.ifCond .eq 76, 3) := by decide +kernel
theorem dX10_comparedFractions_27 : decode cX10_comparedFractions 27 = .ok (.lload_n 0, 1) := by decide +kernel
theorem dX10_comparedFractions_28 : decode cX10_comparedFractions 28 = .ok (.lload_n 2, 1) := by decide +kernel
theorem dX10_comparedFractions_29 : decode cX10_comparedFractions 29 = .ok (.ldiv, 1) := by decide +kernel
theorem dX10_comparedFractions_30 : decode cX10_comparedFractions 30 = .ok (.lstore 10, 2) := by decide +kernel
theorem dX10_comparedFractions_32 : decode cX10_comparedFractions 32 = .ok (.lload 4, 2) := by decide +kernel
theorem dX10_comparedFractions_34 : decode cX10_comparedFractions 34 = .ok (.lload 6, 2) := by decide +kernel
theorem dX10_comparedFractions_36 : decode cX10_comparedFractions 36 = .ok (.ldiv, 1) := by decide +kernel
theorem dX10_comparedFractions_37 : decode cX10_comparedFractions 37 = .ok (.lstore 12, 2) := by decide +kernel
theorem dX10_comparedFractions_39 : decode cX10_comparedFractions 39 = .ok (.lload 10, 2) := by decide +kernel
theorem dX10_comparedFractions_41 : decode cX10_comparedFractions 41 = .ok (.lload 12, 2) := by decide +kernel
theorem dX10_comparedFractions_43 : decode cX10_comparedFractions 43 = .ok (.lcmp, 1) := by decide +kernel
theorem dX10_comparedFractions_44 : decode cX10_comparedFractions 44 = .ok (.ifCond .eq 20, 3) := by decide +kernel
theorem dX10_comparedFractions_47 : decode cX10_comparedFractions 47 = .ok (.lload 10, 2) := by decide +kernel
theorem dX10_comparedFractions_49 : decode cX10_comparedFractions 49 = .ok (.lload 12, 2) := by decide +kernel
theorem dX10_comparedFractions_51 : decode cX10_comparedFractions 51 = .ok (.lcmp, 1) := by decide +kernel
theorem dX10_comparedFractions_52 : decode cX10_comparedFractions 52 = .ok (.ifCond .ge 9, 3) := by decide +kernel
theorem dX10_comparedFractions_55 : decode cX10_comparedFractions 55 = .ok (.iload 8, 2) := by decide +kernel
theorem dX10_comparedFractions_57 : decode cX10_comparedFractions 57 = .ok (.ineg, 1) := by decide +kernel
theorem dX10_comparedFractions_58 : decode cX10_comparedFractions 58 = .ok (.goto 5, 3) := by decide +kernel
theorem dX10_comparedFractions_61 : decode cX10_comparedFractions 61 = .ok (.iload 8, 2) := by decide +kernel
theorem dX10_comparedFractions_63 : decode cX10_comparedFractions 63 = .ok (.ireturn, 1) := by decide +kernel
theorem dX10_comparedFractions_64 : decode cX10_comparedFractions 64 = .ok (.lload_n 0, 1) := by decide +kernel
theorem dX10_comparedFractions_65 : decode cX10_comparedFractions 65 = .ok (.lload_n 2, 1) := by decide +kernel
theorem dX10_comparedFractions_66 : decode cX10_comparedFractions 66 = .ok (.lrem, 1) := by decide +kernel
theorem dX10_comparedFractions_67 : decode cX10_comparedFractions 67 = .ok (.lstore 14, 2) := by decide +kernel
theorem dX10_comparedFractions_69 : decode cX10_comparedFractions 69 = .ok (.lload 4, 2) := by decide +kernel
theorem dX10_comparedFractions_71 : decode cX10_comparedFractions 71 = .ok (.lload 6, 2) := by decide +kernel
theorem dX10_comparedFractions_73 : decode cX10_comparedFractions 73 = .ok (.lrem, 1) := by decide +kernel
theorem dX10_comparedFractions_74 : decode cX10_comparedFractions 74 = .ok (.lstore 16, 2) := by decide +kernel
theorem dX10_comparedFractions_76 : decode cX10_comparedFractions 76 = .ok (.lload_n 2, 1) := by decide +kernel
theorem dX10_comparedFractions_77 : decode cX10_comparedFractions 77 = .ok (.lstore_n 0, 1) := by decide +kernel
theorem dX10_comparedFractions_78 : decode cX10_comparedFractions 78 = .ok (.lload 14, 2) := by decide +kernel
theorem dX10_comparedFractions_80 : decode cX10_comparedFractions 80 = .ok (.lstore_n 2, 1) := by decide +kernel
theorem dX10_comparedFractions_81 : decode cX10_comparedFractions 81 = .ok (.lload 6, 2) := by decide +kernel
theorem dX10_comparedFractions_83 : decode cX10_comparedFractions 83 = .ok (.lstore 4, 2) := by decide +kernel
theorem dX10_comparedFractions_85 : decode cX10_comparedFractions 85 = .ok (.lload 16, 2) := by decide +kernel
theorem dX10_comparedFractions_87 : decode cX10_comparedFractions 87 = .ok (.lstore 6, 2) := by decide +kernel
theorem dX10_comparedFractions_89 : decode cX10_comparedFractions 89 = .ok (.iload 8, 2) := by decide +kernel
theorem dX10_comparedFractions_91 : decode cX10_comparedFractions 91 = .ok (.ineg, 1) := by decide +kernel
theorem dX10_comparedFractions_92 : decode cX10_comparedFractions 92 = .ok (.istore 8, 2) := by decide +kernel
theorem dX10_comparedFractions_94 : decode cX10_comparedFractions 94 = .ok (.iinc 9 1, 3) := by decide +kernel
theorem dX10_comparedFractions_97 : decode cX10_comparedFractions 97 = .ok (.goto (-91), 3) := by decide +kernel
theorem dX10_comparedFractions_100 : decode cX10_comparedFractions 100 = .ok (.lload_n 2, 1) := by decide +kernel
theorem dX10_comparedFractions_101 : decode cX10_comparedFractions 101 = .ok (.lconst 0, 1) := by decide +kernel
theorem dX10_comparedFractions_102 : decode cX10_comparedFractions 102 = .ok (.lcmp, 1) := by decide +kernel
theorem dX10_comparedFractions_103 : decode cX10_comparedFractions 103 = .ok (.ifCond .ne 12, 3) := by decide +kernel
theorem dX10_comparedFractions_106 : decode cX10_comparedFractions 106 = .ok (.lload 6, 2) := by decide +kernel
theorem dX10_comparedFractions_108 : decode cX10_comparedFractions 108 = .ok (.lconst 0, 1) := by decide +kernel
theorem dX10_comparedFractions_109 : decode cX10_comparedFractions 109 = .ok (.lcmp, 1) := by decide +kernel
theorem dX10_comparedFractions_110 : decode cX10_comparedFractions 110 = .ok (.ifCond .ne 5, 3) := by decide +kernel
theorem dX10_comparedFractions_113 : decode cX10_comparedFractions 113 = .ok (.iconst 0, 1) := by decide +kernel
theorem dX10_comparedFractions_114 : decode cX10_comparedFractions 114 = .ok (.ireturn, 1) := by decide +kernel
theorem dX10_comparedFractions_115 : decode cX10_comparedFractions 115 = .ok (.lload_n 2, 1) := by decide +kernel
theorem dX10_comparedFractions_116 : decode cX10_comparedFractions 116 = .ok (.lconst 0, 1) := by decide +kernel
theorem dX10_comparedFractions_117 : decode cX10_comparedFractions 117 = .ok (.lcmp, 1) := by decide +kernel
theorem dX10_comparedFractions_118 : decode cX10_comparedFractions 118 = .ok (.ifCond .ne 8, 3) := by decide +kernel
theorem dX10_comparedFractions_121 : decode cX10_comparedFractions 121 = .ok (.iload 8, 2) := by decide +kernel
theorem dX10_comparedFractions_123 : decode cX10_comparedFractions 123 = .ok (.goto 6, 3) := by decide +kernel
theorem dX10_comparedFractions_126 : decode cX10_comparedFractions 126 = .ok (.iload 8, 2) := by decide +kernel
theorem dX10_comparedFractions_128 : decode cX10_comparedFractions 128 = .ok (.ineg, 1) := by decide +kernel
theorem dX10_comparedFractions_129 : decode cX10_comparedFractions 129 = .ok (.ireturn, 1) := by decide +kernel
theorem dX10_tellShape_0 : decode cX10_tellShape 0 = .ok (.aload_n 1, 1) := by decide +kernel
theorem dX10_tellShape_1 : decode cX10_tellShape 1 = .ok (.getfield 386, 3) := by decide +kernel
theorem dX10_tellShape_4 : decode cX10_tellShape 4 = .ok (.aload_n 2, 1) := by decide +kernel
theorem dX10_tellShape_5 : decode cX10_tellShape 5 = .ok (.getfield 386, 3) := by decide +kernel
theorem dX10_tellShape_8 : decode cX10_tellShape 8 = .ok (.if_icmp .eq 5, 3) := by decide +kernel
theorem dX10_tellShape_11 : decode cX10_tellShape 11 = .ok (.iconst 0, 1) := by decide +kernel
theorem dX10_tellShape_12 : decode cX10_tellShape 12 = .ok (.ireturn, 1) := by decide +kernel
theorem dX10_tellShape_13 : decode cX10_tellShape 13 = .ok (.lconst 0, 1) := by decide +kernel
theorem dX10_tellShape_14 : decode cX10_tellShape 14 = .ok (.lstore_n 3, 1) := by decide +kernel
theorem dX10_tellShape_15 : decode cX10_tellShape 15 = .ok (.lconst 0, 1) := by decide +kernel
theorem dX10_tellShape_16 : decode cX10_tellShape 16 = .ok (.lstore 5, 2) := by decide +kernel
theorem dX10_tellShape_18 : decode cX10_tellShape 18 = .ok (.iconst 0, 1) := by decide +kernel
theorem dX10_tellShape_19 : decode cX10_tellShape 19 = .ok (.istore 7, 2) := by decide +kernel
theorem dX10_tellShape_21 : decode cX10_tellShape 21 = .ok (.iload 7, 2) := by decide +kernel
theorem dX10_tellShape_23 : decode cX10_tellShape 23 = .ok (.aload_n 1, 1) := by decide +kernel
theorem dX10_tellShape_24 : decode cX10_tellShape 24 = .ok (.getfield 386, 3) := by decide +kernel
theorem dX10_tellShape_27 : decode cX10_tellShape 27 = .ok (.if_icmp .ge 136, 3) := by decide +kernel
theorem dX10_tellShape_30 : decode cX10_tellShape 30 = .ok (.aload_n 1, 1) := by decide +kernel
theorem dX10_tellShape_31 : decode cX10_tellShape 31 = .ok (.getfield 387, 3) := by decide +kernel
theorem dX10_tellShape_34 : decode cX10_tellShape 34 = .ok (.iload 7, 2) := by decide +kernel
theorem dX10_tellShape_36 : decode cX10_tellShape 36 = .ok (.caload, 1) := by decide +kernel
theorem dX10_tellShape_37 : decode cX10_tellShape 37 = .ok (.bipush 97, 2) := by decide +kernel
theorem dX10_tellShape_39 : decode cX10_tellShape 39 = .ok (.isub, 1) := by decide +kernel
theorem dX10_tellShape_40 : decode cX10_tellShape 40 = .ok (.istore 8, 2) := by decide +kernel
theorem dX10_tellShape_42 : decode cX10_tellShape 42 = .ok (.aload_n 2, 1) := by decide +kernel
theorem dX10_tellShape_43 : decode cX10_tellShape 43 = .ok (.getfield 387, 3) := by decide +kernel
theorem dX10_tellShape_46 : decode cX10_tellShape 46 = .ok (.iload 7, 2) := by decide +kernel
theorem dX10_tellShape_48 : decode cX10_tellShape 48 = .ok (.caload, 1) := by decide +kernel
theorem dX10_tellShape_49 : decode cX10_tellShape 49 = .ok (.bipush 97, 2) := by decide +kernel
theorem dX10_tellShape_51 : decode cX10_tellShape 51 = .ok (.isub, 1) := by decide +kernel
theorem dX10_tellShape_52 : decode cX10_tellShape 52 = .ok (.istore 9, 2) := by decide +kernel
theorem dX10_tellShape_54 : decode cX10_tellShape 54 = .ok (.iload 8, 2) := by decide +kernel
theorem dX10_tellShape_56 : decode cX10_tellShape 56 = .ok (.invokestatic 388, 3) := by decide +kernel
theorem dX10_tellShape_59 : decode cX10_tellShape 59 = .ok (.ifCond .eq 11, 3) := by decide +kernel
theorem dX10_tellShape_62 : decode cX10_tellShape 62 = .ok (.iload 9, 2) := by decide +kernel
theorem dX10_tellShape_64 : decode cX10_tellShape 64 = .ok (.invokestatic 388, 3) := by decide +kernel
theorem dX10_tellShape_67 : decode cX10_tellShape 67 = .ok (.ifCond .ne 12, 3) := by decide +kernel
theorem dX10_tellShape_70 : decode cX10_tellShape 70 = .ok (.iload 8, 2) := by decide +kernel
theorem dX10_tellShape_72 : decode cX10_tellShape 72 = .ok (.iload 9, 2) := by decide +kernel
theorem dX10_tellShape_74 : decode cX10_tellShape 74 = .ok (.if_icmp .eq 83, 3) := by decide +kernel
theorem dX10_tellShape_77 : decode cX10_tellShape 77 = .ok (.iconst 0, 1) := by decide +kernel
theorem dX10_tellShape_78 : decode cX10_tellShape 78 = .ok (.ireturn, 1) := by decide +kernel
theorem dX10_tellShape_79 : decode cX10_tellShape 79 = .ok (.lload_n 3, 1) := by decide +kernel
theorem dX10_tellShape_80 : decode cX10_tellShape 80 = .ok (.iload 8, 2) := by decide +kernel
theorem dX10_tellShape_82 : decode cX10_tellShape 82 = .ok (.invokestatic 391, 3) := by decide +kernel
theorem dX10_tellShape_85 : decode cX10_tellShape 85 = .ok (.istore 10, 2) := by decide +kernel
theorem dX10_tellShape_87 : decode cX10_tellShape 87 = .ok (.lload 5, 2) := by decide +kernel
theorem dX10_tellShape_89 : decode cX10_tellShape 89 = .ok (.iload 9, 2) := by decide +kernel
theorem dX10_tellShape_91 : decode cX10_tellShape 91 = .ok (.invokestatic 391, 3) := by decide +kernel
theorem dX10_tellShape_94 : decode cX10_tellShape 94 = .ok (.istore 11, 2) := by decide +kernel
theorem dX10_tellShape_96 : decode cX10_tellShape 96 = .ok (.iload 10, 2) := by decide +kernel
theorem dX10_tellShape_98 : decode cX10_tellShape 98 = .ok (.ifCond .ne 39, 3) := by decide +kernel
theorem dX10_tellShape_101 : decode cX10_tellShape 101 = .ok (.iload 11, 2) := by decide +kernel
theorem dX10_tellShape_103 : decode cX10_tellShape 103 = .ok (.ifCond .ne 34, 3) := by decide +kernel
theorem dX10_tellShape_106 : decode cX10_tellShape 106 = .ok (.lload_n 3, 1) := by decide +kernel
theorem dX10_tellShape_107 : decode cX10_tellShape 107 = .ok (.iload 9, 2) := by decide +kernel
theorem dX10_tellShape_109 : decode cX10_tellShape 109 = .ok (.iconst 1, 1) := by decide +kernel
theorem dX10_tellShape_110 : decode cX10_tellShape 110 = .ok (.iadd, 1) := by decide +kernel
theorem dX10_tellShape_111 : decode cX10_tellShape 111 = .ok (.i2l, 1) := by decide +kernel
theorem dX10_tellShape_112 : decode cX10_tellShape 112 = .ok (.iload 8, 2) := by decide +kernel
theorem dX10_tellShape_114 : decode cX10_tellShape 114 = .ok (.iconst 4, 1) := by decide +kernel
theorem dX10_tellShape_115 : decode cX10_tellShape 115 = .ok (.imul, 1) := by decide +kernel
theorem dX10_tellShape_116 : decode cX10_tellShape 116 = .ok (.lshl, 1) := by decide +kernel
theorem dX10_tellShape_117 : decode cX10_tellShape 117 = .ok (.lor, 1) := by decide +kernel
theorem dX10_tellShape_118 : decode cX10_tellShape 118 = .ok (.lstore_n 3, 1) := by decide +kernel
theorem dX10_tellShape_119 : decode cX10_tellShape 119 = .ok (.lload 5, 2) := by decide +kernel
theorem dX10_tellShape_121 : decode cX10_tellShape 121 = .ok (.iload 8, 2) := by decide +kernel
theorem dX10_tellShape_123 : decode cX10_tellShape 123 = .ok (.iconst 1, 1) := by decide +kernel
theorem dX10_tellShape_124 : decode cX10_tellShape 124 = .ok (.iadd, 1) := by decide +kernel
theorem dX10_tellShape_125 : decode cX10_tellShape 125 = .ok (.i2l, 1) := by decide +kernel
theorem dX10_tellShape_126 : decode cX10_tellShape 126 = .ok (.iload 9, 2) := by decide +kernel
theorem dX10_tellShape_128 : decode cX10_tellShape 128 = .ok (.iconst 4, 1) := by decide +kernel
theorem dX10_tellShape_129 : decode cX10_tellShape 129 = .ok (.imul, 1) := by decide +kernel
theorem dX10_tellShape_130 : decode cX10_tellShape 130 = .ok (.lshl, 1) := by decide +kernel
theorem dX10_tellShape_131 : decode cX10_tellShape 131 = .ok (.lor, 1) := by decide +kernel
theorem dX10_tellShape_132 : decode cX10_tellShape 132 = .ok (.lstore 5, 2) := by decide +kernel
theorem dX10_tellShape_134 : decode cX10_tellShape 134 = .ok (.goto 23, 3) := by decide +kernel
theorem dX10_tellShape_137 : decode cX10_tellShape 137 = .ok (.iload 10, 2) := by decide +kernel
theorem dX10_tellShape_139 : decode cX10_tellShape 139 = .ok (.iload 9, 2) := by decide +kernel
theorem dX10_tellShape_141 : decode cX10_tellShape 141 = .ok (.iconst 1, 1) := by decide +kernel
theorem dX10_tellShape_142 : decode cX10_tellShape 142 = .ok (.iadd, 1) := by decide +kernel
theorem dX10_tellShape_143 : decode cX10_tellShape 143 = .ok (.if_icmp .ne 12, 3) := by decide +kernel
theorem dX10_tellShape_146 : decode cX10_tellShape 146 = .ok (.iload 11, 2) := by decide +kernel
theorem dX10_tellShape_148 : decode cX10_tellShape 148 = .ok (.iload 8, 2) := by decide +kernel
theorem dX10_tellShape_150 : decode cX10_tellShape 150 = .ok (.iconst 1, 1) := by decide +kernel
theorem dX10_tellShape_151 : decode cX10_tellShape 151 = .ok (.iadd, 1) := by decide +kernel
theorem dX10_tellShape_152 : decode cX10_tellShape 152 = .ok (.if_icmp .eq 5, 3) := by decide +kernel
theorem dX10_tellShape_155 : decode cX10_tellShape 155 = .ok (.iconst 0, 1) := by decide +kernel
theorem dX10_tellShape_156 : decode cX10_tellShape 156 = .ok (.ireturn, 1) := by decide +kernel
theorem dX10_tellShape_157 : decode cX10_tellShape 157 = .ok (.iinc 7 1, 3) := by decide +kernel
theorem dX10_tellShape_160 : decode cX10_tellShape 160 = .ok (.goto (-139), 3) := by decide +kernel
theorem dX10_tellShape_163 : decode cX10_tellShape 163 = .ok (.aload_n 0, 1) := by decide +kernel
theorem dX10_tellShape_164 : decode cX10_tellShape 164 = .ok (.getfield 45, 3) := by decide +kernel
theorem dX10_tellShape_167 : decode cX10_tellShape 167 = .ok (.invokevirtual 217, 3) := by decide +kernel
theorem dX10_tellShape_170 : decode cX10_tellShape 170 = .ok (.iconst 0, 1) := by decide +kernel
theorem dX10_tellShape_171 : decode cX10_tellShape 171 = .ok (.istore 7, 2) := by decide +kernel
theorem dX10_tellShape_173 : decode cX10_tellShape 173 = .ok (.iload 7, 2) := by decide +kernel
theorem dX10_tellShape_175 : decode cX10_tellShape 175 = .ok (.bipush 8, 2) := by decide +kernel
theorem dX10_tellShape_177 : decode cX10_tellShape 177 = .ok (.if_icmp .ge 25, 3) := by decide +kernel
theorem dX10_tellShape_180 : decode cX10_tellShape 180 = .ok (.aload_n 0, 1) := by decide +kernel
theorem dX10_tellShape_181 : decode cX10_tellShape 181 = .ok (.getfield 45, 3) := by decide +kernel
theorem dX10_tellShape_184 : decode cX10_tellShape 184 = .ok (.lload_n 3, 1) := by decide +kernel
theorem dX10_tellShape_185 : decode cX10_tellShape 185 = .ok (.iload 7, 2) := by decide +kernel
theorem dX10_tellShape_187 : decode cX10_tellShape 187 = .ok (.invokestatic 391, 3) := by decide +kernel
theorem dX10_tellShape_190 : decode cX10_tellShape 190 = .ok (.iconst 1, 1) := by decide +kernel
theorem dX10_tellShape_191 : decode cX10_tellShape 191 = .ok (.isub, 1) := by decide +kernel
theorem dX10_tellShape_192 : decode cX10_tellShape 192 = .ok (.i2l, 1) := by decide +kernel
theorem dX10_tellShape_193 : decode cX10_tellShape 193 = .ok (.invokevirtual 372, 3) := by decide +kernel
theorem dX10_tellShape_196 : decode cX10_tellShape 196 = .ok (.iinc 7 1, 3) := by decide +kernel
theorem dX10_tellShape_199 : decode cX10_tellShape 199 = .ok (.goto (-26), 3) := by decide +kernel
theorem dX10_tellShape_202 : decode cX10_tellShape 202 = .ok (.iconst 1, 1) := by decide +kernel
theorem dX10_tellShape_203 : decode cX10_tellShape 203 = .ok (.ireturn, 1) := by decide +kernel
theorem dX10_nibble_0 : decode cX10_nibble 0 = .ok (.lload_n 0, 1) := by decide +kernel
theorem dX10_nibble_1 : decode cX10_nibble 1 = .ok (.iload_n 2, 1) := by decide +kernel
theorem dX10_nibble_2 : decode cX10_nibble 2 = .ok (.iconst 4, 1) := by decide +kernel
theorem dX10_nibble_3 : decode cX10_nibble 3 = .ok (.imul, 1) := by decide +kernel
theorem dX10_nibble_4 : decode cX10_nibble 4 = .ok (.lushr, 1) := by decide +kernel
theorem dX10_nibble_5 : decode cX10_nibble 5 = .ok (.l2i, 1) := by decide +kernel
theorem dX10_nibble_6 : decode cX10_nibble 6 = .ok (.bipush 15, 2) := by decide +kernel
theorem dX10_nibble_8 : decode cX10_nibble 8 = .ok (.iand, 1) := by decide +kernel
theorem dX10_nibble_9 : decode cX10_nibble 9 = .ok (.ireturn, 1) := by decide +kernel
