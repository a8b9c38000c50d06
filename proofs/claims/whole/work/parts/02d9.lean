theorem dX9_init_0 : decode cX9_init 0 = .ok (.aload_n 0, 1) := by decide +kernel
theorem dX9_init_1 : decode cX9_init 1 = .ok (.invokespecial 3, 3) := by decide +kernel
theorem dX9_init_4 : decode cX9_init 4 = .ok (.aload_n 0, 1) := by decide +kernel
theorem dX9_init_5 : decode cX9_init 5 = .ok (.bipush 114, 2) := by decide +kernel
theorem dX9_init_7 : decode cX9_init 7 = .ok (.newarray .int, 2) := by decide +kernel
theorem dX9_init_9 : decode cX9_init 9 = .ok (.putfield 9, 3) := by decide +kernel
theorem dX9_init_12 : decode cX9_init 12 = .ok (.aload_n 0, 1) := by decide +kernel
theorem dX9_init_13 : decode cX9_init 13 = .ok (.sipush 342, 3) := by decide +kernel
theorem dX9_init_16 : decode cX9_init 16 = .ok (.newarray .int, 2) := by decide +kernel
theorem dX9_init_18 : decode cX9_init 18 = .ok (.putfield 13, 3) := by decide +kernel
theorem dX9_init_21 : decode cX9_init 21 = .ok (.aload_n 0, 1) := by decide +kernel
theorem dX9_init_22 : decode cX9_init 22 = .ok (.iconst 3, 1) := by decide +kernel
theorem dX9_init_23 : decode cX9_init 23 = .ok (.newarray .boolean, 2) := by decide +kernel
theorem dX9_init_25 : decode cX9_init 25 = .ok (.putfield 16, 3) := by decide +kernel
theorem dX9_init_28 : decode cX9_init 28 = .ok (.aload_n 0, 1) := by decide +kernel
theorem dX9_init_29 : decode cX9_init 29 = .ok (.sipush 800, 3) := by decide +kernel
theorem dX9_init_32 : decode cX9_init 32 = .ok (.newarray .byte, 2) := by decide +kernel
theorem dX9_init_34 : decode cX9_init 34 = .ok (.putfield 20, 3) := by decide +kernel
theorem dX9_init_37 : decode cX9_init 37 = .ok (.aload_n 0, 1) := by decide +kernel
theorem dX9_init_38 : decode cX9_init 38 = .ok (.iconst 5, 1) := by decide +kernel
theorem dX9_init_39 : decode cX9_init 39 = .ok (.newarray .int, 2) := by decide +kernel
theorem dX9_init_41 : decode cX9_init 41 = .ok (.putfield 24, 3) := by decide +kernel
theorem dX9_init_44 : decode cX9_init 44 = .ok (.aload_n 0, 1) := by decide +kernel
theorem dX9_init_45 : decode cX9_init 45 = .ok (.iconst (-1), 1) := by decide +kernel
theorem dX9_init_46 : decode cX9_init 46 = .ok (.putfield 27, 3) := by decide +kernel
theorem dX9_init_49 : decode cX9_init 49 = .ok (.aload_n 0, 1) := by decide +kernel
theorem dX9_init_50 : decode cX9_init 50 = .ok (.bipush 114, 2) := by decide +kernel
theorem dX9_init_52 : decode cX9_init 52 = .ok (.newarray .int, 2) := by decide +kernel
theorem dX9_init_54 : decode cX9_init 54 = .ok (.putfield 31, 3) := by decide +kernel
theorem dX9_init_57 : decode cX9_init 57 = .ok (.aload_n 0, 1) := by decide +kernel
theorem dX9_init_58 : decode cX9_init 58 = .ok (.bipush 8, 2) := by decide +kernel
theorem dX9_init_60 : decode cX9_init 60 = .ok (.newarray .int, 2) := by decide +kernel
theorem dX9_init_62 : decode cX9_init 62 = .ok (.putfield 34, 3) := by decide +kernel
theorem dX9_init_65 : decode cX9_init 65 = .ok (.aload_n 0, 1) := by decide +kernel
theorem dX9_init_66 : decode cX9_init 66 = .ok (.bipush 8, 2) := by decide +kernel
theorem dX9_init_68 : decode cX9_init 68 = .ok (.newarray .int, 2) := by decide +kernel
theorem dX9_init_70 : decode cX9_init 70 = .ok (.putfield 37, 3) := by decide +kernel
theorem dX9_init_73 : decode cX9_init 73 = .ok (.aload_n 0, 1) := by decide +kernel
theorem dX9_init_74 : decode cX9_init 74 = .ok (.bipush 20, 2) := by decide +kernel
theorem dX9_init_76 : decode cX9_init 76 = .ok (.newarray .int, 2) := by decide +kernel
theorem dX9_init_78 : decode cX9_init 78 = .ok (.putfield 40, 3) := by decide +kernel
theorem dX9_init_81 : decode cX9_init 81 = .ok (.aload_n 0, 1) := by decide +kernel
theorem dX9_init_82 : decode cX9_init 82 = .ok (.sipush 168, 3) := by decide +kernel
theorem dX9_init_85 : decode cX9_init 85 = .ok (.newarray .int, 2) := by decide +kernel
theorem dX9_init_87 : decode cX9_init 87 = .ok (.putfield 43, 3) := by decide +kernel
theorem dX9_init_90 : decode cX9_init 90 = .ok (.aload_n 0, 1) := by decide +kernel
theorem dX9_init_91 : decode cX9_init 91 = .ok (.sipush 160, 3) := by decide +kernel
theorem dX9_init_94 : decode cX9_init 94 = .ok (.newarray .int, 2) := by decide +kernel
theorem dX9_init_96 : decode cX9_init 96 = .ok (.putfield 46, 3) := by decide +kernel
theorem dX9_init_99 : decode cX9_init 99 = .ok (.aload_n 0, 1) := by decide +kernel
theorem dX9_init_100 : decode cX9_init 100 = .ok (.bipush 20, 2) := by decide +kernel
theorem dX9_init_102 : decode cX9_init 102 = .ok (.newarray .int, 2) := by decide +kernel
theorem dX9_init_104 : decode cX9_init 104 = .ok (.putfield 49, 3) := by decide +kernel
theorem dX9_init_107 : decode cX9_init 107 = .ok (.aload_n 0, 1) := by decide +kernel
theorem dX9_init_108 : decode cX9_init 108 = .ok (.bipush 20, 2) := by decide +kernel
theorem dX9_init_110 : decode cX9_init 110 = .ok (.newarray .int, 2) := by decide +kernel
theorem dX9_init_112 : decode cX9_init 112 = .ok (.putfield 52, 3) := by decide +kernel
theorem dX9_init_115 : decode cX9_init 115 = .ok (.aload_n 0, 1) := by decide +kernel
theorem dX9_init_116 : decode cX9_init 116 = .ok (.sipush 801, 3) := by decide +kernel
theorem dX9_init_119 : decode cX9_init 119 = .ok (.newarray .boolean, 2) := by decide +kernel
theorem dX9_init_121 : decode cX9_init 121 = .ok (.putfield 55, 3) := by decide +kernel
theorem dX9_init_124 : decode cX9_init 124 = .ok (.aload_n 0, 1) := by decide +kernel
theorem dX9_init_125 : decode cX9_init 125 = .ok (.bipush 8, 2) := by decide +kernel
theorem dX9_init_127 : decode cX9_init 127 = .ok (.newarray .int, 2) := by decide +kernel
theorem dX9_init_129 : decode cX9_init 129 = .ok (.putfield 58, 3) := by decide +kernel
theorem dX9_init_132 : decode cX9_init 132 = .ok (.aload_n 0, 1) := by decide +kernel
theorem dX9_init_133 : decode cX9_init 133 = .ok (.sipush 256, 3) := by decide +kernel
theorem dX9_init_136 : decode cX9_init 136 = .ok (.newarray .int, 2) := by decide +kernel
theorem dX9_init_138 : decode cX9_init 138 = .ok (.putfield 61, 3) := by decide +kernel
theorem dX9_init_141 : decode cX9_init 141 = .ok (.aload_n 0, 1) := by decide +kernel
theorem dX9_init_142 : decode cX9_init 142 = .ok (.sipush 5120, 3) := by decide +kernel
theorem dX9_init_145 : decode cX9_init 145 = .ok (.newarray .int, 2) := by decide +kernel
theorem dX9_init_147 : decode cX9_init 147 = .ok (.putfield 64, 3) := by decide +kernel
theorem dX9_init_150 : decode cX9_init 150 = .ok (.aload_n 0, 1) := by decide +kernel
theorem dX9_init_151 : decode cX9_init 151 = .ok (.sipush 256, 3) := by decide +kernel
theorem dX9_init_154 : decode cX9_init 154 = .ok (.newarray .int, 2) := by decide +kernel
theorem dX9_init_156 : decode cX9_init 156 = .ok (.putfield 67, 3) := by decide +kernel
theorem dX9_init_159 : decode cX9_init 159 = .ok (.aload_n 0, 1) := by decide +kernel
theorem dX9_init_160 : decode cX9_init 160 = .ok (.iconst 4, 1) := by decide +kernel
theorem dX9_init_161 : decode cX9_init 161 = .ok (.newarray .int, 2) := by decide +kernel
theorem dX9_init_163 : decode cX9_init 163 = .ok (.dup, 1) := by decide +kernel
theorem dX9_init_164 : decode cX9_init 164 = .ok (.iconst 0, 1) := by decide +kernel
theorem dX9_init_165 : decode cX9_init 165 = .ok (.iconst (-1), 1) := by decide +kernel
theorem dX9_init_166 : decode cX9_init 166 = .ok (.iastore, 1) := by decide +kernel
theorem dX9_init_167 : decode cX9_init 167 = .ok (.dup, 1) := by decide +kernel
theorem dX9_init_168 : decode cX9_init 168 = .ok (.iconst 1, 1) := by decide +kernel
theorem dX9_init_169 : decode cX9_init 169 = .ok (.iconst (-1), 1) := by decide +kernel
theorem dX9_init_170 : decode cX9_init 170 = .ok (.iastore, 1) := by decide +kernel
theorem dX9_init_171 : decode cX9_init 171 = .ok (.dup, 1) := by decide +kernel
theorem dX9_init_172 : decode cX9_init 172 = .ok (.iconst 2, 1) := by decide +kernel
theorem dX9_init_173 : decode cX9_init 173 = .ok (.iconst (-1), 1) := by decide +kernel
theorem dX9_init_174 : decode cX9_init 174 = .ok (.iastore, 1) := by decide +kernel
theorem dX9_init_175 : decode cX9_init 175 = .ok (.dup, 1) := by decide +kernel
theorem dX9_init_176 : decode cX9_init 176 = .ok (.iconst 3, 1) := by decide +kernel
theorem dX9_init_177 : decode cX9_init 177 = .ok (.iconst (-1), 1) := by decide +kernel
theorem dX9_init_178 : decode cX9_init 178 = .ok (.iastore, 1) := by decide +kernel
theorem dX9_init_179 : decode cX9_init 179 = .ok (.putfield 70, 3) := by decide +kernel
theorem dX9_init_182 : decode cX9_init 182 = .ok (.aload_n 0, 1) := by decide +kernel
theorem dX9_init_183 : decode cX9_init 183 = .ok (.iconst 4, 1) := by decide +kernel
theorem dX9_init_184 : decode cX9_init 184 = .ok (.newarray .int, 2) := by decide +kernel
theorem dX9_init_186 : decode cX9_init 186 = .ok (.putfield 73, 3) := by decide +kernel
theorem dX9_init_189 : decode cX9_init 189 = .ok (.aload_n 0, 1) := by decide +kernel
theorem dX9_init_190 : decode cX9_init 190 = .ok (.sipush 240, 3) := by decide +kernel
theorem dX9_init_193 : decode cX9_init 193 = .ok (.newarray .long, 2) := by decide +kernel
theorem dX9_init_195 : decode cX9_init 195 = .ok (.putfield 76, 3) := by decide +kernel
theorem dX9_init_198 : decode cX9_init 198 = .ok (.aload_n 0, 1) := by decide +kernel
theorem dX9_init_199 : decode cX9_init 199 = .ok (.bipush 60, 2) := by decide +kernel
theorem dX9_init_201 : decode cX9_init 201 = .ok (.newarray .long, 2) := by decide +kernel
theorem dX9_init_203 : decode cX9_init 203 = .ok (.putfield 80, 3) := by decide +kernel
theorem dX9_init_206 : decode cX9_init 206 = .ok (.return_, 1) := by decide +kernel
theorem dX9_in_0 : decode cX9_in 0 = .ok (.lload_n 0, 1) := by decide +kernel
theorem dX9_in_1 : decode cX9_in 1 = .ok (.lload_n 2, 1) := by decide +kernel
theorem dX9_in_2 : decode cX9_in 2 = .ok (.lcmp, 1) := by decide +kernel
theorem dX9_in_3 : decode cX9_in 3 = .ok (.ifCond .lt 14, 3) := by decide +kernel
theorem dX9_in_6 : decode cX9_in 6 = .ok (.lload_n 0, 1) := by decide +kernel
theorem dX9_in_7 : decode cX9_in 7 = .ok (.lload 4, 2) := by decide +kernel
theorem dX9_in_9 : decode cX9_in 9 = .ok (.lcmp, 1) := by decide +kernel
theorem dX9_in_10 : decode cX9_in 10 = .ok (.ifCond .gt 7, 3) := by decide +kernel
theorem dX9_in_13 : decode cX9_in 13 = .ok (.iconst 1, 1) := by decide +kernel
theorem dX9_in_14 : decode cX9_in 14 = .ok (.goto 4, 3) := by decide +kernel
theorem dX9_in_17 : decode cX9_in 17 = .ok (.iconst 0, 1) := by decide +kernel
theorem dX9_in_18 : decode cX9_in 18 = .ok (.ireturn, 1) := by decide +kernel
theorem dX9_bits_0 : decode cX9_bits 0 = .ok (.iconst 0, 1) := by decide +kernel
theorem dX9_bits_1 : decode cX9_bits 1 = .ok (.istore_n 1, 1) := by decide +kernel
theorem dX9_bits_2 : decode cX9_bits 2 = .ok (.iconst 0, 1) := by decide +kernel
theorem dX9_bits_3 : decode cX9_bits 3 = .ok (.istore_n 2, 1) := by decide +kernel
theorem dX9_bits_4 : decode cX9_bits 4 = .ok (.iload_n 2, 1) := by decide +kernel
theorem dX9_bits_5 : decode cX9_bits 5 = .ok (.bipush 20, 2) := by decide +kernel
theorem dX9_bits_7 : decode cX9_bits 7 = .ok (.if_icmp .ge 17, 3) := by decide +kernel
theorem dX9_bits_10 : decode cX9_bits 10 = .ok (.iload_n 1, 1) := by decide +kernel
theorem dX9_bits_11 : decode cX9_bits 11 = .ok (.iload_n 0, 1) := by decide +kernel
theorem dX9_bits_12 : decode cX9_bits 12 = .ok (.iload_n 2, 1) := by decide +kernel
theorem dX9_bits_13 : decode cX9_bits 13 = .ok (.ishr, 1) := by decide +kernel
theorem dX9_bits_14 : decode cX9_bits 14 = .ok (.iconst 1, 1) := by decide +kernel
theorem dX9_bits_15 : decode cX9_bits 15 = .ok (.iand, 1) := by decide +kernel
theorem dX9_bits_16 : decode cX9_bits 16 = .ok (.iadd, 1) := by decide +kernel
theorem dX9_bits_17 : decode cX9_bits 17 = .ok (.istore_n 1, 1) := by decide +kernel
theorem dX9_bits_18 : decode cX9_bits 18 = .ok (.iinc 2 1, 3) := by decide +kernel
theorem dX9_bits_21 : decode cX9_bits 21 = .ok (.goto (-17), 3) := by decide +kernel
theorem dX9_bits_24 : decode cX9_bits 24 = .ok (.iload_n 1, 1) := by decide +kernel
theorem dX9_bits_25 : decode cX9_bits 25 = .ok (.ireturn, 1) := by decide +kernel
theorem dX9_bit_0 : decode cX9_bit 0 = .ok (.iload_n 0, 1) := by decide +kernel
theorem dX9_bit_1 : decode cX9_bit 1 = .ok (.iload_n 1, 1) := by decide +kernel
theorem dX9_bit_2 : decode cX9_bit 2 = .ok (.ishr, 1) := by decide +kernel
theorem dX9_bit_3 : decode cX9_bit 3 = .ok (.iconst 1, 1) := by decide +kernel
theorem dX9_bit_4 : decode cX9_bit 4 = .ok (.iand, 1) := by decide +kernel
theorem dX9_bit_5 : decode cX9_bit 5 = .ok (.ireturn, 1) := by decide +kernel
theorem dX9_image_0 : decode cX9_image 0 = .ok (.iload_n 1, 1) := by decide +kernel
theorem dX9_image_1 : decode cX9_image 1 = .ok (.i2l, 1) := by decide +kernel
theorem dX9_image_2 : decode cX9_image 2 = .ok (.lconst 0, 1) := by decide +kernel
theorem dX9_image_3 : decode cX9_image 3 = .ok (.ldc2_w 86, 3) := by decide +kernel
theorem dX9_image_6 : decode cX9_image 6 = .ok (.invokestatic 88, 3) := by decide +kernel
theorem dX9_image_9 : decode cX9_image 9 = .ok (.ifCond .ne 6, 3) := by decide +kernel
theorem dX9_image_12 : decode cX9_image 12 = .ok (.bipush (-2), 2) := by decide +kernel
theorem dX9_image_14 : decode cX9_image 14 = .ok (.ireturn, 1) := by decide +kernel
theorem dX9_image_15 : decode cX9_image 15 = .ok (.iconst 0, 1) := by decide +kernel
theorem dX9_image_16 : decode cX9_image 16 = .ok (.istore_n 2, 1) := by decide +kernel
theorem dX9_image_17 : decode cX9_image 17 = .ok (.iload_n 2, 1) := by decide +kernel
theorem dX9_image_18 : decode cX9_image 18 = .ok (.bipush 114, 2) := by decide +kernel
theorem dX9_image_20 : decode cX9_image 20 = .ok (.if_icmp .ge 26, 3) := by decide +kernel
theorem dX9_image_23 : decode cX9_image 23 = .ok (.aload_n 0, 1) := by decide +kernel
theorem dX9_image_24 : decode cX9_image 24 = .ok (.getfield 13, 3) := by decide +kernel
theorem dX9_image_27 : decode cX9_image 27 = .ok (.bipush 114, 2) := by decide +kernel
theorem dX9_image_29 : decode cX9_image 29 = .ok (.iload_n 1, 1) := by decide +kernel
theorem dX9_image_30 : decode cX9_image 30 = .ok (.imul, 1) := by decide +kernel
theorem dX9_image_31 : decode cX9_image 31 = .ok (.iload_n 2, 1) := by decide +kernel
theorem dX9_image_32 : decode cX9_image 32 = .ok (.iadd, 1) := by decide +kernel
theorem dX9_image_33 : decode cX9_image 33 = .ok (.aload_n 0, 1) := by decide +kernel
theorem dX9_image_34 : decode cX9_image 34 = .ok (.getfield 9, 3) := by decide +kernel
theorem dX9_image_37 : decode cX9_image 37 = .ok (.iload_n 2, 1) := by decide +kernel
theorem dX9_image_38 : decode cX9_image 38 = .ok (.iaload, 1) := by decide +kernel
theorem dX9_image_39 : decode cX9_image 39 = .ok (.iastore, 1) := by decide +kernel
theorem dX9_image_40 : decode cX9_image 40 = .ok (.iinc 2 1, 3) := by decide +kernel
theorem dX9_image_43 : decode cX9_image 43 = .ok (.goto (-26), 3) := by decide +kernel
theorem dX9_image_46 : decode cX9_image 46 = .ok (.aload_n 0, 1) := by decide +kernel
theorem dX9_image_47 : decode cX9_image 47 = .ok (.getfield 16, 3) := by decide +kernel
theorem dX9_image_50 : decode cX9_image 50 = .ok (.iload_n 1, 1) := by decide +kernel
theorem dX9_image_51 : decode cX9_image 51 = .ok (.iconst 1, 1) := by decide +kernel
theorem dX9_image_52 : decode cX9_image 52 = .ok (.bastore, 1) := by decide +kernel
theorem dX9_image_53 : decode cX9_image 53 = .ok (.iconst 0, 1) := by decide +kernel
theorem dX9_image_54 : decode cX9_image 54 = .ok (.ireturn, 1) := by decide +kernel
theorem dX9_back_0 : decode cX9_back 0 = .ok (.iload_n 1, 1) := by decide +kernel
theorem dX9_back_1 : decode cX9_back 1 = .ok (.i2l, 1) := by decide +kernel
theorem dX9_back_2 : decode cX9_back 2 = .ok (.lconst 0, 1) := by decide +kernel
theorem dX9_back_3 : decode cX9_back 3 = .ok (.ldc2_w 86, 3) := by decide +kernel
theorem dX9_back_6 : decode cX9_back 6 = .ok (.invokestatic 88, 3) := by decide +kernel
theorem dX9_back_9 : decode cX9_back 9 = .ok (.ifCond .ne 6, 3) := by decide +kernel
theorem dX9_back_12 : decode cX9_back 12 = .ok (.bipush (-2), 2) := by decide +kernel
theorem dX9_back_14 : decode cX9_back 14 = .ok (.ireturn, 1) := by decide +kernel
theorem dX9_back_15 : decode cX9_back 15 = .ok (.aload_n 0, 1) := by decide +kernel
theorem dX9_back_16 : decode cX9_back 16 = .ok (.getfield 16, 3) := by decide +kernel
theorem dX9_back_19 : decode cX9_back 19 = .ok (.iload_n 1, 1) := by decide +kernel
theorem dX9_back_20 : decode cX9_back 20 = .ok (.baload, 1) := by decide +kernel
theorem dX9_back_21 : decode cX9_back 21 = .ok (.ifCond .ne 6, 3) := by decide +kernel
theorem dX9_back_24 : decode cX9_back 24 = .ok (.bipush (-6), 2) := by decide +kernel
theorem dX9_back_26 : decode cX9_back 26 = .ok (.ireturn, 1) := by decide +kernel
theorem dX9_back_27 : decode cX9_back 27 = .ok (.iconst 0, 1) := by decide +kernel
theorem dX9_back_28 : decode cX9_back 28 = .ok (.istore_n 2, 1) := by decide +kernel
theorem dX9_back_29 : decode cX9_back 29 = .ok (.iload_n 2, 1) := by decide +kernel
theorem dX9_back_30 : decode cX9_back 30 = .ok (.bipush 114, 2) := by decide +kernel
theorem dX9_back_32 : decode cX9_back 32 = .ok (.if_icmp .ge 26, 3) := by decide +kernel
theorem dX9_back_35 : decode cX9_back 35 = .ok (.aload_n 0, 1) := by decide +kernel
theorem dX9_back_36 : decode cX9_back 36 = .ok (.getfield 9, 3) := by decide +kernel
theorem dX9_back_39 : decode cX9_back 39 = .ok (.iload_n 2, 1) := by decide +kernel
theorem dX9_back_40 : decode cX9_back 40 = .ok (.aload_n 0, 1) := by decide +kernel
theorem dX9_back_41 : decode cX9_back 41 = .ok (.getfield 13, 3) := by decide +kernel
theorem dX9_back_44 : decode cX9_back 44 = .ok (.bipush 114, 2) := by decide +kernel
theorem dX9_back_46 : decode cX9_back 46 = .ok (.iload_n 1, 1) := by decide +kernel
theorem dX9_back_47 : decode cX9_back 47 = .ok (.imul, 1) := by decide +kernel
theorem dX9_back_48 : decode cX9_back 48 = .ok (.iload_n 2, 1) := by decide +kernel
theorem dX9_back_49 : decode cX9_back 49 = .ok (.iadd, 1) := by decide +kernel
theorem dX9_back_50 : decode cX9_back 50 = .ok (.iaload, 1) := by decide +kernel
theorem dX9_back_51 : decode cX9_back 51 = .ok (.iastore, 1) := by decide +kernel
theorem dX9_back_52 : decode cX9_back 52 = .ok (.iinc 2 1, 3) := by decide +kernel
theorem dX9_back_55 : decode cX9_back 55 = .ok (.goto (-26), 3) := by decide +kernel
theorem dX9_back_58 : decode cX9_back 58 = .ok (.iconst 0, 1) := by decide +kernel
theorem dX9_back_59 : decode cX9_back 59 = .ok (.ireturn, 1) := by decide +kernel
theorem dX9_isTown_0 : decode cX9_isTown 0 = .ok (.aload_n 0, 1) := by decide +kernel
theorem dX9_isTown_1 : decode cX9_isTown 1 = .ok (.getfield 9, 3) := by decide +kernel
theorem dX9_isTown_4 : decode cX9_isTown 4 = .ok (.bipush 9, 2) := by decide +kernel
theorem dX9_isTown_6 : decode cX9_isTown 6 = .ok (.iaload, 1) := by decide +kernel
theorem dX9_isTown_7 : decode cX9_isTown 7 = .ok (.ifCond .le 7, 3) := by decide +kernel
theorem dX9_isTown_10 : decode cX9_isTown 10 = .ok (.iconst 1, 1) := by decide +kernel
theorem dX9_isTown_11 : decode cX9_isTown 11 = .ok (.goto 4, 3) := by decide +kernel
theorem dX9_isTown_14 : decode cX9_isTown 14 = .ok (.iconst 0, 1) := by decide +kernel
theorem dX9_isTown_15 : decode cX9_isTown 15 = .ok (.ireturn, 1) := by decide +kernel
theorem dX9_weeks_0 : decode cX9_weeks 0 = .ok (.aload_n 0, 1) := by decide +kernel
theorem dX9_weeks_1 : decode cX9_weeks 1 = .ok (.getfield 9, 3) := by decide +kernel
theorem dX9_weeks_4 : decode cX9_weeks 4 = .ok (.iconst 0, 1) := by decide +kernel
theorem dX9_weeks_5 : decode cX9_weeks 5 = .ok (.iaload, 1) := by decide +kernel
theorem dX9_weeks_6 : decode cX9_weeks 6 = .ok (.ireturn, 1) := by decide +kernel
theorem dX9_houses_0 : decode cX9_houses 0 = .ok (.aload_n 0, 1) := by decide +kernel
theorem dX9_houses_1 : decode cX9_houses 1 = .ok (.getfield 9, 3) := by decide +kernel
theorem dX9_houses_4 : decode cX9_houses 4 = .ok (.iconst 4, 1) := by decide +kernel
theorem dX9_houses_5 : decode cX9_houses 5 = .ok (.iaload, 1) := by decide +kernel
theorem dX9_houses_6 : decode cX9_houses 6 = .ok (.ireturn, 1) := by decide +kernel
theorem dX9_isWeek_0 : decode cX9_isWeek 0 = .ok (.aload_n 0, 1) := by decide +kernel
theorem dX9_isWeek_1 : decode cX9_isWeek 1 = .ok (.invokevirtual 92, 3) := by decide +kernel
theorem dX9_isWeek_4 : decode cX9_isWeek 4 = .ok (.ifCond .eq 20, 3) := by decide +kernel
theorem dX9_isWeek_7 : decode cX9_isWeek 7 = .ok (.lload_n 1, 1) := by decide +kernel
theorem dX9_isWeek_8 : decode cX9_isWeek 8 = .ok (.lconst 0, 1) := by decide +kernel
theorem dX9_isWeek_9 : decode cX9_isWeek 9 = .ok (.aload_n 0, 1) := by decide +kernel
theorem dX9_isWeek_10 : decode cX9_isWeek 10 = .ok (.invokevirtual 96, 3) := by decide +kernel
theorem dX9_isWeek_13 : decode cX9_isWeek 13 = .ok (.i2l, 1) := by decide +kernel
theorem dX9_isWeek_14 : decode cX9_isWeek 14 = .ok (.invokestatic 88, 3) := by decide +kernel
theorem dX9_isWeek_17 : decode cX9_isWeek 17 = .ok (.ifCond .eq 7, 3) := by decide +kernel
theorem dX9_isWeek_20 : decode cX9_isWeek 20 = .ok (.iconst 1, 1) := by decide +kernel
theorem dX9_isWeek_21 : decode cX9_isWeek 21 = .ok (.goto 4, 3) := by decide +kernel
theorem dX9_isWeek_24 : decode cX9_isWeek 24 = .ok (.iconst 0, 1) := by decide +kernel
theorem dX9_isWeek_25 : decode cX9_isWeek 25 = .ok (.ireturn, 1) := by decide +kernel
theorem dX9_isAhead_0 : decode cX9_isAhead 0 = .ok (.aload_n 0, 1) := by decide +kernel
theorem dX9_isAhead_1 : decode cX9_isAhead 1 = .ok (.invokevirtual 92, 3) := by decide +kernel
theorem dX9_isAhead_4 : decode cX9_isAhead 4 = .ok (.ifCond .eq 22, 3) := by decide +kernel
theorem dX9_isAhead_7 : decode cX9_isAhead 7 = .ok (.lload_n 1, 1) := by decide +kernel
theorem dX9_isAhead_8 : decode cX9_isAhead 8 = .ok (.lconst 0, 1) := by decide +kernel
theorem dX9_isAhead_9 : decode cX9_isAhead 9 = .ok (.aload_n 0, 1) := by decide +kernel
theorem dX9_isAhead_10 : decode cX9_isAhead 10 = .ok (.invokevirtual 96, 3) := by decide +kernel
theorem dX9_isAhead_13 : decode cX9_isAhead 13 = .ok (.iconst 1, 1) := by decide +kernel
theorem dX9_isAhead_14 : decode cX9_isAhead 14 = .ok (.isub, 1) := by decide +kernel
theorem dX9_isAhead_15 : decode cX9_isAhead 15 = .ok (.i2l, 1) := by decide +kernel
theorem dX9_isAhead_16 : decode cX9_isAhead 16 = .ok (.invokestatic 88, 3) := by decide +kernel
theorem dX9_isAhead_19 : decode cX9_isAhead 19 = .ok (.ifCond .eq 7, 3) := by decide +kernel
theorem dX9_isAhead_22 : decode cX9_isAhead 22 = .ok (.iconst 1, 1) := by decide +kernel
theorem dX9_isAhead_23 : decode cX9_isAhead 23 = .ok (.goto 4, 3) := by decide +kernel
theorem dX9_isAhead_26 : decode cX9_isAhead 26 = .ok (.iconst 0, 1) := by decide +kernel
theorem dX9_isAhead_27 : decode cX9_isAhead 27 = .ok (.ireturn, 1) := by decide +kernel
theorem dX9_isHouse_0 : decode cX9_isHouse 0 = .ok (.iload_n 1, 1) := by decide +kernel
theorem dX9_isHouse_1 : decode cX9_isHouse 1 = .ok (.i2l, 1) := by decide +kernel
theorem dX9_isHouse_2 : decode cX9_isHouse 2 = .ok (.lconst 0, 1) := by decide +kernel
theorem dX9_isHouse_3 : decode cX9_isHouse 3 = .ok (.aload_n 0, 1) := by decide +kernel
theorem dX9_isHouse_4 : decode cX9_isHouse 4 = .ok (.invokevirtual 100, 3) := by decide +kernel
theorem dX9_isHouse_7 : decode cX9_isHouse 7 = .ok (.iconst 1, 1) := by decide +kernel
theorem dX9_isHouse_8 : decode cX9_isHouse 8 = .ok (.isub, 1) := by decide +kernel
theorem dX9_isHouse_9 : decode cX9_isHouse 9 = .ok (.i2l, 1) := by decide +kernel
theorem dX9_isHouse_10 : decode cX9_isHouse 10 = .ok (.invokestatic 88, 3) := by decide +kernel
theorem dX9_isHouse_13 : decode cX9_isHouse 13 = .ok (.ireturn, 1) := by decide +kernel
theorem dX9_isPlace_0 : decode cX9_isPlace 0 = .ok (.lload_n 1, 1) := by decide +kernel
theorem dX9_isPlace_1 : decode cX9_isPlace 1 = .ok (.lconst 0, 1) := by decide +kernel
theorem dX9_isPlace_2 : decode cX9_isPlace 2 = .ok (.aload_n 0, 1) := by decide +kernel
theorem dX9_isPlace_3 : decode cX9_isPlace 3 = .ok (.invokevirtual 100, 3) := by decide +kernel
theorem dX9_isPlace_6 : decode cX9_isPlace 6 = .ok (.iconst 1, 1) := by decide +kernel
theorem dX9_isPlace_7 : decode cX9_isPlace 7 = .ok (.isub, 1) := by decide +kernel
theorem dX9_isPlace_8 : decode cX9_isPlace 8 = .ok (.i2l, 1) := by decide +kernel
theorem dX9_isPlace_9 : decode cX9_isPlace 9 = .ok (.invokestatic 88, 3) := by decide +kernel
theorem dX9_isPlace_12 : decode cX9_isPlace 12 = .ok (.ireturn, 1) := by decide +kernel
theorem dX9_isLetter_0 : decode cX9_isLetter 0 = .ok (.iload_n 1, 1) := by decide +kernel
theorem dX9_isLetter_1 : decode cX9_isLetter 1 = .ok (.i2l, 1) := by decide +kernel
theorem dX9_isLetter_2 : decode cX9_isLetter 2 = .ok (.lconst 0, 1) := by decide +kernel
theorem dX9_isLetter_3 : decode cX9_isLetter 3 = .ok (.aload_n 0, 1) := by decide +kernel
theorem dX9_isLetter_4 : decode cX9_isLetter 4 = .ok (.getfield 9, 3) := by decide +kernel
theorem dX9_isLetter_7 : decode cX9_isLetter 7 = .ok (.bipush 7, 2) := by decide +kernel
theorem dX9_isLetter_9 : decode cX9_isLetter 9 = .ok (.iaload, 1) := by decide +kernel
theorem dX9_isLetter_10 : decode cX9_isLetter 10 = .ok (.iconst 1, 1) := by decide +kernel
theorem dX9_isLetter_11 : decode cX9_isLetter 11 = .ok (.isub, 1) := by decide +kernel
theorem dX9_isLetter_12 : decode cX9_isLetter 12 = .ok (.i2l, 1) := by decide +kernel
theorem dX9_isLetter_13 : decode cX9_isLetter 13 = .ok (.invokestatic 88, 3) := by decide +kernel
theorem dX9_isLetter_16 : decode cX9_isLetter 16 = .ok (.ireturn, 1) := by decide +kernel
theorem dX9_letterOf_0 : decode cX9_letterOf 0 = .ok (.aload_n 0, 1) := by decide +kernel
theorem dX9_letterOf_1 : decode cX9_letterOf 1 = .ok (.getfield 9, 3) := by decide +kernel
theorem dX9_letterOf_4 : decode cX9_letterOf 4 = .ok (.bipush 60, 2) := by decide +kernel
theorem dX9_letterOf_6 : decode cX9_letterOf 6 = .ok (.iconst 3, 1) := by decide +kernel
theorem dX9_letterOf_7 : decode cX9_letterOf 7 = .ok (.iload_n 1, 1) := by decide +kernel
theorem dX9_letterOf_8 : decode cX9_letterOf 8 = .ok (.imul, 1) := by decide +kernel
theorem dX9_letterOf_9 : decode cX9_letterOf 9 = .ok (.iadd, 1) := by decide +kernel
theorem dX9_letterOf_10 : decode cX9_letterOf 10 = .ok (.iload_n 2, 1) := by decide +kernel
theorem dX9_letterOf_11 : decode cX9_letterOf 11 = .ok (.iadd, 1) := by decide +kernel
theorem dX9_letterOf_12 : decode cX9_letterOf 12 = .ok (.iaload, 1) := by decide +kernel
theorem dX9_letterOf_13 : decode cX9_letterOf 13 = .ok (.ireturn, 1) := by decide +kernel
theorem dX9_areTwo_0 : decode cX9_areTwo 0 = .ok (.aload_n 0, 1) := by decide +kernel
theorem dX9_areTwo_1 : decode cX9_areTwo 1 = .ok (.iload_n 1, 1) := by decide +kernel
theorem dX9_areTwo_2 : decode cX9_areTwo 2 = .ok (.invokevirtual 103, 3) := by decide +kernel
theorem dX9_areTwo_5 : decode cX9_areTwo 5 = .ok (.ifCond .eq 20, 3) := by decide +kernel
theorem dX9_areTwo_8 : decode cX9_areTwo 8 = .ok (.aload_n 0, 1) := by decide +kernel
theorem dX9_areTwo_9 : decode cX9_areTwo 9 = .ok (.iload_n 2, 1) := by decide +kernel
theorem dX9_areTwo_10 : decode cX9_areTwo 10 = .ok (.invokevirtual 103, 3) := by decide +kernel
theorem dX9_areTwo_13 : decode cX9_areTwo 13 = .ok (.ifCond .eq 12, 3) := by decide +kernel
theorem dX9_areTwo_16 : decode cX9_areTwo 16 = .ok (.iload_n 1, 1) := by decide +kernel
theorem dX9_areTwo_17 : decode cX9_areTwo 17 = .ok (.iload_n 2, 1) := by decide +kernel
theorem dX9_areTwo_18 : decode cX9_areTwo 18 = .ok (.if_icmp .eq 7, 3) := by decide +kernel
theorem dX9_areTwo_21 : decode cX9_areTwo 21 = .ok (.iconst 1, 1) := by decide +kernel
theorem dX9_areTwo_22 : decode cX9_areTwo 22 = .ok (.goto 4, 3) := by decide +kernel
theorem dX9_areTwo_25 : decode cX9_areTwo 25 = .ok (.iconst 0, 1) := by decide +kernel
theorem dX9_areTwo_26 : decode cX9_areTwo 26 = .ok (.ireturn, 1) := by decide +kernel
theorem dX9_feed_0 : decode cX9_feed 0 = .ok (.aload_n 0, 1) := by decide +kernel
theorem dX9_feed_1 : decode cX9_feed 1 = .ok (.getfield 107, 3) := by decide +kernel
theorem dX9_feed_4 : decode cX9_feed 4 = .ok (.bipush 20, 2) := by decide +kernel
theorem dX9_feed_6 : decode cX9_feed 6 = .ok (.iadd, 1) := by decide +kernel
theorem dX9_feed_7 : decode cX9_feed 7 = .ok (.sipush 800, 3) := by decide +kernel
theorem dX9_feed_10 : decode cX9_feed 10 = .ok (.if_icmp .le 5, 3) := by decide +kernel
theorem dX9_feed_13 : decode cX9_feed 13 = .ok (.iconst (-1), 1) := by decide +kernel
theorem dX9_feed_14 : decode cX9_feed 14 = .ok (.ireturn, 1) := by decide +kernel
theorem dX9_feed_15 : decode cX9_feed 15 = .ok (.aload_n 0, 1) := by decide +kernel
theorem dX9_feed_16 : decode cX9_feed 16 = .ok (.getfield 24, 3) := by decide +kernel
theorem dX9_feed_19 : decode cX9_feed 19 = .ok (.iconst 0, 1) := by decide +kernel
theorem dX9_feed_20 : decode cX9_feed 20 = .ok (.iload_n 1, 1) := by decide +kernel
theorem dX9_feed_21 : decode cX9_feed 21 = .ok (.iastore, 1) := by decide +kernel
theorem dX9_feed_22 : decode cX9_feed 22 = .ok (.aload_n 0, 1) := by decide +kernel
theorem dX9_feed_23 : decode cX9_feed 23 = .ok (.getfield 24, 3) := by decide +kernel
theorem dX9_feed_26 : decode cX9_feed 26 = .ok (.iconst 1, 1) := by decide +kernel
theorem dX9_feed_27 : decode cX9_feed 27 = .ok (.iload_n 2, 1) := by decide +kernel
theorem dX9_feed_28 : decode cX9_feed 28 = .ok (.iastore, 1) := by decide +kernel
theorem dX9_feed_29 : decode cX9_feed 29 = .ok (.aload_n 0, 1) := by decide +kernel
theorem dX9_feed_30 : decode cX9_feed 30 = .ok (.getfield 24, 3) := by decide +kernel
theorem dX9_feed_33 : decode cX9_feed 33 = .ok (.iconst 2, 1) := by decide +kernel
theorem dX9_feed_34 : decode cX9_feed 34 = .ok (.iload_n 3, 1) := by decide +kernel
theorem dX9_feed_35 : decode cX9_feed 35 = .ok (.iastore, 1) := by decide +kernel
theorem dX9_feed_36 : decode cX9_feed 36 = .ok (.aload_n 0, 1) := by decide +kernel
theorem dX9_feed_37 : decode cX9_feed 37 = .ok (.getfield 24, 3) := by decide +kernel
theorem dX9_feed_40 : decode cX9_feed 40 = .ok (.iconst 3, 1) := by decide +kernel
theorem dX9_feed_41 : decode cX9_feed 41 = .ok (.iload 4, 2) := by decide +kernel
theorem dX9_feed_43 : decode cX9_feed 43 = .ok (.iastore, 1) := by decide +kernel
theorem dX9_feed_44 : decode cX9_feed 44 = .ok (.aload_n 0, 1) := by decide +kernel
theorem dX9_feed_45 : decode cX9_feed 45 = .ok (.getfield 24, 3) := by decide +kernel
theorem dX9_feed_48 : decode cX9_feed 48 = .ok (.iconst 4, 1) := by decide +kernel
theorem dX9_feed_49 : decode cX9_feed 49 = .ok (.iload 5, 2) := by decide +kernel
theorem dX9_feed_51 : decode cX9_feed 51 = .ok (.iastore, 1) := by decide +kernel
theorem dX9_feed_52 : decode cX9_feed 52 = .ok (.iconst 0, 1) := by decide +kernel
theorem dX9_feed_53 : decode cX9_feed 53 = .ok (.istore 6, 2) := by decide +kernel
theorem dX9_feed_55 : decode cX9_feed 55 = .ok (.iload 6, 2) := by decide +kernel
theorem dX9_feed_57 : decode cX9_feed 57 = .ok (.bipush 20, 2) := by decide +kernel
theorem dX9_feed_59 : decode cX9_feed 59 = .ok (.if_icmp .ge 42, 3) := by decide +kernel
theorem dX9_feed_62 : decode cX9_feed 62 = .ok (.aload_n 0, 1) := by decide +kernel
theorem dX9_feed_63 : decode cX9_feed 63 = .ok (.getfield 20, 3) := by decide +kernel
theorem dX9_feed_66 : decode cX9_feed 66 = .ok (.aload_n 0, 1) := by decide +kernel
theorem dX9_feed_67 : decode cX9_feed 67 = .ok (.getfield 107, 3) := by decide +kernel
theorem dX9_feed_70 : decode cX9_feed 70 = .ok (.iload 6, 2) := by decide +kernel
theorem dX9_feed_72 : decode cX9_feed 72 = .ok (.iadd, 1) := by decide +kernel
theorem dX9_feed_73 : decode cX9_feed 73 = .ok (.aload_n 0, 1) := by decide +kernel
theorem dX9_feed_74 : decode cX9_feed 74 = .ok (.getfield 24, 3) := by decide +kernel
theorem dX9_feed_77 : decode cX9_feed 77 = .ok (.iload 6, 2) := by decide +kernel
theorem dX9_feed_79 : decode cX9_feed 79 = .ok (.iconst 4, 1) := by decide +kernel
theorem dX9_feed_80 : decode cX9_feed 80 = .ok (.idiv, 1) := by decide +kernel
theorem dX9_feed_81 : decode cX9_feed 81 = .ok (.iaload, 1) := by decide +kernel
theorem dX9_feed_82 : decode cX9_feed 82 = .ok (.bipush 24, 2) := by decide +kernel
theorem dX9_feed_84 : decode cX9_feed 84 = .ok (.bipush 8, 2) := by decide +kernel
theorem dX9_feed_86 : decode cX9_feed 86 = .ok (.iload 6, 2) := by decide +kernel
theorem dX9_feed_88 : decode cX9_feed 88 = .ok (.iconst 4, 1) := by decide +kernel
theorem dX9_feed_89 : decode cX9_feed 89 = .ok (.irem, 1) := by decide +kernel
theorem dX9_feed_90 : decode cX9_feed 90 = .ok (.imul, 1) := by decide +kernel
theorem dX9_feed_91 : decode cX9_feed 91 = .ok (.isub, 1) := by decide +kernel
theorem dX9_feed_92 : decode cX9_feed 92 = .ok (.ishr, 1) := by decide +kernel
theorem dX9_feed_93 : decode cX9_feed 93 = .ok (.i2b, 1) := by decide +kernel
theorem dX9_feed_94 : decode cX9_feed 94 = .ok (.bastore, 1) := by decide +kernel
theorem dX9_feed_95 : decode cX9_feed 95 = .ok (.iinc 6 1, 3) := by decide +kernel
theorem dX9_feed_98 : decode cX9_feed 98 = .ok (.goto (-43), 3) := by decide +kernel
theorem dX9_feed_101 : decode cX9_feed 101 = .ok (.aload_n 0, 1) := by decide +kernel
theorem dX9_feed_102 : decode cX9_feed 102 = .ok (.dup, 1) := by decide +kernel
theorem dX9_feed_103 : decode cX9_feed 103 = .ok (.getfield 107, 3) := by decide +kernel
theorem dX9_feed_106 : decode cX9_feed 106 = .ok (.bipush 20, 2) := by decide +kernel
theorem dX9_feed_108 : decode cX9_feed 108 = .ok (.iadd, 1) := by decide +kernel
theorem dX9_feed_109 : decode cX9_feed 109 = .ok (.putfield 107, 3) := by decide +kernel
theorem dX9_feed_112 : decode cX9_feed 112 = .ok (.aload_n 0, 1) := by decide +kernel
theorem dX9_feed_113 : decode cX9_feed 113 = .ok (.getfield 107, 3) := by decide +kernel
theorem dX9_feed_116 : decode cX9_feed 116 = .ok (.ireturn, 1) := by decide +kernel
theorem dX9_end_0 : decode cX9_end 0 = .ok (.iload_n 1, 1) := by decide +kernel
theorem dX9_end_1 : decode cX9_end 1 = .ok (.i2l, 1) := by decide +kernel
theorem dX9_end_2 : decode cX9_end 2 = .ok (.lconst 0, 1) := by decide +kernel
theorem dX9_end_3 : decode cX9_end 3 = .ok (.aload_n 0, 1) := by decide +kernel
theorem dX9_end_4 : decode cX9_end 4 = .ok (.getfield 107, 3) := by decide +kernel
theorem dX9_end_7 : decode cX9_end 7 = .ok (.i2l, 1) := by decide +kernel
theorem dX9_end_8 : decode cX9_end 8 = .ok (.invokestatic 88, 3) := by decide +kernel
theorem dX9_end_11 : decode cX9_end 11 = .ok (.ifCond .ne 5, 3) := by decide +kernel
theorem dX9_end_14 : decode cX9_end 14 = .ok (.iconst (-1), 1) := by decide +kernel
theorem dX9_end_15 : decode cX9_end 15 = .ok (.ireturn, 1) := by decide +kernel
theorem dX9_end_16 : decode cX9_end 16 = .ok (.aload_n 0, 1) := by decide +kernel
theorem dX9_end_17 : decode cX9_end 17 = .ok (.iload_n 1, 1) := by decide +kernel
theorem dX9_end_18 : decode cX9_end 18 = .ok (.putfield 107, 3) := by decide +kernel
theorem dX9_end_21 : decode cX9_end 21 = .ok (.iload_n 1, 1) := by decide +kernel
theorem dX9_end_22 : decode cX9_end 22 = .ok (.ireturn, 1) := by decide +kernel
theorem dX9_see_0 : decode cX9_see 0 = .ok (.iload_n 1, 1) := by decide +kernel
theorem dX9_see_1 : decode cX9_see 1 = .ok (.aload_n 0, 1) := by decide +kernel
theorem dX9_see_2 : decode cX9_see 2 = .ok (.getfield 110, 3) := by decide +kernel
theorem dX9_see_5 : decode cX9_see 5 = .ok (.if_icmp .ge 16, 3) := by decide +kernel
theorem dX9_see_8 : decode cX9_see 8 = .ok (.aload_n 0, 1) := by decide +kernel
theorem dX9_see_9 : decode cX9_see 9 = .ok (.getfield 20, 3) := by decide +kernel
theorem dX9_see_12 : decode cX9_see 12 = .ok (.iload_n 1, 1) := by decide +kernel
theorem dX9_see_13 : decode cX9_see 13 = .ok (.baload, 1) := by decide +kernel
theorem dX9_see_14 : decode cX9_see 14 = .ok (.sipush 255, 3) := by decide +kernel
theorem dX9_see_17 : decode cX9_see 17 = .ok (.iand, 1) := by decide +kernel
theorem dX9_see_18 : decode cX9_see 18 = .ok (.goto 4, 3) := by decide +kernel
theorem dX9_see_21 : decode cX9_see 21 = .ok (.iconst (-1), 1) := by decide +kernel
theorem dX9_see_22 : decode cX9_see 22 = .ok (.ireturn, 1) := by decide +kernel
theorem dX9_advance_0 : decode cX9_advance 0 = .ok (.aload_n 0, 1) := by decide +kernel
theorem dX9_advance_1 : decode cX9_advance 1 = .ok (.aload_n 0, 1) := by decide +kernel
theorem dX9_advance_2 : decode cX9_advance 2 = .ok (.getfield 113, 3) := by decide +kernel
theorem dX9_advance_5 : decode cX9_advance 5 = .ok (.invokevirtual 116, 3) := by decide +kernel
theorem dX9_advance_8 : decode cX9_advance 8 = .ok (.bipush 32, 2) := by decide +kernel
theorem dX9_advance_10 : decode cX9_advance 10 = .ok (.if_icmp .eq 16, 3) := by decide +kernel
theorem dX9_advance_13 : decode cX9_advance 13 = .ok (.aload_n 0, 1) := by decide +kernel
theorem dX9_advance_14 : decode cX9_advance 14 = .ok (.aload_n 0, 1) := by decide +kernel
theorem dX9_advance_15 : decode cX9_advance 15 = .ok (.getfield 113, 3) := by decide +kernel
theorem dX9_advance_18 : decode cX9_advance 18 = .ok (.invokevirtual 116, 3) := by decide +kernel
theorem dX9_advance_21 : decode cX9_advance 21 = .ok (.bipush 10, 2) := by decide +kernel
theorem dX9_advance_23 : decode cX9_advance 23 = .ok (.if_icmp .ne 16, 3) := by decide +kernel
theorem dX9_advance_26 : decode cX9_advance 26 = .ok (.aload_n 0, 1) := by decide +kernel
theorem dX9_advance_27 : decode cX9_advance 27 = .ok (.dup, 1) := by decide +kernel
theorem dX9_advance_28 : decode cX9_advance 28 = .ok (.getfield 113, 3) := by decide +kernel
theorem dX9_advance_31 : decode cX9_advance 31 = .ok (.iconst 1, 1) := by decide +kernel
theorem dX9_advance_32 : decode cX9_advance 32 = .ok (.iadd, 1) := by decide +kernel
theorem dX9_advance_33 : decode cX9_advance 33 = .ok (.putfield 113, 3) := by decide +kernel
theorem dX9_advance_36 : decode cX9_advance 36 = .ok (.goto (-36), 3) := by decide +kernel
theorem dX9_advance_39 : decode cX9_advance 39 = .ok (.aload_n 0, 1) := by decide +kernel
theorem dX9_advance_40 : decode cX9_advance 40 = .ok (.aload_n 0, 1) := by decide +kernel
theorem dX9_advance_41 : decode cX9_advance 41 = .ok (.getfield 113, 3) := by decide +kernel
theorem dX9_advance_44 : decode cX9_advance 44 = .ok (.putfield 120, 3) := by decide +kernel
theorem dX9_advance_47 : decode cX9_advance 47 = .ok (.aload_n 0, 1) := by decide +kernel
theorem dX9_advance_48 : decode cX9_advance 48 = .ok (.aload_n 0, 1) := by decide +kernel
theorem dX9_advance_49 : decode cX9_advance 49 = .ok (.getfield 113, 3) := by decide +kernel
theorem dX9_advance_52 : decode cX9_advance 52 = .ok (.invokevirtual 116, 3) := by decide +kernel
theorem dX9_advance_55 : decode cX9_advance 55 = .ok (.istore_n 1, 1) := by decide +kernel
theorem dX9_advance_56 : decode cX9_advance 56 = .ok (.iload_n 1, 1) := by decide +kernel
theorem dX9_advance_57 : decode cX9_advance 57 = .ok (.iconst (-1), 1) := by decide +kernel
theorem dX9_advance_58 : decode cX9_advance 58 = .ok (.if_icmp .ne 11, 3) := by decide +kernel
theorem dX9_advance_61 : decode cX9_advance 61 = .ok (.aload_n 0, 1) := by decide +kernel
theorem dX9_advance_62 : decode cX9_advance 62 = .ok (.iconst 0, 1) := by decide +kernel
theorem dX9_advance_63 : decode cX9_advance 63 = .ok (.putfield 123, 3) := by decide +kernel
theorem dX9_advance_66 : decode cX9_advance 66 = .ok (.goto 173, 3) := by decide +kernel
theorem dX9_advance_69 : decode cX9_advance 69 = .ok (.iload_n 1, 1) := by decide +kernel
theorem dX9_advance_70 : decode cX9_advance 70 = .ok (.i2l, 1) := by decide +kernel
theorem dX9_advance_71 : decode cX9_advance 71 = .ok (.ldc2_w 126, 3) := by decide +kernel
theorem dX9_advance_74 : decode cX9_advance 74 = .ok (.ldc2_w 128, 3) := by decide +kernel
theorem dX9_advance_77 : decode cX9_advance 77 = .ok (.invokestatic 88, 3) := by decide +kernel
theorem dX9_advance_80 : decode cX9_advance 80 = .ok (.ifCond .eq 45, 3) := by decide +kernel
theorem dX9_advance_83 : decode cX9_advance 83 = .ok (.aload_n 0, 1) := by decide +kernel
theorem dX9_advance_84 : decode cX9_advance 84 = .ok (.aload_n 0, 1) := by decide +kernel
theorem dX9_advance_85 : decode cX9_advance 85 = .ok (.getfield 113, 3) := by decide +kernel
theorem dX9_advance_88 : decode cX9_advance 88 = .ok (.invokevirtual 116, 3) := by decide +kernel
theorem dX9_advance_91 : decode cX9_advance 91 = .ok (.i2l, 1) := by decide +kernel
theorem dX9_advance_92 : decode cX9_advance 92 = .ok (.ldc2_w 126, 3) := by decide +kernel
theorem dX9_advance_95 : decode cX9_advance 95 = .ok (.ldc2_w 128, 3) := by decide +kernel
theorem dX9_advance_98 : decode cX9_advance 98 = .ok (.invokestatic 88, 3) := by decide +kernel
theorem dX9_advance_101 : decode cX9_advance 101 = .ok (.ifCond .eq 16, 3) := by decide +kernel
theorem dX9_advance_104 : decode cX9_advance 104 = .ok (.aload_n 0, 1) := by decide +kernel
theorem dX9_advance_105 : decode cX9_advance 105 = .ok (.dup, 1) := by decide +kernel
theorem dX9_advance_106 : decode cX9_advance 106 = .ok (.getfield 113, 3) := by decide +kernel
theorem dX9_advance_109 : decode cX9_advance 109 = .ok (.iconst 1, 1) := by decide +kernel
theorem dX9_advance_110 : decode cX9_advance 110 = .ok (.iadd, 1) := by decide +kernel
theorem dX9_advance_111 : decode cX9_advance 111 = .ok (.putfield 113, 3) := by decide +kernel
theorem dX9_advance_114 : decode cX9_advance 114 = .ok (.goto (-31), 3) := by decide +kernel
theorem dX9_advance_117 : decode cX9_advance 117 = .ok (.aload_n 0, 1) := by decide +kernel
theorem dX9_advance_118 : decode cX9_advance 118 = .ok (.iconst 1, 1) := by decide +kernel
theorem dX9_advance_119 : decode cX9_advance 119 = .ok (.putfield 123, 3) := by decide +kernel
theorem dX9_advance_122 : decode cX9_advance 122 = .ok (.goto 117, 3) := by decide +kernel
theorem dX9_advance_125 : decode cX9_advance 125 = .ok (.iload_n 1, 1) := by decide +kernel
theorem dX9_advance_126 : decode cX9_advance 126 = .ok (.i2l, 1) := by decide +kernel
theorem dX9_advance_127 : decode cX9_advance 127 = .ok (.ldc2_w 130, 3) := by decide +kernel
theorem dX9_advance_130 : decode cX9_advance 130 = .ok (.ldc2_w 132, 3) := by decide +kernel
theorem dX9_advance_133 : decode cX9_advance 133 = .ok (.invokestatic 88, 3) := by decide +kernel
theorem dX9_advance_136 : decode cX9_advance 136 = .ok (.ifCond .eq 78, 3) := by decide +kernel
theorem dX9_advance_139 : decode cX9_advance 139 = .ok (.aload_n 0, 1) := by decide +kernel
theorem dX9_advance_140 : decode cX9_advance 140 = .ok (.iconst 0, 1) := by decide +kernel
theorem dX9_advance_141 : decode cX9_advance 141 = .ok (.putfield 134, 3) := by decide +kernel
theorem dX9_advance_144 : decode cX9_advance 144 = .ok (.aload_n 0, 1) := by decide +kernel
theorem dX9_advance_145 : decode cX9_advance 145 = .ok (.aload_n 0, 1) := by decide +kernel
theorem dX9_advance_146 : decode cX9_advance 146 = .ok (.getfield 113, 3) := by decide +kernel
theorem dX9_advance_149 : decode cX9_advance 149 = .ok (.invokevirtual 116, 3) := by decide +kernel
theorem dX9_advance_152 : decode cX9_advance 152 = .ok (.i2l, 1) := by decide +kernel
theorem dX9_advance_153 : decode cX9_advance 153 = .ok (.ldc2_w 130, 3) := by decide +kernel
theorem dX9_advance_156 : decode cX9_advance 156 = .ok (.ldc2_w 132, 3) := by decide +kernel
theorem dX9_advance_159 : decode cX9_advance 159 = .ok (.invokestatic 88, 3) := by decide +kernel
theorem dX9_advance_162 : decode cX9_advance 162 = .ok (.ifCond .eq 44, 3) := by decide +kernel
theorem dX9_advance_165 : decode cX9_advance 165 = .ok (.aload_n 0, 1) := by decide +kernel
theorem dX9_advance_166 : decode cX9_advance 166 = .ok (.ldc 137, 2) := by decide +kernel
theorem dX9_advance_168 : decode cX9_advance 168 = .ok (.bipush 10, 2) := by decide +kernel
theorem dX9_advance_170 : decode cX9_advance 170 = .ok (.aload_n 0, 1) := by decide +kernel
theorem dX9_advance_171 : decode cX9_advance 171 = .ok (.getfield 134, 3) := by decide +kernel
theorem dX9_advance_174 : decode cX9_advance 174 = .ok (.imul, 1) := by decide +kernel
theorem dX9_advance_175 : decode cX9_advance 175 = .ok (.aload_n 0, 1) := by decide +kernel
theorem dX9_advance_176 : decode cX9_advance 176 = .ok (.aload_n 0, 1) := by decide +kernel
theorem dX9_advance_177 : decode cX9_advance 177 = .ok (.getfield 113, 3) := by decide +kernel
theorem dX9_advance_180 : decode cX9_advance 180 = .ok (.invokevirtual 116, 3) := by decide +kernel
theorem dX9_advance_183 : decode cX9_advance 183 = .ok (.iadd, 1) := by decide +kernel
theorem dX9_advance_184 : decode cX9_advance 184 = .ok (.bipush 48, 2) := by decide +kernel
theorem dX9_advance_186 : decode cX9_advance 186 = .ok (.isub, 1) := by decide +kernel
theorem dX9_advance_187 : decode cX9_advance 187 = .ok (.invokestatic 138, 3) := by decide +kernel
theorem dX9_advance_190 : decode cX9_advance 190 = .ok (.putfield 134, 3) := by decide +kernel
theorem dX9_advance_193 : decode cX9_advance 193 = .ok (.aload_n 0, 1) := by decide +kernel
theorem dX9_advance_194 : decode cX9_advance 194 = .ok (.dup, 1) := by decide +kernel
theorem dX9_advance_195 : decode cX9_advance 195 = .ok (.getfield 113, 3) := by decide +kernel
theorem dX9_advance_198 : decode cX9_advance 198 = .ok (.iconst 1, 1) := by decide +kernel
theorem dX9_advance_199 : decode cX9_advance 199 = .ok (.iadd, 1) := by decide +kernel
theorem dX9_advance_200 : decode cX9_advance 200 = .ok (.putfield 113, 3) := by decide +kernel
theorem dX9_advance_203 : decode cX9_advance 203 = .ok (.goto (-59), 3) := by decide +kernel
theorem dX9_advance_206 : decode cX9_advance 206 = .ok (.aload_n 0, 1) := by decide +kernel
theorem dX9_advance_207 : decode cX9_advance 207 = .ok (.iconst 2, 1) := by decide +kernel
theorem dX9_advance_208 : decode cX9_advance 208 = .ok (.putfield 123, 3) := by decide +kernel
theorem dX9_advance_211 : decode cX9_advance 211 = .ok (.goto 28, 3) := by decide +kernel
theorem dX9_advance_214 : decode cX9_advance 214 = .ok (.aload_n 0, 1) := by decide +kernel
theorem dX9_advance_215 : decode cX9_advance 215 = .ok (.iload_n 1, 1) := by decide +kernel
theorem dX9_advance_216 : decode cX9_advance 216 = .ok (.bipush 59, 2) := by decide +kernel
theorem dX9_advance_218 : decode cX9_advance 218 = .ok (.if_icmp .ne 7, 3) := by decide +kernel
theorem dX9_advance_221 : decode cX9_advance 221 = .ok (.iconst 3, 1) := by decide +kernel
theorem dX9_advance_222 : decode cX9_advance 222 = .ok (.goto 4, 3) := by decide +kernel
theorem dX9_advance_225 : decode cX9_advance 225 = .ok (.iconst 4, 1) := by decide +kernel
theorem dX9_advance_226 : decode cX9_advance 226 = .ok (.putfield 123, 3) := by decide +kernel
theorem dX9_advance_229 : decode cX9_advance 229 = .ok (.aload_n 0, 1) := by decide +kernel
theorem dX9_advance_230 : decode cX9_advance 230 = .ok (.dup, 1) := by decide +kernel
theorem dX9_advance_231 : decode cX9_advance 231 = .ok (.getfield 113, 3) := by decide +kernel
theorem dX9_advance_234 : decode cX9_advance 234 = .ok (.iconst 1, 1) := by decide +kernel
theorem dX9_advance_235 : decode cX9_advance 235 = .ok (.iadd, 1) := by decide +kernel
theorem dX9_advance_236 : decode cX9_advance 236 = .ok (.putfield 113, 3) := by decide +kernel
theorem dX9_advance_239 : decode cX9_advance 239 = .ok (.return_, 1) := by decide +kernel
theorem dX9_good_0 : decode cX9_good 0 = .ok (.aload_n 0, 1) := by decide +kernel
theorem dX9_good_1 : decode cX9_good 1 = .ok (.getfield 144, 3) := by decide +kernel
theorem dX9_good_4 : decode cX9_good 4 = .ok (.ifCond .ne 7, 3) := by decide +kernel
theorem dX9_good_7 : decode cX9_good 7 = .ok (.iconst 1, 1) := by decide +kernel
theorem dX9_good_8 : decode cX9_good 8 = .ok (.goto 4, 3) := by decide +kernel
theorem dX9_good_11 : decode cX9_good 11 = .ok (.iconst 0, 1) := by decide +kernel
theorem dX9_good_12 : decode cX9_good 12 = .ok (.ireturn, 1) := by decide +kernel
theorem dX9_errs_0 : decode cX9_errs 0 = .ok (.aload_n 0, 1) := by decide +kernel
theorem dX9_errs_1 : decode cX9_errs 1 = .ok (.invokevirtual 147, 3) := by decide +kernel
theorem dX9_errs_4 : decode cX9_errs 4 = .ok (.ifCond .ne 4, 3) := by decide +kernel
theorem dX9_errs_7 : decode cX9_errs 7 = .ok (.return_, 1) := by decide +kernel
theorem dX9_errs_8 : decode cX9_errs 8 = .ok (.aload_n 0, 1) := by decide +kernel
theorem dX9_errs_9 : decode cX9_errs 9 = .ok (.iload_n 1, 1) := by decide +kernel
theorem dX9_errs_10 : decode cX9_errs 10 = .ok (.putfield 144, 3) := by decide +kernel
theorem dX9_errs_13 : decode cX9_errs 13 = .ok (.aload_n 0, 1) := by decide +kernel
theorem dX9_errs_14 : decode cX9_errs 14 = .ok (.aload_n 0, 1) := by decide +kernel
theorem dX9_errs_15 : decode cX9_errs 15 = .ok (.getfield 120, 3) := by decide +kernel
theorem dX9_errs_18 : decode cX9_errs 18 = .ok (.putfield 27, 3) := by decide +kernel
theorem dX9_errs_21 : decode cX9_errs 21 = .ok (.return_, 1) := by decide +kernel
theorem dX9_is_0 : decode cX9_is 0 = .ok (.aload_n 0, 1) := by decide +kernel
theorem dX9_is_1 : decode cX9_is 1 = .ok (.invokevirtual 147, 3) := by decide +kernel
theorem dX9_is_4 : decode cX9_is 4 = .ok (.ifCond .eq 31, 3) := by decide +kernel
theorem dX9_is_7 : decode cX9_is 7 = .ok (.aload_n 0, 1) := by decide +kernel
theorem dX9_is_8 : decode cX9_is 8 = .ok (.getfield 123, 3) := by decide +kernel
theorem dX9_is_11 : decode cX9_is 11 = .ok (.iconst 1, 1) := by decide +kernel
theorem dX9_is_12 : decode cX9_is 12 = .ok (.if_icmp .ne 23, 3) := by decide +kernel
theorem dX9_is_15 : decode cX9_is 15 = .ok (.aload_n 0, 1) := by decide +kernel
theorem dX9_is_16 : decode cX9_is 16 = .ok (.getfield 113, 3) := by decide +kernel
theorem dX9_is_19 : decode cX9_is 19 = .ok (.aload_n 0, 1) := by decide +kernel
theorem dX9_is_20 : decode cX9_is 20 = .ok (.getfield 120, 3) := by decide +kernel
theorem dX9_is_23 : decode cX9_is 23 = .ok (.isub, 1) := by decide +kernel
theorem dX9_is_24 : decode cX9_is 24 = .ok (.aload_n 1, 1) := by decide +kernel
theorem dX9_is_25 : decode cX9_is 25 = .ok (.invokevirtual 150, 3) := by decide +kernel
theorem dX9_is_28 : decode cX9_is 28 = .ok (.if_icmp .ne 7, 3) := by decide +kernel
theorem dX9_is_31 : decode cX9_is 31 = .ok (.iconst 1, 1) := by decide +kernel
theorem dX9_is_32 : decode cX9_is 32 = .ok (.goto 4, 3) := by decide +kernel
theorem dX9_is_35 : decode cX9_is 35 = .ok (.iconst 0, 1) := by decide +kernel
theorem dX9_is_36 : decode cX9_is 36 = .ok (.istore_n 2, 1) := by decide +kernel
theorem dX9_is_37 : decode cX9_is 37 = .ok (.iconst 0, 1) := by decide +kernel
theorem dX9_is_38 : decode cX9_is 38 = .ok (.istore_n 3, 1) := by decide +kernel
theorem dX9_is_39 : decode cX9_is 39 = .ok (.iload_n 3, 1) := by decide +kernel
theorem dX9_is_40 : decode cX9_is 40 = .ok (.aload_n 1, 1) := by decide +kernel
theorem dX9_is_41 : decode cX9_is 41 = .ok (.invokevirtual 150, 3) := by decide +kernel
theorem dX9_is_44 : decode cX9_is 44 = .ok (.if_icmp .ge 38, 3) := by decide +kernel
theorem dX9_is_47 : decode cX9_is 47 = .ok (.iload_n 2, 1) := by decide +kernel
theorem dX9_is_48 : decode cX9_is 48 = .ok (.ifCond .eq 34, 3) := by decide +kernel
theorem dX9_is_51 : decode cX9_is 51 = .ok (.aload_n 0, 1) := by decide +kernel
theorem dX9_is_52 : decode cX9_is 52 = .ok (.getfield 20, 3) := by decide +kernel
theorem dX9_is_55 : decode cX9_is 55 = .ok (.aload_n 0, 1) := by decide +kernel
theorem dX9_is_56 : decode cX9_is 56 = .ok (.getfield 120, 3) := by decide +kernel
theorem dX9_is_59 : decode cX9_is 59 = .ok (.iload_n 3, 1) := by decide +kernel
theorem dX9_is_60 : decode cX9_is 60 = .ok (.iadd, 1) := by decide +kernel
theorem dX9_is_61 : decode cX9_is 61 = .ok (.baload, 1) := by decide +kernel
theorem dX9_is_62 : decode cX9_is 62 = .ok (.aload_n 1, 1) := by decide +kernel
theorem dX9_is_63 : decode cX9_is 63 = .ok (.iload_n 3, 1) := by decide +kernel
theorem dX9_is_64 : decode cX9_is 64 = .ok (.invokevirtual 155, 3) := by decide +kernel
theorem dX9_is_67 : decode cX9_is 67 = .ok (.if_icmp .ne 7, 3) := by decide +kernel
theorem dX9_is_70 : decode cX9_is 70 = .ok (.iconst 1, 1) := by decide +kernel
theorem dX9_is_71 : decode cX9_is 71 = .ok (.goto 4, 3) := by decide +kernel
theorem dX9_is_74 : decode cX9_is 74 = .ok (.iconst 0, 1) := by decide +kernel
theorem dX9_is_75 : decode cX9_is 75 = .ok (.istore_n 2, 1) := by decide +kernel
theorem dX9_is_76 : decode cX9_is 76 = .ok (.iinc 3 1, 3) := by decide +kernel
theorem dX9_is_79 : decode cX9_is 79 = .ok (.goto (-40), 3) := by decide +kernel
theorem dX9_is_82 : decode cX9_is 82 = .ok (.iload_n 2, 1) := by decide +kernel
theorem dX9_is_83 : decode cX9_is 83 = .ok (.ireturn, 1) := by decide +kernel
theorem dX9_takes_0 : decode cX9_takes 0 = .ok (.aload_n 0, 1) := by decide +kernel
theorem dX9_takes_1 : decode cX9_takes 1 = .ok (.aload_n 1, 1) := by decide +kernel
theorem dX9_takes_2 : decode cX9_takes 2 = .ok (.invokevirtual 159, 3) := by decide +kernel
theorem dX9_takes_5 : decode cX9_takes 5 = .ok (.istore_n 2, 1) := by decide +kernel
theorem dX9_takes_6 : decode cX9_takes 6 = .ok (.iload_n 2, 1) := by decide +kernel
theorem dX9_takes_7 : decode cX9_takes 7 = .ok (.ifCond .eq 7, 3) := by decide +kernel
theorem dX9_takes_10 : decode cX9_takes 10 = .ok (.aload_n 0, 1) := by decide +kernel
theorem dX9_takes_11 : decode cX9_takes 11 = .ok (.invokevirtual 163, 3) := by decide +kernel
theorem dX9_takes_14 : decode cX9_takes 14 = .ok (.iload_n 2, 1) := by decide +kernel
theorem dX9_takes_15 : decode cX9_takes 15 = .ok (.ireturn, 1) := by decide +kernel
theorem dX9_needs_0 : decode cX9_needs 0 = .ok (.aload_n 0, 1) := by decide +kernel
theorem dX9_needs_1 : decode cX9_needs 1 = .ok (.aload_n 1, 1) := by decide +kernel
theorem dX9_needs_2 : decode cX9_needs 2 = .ok (.invokevirtual 166, 3) := by decide +kernel
theorem dX9_needs_5 : decode cX9_needs 5 = .ok (.ifCond .ne 8, 3) := by decide +kernel
theorem dX9_needs_8 : decode cX9_needs 8 = .ok (.aload_n 0, 1) := by decide +kernel
theorem dX9_needs_9 : decode cX9_needs 9 = .ok (.iconst 1, 1) := by decide +kernel
theorem dX9_needs_10 : decode cX9_needs 10 = .ok (.invokevirtual 169, 3) := by decide +kernel
theorem dX9_needs_13 : decode cX9_needs 13 = .ok (.return_, 1) := by decide +kernel
theorem dX9_number_0 : decode cX9_number 0 = .ok (.aload_n 0, 1) := by decide +kernel
theorem dX9_number_1 : decode cX9_number 1 = .ok (.invokevirtual 147, 3) := by decide +kernel
theorem dX9_number_4 : decode cX9_number 4 = .ok (.ifCond .eq 16, 3) := by decide +kernel
theorem dX9_number_7 : decode cX9_number 7 = .ok (.aload_n 0, 1) := by decide +kernel
theorem dX9_number_8 : decode cX9_number 8 = .ok (.getfield 123, 3) := by decide +kernel
theorem dX9_number_11 : decode cX9_number 11 = .ok (.iconst 2, 1) := by decide +kernel
theorem dX9_number_12 : decode cX9_number 12 = .ok (.if_icmp .eq 8, 3) := by decide +kernel
theorem dX9_number_15 : decode cX9_number 15 = .ok (.aload_n 0, 1) := by decide +kernel
theorem dX9_number_16 : decode cX9_number 16 = .ok (.iconst 1, 1) := by decide +kernel
theorem dX9_number_17 : decode cX9_number 17 = .ok (.invokevirtual 169, 3) := by decide +kernel
theorem dX9_number_20 : decode cX9_number 20 = .ok (.aload_n 0, 1) := by decide +kernel
theorem dX9_number_21 : decode cX9_number 21 = .ok (.invokevirtual 147, 3) := by decide +kernel
theorem dX9_number_24 : decode cX9_number 24 = .ok (.ifCond .eq 23, 3) := by decide +kernel
theorem dX9_number_27 : decode cX9_number 27 = .ok (.aload_n 0, 1) := by decide +kernel
theorem dX9_number_28 : decode cX9_number 28 = .ok (.getfield 134, 3) := by decide +kernel
theorem dX9_number_31 : decode cX9_number 31 = .ok (.i2l, 1) := by decide +kernel
theorem dX9_number_32 : decode cX9_number 32 = .ok (.iload_n 1, 1) := by decide +kernel
theorem dX9_number_33 : decode cX9_number 33 = .ok (.i2l, 1) := by decide +kernel
theorem dX9_number_34 : decode cX9_number 34 = .ok (.iload_n 2, 1) := by decide +kernel
theorem dX9_number_35 : decode cX9_number 35 = .ok (.i2l, 1) := by decide +kernel
theorem dX9_number_36 : decode cX9_number 36 = .ok (.invokestatic 88, 3) := by decide +kernel
theorem dX9_number_39 : decode cX9_number 39 = .ok (.ifCond .ne 8, 3) := by decide +kernel
theorem dX9_number_42 : decode cX9_number 42 = .ok (.aload_n 0, 1) := by decide +kernel
theorem dX9_number_43 : decode cX9_number 43 = .ok (.iconst 2, 1) := by decide +kernel
theorem dX9_number_44 : decode cX9_number 44 = .ok (.invokevirtual 169, 3) := by decide +kernel
theorem dX9_number_47 : decode cX9_number 47 = .ok (.aload_n 0, 1) := by decide +kernel
theorem dX9_number_48 : decode cX9_number 48 = .ok (.invokevirtual 147, 3) := by decide +kernel
theorem dX9_number_51 : decode cX9_number 51 = .ok (.ifCond .ne 5, 3) := by decide +kernel
theorem dX9_number_54 : decode cX9_number 54 = .ok (.iconst 0, 1) := by decide +kernel
theorem dX9_number_55 : decode cX9_number 55 = .ok (.ireturn, 1) := by decide +kernel
theorem dX9_number_56 : decode cX9_number 56 = .ok (.aload_n 0, 1) := by decide +kernel
theorem dX9_number_57 : decode cX9_number 57 = .ok (.getfield 134, 3) := by decide +kernel
theorem dX9_number_60 : decode cX9_number 60 = .ok (.istore_n 3, 1) := by decide +kernel
theorem dX9_number_61 : decode cX9_number 61 = .ok (.aload_n 0, 1) := by decide +kernel
theorem dX9_number_62 : decode cX9_number 62 = .ok (.invokevirtual 163, 3) := by decide +kernel
theorem dX9_number_65 : decode cX9_number 65 = .ok (.iload_n 3, 1) := by decide +kernel
theorem dX9_number_66 : decode cX9_number 66 = .ok (.ireturn, 1) := by decide +kernel
theorem dX9_told_0 : decode cX9_told 0 = .ok (.aload_n 0, 1) := by decide +kernel
theorem dX9_told_1 : decode cX9_told 1 = .ok (.aload_n 1, 1) := by decide +kernel
theorem dX9_told_2 : decode cX9_told 2 = .ok (.invokevirtual 173, 3) := by decide +kernel
theorem dX9_told_5 : decode cX9_told 5 = .ok (.aload_n 0, 1) := by decide +kernel
theorem dX9_told_6 : decode cX9_told 6 = .ok (.iload_n 2, 1) := by decide +kernel
theorem dX9_told_7 : decode cX9_told 7 = .ok (.iload_n 3, 1) := by decide +kernel
theorem dX9_told_8 : decode cX9_told 8 = .ok (.invokevirtual 177, 3) := by decide +kernel
theorem dX9_told_11 : decode cX9_told 11 = .ok (.ireturn, 1) := by decide +kernel
theorem dX9_fault_0 : decode cX9_fault 0 = .ok (.iload_n 1, 1) := by decide +kernel
theorem dX9_fault_1 : decode cX9_fault 1 = .ok (.ifCond .ne 10, 3) := by decide +kernel
theorem dX9_fault_4 : decode cX9_fault 4 = .ok (.aload_n 0, 1) := by decide +kernel
theorem dX9_fault_5 : decode cX9_fault 5 = .ok (.getfield 144, 3) := by decide +kernel
theorem dX9_fault_8 : decode cX9_fault 8 = .ok (.goto 16, 3) := by decide +kernel
theorem dX9_fault_11 : decode cX9_fault 11 = .ok (.iload_n 1, 1) := by decide +kernel
theorem dX9_fault_12 : decode cX9_fault 12 = .ok (.iconst 1, 1) := by decide +kernel
theorem dX9_fault_13 : decode cX9_fault 13 = .ok (.if_icmp .ne 10, 3) := by decide +kernel
theorem dX9_fault_16 : decode cX9_fault 16 = .ok (.aload_n 0, 1) := by decide +kernel
theorem dX9_fault_17 : decode cX9_fault 17 = .ok (.getfield 27, 3) := by decide +kernel
theorem dX9_fault_20 : decode cX9_fault 20 = .ok (.goto 4, 3) := by decide +kernel
theorem dX9_fault_23 : decode cX9_fault 23 = .ok (.iconst (-1), 1) := by decide +kernel
theorem dX9_fault_24 : decode cX9_fault 24 = .ok (.ireturn, 1) := by decide +kernel
theorem dX9_readFirst_0 : decode cX9_readFirst 0 = .ok (.aload_n 0, 1) := by decide +kernel
theorem dX9_readFirst_1 : decode cX9_readFirst 1 = .ok (.ldc 180, 2) := by decide +kernel
theorem dX9_readFirst_3 : decode cX9_readFirst 3 = .ok (.invokevirtual 173, 3) := by decide +kernel
theorem dX9_readFirst_6 : decode cX9_readFirst 6 = .ok (.aload_n 0, 1) := by decide +kernel
theorem dX9_readFirst_7 : decode cX9_readFirst 7 = .ok (.getfield 31, 3) := by decide +kernel
theorem dX9_readFirst_10 : decode cX9_readFirst 10 = .ok (.iconst 0, 1) := by decide +kernel
theorem dX9_readFirst_11 : decode cX9_readFirst 11 = .ok (.aload_n 0, 1) := by decide +kernel
theorem dX9_readFirst_12 : decode cX9_readFirst 12 = .ok (.ldc 182, 2) := by decide +kernel
theorem dX9_readFirst_14 : decode cX9_readFirst 14 = .ok (.iconst 1, 1) := by decide +kernel
theorem dX9_readFirst_15 : decode cX9_readFirst 15 = .ok (.bipush 20, 2) := by decide +kernel
theorem dX9_readFirst_17 : decode cX9_readFirst 17 = .ok (.invokevirtual 183, 3) := by decide +kernel
theorem dX9_readFirst_20 : decode cX9_readFirst 20 = .ok (.iastore, 1) := by decide +kernel
theorem dX9_readFirst_21 : decode cX9_readFirst 21 = .ok (.aload_n 0, 1) := by decide +kernel
theorem dX9_readFirst_22 : decode cX9_readFirst 22 = .ok (.getfield 31, 3) := by decide +kernel
theorem dX9_readFirst_25 : decode cX9_readFirst 25 = .ok (.iconst 1, 1) := by decide +kernel
theorem dX9_readFirst_26 : decode cX9_readFirst 26 = .ok (.aload_n 0, 1) := by decide +kernel
theorem dX9_readFirst_27 : decode cX9_readFirst 27 = .ok (.ldc 187, 2) := by decide +kernel
theorem dX9_readFirst_29 : decode cX9_readFirst 29 = .ok (.iconst 0, 1) := by decide +kernel
theorem dX9_readFirst_30 : decode cX9_readFirst 30 = .ok (.iconst 3, 1) := by decide +kernel
theorem dX9_readFirst_31 : decode cX9_readFirst 31 = .ok (.invokevirtual 183, 3) := by decide +kernel
theorem dX9_readFirst_34 : decode cX9_readFirst 34 = .ok (.iastore, 1) := by decide +kernel
theorem dX9_readFirst_35 : decode cX9_readFirst 35 = .ok (.aload_n 0, 1) := by decide +kernel
theorem dX9_readFirst_36 : decode cX9_readFirst 36 = .ok (.getfield 31, 3) := by decide +kernel
theorem dX9_readFirst_39 : decode cX9_readFirst 39 = .ok (.iconst 2, 1) := by decide +kernel
theorem dX9_readFirst_40 : decode cX9_readFirst 40 = .ok (.aload_n 0, 1) := by decide +kernel
theorem dX9_readFirst_41 : decode cX9_readFirst 41 = .ok (.ldc 189, 2) := by decide +kernel
theorem dX9_readFirst_43 : decode cX9_readFirst 43 = .ok (.iconst 1, 1) := by decide +kernel
theorem dX9_readFirst_44 : decode cX9_readFirst 44 = .ok (.bipush 30, 2) := by decide +kernel
theorem dX9_readFirst_46 : decode cX9_readFirst 46 = .ok (.invokevirtual 183, 3) := by decide +kernel
theorem dX9_readFirst_49 : decode cX9_readFirst 49 = .ok (.iastore, 1) := by decide +kernel
theorem dX9_readFirst_50 : decode cX9_readFirst 50 = .ok (.aload_n 0, 1) := by decide +kernel
theorem dX9_readFirst_51 : decode cX9_readFirst 51 = .ok (.getfield 31, 3) := by decide +kernel
theorem dX9_readFirst_54 : decode cX9_readFirst 54 = .ok (.iconst 3, 1) := by decide +kernel
theorem dX9_readFirst_55 : decode cX9_readFirst 55 = .ok (.aload_n 0, 1) := by decide +kernel
theorem dX9_readFirst_56 : decode cX9_readFirst 56 = .ok (.ldc 191, 2) := by decide +kernel
theorem dX9_readFirst_58 : decode cX9_readFirst 58 = .ok (.iconst 0, 1) := by decide +kernel
theorem dX9_readFirst_59 : decode cX9_readFirst 59 = .ok (.bipush 10, 2) := by decide +kernel
theorem dX9_readFirst_61 : decode cX9_readFirst 61 = .ok (.invokevirtual 183, 3) := by decide +kernel
theorem dX9_readFirst_64 : decode cX9_readFirst 64 = .ok (.iastore, 1) := by decide +kernel
theorem dX9_readFirst_65 : decode cX9_readFirst 65 = .ok (.return_, 1) := by decide +kernel
theorem dX9_isFull_0 : decode cX9_isFull 0 = .ok (.aload_n 0, 1) := by decide +kernel
theorem dX9_isFull_1 : decode cX9_isFull 1 = .ok (.ldc 193, 2) := by decide +kernel
theorem dX9_isFull_3 : decode cX9_isFull 3 = .ok (.invokevirtual 159, 3) := by decide +kernel
theorem dX9_isFull_6 : decode cX9_isFull 6 = .ok (.ifCond .eq 14, 3) := by decide +kernel
theorem dX9_isFull_9 : decode cX9_isFull 9 = .ok (.aload_n 0, 1) := by decide +kernel
theorem dX9_isFull_10 : decode cX9_isFull 10 = .ok (.getfield 31, 3) := by decide +kernel
theorem dX9_isFull_13 : decode cX9_isFull 13 = .ok (.iconst 4, 1) := by decide +kernel
theorem dX9_isFull_14 : decode cX9_isFull 14 = .ok (.iaload, 1) := by decide +kernel
theorem dX9_isFull_15 : decode cX9_isFull 15 = .ok (.bipush 8, 2) := by decide +kernel
theorem dX9_isFull_17 : decode cX9_isFull 17 = .ok (.if_icmp .eq 23, 3) := by decide +kernel
theorem dX9_isFull_20 : decode cX9_isFull 20 = .ok (.aload_n 0, 1) := by decide +kernel
theorem dX9_isFull_21 : decode cX9_isFull 21 = .ok (.ldc 195, 2) := by decide +kernel
theorem dX9_isFull_23 : decode cX9_isFull 23 = .ok (.invokevirtual 159, 3) := by decide +kernel
theorem dX9_isFull_26 : decode cX9_isFull 26 = .ok (.ifCond .eq 16, 3) := by decide +kernel
theorem dX9_isFull_29 : decode cX9_isFull 29 = .ok (.aload_n 0, 1) := by decide +kernel
theorem dX9_isFull_30 : decode cX9_isFull 30 = .ok (.getfield 31, 3) := by decide +kernel
theorem dX9_isFull_33 : decode cX9_isFull 33 = .ok (.iconst 5, 1) := by decide +kernel
theorem dX9_isFull_34 : decode cX9_isFull 34 = .ok (.iaload, 1) := by decide +kernel
theorem dX9_isFull_35 : decode cX9_isFull 35 = .ok (.bipush 10, 2) := by decide +kernel
theorem dX9_isFull_37 : decode cX9_isFull 37 = .ok (.if_icmp .ne 5, 3) := by decide +kernel
theorem dX9_isFull_40 : decode cX9_isFull 40 = .ok (.iconst 1, 1) := by decide +kernel
theorem dX9_isFull_41 : decode cX9_isFull 41 = .ok (.ireturn, 1) := by decide +kernel
theorem dX9_isFull_42 : decode cX9_isFull 42 = .ok (.aload_n 0, 1) := by decide +kernel
theorem dX9_isFull_43 : decode cX9_isFull 43 = .ok (.ldc 197, 2) := by decide +kernel
theorem dX9_isFull_45 : decode cX9_isFull 45 = .ok (.invokevirtual 159, 3) := by decide +kernel
theorem dX9_isFull_48 : decode cX9_isFull 48 = .ok (.ifCond .eq 14, 3) := by decide +kernel
theorem dX9_isFull_51 : decode cX9_isFull 51 = .ok (.aload_n 0, 1) := by decide +kernel
theorem dX9_isFull_52 : decode cX9_isFull 52 = .ok (.getfield 31, 3) := by decide +kernel
theorem dX9_isFull_55 : decode cX9_isFull 55 = .ok (.bipush 6, 2) := by decide +kernel
theorem dX9_isFull_57 : decode cX9_isFull 57 = .ok (.iaload, 1) := by decide +kernel
theorem dX9_isFull_58 : decode cX9_isFull 58 = .ok (.iconst 4, 1) := by decide +kernel
theorem dX9_isFull_59 : decode cX9_isFull 59 = .ok (.if_icmp .eq 24, 3) := by decide +kernel
theorem dX9_isFull_62 : decode cX9_isFull 62 = .ok (.aload_n 0, 1) := by decide +kernel
theorem dX9_isFull_63 : decode cX9_isFull 63 = .ok (.ldc 199, 2) := by decide +kernel
theorem dX9_isFull_65 : decode cX9_isFull 65 = .ok (.invokevirtual 159, 3) := by decide +kernel
theorem dX9_isFull_68 : decode cX9_isFull 68 = .ok (.ifCond .eq 19, 3) := by decide +kernel
theorem dX9_isFull_71 : decode cX9_isFull 71 = .ok (.aload_n 0, 1) := by decide +kernel
theorem dX9_isFull_72 : decode cX9_isFull 72 = .ok (.getfield 31, 3) := by decide +kernel
theorem dX9_isFull_75 : decode cX9_isFull 75 = .ok (.bipush 7, 2) := by decide +kernel
theorem dX9_isFull_77 : decode cX9_isFull 77 = .ok (.iaload, 1) := by decide +kernel
theorem dX9_isFull_78 : decode cX9_isFull 78 = .ok (.bipush 8, 2) := by decide +kernel
theorem dX9_isFull_80 : decode cX9_isFull 80 = .ok (.if_icmp .ne 7, 3) := by decide +kernel
theorem dX9_isFull_83 : decode cX9_isFull 83 = .ok (.iconst 1, 1) := by decide +kernel
theorem dX9_isFull_84 : decode cX9_isFull 84 = .ok (.goto 4, 3) := by decide +kernel
theorem dX9_isFull_87 : decode cX9_isFull 87 = .ok (.iconst 0, 1) := by decide +kernel
theorem dX9_isFull_88 : decode cX9_isFull 88 = .ok (.ireturn, 1) := by decide +kernel
theorem dX9_readNext_0 : decode cX9_readNext 0 = .ok (.aload_n 0, 1) := by decide +kernel
theorem dX9_readNext_1 : decode cX9_readNext 1 = .ok (.ldc 193, 2) := by decide +kernel
theorem dX9_readNext_3 : decode cX9_readNext 3 = .ok (.invokevirtual 159, 3) := by decide +kernel
theorem dX9_readNext_6 : decode cX9_readNext 6 = .ok (.ifCond .ne 30, 3) := by decide +kernel
theorem dX9_readNext_9 : decode cX9_readNext 9 = .ok (.aload_n 0, 1) := by decide +kernel
theorem dX9_readNext_10 : decode cX9_readNext 10 = .ok (.ldc 195, 2) := by decide +kernel
theorem dX9_readNext_12 : decode cX9_readNext 12 = .ok (.invokevirtual 159, 3) := by decide +kernel
theorem dX9_readNext_15 : decode cX9_readNext 15 = .ok (.ifCond .ne 21, 3) := by decide +kernel
theorem dX9_readNext_18 : decode cX9_readNext 18 = .ok (.aload_n 0, 1) := by decide +kernel
theorem dX9_readNext_19 : decode cX9_readNext 19 = .ok (.ldc 197, 2) := by decide +kernel
theorem dX9_readNext_21 : decode cX9_readNext 21 = .ok (.invokevirtual 159, 3) := by decide +kernel
theorem dX9_readNext_24 : decode cX9_readNext 24 = .ok (.ifCond .ne 12, 3) := by decide +kernel
theorem dX9_readNext_27 : decode cX9_readNext 27 = .ok (.aload_n 0, 1) := by decide +kernel
theorem dX9_readNext_28 : decode cX9_readNext 28 = .ok (.ldc 199, 2) := by decide +kernel
theorem dX9_readNext_30 : decode cX9_readNext 30 = .ok (.invokevirtual 159, 3) := by decide +kernel
theorem dX9_readNext_33 : decode cX9_readNext 33 = .ok (.ifCond .eq 7, 3) := by decide +kernel
theorem dX9_readNext_36 : decode cX9_readNext 36 = .ok (.iconst 1, 1) := by decide +kernel
theorem dX9_readNext_37 : decode cX9_readNext 37 = .ok (.goto 4, 3) := by decide +kernel
theorem dX9_readNext_40 : decode cX9_readNext 40 = .ok (.iconst 0, 1) := by decide +kernel
theorem dX9_readNext_41 : decode cX9_readNext 41 = .ok (.istore_n 1, 1) := by decide +kernel
theorem dX9_readNext_42 : decode cX9_readNext 42 = .ok (.iload_n 1, 1) := by decide +kernel
theorem dX9_readNext_43 : decode cX9_readNext 43 = .ok (.ifCond .ne 8, 3) := by decide +kernel
theorem dX9_readNext_46 : decode cX9_readNext 46 = .ok (.aload_n 0, 1) := by decide +kernel
theorem dX9_readNext_47 : decode cX9_readNext 47 = .ok (.iconst 1, 1) := by decide +kernel
theorem dX9_readNext_48 : decode cX9_readNext 48 = .ok (.invokevirtual 169, 3) := by decide +kernel
theorem dX9_readNext_51 : decode cX9_readNext 51 = .ok (.aload_n 0, 1) := by decide +kernel
theorem dX9_readNext_52 : decode cX9_readNext 52 = .ok (.invokevirtual 201, 3) := by decide +kernel
theorem dX9_readNext_55 : decode cX9_readNext 55 = .ok (.ifCond .eq 8, 3) := by decide +kernel
theorem dX9_readNext_58 : decode cX9_readNext 58 = .ok (.aload_n 0, 1) := by decide +kernel
theorem dX9_readNext_59 : decode cX9_readNext 59 = .ok (.iconst 3, 1) := by decide +kernel
theorem dX9_readNext_60 : decode cX9_readNext 60 = .ok (.invokevirtual 169, 3) := by decide +kernel
theorem dX9_readNext_63 : decode cX9_readNext 63 = .ok (.aload_n 0, 1) := by decide +kernel
theorem dX9_readNext_64 : decode cX9_readNext 64 = .ok (.invokevirtual 147, 3) := by decide +kernel
theorem dX9_readNext_67 : decode cX9_readNext 67 = .ok (.ifCond .ne 4, 3) := by decide +kernel
theorem dX9_readNext_70 : decode cX9_readNext 70 = .ok (.return_, 1) := by decide +kernel
theorem dX9_readNext_71 : decode cX9_readNext 71 = .ok (.aload_n 0, 1) := by decide +kernel
theorem dX9_readNext_72 : decode cX9_readNext 72 = .ok (.ldc 193, 2) := by decide +kernel
theorem dX9_readNext_74 : decode cX9_readNext 74 = .ok (.invokevirtual 166, 3) := by decide +kernel
theorem dX9_readNext_77 : decode cX9_readNext 77 = .ok (.ifCond .eq 65, 3) := by decide +kernel
theorem dX9_readNext_80 : decode cX9_readNext 80 = .ok (.bipush 10, 2) := by decide +kernel
theorem dX9_readNext_82 : decode cX9_readNext 82 = .ok (.iconst 2, 1) := by decide +kernel
theorem dX9_readNext_83 : decode cX9_readNext 83 = .ok (.aload_n 0, 1) := by decide +kernel
theorem dX9_readNext_84 : decode cX9_readNext 84 = .ok (.getfield 31, 3) := by decide +kernel
theorem dX9_readNext_87 : decode cX9_readNext 87 = .ok (.iconst 4, 1) := by decide +kernel
theorem dX9_readNext_88 : decode cX9_readNext 88 = .ok (.iaload, 1) := by decide +kernel
theorem dX9_readNext_89 : decode cX9_readNext 89 = .ok (.imul, 1) := by decide +kernel
theorem dX9_readNext_90 : decode cX9_readNext 90 = .ok (.iadd, 1) := by decide +kernel
theorem dX9_readNext_91 : decode cX9_readNext 91 = .ok (.istore_n 2, 1) := by decide +kernel
theorem dX9_readNext_92 : decode cX9_readNext 92 = .ok (.aload_n 0, 1) := by decide +kernel
theorem dX9_readNext_93 : decode cX9_readNext 93 = .ok (.getfield 31, 3) := by decide +kernel
theorem dX9_readNext_96 : decode cX9_readNext 96 = .ok (.iload_n 2, 1) := by decide +kernel
theorem dX9_readNext_97 : decode cX9_readNext 97 = .ok (.aload_n 0, 1) := by decide +kernel
theorem dX9_readNext_98 : decode cX9_readNext 98 = .ok (.ldc 204, 2) := by decide +kernel
theorem dX9_readNext_100 : decode cX9_readNext 100 = .ok (.iconst 0, 1) := by decide +kernel
theorem dX9_readNext_101 : decode cX9_readNext 101 = .ok (.bipush 40, 2) := by decide +kernel
theorem dX9_readNext_103 : decode cX9_readNext 103 = .ok (.invokevirtual 183, 3) := by decide +kernel
theorem dX9_readNext_106 : decode cX9_readNext 106 = .ok (.iastore, 1) := by decide +kernel
theorem dX9_readNext_107 : decode cX9_readNext 107 = .ok (.aload_n 0, 1) := by decide +kernel
theorem dX9_readNext_108 : decode cX9_readNext 108 = .ok (.getfield 31, 3) := by decide +kernel
theorem dX9_readNext_111 : decode cX9_readNext 111 = .ok (.iload_n 2, 1) := by decide +kernel
theorem dX9_readNext_112 : decode cX9_readNext 112 = .ok (.iconst 1, 1) := by decide +kernel
theorem dX9_readNext_113 : decode cX9_readNext 113 = .ok (.iadd, 1) := by decide +kernel
theorem dX9_readNext_114 : decode cX9_readNext 114 = .ok (.aload_n 0, 1) := by decide +kernel
theorem dX9_readNext_115 : decode cX9_readNext 115 = .ok (.ldc 206, 2) := by decide +kernel
theorem dX9_readNext_117 : decode cX9_readNext 117 = .ok (.invokevirtual 166, 3) := by decide +kernel
theorem dX9_readNext_120 : decode cX9_readNext 120 = .ok (.ifCond .eq 7, 3) := by decide +kernel
theorem dX9_readNext_123 : decode cX9_readNext 123 = .ok (.iconst 1, 1) := by decide +kernel
theorem dX9_readNext_124 : decode cX9_readNext 124 = .ok (.goto 4, 3) := by decide +kernel
theorem dX9_readNext_127 : decode cX9_readNext 127 = .ok (.iconst 0, 1) := by decide +kernel
theorem dX9_readNext_128 : decode cX9_readNext 128 = .ok (.iastore, 1) := by decide +kernel
theorem dX9_readNext_129 : decode cX9_readNext 129 = .ok (.aload_n 0, 1) := by decide +kernel
theorem dX9_readNext_130 : decode cX9_readNext 130 = .ok (.getfield 31, 3) := by decide +kernel
theorem dX9_readNext_133 : decode cX9_readNext 133 = .ok (.iconst 4, 1) := by decide +kernel
theorem dX9_readNext_134 : decode cX9_readNext 134 = .ok (.dup2, 1) := by decide +kernel
theorem dX9_readNext_135 : decode cX9_readNext 135 = .ok (.iaload, 1) := by decide +kernel
theorem dX9_readNext_136 : decode cX9_readNext 136 = .ok (.iconst 1, 1) := by decide +kernel
theorem dX9_readNext_137 : decode cX9_readNext 137 = .ok (.iadd, 1) := by decide +kernel
theorem dX9_readNext_138 : decode cX9_readNext 138 = .ok (.iastore, 1) := by decide +kernel
theorem dX9_readNext_139 : decode cX9_readNext 139 = .ok (.goto 212, 3) := by decide +kernel
theorem dX9_readNext_142 : decode cX9_readNext 142 = .ok (.aload_n 0, 1) := by decide +kernel
theorem dX9_readNext_143 : decode cX9_readNext 143 = .ok (.ldc 195, 2) := by decide +kernel
theorem dX9_readNext_145 : decode cX9_readNext 145 = .ok (.invokevirtual 166, 3) := by decide +kernel
theorem dX9_readNext_148 : decode cX9_readNext 148 = .ok (.ifCond .eq 75, 3) := by decide +kernel
theorem dX9_readNext_151 : decode cX9_readNext 151 = .ok (.bipush 26, 2) := by decide +kernel
theorem dX9_readNext_153 : decode cX9_readNext 153 = .ok (.iconst 3, 1) := by decide +kernel
theorem dX9_readNext_154 : decode cX9_readNext 154 = .ok (.aload_n 0, 1) := by decide +kernel
theorem dX9_readNext_155 : decode cX9_readNext 155 = .ok (.getfield 31, 3) := by decide +kernel
theorem dX9_readNext_158 : decode cX9_readNext 158 = .ok (.iconst 5, 1) := by decide +kernel
theorem dX9_readNext_159 : decode cX9_readNext 159 = .ok (.iaload, 1) := by decide +kernel
theorem dX9_readNext_160 : decode cX9_readNext 160 = .ok (.imul, 1) := by decide +kernel
theorem dX9_readNext_161 : decode cX9_readNext 161 = .ok (.iadd, 1) := by decide +kernel
theorem dX9_readNext_162 : decode cX9_readNext 162 = .ok (.istore_n 2, 1) := by decide +kernel
theorem dX9_readNext_163 : decode cX9_readNext 163 = .ok (.aload_n 0, 1) := by decide +kernel
theorem dX9_readNext_164 : decode cX9_readNext 164 = .ok (.getfield 31, 3) := by decide +kernel
theorem dX9_readNext_167 : decode cX9_readNext 167 = .ok (.iload_n 2, 1) := by decide +kernel
theorem dX9_readNext_168 : decode cX9_readNext 168 = .ok (.aload_n 0, 1) := by decide +kernel
theorem dX9_readNext_169 : decode cX9_readNext 169 = .ok (.iconst 0, 1) := by decide +kernel
theorem dX9_readNext_170 : decode cX9_readNext 170 = .ok (.bipush 7, 2) := by decide +kernel
theorem dX9_readNext_172 : decode cX9_readNext 172 = .ok (.invokevirtual 177, 3) := by decide +kernel
theorem dX9_readNext_175 : decode cX9_readNext 175 = .ok (.iastore, 1) := by decide +kernel
theorem dX9_readNext_176 : decode cX9_readNext 176 = .ok (.aload_n 0, 1) := by decide +kernel
theorem dX9_readNext_177 : decode cX9_readNext 177 = .ok (.getfield 31, 3) := by decide +kernel
theorem dX9_readNext_180 : decode cX9_readNext 180 = .ok (.iload_n 2, 1) := by decide +kernel
theorem dX9_readNext_181 : decode cX9_readNext 181 = .ok (.iconst 1, 1) := by decide +kernel
theorem dX9_readNext_182 : decode cX9_readNext 182 = .ok (.iadd, 1) := by decide +kernel
theorem dX9_readNext_183 : decode cX9_readNext 183 = .ok (.aload_n 0, 1) := by decide +kernel
theorem dX9_readNext_184 : decode cX9_readNext 184 = .ok (.ldc 208, 2) := by decide +kernel
theorem dX9_readNext_186 : decode cX9_readNext 186 = .ok (.iconst 0, 1) := by decide +kernel
theorem dX9_readNext_187 : decode cX9_readNext 187 = .ok (.bipush 20, 2) := by decide +kernel
theorem dX9_readNext_189 : decode cX9_readNext 189 = .ok (.invokevirtual 183, 3) := by decide +kernel
theorem dX9_readNext_192 : decode cX9_readNext 192 = .ok (.iastore, 1) := by decide +kernel
theorem dX9_readNext_193 : decode cX9_readNext 193 = .ok (.aload_n 0, 1) := by decide +kernel
theorem dX9_readNext_194 : decode cX9_readNext 194 = .ok (.getfield 31, 3) := by decide +kernel
theorem dX9_readNext_197 : decode cX9_readNext 197 = .ok (.iload_n 2, 1) := by decide +kernel
theorem dX9_readNext_198 : decode cX9_readNext 198 = .ok (.iconst 2, 1) := by decide +kernel
theorem dX9_readNext_199 : decode cX9_readNext 199 = .ok (.iadd, 1) := by decide +kernel
theorem dX9_readNext_200 : decode cX9_readNext 200 = .ok (.aload_n 0, 1) := by decide +kernel
theorem dX9_readNext_201 : decode cX9_readNext 201 = .ok (.ldc 210, 2) := by decide +kernel
theorem dX9_readNext_203 : decode cX9_readNext 203 = .ok (.iconst 0, 1) := by decide +kernel
theorem dX9_readNext_204 : decode cX9_readNext 204 = .ok (.bipush 20, 2) := by decide +kernel
theorem dX9_readNext_206 : decode cX9_readNext 206 = .ok (.invokevirtual 183, 3) := by decide +kernel
theorem dX9_readNext_209 : decode cX9_readNext 209 = .ok (.iastore, 1) := by decide +kernel
theorem dX9_readNext_210 : decode cX9_readNext 210 = .ok (.aload_n 0, 1) := by decide +kernel
theorem dX9_readNext_211 : decode cX9_readNext 211 = .ok (.getfield 31, 3) := by decide +kernel
theorem dX9_readNext_214 : decode cX9_readNext 214 = .ok (.iconst 5, 1) := by decide +kernel
theorem dX9_readNext_215 : decode cX9_readNext 215 = .ok (.dup2, 1) := by decide +kernel
theorem dX9_readNext_216 : decode cX9_readNext 216 = .ok (.iaload, 1) := by decide +kernel
theorem dX9_readNext_217 : decode cX9_readNext 217 = .ok (.iconst 1, 1) := by decide +kernel
theorem dX9_readNext_218 : decode cX9_readNext 218 = .ok (.iadd, 1) := by decide +kernel
theorem dX9_readNext_219 : decode cX9_readNext 219 = .ok (.iastore, 1) := by decide +kernel
theorem dX9_readNext_220 : decode cX9_readNext 220 = .ok (.goto 131, 3) := by decide +kernel
theorem dX9_readNext_223 : decode cX9_readNext 223 = .ok (.aload_n 0, 1) := by decide +kernel
theorem dX9_readNext_224 : decode cX9_readNext 224 = .ok (.ldc 197, 2) := by decide +kernel
theorem dX9_readNext_226 : decode cX9_readNext 226 = .ok (.invokevirtual 166, 3) := by decide +kernel
theorem dX9_readNext_229 : decode cX9_readNext 229 = .ok (.ifCond .eq 41, 3) := by decide +kernel
theorem dX9_readNext_232 : decode cX9_readNext 232 = .ok (.aload_n 0, 1) := by decide +kernel
theorem dX9_readNext_233 : decode cX9_readNext 233 = .ok (.getfield 31, 3) := by decide +kernel
theorem dX9_readNext_236 : decode cX9_readNext 236 = .ok (.bipush 56, 2) := by decide +kernel
theorem dX9_readNext_238 : decode cX9_readNext 238 = .ok (.aload_n 0, 1) := by decide +kernel
theorem dX9_readNext_239 : decode cX9_readNext 239 = .ok (.getfield 31, 3) := by decide +kernel
theorem dX9_readNext_242 : decode cX9_readNext 242 = .ok (.bipush 6, 2) := by decide +kernel
theorem dX9_readNext_244 : decode cX9_readNext 244 = .ok (.iaload, 1) := by decide +kernel
theorem dX9_readNext_245 : decode cX9_readNext 245 = .ok (.iadd, 1) := by decide +kernel
theorem dX9_readNext_246 : decode cX9_readNext 246 = .ok (.aload_n 0, 1) := by decide +kernel
theorem dX9_readNext_247 : decode cX9_readNext 247 = .ok (.ldc 212, 2) := by decide +kernel
theorem dX9_readNext_249 : decode cX9_readNext 249 = .ok (.iconst 0, 1) := by decide +kernel
theorem dX9_readNext_250 : decode cX9_readNext 250 = .ok (.bipush 19, 2) := by decide +kernel
theorem dX9_readNext_252 : decode cX9_readNext 252 = .ok (.invokevirtual 183, 3) := by decide +kernel
theorem dX9_readNext_255 : decode cX9_readNext 255 = .ok (.iastore, 1) := by decide +kernel
theorem dX9_readNext_256 : decode cX9_readNext 256 = .ok (.aload_n 0, 1) := by decide +kernel
theorem dX9_readNext_257 : decode cX9_readNext 257 = .ok (.getfield 31, 3) := by decide +kernel
theorem dX9_readNext_260 : decode cX9_readNext 260 = .ok (.bipush 6, 2) := by decide +kernel
theorem dX9_readNext_262 : decode cX9_readNext 262 = .ok (.dup2, 1) := by decide +kernel
theorem dX9_readNext_263 : decode cX9_readNext 263 = .ok (.iaload, 1) := by decide +kernel
theorem dX9_readNext_264 : decode cX9_readNext 264 = .ok (.iconst 1, 1) := by decide +kernel
theorem dX9_readNext_265 : decode cX9_readNext 265 = .ok (.iadd, 1) := by decide +kernel
theorem dX9_readNext_266 : decode cX9_readNext 266 = .ok (.iastore, 1) := by decide +kernel
theorem dX9_readNext_267 : decode cX9_readNext 267 = .ok (.goto 84, 3) := by decide +kernel
theorem dX9_readNext_270 : decode cX9_readNext 270 = .ok (.aload_n 0, 1) := by decide +kernel
theorem dX9_readNext_271 : decode cX9_readNext 271 = .ok (.invokevirtual 163, 3) := by decide +kernel
theorem dX9_readNext_274 : decode cX9_readNext 274 = .ok (.bipush 60, 2) := by decide +kernel
theorem dX9_readNext_276 : decode cX9_readNext 276 = .ok (.iconst 3, 1) := by decide +kernel
theorem dX9_readNext_277 : decode cX9_readNext 277 = .ok (.aload_n 0, 1) := by decide +kernel
theorem dX9_readNext_278 : decode cX9_readNext 278 = .ok (.getfield 31, 3) := by decide +kernel
theorem dX9_readNext_281 : decode cX9_readNext 281 = .ok (.bipush 7, 2) := by decide +kernel
theorem dX9_readNext_283 : decode cX9_readNext 283 = .ok (.iaload, 1) := by decide +kernel
theorem dX9_readNext_284 : decode cX9_readNext 284 = .ok (.imul, 1) := by decide +kernel
theorem dX9_readNext_285 : decode cX9_readNext 285 = .ok (.iadd, 1) := by decide +kernel
theorem dX9_readNext_286 : decode cX9_readNext 286 = .ok (.istore_n 2, 1) := by decide +kernel
theorem dX9_readNext_287 : decode cX9_readNext 287 = .ok (.aload_n 0, 1) := by decide +kernel
theorem dX9_readNext_288 : decode cX9_readNext 288 = .ok (.getfield 31, 3) := by decide +kernel
theorem dX9_readNext_291 : decode cX9_readNext 291 = .ok (.iload_n 2, 1) := by decide +kernel
theorem dX9_readNext_292 : decode cX9_readNext 292 = .ok (.aload_n 0, 1) := by decide +kernel
theorem dX9_readNext_293 : decode cX9_readNext 293 = .ok (.iconst 0, 1) := by decide +kernel
theorem dX9_readNext_294 : decode cX9_readNext 294 = .ok (.aload_n 0, 1) := by decide +kernel
theorem dX9_readNext_295 : decode cX9_readNext 295 = .ok (.getfield 31, 3) := by decide +kernel
theorem dX9_readNext_298 : decode cX9_readNext 298 = .ok (.iconst 4, 1) := by decide +kernel
theorem dX9_readNext_299 : decode cX9_readNext 299 = .ok (.iaload, 1) := by decide +kernel
theorem dX9_readNext_300 : decode cX9_readNext 300 = .ok (.iconst 1, 1) := by decide +kernel
theorem dX9_readNext_301 : decode cX9_readNext 301 = .ok (.isub, 1) := by decide +kernel
theorem dX9_readNext_302 : decode cX9_readNext 302 = .ok (.invokevirtual 177, 3) := by decide +kernel
theorem dX9_readNext_305 : decode cX9_readNext 305 = .ok (.iastore, 1) := by decide +kernel
theorem dX9_readNext_306 : decode cX9_readNext 306 = .ok (.aload_n 0, 1) := by decide +kernel
theorem dX9_readNext_307 : decode cX9_readNext 307 = .ok (.getfield 31, 3) := by decide +kernel
theorem dX9_readNext_310 : decode cX9_readNext 310 = .ok (.iload_n 2, 1) := by decide +kernel
theorem dX9_readNext_311 : decode cX9_readNext 311 = .ok (.iconst 1, 1) := by decide +kernel
theorem dX9_readNext_312 : decode cX9_readNext 312 = .ok (.iadd, 1) := by decide +kernel
theorem dX9_readNext_313 : decode cX9_readNext 313 = .ok (.aload_n 0, 1) := by decide +kernel
theorem dX9_readNext_314 : decode cX9_readNext 314 = .ok (.ldc 213, 2) := by decide +kernel
theorem dX9_readNext_316 : decode cX9_readNext 316 = .ok (.iconst 0, 1) := by decide +kernel
theorem dX9_readNext_317 : decode cX9_readNext 317 = .ok (.bipush 7, 2) := by decide +kernel
theorem dX9_readNext_319 : decode cX9_readNext 319 = .ok (.invokevirtual 183, 3) := by decide +kernel
theorem dX9_readNext_322 : decode cX9_readNext 322 = .ok (.iastore, 1) := by decide +kernel
theorem dX9_readNext_323 : decode cX9_readNext 323 = .ok (.aload_n 0, 1) := by decide +kernel
theorem dX9_readNext_324 : decode cX9_readNext 324 = .ok (.getfield 31, 3) := by decide +kernel
theorem dX9_readNext_327 : decode cX9_readNext 327 = .ok (.iload_n 2, 1) := by decide +kernel
theorem dX9_readNext_328 : decode cX9_readNext 328 = .ok (.iconst 2, 1) := by decide +kernel
theorem dX9_readNext_329 : decode cX9_readNext 329 = .ok (.iadd, 1) := by decide +kernel
theorem dX9_readNext_330 : decode cX9_readNext 330 = .ok (.aload_n 0, 1) := by decide +kernel
theorem dX9_readNext_331 : decode cX9_readNext 331 = .ok (.ldc 212, 2) := by decide +kernel
theorem dX9_readNext_333 : decode cX9_readNext 333 = .ok (.iconst 0, 1) := by decide +kernel
theorem dX9_readNext_334 : decode cX9_readNext 334 = .ok (.bipush 19, 2) := by decide +kernel
theorem dX9_readNext_336 : decode cX9_readNext 336 = .ok (.invokevirtual 183, 3) := by decide +kernel
theorem dX9_readNext_339 : decode cX9_readNext 339 = .ok (.iastore, 1) := by decide +kernel
theorem dX9_readNext_340 : decode cX9_readNext 340 = .ok (.aload_n 0, 1) := by decide +kernel
theorem dX9_readNext_341 : decode cX9_readNext 341 = .ok (.getfield 31, 3) := by decide +kernel
theorem dX9_readNext_344 : decode cX9_readNext 344 = .ok (.bipush 7, 2) := by decide +kernel
theorem dX9_readNext_346 : decode cX9_readNext 346 = .ok (.dup2, 1) := by decide +kernel
theorem dX9_readNext_347 : decode cX9_readNext 347 = .ok (.iaload, 1) := by decide +kernel
theorem dX9_readNext_348 : decode cX9_readNext 348 = .ok (.iconst 1, 1) := by decide +kernel
theorem dX9_readNext_349 : decode cX9_readNext 349 = .ok (.iadd, 1) := by decide +kernel
theorem dX9_readNext_350 : decode cX9_readNext 350 = .ok (.iastore, 1) := by decide +kernel
theorem dX9_readNext_351 : decode cX9_readNext 351 = .ok (.return_, 1) := by decide +kernel
theorem dX9_readLine_0 : decode cX9_readLine 0 = .ok (.aload_n 0, 1) := by decide +kernel
theorem dX9_readLine_1 : decode cX9_readLine 1 = .ok (.getfield 31, 3) := by decide +kernel
theorem dX9_readLine_4 : decode cX9_readLine 4 = .ok (.bipush 9, 2) := by decide +kernel
theorem dX9_readLine_6 : decode cX9_readLine 6 = .ok (.iaload, 1) := by decide +kernel
theorem dX9_readLine_7 : decode cX9_readLine 7 = .ok (.ifCond .ne 10, 3) := by decide +kernel
theorem dX9_readLine_10 : decode cX9_readLine 10 = .ok (.aload_n 0, 1) := by decide +kernel
theorem dX9_readLine_11 : decode cX9_readLine 11 = .ok (.invokevirtual 215, 3) := by decide +kernel
theorem dX9_readLine_14 : decode cX9_readLine 14 = .ok (.goto 7, 3) := by decide +kernel
theorem dX9_readLine_17 : decode cX9_readLine 17 = .ok (.aload_n 0, 1) := by decide +kernel
theorem dX9_readLine_18 : decode cX9_readLine 18 = .ok (.invokevirtual 218, 3) := by decide +kernel
theorem dX9_readLine_21 : decode cX9_readLine 21 = .ok (.aload_n 0, 1) := by decide +kernel
theorem dX9_readLine_22 : decode cX9_readLine 22 = .ok (.invokevirtual 147, 3) := by decide +kernel
theorem dX9_readLine_25 : decode cX9_readLine 25 = .ok (.ifCond .eq 16, 3) := by decide +kernel
theorem dX9_readLine_28 : decode cX9_readLine 28 = .ok (.aload_n 0, 1) := by decide +kernel
theorem dX9_readLine_29 : decode cX9_readLine 29 = .ok (.getfield 123, 3) := by decide +kernel
theorem dX9_readLine_32 : decode cX9_readLine 32 = .ok (.iconst 3, 1) := by decide +kernel
theorem dX9_readLine_33 : decode cX9_readLine 33 = .ok (.if_icmp .eq 8, 3) := by decide +kernel
theorem dX9_readLine_36 : decode cX9_readLine 36 = .ok (.aload_n 0, 1) := by decide +kernel
theorem dX9_readLine_37 : decode cX9_readLine 37 = .ok (.iconst 1, 1) := by decide +kernel
theorem dX9_readLine_38 : decode cX9_readLine 38 = .ok (.invokevirtual 169, 3) := by decide +kernel
theorem dX9_readLine_41 : decode cX9_readLine 41 = .ok (.aload_n 0, 1) := by decide +kernel
theorem dX9_readLine_42 : decode cX9_readLine 42 = .ok (.invokevirtual 147, 3) := by decide +kernel
theorem dX9_readLine_45 : decode cX9_readLine 45 = .ok (.ifCond .eq 7, 3) := by decide +kernel
theorem dX9_readLine_48 : decode cX9_readLine 48 = .ok (.aload_n 0, 1) := by decide +kernel
theorem dX9_readLine_49 : decode cX9_readLine 49 = .ok (.invokevirtual 163, 3) := by decide +kernel
theorem dX9_readLine_52 : decode cX9_readLine 52 = .ok (.aload_n 0, 1) := by decide +kernel
theorem dX9_readLine_53 : decode cX9_readLine 53 = .ok (.getfield 31, 3) := by decide +kernel
theorem dX9_readLine_56 : decode cX9_readLine 56 = .ok (.bipush 9, 2) := by decide +kernel
theorem dX9_readLine_58 : decode cX9_readLine 58 = .ok (.dup2, 1) := by decide +kernel
theorem dX9_readLine_59 : decode cX9_readLine 59 = .ok (.iaload, 1) := by decide +kernel
theorem dX9_readLine_60 : decode cX9_readLine 60 = .ok (.iconst 1, 1) := by decide +kernel
theorem dX9_readLine_61 : decode cX9_readLine 61 = .ok (.iadd, 1) := by decide +kernel
theorem dX9_readLine_62 : decode cX9_readLine 62 = .ok (.iastore, 1) := by decide +kernel
theorem dX9_readLine_63 : decode cX9_readLine 63 = .ok (.return_, 1) := by decide +kernel
theorem dX9_town_0 : decode cX9_town 0 = .ok (.aload_n 0, 1) := by decide +kernel
theorem dX9_town_1 : decode cX9_town 1 = .ok (.aload_n 0, 1) := by decide +kernel
theorem dX9_town_2 : decode cX9_town 2 = .ok (.getfield 107, 3) := by decide +kernel
theorem dX9_town_5 : decode cX9_town 5 = .ok (.putfield 110, 3) := by decide +kernel
theorem dX9_town_8 : decode cX9_town 8 = .ok (.aload_n 0, 1) := by decide +kernel
theorem dX9_town_9 : decode cX9_town 9 = .ok (.iconst 0, 1) := by decide +kernel
theorem dX9_town_10 : decode cX9_town 10 = .ok (.putfield 107, 3) := by decide +kernel
theorem dX9_town_13 : decode cX9_town 13 = .ok (.aload_n 0, 1) := by decide +kernel
theorem dX9_town_14 : decode cX9_town 14 = .ok (.iconst 0, 1) := by decide +kernel
theorem dX9_town_15 : decode cX9_town 15 = .ok (.putfield 113, 3) := by decide +kernel
theorem dX9_town_18 : decode cX9_town 18 = .ok (.aload_n 0, 1) := by decide +kernel
theorem dX9_town_19 : decode cX9_town 19 = .ok (.iconst 0, 1) := by decide +kernel
theorem dX9_town_20 : decode cX9_town 20 = .ok (.putfield 144, 3) := by decide +kernel
theorem dX9_town_23 : decode cX9_town 23 = .ok (.aload_n 0, 1) := by decide +kernel
theorem dX9_town_24 : decode cX9_town 24 = .ok (.iconst (-1), 1) := by decide +kernel
theorem dX9_town_25 : decode cX9_town 25 = .ok (.putfield 27, 3) := by decide +kernel
theorem dX9_town_28 : decode cX9_town 28 = .ok (.iconst 0, 1) := by decide +kernel
theorem dX9_town_29 : decode cX9_town 29 = .ok (.istore_n 1, 1) := by decide +kernel
theorem dX9_town_30 : decode cX9_town 30 = .ok (.iload_n 1, 1) := by decide +kernel
theorem dX9_town_31 : decode cX9_town 31 = .ok (.bipush 114, 2) := by decide +kernel
theorem dX9_town_33 : decode cX9_town 33 = .ok (.if_icmp .ge 16, 3) := by decide +kernel
theorem dX9_town_36 : decode cX9_town 36 = .ok (.aload_n 0, 1) := by decide +kernel
theorem dX9_town_37 : decode cX9_town 37 = .ok (.getfield 31, 3) := by decide +kernel
theorem dX9_town_40 : decode cX9_town 40 = .ok (.iload_n 1, 1) := by decide +kernel
theorem dX9_town_41 : decode cX9_town 41 = .ok (.iconst 0, 1) := by decide +kernel
theorem dX9_town_42 : decode cX9_town 42 = .ok (.iastore, 1) := by decide +kernel
theorem dX9_town_43 : decode cX9_town 43 = .ok (.iinc 1 1, 3) := by decide +kernel
theorem dX9_town_46 : decode cX9_town 46 = .ok (.goto (-16), 3) := by decide +kernel
theorem dX9_town_49 : decode cX9_town 49 = .ok (.aload_n 0, 1) := by decide +kernel
theorem dX9_town_50 : decode cX9_town 50 = .ok (.invokevirtual 163, 3) := by decide +kernel
theorem dX9_town_53 : decode cX9_town 53 = .ok (.aload_n 0, 1) := by decide +kernel
theorem dX9_town_54 : decode cX9_town 54 = .ok (.invokevirtual 147, 3) := by decide +kernel
theorem dX9_town_57 : decode cX9_town 57 = .ok (.ifCond .eq 17, 3) := by decide +kernel
theorem dX9_town_60 : decode cX9_town 60 = .ok (.aload_n 0, 1) := by decide +kernel
theorem dX9_town_61 : decode cX9_town 61 = .ok (.getfield 123, 3) := by decide +kernel
theorem dX9_town_64 : decode cX9_town 64 = .ok (.ifCond .eq 10, 3) := by decide +kernel
theorem dX9_town_67 : decode cX9_town 67 = .ok (.aload_n 0, 1) := by decide +kernel
theorem dX9_town_68 : decode cX9_town 68 = .ok (.invokevirtual 221, 3) := by decide +kernel
theorem dX9_town_71 : decode cX9_town 71 = .ok (.goto (-18), 3) := by decide +kernel
theorem dX9_town_74 : decode cX9_town 74 = .ok (.aload_n 0, 1) := by decide +kernel
theorem dX9_town_75 : decode cX9_town 75 = .ok (.invokevirtual 147, 3) := by decide +kernel
theorem dX9_town_78 : decode cX9_town 78 = .ok (.ifCond .ne 6, 3) := by decide +kernel
theorem dX9_town_81 : decode cX9_town 81 = .ok (.bipush (-4), 2) := by decide +kernel
theorem dX9_town_83 : decode cX9_town 83 = .ok (.ireturn, 1) := by decide +kernel
theorem dX9_town_84 : decode cX9_town 84 = .ok (.iconst 0, 1) := by decide +kernel
theorem dX9_town_85 : decode cX9_town 85 = .ok (.istore_n 1, 1) := by decide +kernel
theorem dX9_town_86 : decode cX9_town 86 = .ok (.iload_n 1, 1) := by decide +kernel
theorem dX9_town_87 : decode cX9_town 87 = .ok (.bipush 114, 2) := by decide +kernel
theorem dX9_town_89 : decode cX9_town 89 = .ok (.if_icmp .ge 21, 3) := by decide +kernel
theorem dX9_town_92 : decode cX9_town 92 = .ok (.aload_n 0, 1) := by decide +kernel
theorem dX9_town_93 : decode cX9_town 93 = .ok (.getfield 9, 3) := by decide +kernel
theorem dX9_town_96 : decode cX9_town 96 = .ok (.iload_n 1, 1) := by decide +kernel
theorem dX9_town_97 : decode cX9_town 97 = .ok (.aload_n 0, 1) := by decide +kernel
theorem dX9_town_98 : decode cX9_town 98 = .ok (.getfield 31, 3) := by decide +kernel
theorem dX9_town_101 : decode cX9_town 101 = .ok (.iload_n 1, 1) := by decide +kernel
theorem dX9_town_102 : decode cX9_town 102 = .ok (.iaload, 1) := by decide +kernel
theorem dX9_town_103 : decode cX9_town 103 = .ok (.iastore, 1) := by decide +kernel
theorem dX9_town_104 : decode cX9_town 104 = .ok (.iinc 1 1, 3) := by decide +kernel
theorem dX9_town_107 : decode cX9_town 107 = .ok (.goto (-21), 3) := by decide +kernel
theorem dX9_town_110 : decode cX9_town 110 = .ok (.aload_n 0, 1) := by decide +kernel
theorem dX9_town_111 : decode cX9_town 111 = .ok (.getfield 9, 3) := by decide +kernel
theorem dX9_town_114 : decode cX9_town 114 = .ok (.bipush 9, 2) := by decide +kernel
theorem dX9_town_116 : decode cX9_town 116 = .ok (.iaload, 1) := by decide +kernel
theorem dX9_town_117 : decode cX9_town 117 = .ok (.ireturn, 1) := by decide +kernel
theorem dX9_house_0 : decode cX9_house 0 = .ok (.aload_n 0, 1) := by decide +kernel
theorem dX9_house_1 : decode cX9_house 1 = .ok (.iload_n 1, 1) := by decide +kernel
theorem dX9_house_2 : decode cX9_house 2 = .ok (.invokevirtual 103, 3) := by decide +kernel
theorem dX9_house_5 : decode cX9_house 5 = .ok (.ifCond .eq 29, 3) := by decide +kernel
theorem dX9_house_8 : decode cX9_house 8 = .ok (.iload_n 2, 1) := by decide +kernel
theorem dX9_house_9 : decode cX9_house 9 = .ok (.i2l, 1) := by decide +kernel
theorem dX9_house_10 : decode cX9_house 10 = .ok (.lconst 0, 1) := by decide +kernel
theorem dX9_house_11 : decode cX9_house 11 = .ok (.lconst 1, 1) := by decide +kernel
theorem dX9_house_12 : decode cX9_house 12 = .ok (.invokestatic 88, 3) := by decide +kernel
theorem dX9_house_15 : decode cX9_house 15 = .ok (.ifCond .eq 19, 3) := by decide +kernel
theorem dX9_house_18 : decode cX9_house 18 = .ok (.aload_n 0, 1) := by decide +kernel
theorem dX9_house_19 : decode cX9_house 19 = .ok (.getfield 9, 3) := by decide +kernel
theorem dX9_house_22 : decode cX9_house 22 = .ok (.bipush 10, 2) := by decide +kernel
theorem dX9_house_24 : decode cX9_house 24 = .ok (.iconst 2, 1) := by decide +kernel
theorem dX9_house_25 : decode cX9_house 25 = .ok (.iload_n 1, 1) := by decide +kernel
theorem dX9_house_26 : decode cX9_house 26 = .ok (.imul, 1) := by decide +kernel
theorem dX9_house_27 : decode cX9_house 27 = .ok (.iadd, 1) := by decide +kernel
theorem dX9_house_28 : decode cX9_house 28 = .ok (.iload_n 2, 1) := by decide +kernel
theorem dX9_house_29 : decode cX9_house 29 = .ok (.iadd, 1) := by decide +kernel
theorem dX9_house_30 : decode cX9_house 30 = .ok (.iaload, 1) := by decide +kernel
theorem dX9_house_31 : decode cX9_house 31 = .ok (.goto 5, 3) := by decide +kernel
theorem dX9_house_34 : decode cX9_house 34 = .ok (.bipush (-2), 2) := by decide +kernel
theorem dX9_house_36 : decode cX9_house 36 = .ok (.ireturn, 1) := by decide +kernel
theorem dX9_letter_0 : decode cX9_letter 0 = .ok (.aload_n 0, 1) := by decide +kernel
theorem dX9_letter_1 : decode cX9_letter 1 = .ok (.iload_n 1, 1) := by decide +kernel
theorem dX9_letter_2 : decode cX9_letter 2 = .ok (.invokevirtual 224, 3) := by decide +kernel
theorem dX9_letter_5 : decode cX9_letter 5 = .ok (.ifCond .eq 24, 3) := by decide +kernel
theorem dX9_letter_8 : decode cX9_letter 8 = .ok (.iload_n 2, 1) := by decide +kernel
theorem dX9_letter_9 : decode cX9_letter 9 = .ok (.i2l, 1) := by decide +kernel
theorem dX9_letter_10 : decode cX9_letter 10 = .ok (.lconst 0, 1) := by decide +kernel
theorem dX9_letter_11 : decode cX9_letter 11 = .ok (.ldc2_w 86, 3) := by decide +kernel
theorem dX9_letter_14 : decode cX9_letter 14 = .ok (.invokestatic 88, 3) := by decide +kernel
theorem dX9_letter_17 : decode cX9_letter 17 = .ok (.ifCond .eq 12, 3) := by decide +kernel
theorem dX9_letter_20 : decode cX9_letter 20 = .ok (.aload_n 0, 1) := by decide +kernel
theorem dX9_letter_21 : decode cX9_letter 21 = .ok (.iload_n 1, 1) := by decide +kernel
theorem dX9_letter_22 : decode cX9_letter 22 = .ok (.iload_n 2, 1) := by decide +kernel
theorem dX9_letter_23 : decode cX9_letter 23 = .ok (.invokevirtual 227, 3) := by decide +kernel
theorem dX9_letter_26 : decode cX9_letter 26 = .ok (.goto 5, 3) := by decide +kernel
theorem dX9_letter_29 : decode cX9_letter 29 = .ok (.bipush (-2), 2) := by decide +kernel
theorem dX9_letter_31 : decode cX9_letter 31 = .ok (.ireturn, 1) := by decide +kernel
theorem dX9_asItIs_0 : decode cX9_asItIs 0 = .ok (.aload_n 0, 1) := by decide +kernel
theorem dX9_asItIs_1 : decode cX9_asItIs 1 = .ok (.aload_n 0, 1) := by decide +kernel
theorem dX9_asItIs_2 : decode cX9_asItIs 2 = .ok (.getfield 9, 3) := by decide +kernel
theorem dX9_asItIs_5 : decode cX9_asItIs 5 = .ok (.iconst 1, 1) := by decide +kernel
theorem dX9_asItIs_6 : decode cX9_asItIs 6 = .ok (.iaload, 1) := by decide +kernel
theorem dX9_asItIs_7 : decode cX9_asItIs 7 = .ok (.putfield 230, 3) := by decide +kernel
theorem dX9_asItIs_10 : decode cX9_asItIs 10 = .ok (.aload_n 0, 1) := by decide +kernel
theorem dX9_asItIs_11 : decode cX9_asItIs 11 = .ok (.aload_n 0, 1) := by decide +kernel
theorem dX9_asItIs_12 : decode cX9_asItIs 12 = .ok (.getfield 9, 3) := by decide +kernel
theorem dX9_asItIs_15 : decode cX9_asItIs 15 = .ok (.iconst 2, 1) := by decide +kernel
theorem dX9_asItIs_16 : decode cX9_asItIs 16 = .ok (.iaload, 1) := by decide +kernel
theorem dX9_asItIs_17 : decode cX9_asItIs 17 = .ok (.putfield 233, 3) := by decide +kernel
theorem dX9_asItIs_20 : decode cX9_asItIs 20 = .ok (.aload_n 0, 1) := by decide +kernel
theorem dX9_asItIs_21 : decode cX9_asItIs 21 = .ok (.iconst 0, 1) := by decide +kernel
theorem dX9_asItIs_22 : decode cX9_asItIs 22 = .ok (.putfield 236, 3) := by decide +kernel
theorem dX9_asItIs_25 : decode cX9_asItIs 25 = .ok (.aload_n 0, 1) := by decide +kernel
theorem dX9_asItIs_26 : decode cX9_asItIs 26 = .ok (.iconst 0, 1) := by decide +kernel
theorem dX9_asItIs_27 : decode cX9_asItIs 27 = .ok (.putfield 239, 3) := by decide +kernel
theorem dX9_asItIs_30 : decode cX9_asItIs 30 = .ok (.aload_n 0, 1) := by decide +kernel
theorem dX9_asItIs_31 : decode cX9_asItIs 31 = .ok (.iconst 0, 1) := by decide +kernel
theorem dX9_asItIs_32 : decode cX9_asItIs 32 = .ok (.putfield 242, 3) := by decide +kernel
theorem dX9_asItIs_35 : decode cX9_asItIs 35 = .ok (.aload_n 0, 1) := by decide +kernel
theorem dX9_asItIs_36 : decode cX9_asItIs 36 = .ok (.iconst 0, 1) := by decide +kernel
theorem dX9_asItIs_37 : decode cX9_asItIs 37 = .ok (.putfield 245, 3) := by decide +kernel
theorem dX9_asItIs_40 : decode cX9_asItIs 40 = .ok (.aload_n 0, 1) := by decide +kernel
theorem dX9_asItIs_41 : decode cX9_asItIs 41 = .ok (.iconst 0, 1) := by decide +kernel
theorem dX9_asItIs_42 : decode cX9_asItIs 42 = .ok (.putfield 248, 3) := by decide +kernel
theorem dX9_asItIs_45 : decode cX9_asItIs 45 = .ok (.iconst 0, 1) := by decide +kernel
theorem dX9_asItIs_46 : decode cX9_asItIs 46 = .ok (.istore_n 1, 1) := by decide +kernel
theorem dX9_asItIs_47 : decode cX9_asItIs 47 = .ok (.iload_n 1, 1) := by decide +kernel
theorem dX9_asItIs_48 : decode cX9_asItIs 48 = .ok (.bipush 8, 2) := by decide +kernel
theorem dX9_asItIs_50 : decode cX9_asItIs 50 = .ok (.if_icmp .ge 47, 3) := by decide +kernel
theorem dX9_asItIs_53 : decode cX9_asItIs 53 = .ok (.aload_n 0, 1) := by decide +kernel
theorem dX9_asItIs_54 : decode cX9_asItIs 54 = .ok (.dup, 1) := by decide +kernel
theorem dX9_asItIs_55 : decode cX9_asItIs 55 = .ok (.getfield 236, 3) := by decide +kernel
theorem dX9_asItIs_58 : decode cX9_asItIs 58 = .ok (.aload_n 0, 1) := by decide +kernel
theorem dX9_asItIs_59 : decode cX9_asItIs 59 = .ok (.getfield 9, 3) := by decide +kernel
theorem dX9_asItIs_62 : decode cX9_asItIs 62 = .ok (.bipush 10, 2) := by decide +kernel
theorem dX9_asItIs_64 : decode cX9_asItIs 64 = .ok (.iconst 2, 1) := by decide +kernel
theorem dX9_asItIs_65 : decode cX9_asItIs 65 = .ok (.iload_n 1, 1) := by decide +kernel
theorem dX9_asItIs_66 : decode cX9_asItIs 66 = .ok (.imul, 1) := by decide +kernel
theorem dX9_asItIs_67 : decode cX9_asItIs 67 = .ok (.iadd, 1) := by decide +kernel
theorem dX9_asItIs_68 : decode cX9_asItIs 68 = .ok (.iconst 1, 1) := by decide +kernel
theorem dX9_asItIs_69 : decode cX9_asItIs 69 = .ok (.iadd, 1) := by decide +kernel
theorem dX9_asItIs_70 : decode cX9_asItIs 70 = .ok (.iaload, 1) := by decide +kernel
theorem dX9_asItIs_71 : decode cX9_asItIs 71 = .ok (.iload_n 1, 1) := by decide +kernel
theorem dX9_asItIs_72 : decode cX9_asItIs 72 = .ok (.ishl, 1) := by decide +kernel
theorem dX9_asItIs_73 : decode cX9_asItIs 73 = .ok (.ior, 1) := by decide +kernel
theorem dX9_asItIs_74 : decode cX9_asItIs 74 = .ok (.putfield 236, 3) := by decide +kernel
theorem dX9_asItIs_77 : decode cX9_asItIs 77 = .ok (.aload_n 0, 1) := by decide +kernel
theorem dX9_asItIs_78 : decode cX9_asItIs 78 = .ok (.getfield 34, 3) := by decide +kernel
theorem dX9_asItIs_81 : decode cX9_asItIs 81 = .ok (.iload_n 1, 1) := by decide +kernel
theorem dX9_asItIs_82 : decode cX9_asItIs 82 = .ok (.iconst 0, 1) := by decide +kernel
theorem dX9_asItIs_83 : decode cX9_asItIs 83 = .ok (.iastore, 1) := by decide +kernel
theorem dX9_asItIs_84 : decode cX9_asItIs 84 = .ok (.aload_n 0, 1) := by decide +kernel
theorem dX9_asItIs_85 : decode cX9_asItIs 85 = .ok (.getfield 37, 3) := by decide +kernel
theorem dX9_asItIs_88 : decode cX9_asItIs 88 = .ok (.iload_n 1, 1) := by decide +kernel
theorem dX9_asItIs_89 : decode cX9_asItIs 89 = .ok (.iconst 0, 1) := by decide +kernel
theorem dX9_asItIs_90 : decode cX9_asItIs 90 = .ok (.iastore, 1) := by decide +kernel
theorem dX9_asItIs_91 : decode cX9_asItIs 91 = .ok (.iinc 1 1, 3) := by decide +kernel
theorem dX9_asItIs_94 : decode cX9_asItIs 94 = .ok (.goto (-47), 3) := by decide +kernel
theorem dX9_asItIs_97 : decode cX9_asItIs 97 = .ok (.iconst 0, 1) := by decide +kernel
theorem dX9_asItIs_98 : decode cX9_asItIs 98 = .ok (.istore_n 1, 1) := by decide +kernel
theorem dX9_asItIs_99 : decode cX9_asItIs 99 = .ok (.iload_n 1, 1) := by decide +kernel
theorem dX9_asItIs_100 : decode cX9_asItIs 100 = .ok (.aload_n 0, 1) := by decide +kernel
theorem dX9_asItIs_101 : decode cX9_asItIs 101 = .ok (.getfield 9, 3) := by decide +kernel
theorem dX9_asItIs_104 : decode cX9_asItIs 104 = .ok (.iconst 5, 1) := by decide +kernel
theorem dX9_asItIs_105 : decode cX9_asItIs 105 = .ok (.iaload, 1) := by decide +kernel
theorem dX9_asItIs_106 : decode cX9_asItIs 106 = .ok (.if_icmp .ge 67, 3) := by decide +kernel
theorem dX9_asItIs_109 : decode cX9_asItIs 109 = .ok (.aload_n 0, 1) := by decide +kernel
theorem dX9_asItIs_110 : decode cX9_asItIs 110 = .ok (.getfield 34, 3) := by decide +kernel
theorem dX9_asItIs_113 : decode cX9_asItIs 113 = .ok (.aload_n 0, 1) := by decide +kernel
theorem dX9_asItIs_114 : decode cX9_asItIs 114 = .ok (.getfield 9, 3) := by decide +kernel
theorem dX9_asItIs_117 : decode cX9_asItIs 117 = .ok (.bipush 26, 2) := by decide +kernel
theorem dX9_asItIs_119 : decode cX9_asItIs 119 = .ok (.iconst 3, 1) := by decide +kernel
theorem dX9_asItIs_120 : decode cX9_asItIs 120 = .ok (.iload_n 1, 1) := by decide +kernel
theorem dX9_asItIs_121 : decode cX9_asItIs 121 = .ok (.imul, 1) := by decide +kernel
theorem dX9_asItIs_122 : decode cX9_asItIs 122 = .ok (.iadd, 1) := by decide +kernel
theorem dX9_asItIs_123 : decode cX9_asItIs 123 = .ok (.iaload, 1) := by decide +kernel
theorem dX9_asItIs_124 : decode cX9_asItIs 124 = .ok (.aload_n 0, 1) := by decide +kernel
theorem dX9_asItIs_125 : decode cX9_asItIs 125 = .ok (.getfield 9, 3) := by decide +kernel
theorem dX9_asItIs_128 : decode cX9_asItIs 128 = .ok (.bipush 26, 2) := by decide +kernel
theorem dX9_asItIs_130 : decode cX9_asItIs 130 = .ok (.iconst 3, 1) := by decide +kernel
theorem dX9_asItIs_131 : decode cX9_asItIs 131 = .ok (.iload_n 1, 1) := by decide +kernel
theorem dX9_asItIs_132 : decode cX9_asItIs 132 = .ok (.imul, 1) := by decide +kernel
theorem dX9_asItIs_133 : decode cX9_asItIs 133 = .ok (.iadd, 1) := by decide +kernel
theorem dX9_asItIs_134 : decode cX9_asItIs 134 = .ok (.iconst 1, 1) := by decide +kernel
theorem dX9_asItIs_135 : decode cX9_asItIs 135 = .ok (.iadd, 1) := by decide +kernel
theorem dX9_asItIs_136 : decode cX9_asItIs 136 = .ok (.iaload, 1) := by decide +kernel
theorem dX9_asItIs_137 : decode cX9_asItIs 137 = .ok (.iastore, 1) := by decide +kernel
theorem dX9_asItIs_138 : decode cX9_asItIs 138 = .ok (.aload_n 0, 1) := by decide +kernel
theorem dX9_asItIs_139 : decode cX9_asItIs 139 = .ok (.getfield 37, 3) := by decide +kernel
theorem dX9_asItIs_142 : decode cX9_asItIs 142 = .ok (.aload_n 0, 1) := by decide +kernel
theorem dX9_asItIs_143 : decode cX9_asItIs 143 = .ok (.getfield 9, 3) := by decide +kernel
theorem dX9_asItIs_146 : decode cX9_asItIs 146 = .ok (.bipush 26, 2) := by decide +kernel
theorem dX9_asItIs_148 : decode cX9_asItIs 148 = .ok (.iconst 3, 1) := by decide +kernel
theorem dX9_asItIs_149 : decode cX9_asItIs 149 = .ok (.iload_n 1, 1) := by decide +kernel
theorem dX9_asItIs_150 : decode cX9_asItIs 150 = .ok (.imul, 1) := by decide +kernel
theorem dX9_asItIs_151 : decode cX9_asItIs 151 = .ok (.iadd, 1) := by decide +kernel
theorem dX9_asItIs_152 : decode cX9_asItIs 152 = .ok (.iaload, 1) := by decide +kernel
theorem dX9_asItIs_153 : decode cX9_asItIs 153 = .ok (.aload_n 0, 1) := by decide +kernel
theorem dX9_asItIs_154 : decode cX9_asItIs 154 = .ok (.getfield 9, 3) := by decide +kernel
theorem dX9_asItIs_157 : decode cX9_asItIs 157 = .ok (.bipush 26, 2) := by decide +kernel
theorem dX9_asItIs_159 : decode cX9_asItIs 159 = .ok (.iconst 3, 1) := by decide +kernel
theorem dX9_asItIs_160 : decode cX9_asItIs 160 = .ok (.iload_n 1, 1) := by decide +kernel
theorem dX9_asItIs_161 : decode cX9_asItIs 161 = .ok (.imul, 1) := by decide +kernel
theorem dX9_asItIs_162 : decode cX9_asItIs 162 = .ok (.iadd, 1) := by decide +kernel
theorem dX9_asItIs_163 : decode cX9_asItIs 163 = .ok (.iconst 2, 1) := by decide +kernel
theorem dX9_asItIs_164 : decode cX9_asItIs 164 = .ok (.iadd, 1) := by decide +kernel
theorem dX9_asItIs_165 : decode cX9_asItIs 165 = .ok (.iaload, 1) := by decide +kernel
theorem dX9_asItIs_166 : decode cX9_asItIs 166 = .ok (.iastore, 1) := by decide +kernel
theorem dX9_asItIs_167 : decode cX9_asItIs 167 = .ok (.iinc 1 1, 3) := by decide +kernel
theorem dX9_asItIs_170 : decode cX9_asItIs 170 = .ok (.goto (-71), 3) := by decide +kernel
theorem dX9_asItIs_173 : decode cX9_asItIs 173 = .ok (.iconst 0, 1) := by decide +kernel
theorem dX9_asItIs_174 : decode cX9_asItIs 174 = .ok (.istore_n 1, 1) := by decide +kernel
theorem dX9_asItIs_175 : decode cX9_asItIs 175 = .ok (.iload_n 1, 1) := by decide +kernel
theorem dX9_asItIs_176 : decode cX9_asItIs 176 = .ok (.aload_n 0, 1) := by decide +kernel
theorem dX9_asItIs_177 : decode cX9_asItIs 177 = .ok (.getfield 9, 3) := by decide +kernel
theorem dX9_asItIs_180 : decode cX9_asItIs 180 = .ok (.bipush 6, 2) := by decide +kernel
theorem dX9_asItIs_182 : decode cX9_asItIs 182 = .ok (.iaload, 1) := by decide +kernel
theorem dX9_asItIs_183 : decode cX9_asItIs 183 = .ok (.if_icmp .ge 29, 3) := by decide +kernel
theorem dX9_asItIs_186 : decode cX9_asItIs 186 = .ok (.aload_n 0, 1) := by decide +kernel
theorem dX9_asItIs_187 : decode cX9_asItIs 187 = .ok (.dup, 1) := by decide +kernel
theorem dX9_asItIs_188 : decode cX9_asItIs 188 = .ok (.getfield 239, 3) := by decide +kernel
theorem dX9_asItIs_191 : decode cX9_asItIs 191 = .ok (.iconst 1, 1) := by decide +kernel
theorem dX9_asItIs_192 : decode cX9_asItIs 192 = .ok (.aload_n 0, 1) := by decide +kernel
theorem dX9_asItIs_193 : decode cX9_asItIs 193 = .ok (.getfield 9, 3) := by decide +kernel
theorem dX9_asItIs_196 : decode cX9_asItIs 196 = .ok (.bipush 56, 2) := by decide +kernel
theorem dX9_asItIs_198 : decode cX9_asItIs 198 = .ok (.iload_n 1, 1) := by decide +kernel
theorem dX9_asItIs_199 : decode cX9_asItIs 199 = .ok (.iadd, 1) := by decide +kernel
theorem dX9_asItIs_200 : decode cX9_asItIs 200 = .ok (.iaload, 1) := by decide +kernel
theorem dX9_asItIs_201 : decode cX9_asItIs 201 = .ok (.ishl, 1) := by decide +kernel
theorem dX9_asItIs_202 : decode cX9_asItIs 202 = .ok (.ior, 1) := by decide +kernel
theorem dX9_asItIs_203 : decode cX9_asItIs 203 = .ok (.putfield 239, 3) := by decide +kernel
theorem dX9_asItIs_206 : decode cX9_asItIs 206 = .ok (.iinc 1 1, 3) := by decide +kernel
theorem dX9_asItIs_209 : decode cX9_asItIs 209 = .ok (.goto (-34), 3) := by decide +kernel
theorem dX9_asItIs_212 : decode cX9_asItIs 212 = .ok (.iconst 0, 1) := by decide +kernel
theorem dX9_asItIs_213 : decode cX9_asItIs 213 = .ok (.istore_n 1, 1) := by decide +kernel
theorem dX9_asItIs_214 : decode cX9_asItIs 214 = .ok (.iload_n 1, 1) := by decide +kernel
theorem dX9_asItIs_215 : decode cX9_asItIs 215 = .ok (.bipush 20, 2) := by decide +kernel
theorem dX9_asItIs_217 : decode cX9_asItIs 217 = .ok (.if_icmp .ge 16, 3) := by decide +kernel
theorem dX9_asItIs_220 : decode cX9_asItIs 220 = .ok (.aload_n 0, 1) := by decide +kernel
theorem dX9_asItIs_221 : decode cX9_asItIs 221 = .ok (.getfield 40, 3) := by decide +kernel
theorem dX9_asItIs_224 : decode cX9_asItIs 224 = .ok (.iload_n 1, 1) := by decide +kernel
theorem dX9_asItIs_225 : decode cX9_asItIs 225 = .ok (.iconst 0, 1) := by decide +kernel
theorem dX9_asItIs_226 : decode cX9_asItIs 226 = .ok (.iastore, 1) := by decide +kernel
theorem dX9_asItIs_227 : decode cX9_asItIs 227 = .ok (.iinc 1 1, 3) := by decide +kernel
theorem dX9_asItIs_230 : decode cX9_asItIs 230 = .ok (.goto (-16), 3) := by decide +kernel
theorem dX9_asItIs_233 : decode cX9_asItIs 233 = .ok (.iconst 0, 1) := by decide +kernel
theorem dX9_asItIs_234 : decode cX9_asItIs 234 = .ok (.istore_n 1, 1) := by decide +kernel
theorem dX9_asItIs_235 : decode cX9_asItIs 235 = .ok (.iload_n 1, 1) := by decide +kernel
theorem dX9_asItIs_236 : decode cX9_asItIs 236 = .ok (.aload_n 0, 1) := by decide +kernel
theorem dX9_asItIs_237 : decode cX9_asItIs 237 = .ok (.getfield 9, 3) := by decide +kernel
theorem dX9_asItIs_240 : decode cX9_asItIs 240 = .ok (.bipush 8, 2) := by decide +kernel
theorem dX9_asItIs_242 : decode cX9_asItIs 242 = .ok (.iaload, 1) := by decide +kernel
theorem dX9_asItIs_243 : decode cX9_asItIs 243 = .ok (.if_icmp .ge 48, 3) := by decide +kernel
theorem dX9_asItIs_246 : decode cX9_asItIs 246 = .ok (.aload_n 0, 1) := by decide +kernel
theorem dX9_asItIs_247 : decode cX9_asItIs 247 = .ok (.getfield 9, 3) := by decide +kernel
theorem dX9_asItIs_250 : decode cX9_asItIs 250 = .ok (.bipush 84, 2) := by decide +kernel
theorem dX9_asItIs_252 : decode cX9_asItIs 252 = .ok (.iload_n 1, 1) := by decide +kernel
theorem dX9_asItIs_253 : decode cX9_asItIs 253 = .ok (.iadd, 1) := by decide +kernel
theorem dX9_asItIs_254 : decode cX9_asItIs 254 = .ok (.iaload, 1) := by decide +kernel
theorem dX9_asItIs_255 : decode cX9_asItIs 255 = .ok (.istore_n 2, 1) := by decide +kernel
theorem dX9_asItIs_256 : decode cX9_asItIs 256 = .ok (.iload_n 2, 1) := by decide +kernel
theorem dX9_asItIs_257 : decode cX9_asItIs 257 = .ok (.sipush 10000, 3) := by decide +kernel
theorem dX9_asItIs_260 : decode cX9_asItIs 260 = .ok (.if_icmp .lt 25, 3) := by decide +kernel
theorem dX9_asItIs_263 : decode cX9_asItIs 263 = .ok (.aload_n 0, 1) := by decide +kernel
theorem dX9_asItIs_264 : decode cX9_asItIs 264 = .ok (.getfield 40, 3) := by decide +kernel
theorem dX9_asItIs_267 : decode cX9_asItIs 267 = .ok (.iload_n 2, 1) := by decide +kernel
theorem dX9_asItIs_268 : decode cX9_asItIs 268 = .ok (.bipush 100, 2) := by decide +kernel
theorem dX9_asItIs_270 : decode cX9_asItIs 270 = .ok (.irem, 1) := by decide +kernel
theorem dX9_asItIs_271 : decode cX9_asItIs 271 = .ok (.dup2, 1) := by decide +kernel
theorem dX9_asItIs_272 : decode cX9_asItIs 272 = .ok (.iaload, 1) := by decide +kernel
theorem dX9_asItIs_273 : decode cX9_asItIs 273 = .ok (.iconst 1, 1) := by decide +kernel
theorem dX9_asItIs_274 : decode cX9_asItIs 274 = .ok (.iload_n 2, 1) := by decide +kernel
theorem dX9_asItIs_275 : decode cX9_asItIs 275 = .ok (.sipush 10000, 3) := by decide +kernel
theorem dX9_asItIs_278 : decode cX9_asItIs 278 = .ok (.isub, 1) := by decide +kernel
theorem dX9_asItIs_279 : decode cX9_asItIs 279 = .ok (.bipush 100, 2) := by decide +kernel
theorem dX9_asItIs_281 : decode cX9_asItIs 281 = .ok (.idiv, 1) := by decide +kernel
theorem dX9_asItIs_282 : decode cX9_asItIs 282 = .ok (.ishl, 1) := by decide +kernel
theorem dX9_asItIs_283 : decode cX9_asItIs 283 = .ok (.ior, 1) := by decide +kernel
theorem dX9_asItIs_284 : decode cX9_asItIs 284 = .ok (.iastore, 1) := by decide +kernel
theorem dX9_asItIs_285 : decode cX9_asItIs 285 = .ok (.iinc 1 1, 3) := by decide +kernel
theorem dX9_asItIs_288 : decode cX9_asItIs 288 = .ok (.goto (-53), 3) := by decide +kernel
theorem dX9_asItIs_291 : decode cX9_asItIs 291 = .ok (.return_, 1) := by decide +kernel
theorem dX9_place_0 : decode cX9_place 0 = .ok (.aload_n 0, 1) := by decide +kernel
theorem dX9_place_1 : decode cX9_place 1 = .ok (.invokevirtual 251, 3) := by decide +kernel
theorem dX9_place_4 : decode cX9_place 4 = .ok (.aload_n 0, 1) := by decide +kernel
theorem dX9_place_5 : decode cX9_place 5 = .ok (.iload_n 1, 1) := by decide +kernel
theorem dX9_place_6 : decode cX9_place 6 = .ok (.i2l, 1) := by decide +kernel
theorem dX9_place_7 : decode cX9_place 7 = .ok (.invokevirtual 254, 3) := by decide +kernel
theorem dX9_place_10 : decode cX9_place 10 = .ok (.ifCond .eq 13, 3) := by decide +kernel
theorem dX9_place_13 : decode cX9_place 13 = .ok (.iload_n 2, 1) := by decide +kernel
theorem dX9_place_14 : decode cX9_place 14 = .ok (.i2l, 1) := by decide +kernel
theorem dX9_place_15 : decode cX9_place 15 = .ok (.lconst 0, 1) := by decide +kernel
theorem dX9_place_16 : decode cX9_place 16 = .ok (.lconst 1, 1) := by decide +kernel
theorem dX9_place_17 : decode cX9_place 17 = .ok (.invokestatic 88, 3) := by decide +kernel
theorem dX9_place_20 : decode cX9_place 20 = .ok (.ifCond .ne 6, 3) := by decide +kernel
theorem dX9_place_23 : decode cX9_place 23 = .ok (.bipush (-2), 2) := by decide +kernel
theorem dX9_place_25 : decode cX9_place 25 = .ok (.ireturn, 1) := by decide +kernel
theorem dX9_place_26 : decode cX9_place 26 = .ok (.iload_n 2, 1) := by decide +kernel
theorem dX9_place_27 : decode cX9_place 27 = .ok (.ifCond .ne 12, 3) := by decide +kernel
theorem dX9_place_30 : decode cX9_place 30 = .ok (.aload_n 0, 1) := by decide +kernel
theorem dX9_place_31 : decode cX9_place 31 = .ok (.getfield 34, 3) := by decide +kernel
theorem dX9_place_34 : decode cX9_place 34 = .ok (.iload_n 1, 1) := by decide +kernel
theorem dX9_place_35 : decode cX9_place 35 = .ok (.iaload, 1) := by decide +kernel
theorem dX9_place_36 : decode cX9_place 36 = .ok (.goto 9, 3) := by decide +kernel
theorem dX9_place_39 : decode cX9_place 39 = .ok (.aload_n 0, 1) := by decide +kernel
theorem dX9_place_40 : decode cX9_place 40 = .ok (.getfield 37, 3) := by decide +kernel
theorem dX9_place_43 : decode cX9_place 43 = .ok (.iload_n 1, 1) := by decide +kernel
theorem dX9_place_44 : decode cX9_place 44 = .ok (.iaload, 1) := by decide +kernel
theorem dX9_place_45 : decode cX9_place 45 = .ok (.ireturn, 1) := by decide +kernel
theorem dX9_placeOf_0 : decode cX9_placeOf 0 = .ok (.aload_n 0, 1) := by decide +kernel
theorem dX9_placeOf_1 : decode cX9_placeOf 1 = .ok (.getfield 43, 3) := by decide +kernel
theorem dX9_placeOf_4 : decode cX9_placeOf 4 = .ok (.bipush 8, 2) := by decide +kernel
theorem dX9_placeOf_6 : decode cX9_placeOf 6 = .ok (.iload_n 2, 1) := by decide +kernel
theorem dX9_placeOf_7 : decode cX9_placeOf 7 = .ok (.imul, 1) := by decide +kernel
theorem dX9_placeOf_8 : decode cX9_placeOf 8 = .ok (.iload_n 1, 1) := by decide +kernel
theorem dX9_placeOf_9 : decode cX9_placeOf 9 = .ok (.iadd, 1) := by decide +kernel
theorem dX9_placeOf_10 : decode cX9_placeOf 10 = .ok (.iaload, 1) := by decide +kernel
theorem dX9_placeOf_11 : decode cX9_placeOf 11 = .ok (.ireturn, 1) := by decide +kernel
theorem dX9_exchange_0 : decode cX9_exchange 0 = .ok (.aload_n 0, 1) := by decide +kernel
theorem dX9_exchange_1 : decode cX9_exchange 1 = .ok (.getfield 43, 3) := by decide +kernel
theorem dX9_exchange_4 : decode cX9_exchange 4 = .ok (.bipush 8, 2) := by decide +kernel
theorem dX9_exchange_6 : decode cX9_exchange 6 = .ok (.iload_n 3, 1) := by decide +kernel
theorem dX9_exchange_7 : decode cX9_exchange 7 = .ok (.imul, 1) := by decide +kernel
theorem dX9_exchange_8 : decode cX9_exchange 8 = .ok (.iload_n 1, 1) := by decide +kernel
theorem dX9_exchange_9 : decode cX9_exchange 9 = .ok (.iadd, 1) := by decide +kernel
theorem dX9_exchange_10 : decode cX9_exchange 10 = .ok (.iaload, 1) := by decide +kernel
theorem dX9_exchange_11 : decode cX9_exchange 11 = .ok (.istore 4, 2) := by decide +kernel
theorem dX9_exchange_13 : decode cX9_exchange 13 = .ok (.aload_n 0, 1) := by decide +kernel
theorem dX9_exchange_14 : decode cX9_exchange 14 = .ok (.getfield 43, 3) := by decide +kernel
theorem dX9_exchange_17 : decode cX9_exchange 17 = .ok (.bipush 8, 2) := by decide +kernel
theorem dX9_exchange_19 : decode cX9_exchange 19 = .ok (.iload_n 3, 1) := by decide +kernel
theorem dX9_exchange_20 : decode cX9_exchange 20 = .ok (.imul, 1) := by decide +kernel
theorem dX9_exchange_21 : decode cX9_exchange 21 = .ok (.iload_n 1, 1) := by decide +kernel
theorem dX9_exchange_22 : decode cX9_exchange 22 = .ok (.iadd, 1) := by decide +kernel
theorem dX9_exchange_23 : decode cX9_exchange 23 = .ok (.aload_n 0, 1) := by decide +kernel
theorem dX9_exchange_24 : decode cX9_exchange 24 = .ok (.getfield 43, 3) := by decide +kernel
theorem dX9_exchange_27 : decode cX9_exchange 27 = .ok (.bipush 8, 2) := by decide +kernel
theorem dX9_exchange_29 : decode cX9_exchange 29 = .ok (.iload_n 3, 1) := by decide +kernel
theorem dX9_exchange_30 : decode cX9_exchange 30 = .ok (.imul, 1) := by decide +kernel
theorem dX9_exchange_31 : decode cX9_exchange 31 = .ok (.iload_n 2, 1) := by decide +kernel
theorem dX9_exchange_32 : decode cX9_exchange 32 = .ok (.iadd, 1) := by decide +kernel
theorem dX9_exchange_33 : decode cX9_exchange 33 = .ok (.iaload, 1) := by decide +kernel
theorem dX9_exchange_34 : decode cX9_exchange 34 = .ok (.iastore, 1) := by decide +kernel
theorem dX9_exchange_35 : decode cX9_exchange 35 = .ok (.aload_n 0, 1) := by decide +kernel
theorem dX9_exchange_36 : decode cX9_exchange 36 = .ok (.getfield 43, 3) := by decide +kernel
theorem dX9_exchange_39 : decode cX9_exchange 39 = .ok (.bipush 8, 2) := by decide +kernel
theorem dX9_exchange_41 : decode cX9_exchange 41 = .ok (.iload_n 3, 1) := by decide +kernel
theorem dX9_exchange_42 : decode cX9_exchange 42 = .ok (.imul, 1) := by decide +kernel
theorem dX9_exchange_43 : decode cX9_exchange 43 = .ok (.iload_n 2, 1) := by decide +kernel
theorem dX9_exchange_44 : decode cX9_exchange 44 = .ok (.iadd, 1) := by decide +kernel
theorem dX9_exchange_45 : decode cX9_exchange 45 = .ok (.iload 4, 2) := by decide +kernel
theorem dX9_exchange_47 : decode cX9_exchange 47 = .ok (.iastore, 1) := by decide +kernel
theorem dX9_exchange_48 : decode cX9_exchange 48 = .ok (.return_, 1) := by decide +kernel
theorem dX9_over_0 : decode cX9_over 0 = .ok (.iload_n 0, 1) := by decide +kernel
theorem dX9_over_1 : decode cX9_over 1 = .ok (.iload_n 1, 1) := by decide +kernel
theorem dX9_over_2 : decode cX9_over 2 = .ok (.irem, 1) := by decide +kernel
theorem dX9_over_3 : decode cX9_over 3 = .ok (.istore_n 2, 1) := by decide +kernel
theorem dX9_over_4 : decode cX9_over 4 = .ok (.iload_n 2, 1) := by decide +kernel
theorem dX9_over_5 : decode cX9_over 5 = .ok (.ifCond .ge 9, 3) := by decide +kernel
theorem dX9_over_8 : decode cX9_over 8 = .ok (.iload_n 2, 1) := by decide +kernel
theorem dX9_over_9 : decode cX9_over 9 = .ok (.iload_n 1, 1) := by decide +kernel
theorem dX9_over_10 : decode cX9_over 10 = .ok (.iadd, 1) := by decide +kernel
theorem dX9_over_11 : decode cX9_over 11 = .ok (.goto 4, 3) := by decide +kernel
theorem dX9_over_14 : decode cX9_over 14 = .ok (.iload_n 2, 1) := by decide +kernel
theorem dX9_over_15 : decode cX9_over 15 = .ok (.ireturn, 1) := by decide +kernel
theorem dX9_turnBy_0 : decode cX9_turnBy 0 = .ok (.aload_n 0, 1) := by decide +kernel
theorem dX9_turnBy_1 : decode cX9_turnBy 1 = .ok (.getfield 230, 3) := by decide +kernel
theorem dX9_turnBy_4 : decode cX9_turnBy 4 = .ok (.iconst 1, 1) := by decide +kernel
theorem dX9_turnBy_5 : decode cX9_turnBy 5 = .ok (.if_icmp .ne 30, 3) := by decide +kernel
theorem dX9_turnBy_8 : decode cX9_turnBy 8 = .ok (.iload_n 1, 1) := by decide +kernel
theorem dX9_turnBy_9 : decode cX9_turnBy 9 = .ok (.aload_n 0, 1) := by decide +kernel
theorem dX9_turnBy_10 : decode cX9_turnBy 10 = .ok (.getfield 233, 3) := by decide +kernel
theorem dX9_turnBy_13 : decode cX9_turnBy 13 = .ok (.if_icmp .lt 7, 3) := by decide +kernel
theorem dX9_turnBy_16 : decode cX9_turnBy 16 = .ok (.iconst 1, 1) := by decide +kernel
theorem dX9_turnBy_17 : decode cX9_turnBy 17 = .ok (.goto 17, 3) := by decide +kernel
theorem dX9_turnBy_20 : decode cX9_turnBy 20 = .ok (.iload_n 1, 1) := by decide +kernel
theorem dX9_turnBy_21 : decode cX9_turnBy 21 = .ok (.aload_n 0, 1) := by decide +kernel
theorem dX9_turnBy_22 : decode cX9_turnBy 22 = .ok (.getfield 233, 3) := by decide +kernel
theorem dX9_turnBy_25 : decode cX9_turnBy 25 = .ok (.ineg, 1) := by decide +kernel
theorem dX9_turnBy_26 : decode cX9_turnBy 26 = .ok (.if_icmp .gt 7, 3) := by decide +kernel
theorem dX9_turnBy_29 : decode cX9_turnBy 29 = .ok (.iconst (-1), 1) := by decide +kernel
theorem dX9_turnBy_30 : decode cX9_turnBy 30 = .ok (.goto 4, 3) := by decide +kernel
theorem dX9_turnBy_33 : decode cX9_turnBy 33 = .ok (.iconst 0, 1) := by decide +kernel
theorem dX9_turnBy_34 : decode cX9_turnBy 34 = .ok (.ireturn, 1) := by decide +kernel
theorem dX9_turnBy_35 : decode cX9_turnBy 35 = .ok (.aload_n 0, 1) := by decide +kernel
theorem dX9_turnBy_36 : decode cX9_turnBy 36 = .ok (.getfield 230, 3) := by decide +kernel
theorem dX9_turnBy_39 : decode cX9_turnBy 39 = .ok (.iconst 2, 1) := by decide +kernel
theorem dX9_turnBy_40 : decode cX9_turnBy 40 = .ok (.if_icmp .ne 23, 3) := by decide +kernel
theorem dX9_turnBy_43 : decode cX9_turnBy 43 = .ok (.aload_n 0, 1) := by decide +kernel
theorem dX9_turnBy_44 : decode cX9_turnBy 44 = .ok (.invokevirtual 100, 3) := by decide +kernel
theorem dX9_turnBy_47 : decode cX9_turnBy 47 = .ok (.ifCond .ne 7, 3) := by decide +kernel
theorem dX9_turnBy_50 : decode cX9_turnBy 50 = .ok (.iconst 0, 1) := by decide +kernel
theorem dX9_turnBy_51 : decode cX9_turnBy 51 = .ok (.goto 11, 3) := by decide +kernel
theorem dX9_turnBy_54 : decode cX9_turnBy 54 = .ok (.iload_n 1, 1) := by decide +kernel
theorem dX9_turnBy_55 : decode cX9_turnBy 55 = .ok (.aload_n 0, 1) := by decide +kernel
theorem dX9_turnBy_56 : decode cX9_turnBy 56 = .ok (.invokevirtual 100, 3) := by decide +kernel
theorem dX9_turnBy_59 : decode cX9_turnBy 59 = .ok (.invokestatic 258, 3) := by decide +kernel
theorem dX9_turnBy_62 : decode cX9_turnBy 62 = .ok (.ireturn, 1) := by decide +kernel
theorem dX9_turnBy_63 : decode cX9_turnBy 63 = .ok (.aload_n 0, 1) := by decide +kernel
theorem dX9_turnBy_64 : decode cX9_turnBy 64 = .ok (.getfield 230, 3) := by decide +kernel
theorem dX9_turnBy_67 : decode cX9_turnBy 67 = .ok (.iconst 3, 1) := by decide +kernel
theorem dX9_turnBy_68 : decode cX9_turnBy 68 = .ok (.if_icmp .ne 14, 3) := by decide +kernel
theorem dX9_turnBy_71 : decode cX9_turnBy 71 = .ok (.iload_n 2, 1) := by decide +kernel
theorem dX9_turnBy_72 : decode cX9_turnBy 72 = .ok (.iconst 2, 1) := by decide +kernel
theorem dX9_turnBy_73 : decode cX9_turnBy 73 = .ok (.irem, 1) := by decide +kernel
theorem dX9_turnBy_74 : decode cX9_turnBy 74 = .ok (.iconst 1, 1) := by decide +kernel
theorem dX9_turnBy_75 : decode cX9_turnBy 75 = .ok (.if_icmp .ne 7, 3) := by decide +kernel
theorem dX9_turnBy_78 : decode cX9_turnBy 78 = .ok (.iconst 0, 1) := by decide +kernel
theorem dX9_turnBy_79 : decode cX9_turnBy 79 = .ok (.goto 9, 3) := by decide +kernel
theorem dX9_turnBy_82 : decode cX9_turnBy 82 = .ok (.iload_n 1, 1) := by decide +kernel
theorem dX9_turnBy_83 : decode cX9_turnBy 83 = .ok (.aload_n 0, 1) := by decide +kernel
theorem dX9_turnBy_84 : decode cX9_turnBy 84 = .ok (.getfield 233, 3) := by decide +kernel
theorem dX9_turnBy_87 : decode cX9_turnBy 87 = .ok (.idiv, 1) := by decide +kernel
theorem dX9_turnBy_88 : decode cX9_turnBy 88 = .ok (.ireturn, 1) := by decide +kernel
theorem dX9_forceOf_0 : decode cX9_forceOf 0 = .ok (.iconst 0, 1) := by decide +kernel
theorem dX9_forceOf_1 : decode cX9_forceOf 1 = .ok (.istore_n 3, 1) := by decide +kernel
theorem dX9_forceOf_2 : decode cX9_forceOf 2 = .ok (.iconst 0, 1) := by decide +kernel
theorem dX9_forceOf_3 : decode cX9_forceOf 3 = .ok (.istore 4, 2) := by decide +kernel
theorem dX9_forceOf_5 : decode cX9_forceOf 5 = .ok (.iload 4, 2) := by decide +kernel
theorem dX9_forceOf_7 : decode cX9_forceOf 7 = .ok (.aload_n 0, 1) := by decide +kernel
theorem dX9_forceOf_8 : decode cX9_forceOf 8 = .ok (.invokevirtual 100, 3) := by decide +kernel
theorem dX9_forceOf_11 : decode cX9_forceOf 11 = .ok (.if_icmp .ge 148, 3) := by decide +kernel
theorem dX9_forceOf_14 : decode cX9_forceOf 14 = .ok (.aload_n 0, 1) := by decide +kernel
theorem dX9_forceOf_15 : decode cX9_forceOf 15 = .ok (.iload 4, 2) := by decide +kernel
theorem dX9_forceOf_17 : decode cX9_forceOf 17 = .ok (.iload_n 1, 1) := by decide +kernel
theorem dX9_forceOf_18 : decode cX9_forceOf 18 = .ok (.invokevirtual 261, 3) := by decide +kernel
theorem dX9_forceOf_21 : decode cX9_forceOf 21 = .ok (.istore 5, 2) := by decide +kernel
theorem dX9_forceOf_23 : decode cX9_forceOf 23 = .ok (.aload_n 0, 1) := by decide +kernel
theorem dX9_forceOf_24 : decode cX9_forceOf 24 = .ok (.getfield 242, 3) := by decide +kernel
theorem dX9_forceOf_27 : decode cX9_forceOf 27 = .ok (.aload_n 0, 1) := by decide +kernel
theorem dX9_forceOf_28 : decode cX9_forceOf 28 = .ok (.getfield 40, 3) := by decide +kernel
theorem dX9_forceOf_31 : decode cX9_forceOf 31 = .ok (.iload_n 1, 1) := by decide +kernel
theorem dX9_forceOf_32 : decode cX9_forceOf 32 = .ok (.iaload, 1) := by decide +kernel
theorem dX9_forceOf_33 : decode cX9_forceOf 33 = .ok (.ior, 1) := by decide +kernel
theorem dX9_forceOf_34 : decode cX9_forceOf 34 = .ok (.iload_n 2, 1) := by decide +kernel
theorem dX9_forceOf_35 : decode cX9_forceOf 35 = .ok (.ior, 1) := by decide +kernel
theorem dX9_forceOf_36 : decode cX9_forceOf 36 = .ok (.iload 4, 2) := by decide +kernel
theorem dX9_forceOf_38 : decode cX9_forceOf 38 = .ok (.invokestatic 264, 3) := by decide +kernel
theorem dX9_forceOf_41 : decode cX9_forceOf 41 = .ok (.iconst 1, 1) := by decide +kernel
theorem dX9_forceOf_42 : decode cX9_forceOf 42 = .ok (.if_icmp .eq 31, 3) := by decide +kernel
theorem dX9_forceOf_45 : decode cX9_forceOf 45 = .ok (.aload_n 0, 1) := by decide +kernel
theorem dX9_forceOf_46 : decode cX9_forceOf 46 = .ok (.getfield 239, 3) := by decide +kernel
theorem dX9_forceOf_49 : decode cX9_forceOf 49 = .ok (.iload_n 1, 1) := by decide +kernel
theorem dX9_forceOf_50 : decode cX9_forceOf 50 = .ok (.invokestatic 264, 3) := by decide +kernel
theorem dX9_forceOf_53 : decode cX9_forceOf 53 = .ok (.iconst 1, 1) := by decide +kernel
theorem dX9_forceOf_54 : decode cX9_forceOf 54 = .ok (.if_icmp .ne 23, 3) := by decide +kernel
theorem dX9_forceOf_57 : decode cX9_forceOf 57 = .ok (.iload 5, 2) := by decide +kernel
theorem dX9_forceOf_59 : decode cX9_forceOf 59 = .ok (.ifCond .eq 18, 3) := by decide +kernel
theorem dX9_forceOf_62 : decode cX9_forceOf 62 = .ok (.iload 5, 2) := by decide +kernel
theorem dX9_forceOf_64 : decode cX9_forceOf 64 = .ok (.aload_n 0, 1) := by decide +kernel
theorem dX9_forceOf_65 : decode cX9_forceOf 65 = .ok (.invokevirtual 100, 3) := by decide +kernel
theorem dX9_forceOf_68 : decode cX9_forceOf 68 = .ok (.iconst 1, 1) := by decide +kernel
theorem dX9_forceOf_69 : decode cX9_forceOf 69 = .ok (.isub, 1) := by decide +kernel
theorem dX9_forceOf_70 : decode cX9_forceOf 70 = .ok (.if_icmp .eq 7, 3) := by decide +kernel
theorem dX9_forceOf_73 : decode cX9_forceOf 73 = .ok (.iconst 1, 1) := by decide +kernel
theorem dX9_forceOf_74 : decode cX9_forceOf 74 = .ok (.goto 4, 3) := by decide +kernel
theorem dX9_forceOf_77 : decode cX9_forceOf 77 = .ok (.iconst 0, 1) := by decide +kernel
theorem dX9_forceOf_78 : decode cX9_forceOf 78 = .ok (.istore 6, 2) := by decide +kernel
theorem dX9_forceOf_80 : decode cX9_forceOf 80 = .ok (.iload 6, 2) := by decide +kernel
theorem dX9_forceOf_82 : decode cX9_forceOf 82 = .ok (.ifCond .eq 7, 3) := by decide +kernel
theorem dX9_forceOf_85 : decode cX9_forceOf 85 = .ok (.iconst 0, 1) := by decide +kernel
theorem dX9_forceOf_86 : decode cX9_forceOf 86 = .ok (.goto 27, 3) := by decide +kernel
theorem dX9_forceOf_89 : decode cX9_forceOf 89 = .ok (.iconst 0, 1) := by decide +kernel
theorem dX9_forceOf_90 : decode cX9_forceOf 90 = .ok (.aload_n 0, 1) := by decide +kernel
theorem dX9_forceOf_91 : decode cX9_forceOf 91 = .ok (.getfield 9, 3) := by decide +kernel
theorem dX9_forceOf_94 : decode cX9_forceOf 94 = .ok (.bipush 10, 2) := by decide +kernel
theorem dX9_forceOf_96 : decode cX9_forceOf 96 = .ok (.iconst 2, 1) := by decide +kernel
theorem dX9_forceOf_97 : decode cX9_forceOf 97 = .ok (.iload 4, 2) := by decide +kernel
theorem dX9_forceOf_99 : decode cX9_forceOf 99 = .ok (.imul, 1) := by decide +kernel
theorem dX9_forceOf_100 : decode cX9_forceOf 100 = .ok (.iadd, 1) := by decide +kernel
theorem dX9_forceOf_101 : decode cX9_forceOf 101 = .ok (.iaload, 1) := by decide +kernel
theorem dX9_forceOf_102 : decode cX9_forceOf 102 = .ok (.aload_n 0, 1) := by decide +kernel
theorem dX9_forceOf_103 : decode cX9_forceOf 103 = .ok (.getfield 37, 3) := by decide +kernel
theorem dX9_forceOf_106 : decode cX9_forceOf 106 = .ok (.iload 5, 2) := by decide +kernel
theorem dX9_forceOf_108 : decode cX9_forceOf 108 = .ok (.iaload, 1) := by decide +kernel
theorem dX9_forceOf_109 : decode cX9_forceOf 109 = .ok (.isub, 1) := by decide +kernel
theorem dX9_forceOf_110 : decode cX9_forceOf 110 = .ok (.invokestatic 267, 3) := by decide +kernel
theorem dX9_forceOf_113 : decode cX9_forceOf 113 = .ok (.istore 7, 2) := by decide +kernel
theorem dX9_forceOf_115 : decode cX9_forceOf 115 = .ok (.aload_n 0, 1) := by decide +kernel
theorem dX9_forceOf_116 : decode cX9_forceOf 116 = .ok (.getfield 46, 3) := by decide +kernel
theorem dX9_forceOf_119 : decode cX9_forceOf 119 = .ok (.bipush 8, 2) := by decide +kernel
theorem dX9_forceOf_121 : decode cX9_forceOf 121 = .ok (.iload_n 1, 1) := by decide +kernel
theorem dX9_forceOf_122 : decode cX9_forceOf 122 = .ok (.imul, 1) := by decide +kernel
theorem dX9_forceOf_123 : decode cX9_forceOf 123 = .ok (.iload 4, 2) := by decide +kernel
theorem dX9_forceOf_125 : decode cX9_forceOf 125 = .ok (.iadd, 1) := by decide +kernel
theorem dX9_forceOf_126 : decode cX9_forceOf 126 = .ok (.iload 7, 2) := by decide +kernel
theorem dX9_forceOf_128 : decode cX9_forceOf 128 = .ok (.iastore, 1) := by decide +kernel
theorem dX9_forceOf_129 : decode cX9_forceOf 129 = .ok (.iload_n 3, 1) := by decide +kernel
theorem dX9_forceOf_130 : decode cX9_forceOf 130 = .ok (.aload_n 0, 1) := by decide +kernel
theorem dX9_forceOf_131 : decode cX9_forceOf 131 = .ok (.getfield 236, 3) := by decide +kernel
theorem dX9_forceOf_134 : decode cX9_forceOf 134 = .ok (.iload 4, 2) := by decide +kernel
theorem dX9_forceOf_136 : decode cX9_forceOf 136 = .ok (.invokestatic 264, 3) := by decide +kernel
theorem dX9_forceOf_139 : decode cX9_forceOf 139 = .ok (.iconst 1, 1) := by decide +kernel
theorem dX9_forceOf_140 : decode cX9_forceOf 140 = .ok (.if_icmp .ne 9, 3) := by decide +kernel
theorem dX9_forceOf_143 : decode cX9_forceOf 143 = .ok (.iload 7, 2) := by decide +kernel
theorem dX9_forceOf_145 : decode cX9_forceOf 145 = .ok (.ineg, 1) := by decide +kernel
theorem dX9_forceOf_146 : decode cX9_forceOf 146 = .ok (.goto 5, 3) := by decide +kernel
theorem dX9_forceOf_149 : decode cX9_forceOf 149 = .ok (.iload 7, 2) := by decide +kernel
theorem dX9_forceOf_151 : decode cX9_forceOf 151 = .ok (.iadd, 1) := by decide +kernel
theorem dX9_forceOf_152 : decode cX9_forceOf 152 = .ok (.istore_n 3, 1) := by decide +kernel
theorem dX9_forceOf_153 : decode cX9_forceOf 153 = .ok (.iinc 4 1, 3) := by decide +kernel
theorem dX9_forceOf_156 : decode cX9_forceOf 156 = .ok (.goto (-151), 3) := by decide +kernel
theorem dX9_forceOf_159 : decode cX9_forceOf 159 = .ok (.iload_n 3, 1) := by decide +kernel
theorem dX9_forceOf_160 : decode cX9_forceOf 160 = .ok (.ireturn, 1) := by decide +kernel
theorem dX9_goAll_0 : decode cX9_goAll 0 = .ok (.iconst 0, 1) := by decide +kernel
theorem dX9_goAll_1 : decode cX9_goAll 1 = .ok (.istore_n 1, 1) := by decide +kernel
theorem dX9_goAll_2 : decode cX9_goAll 2 = .ok (.iload_n 1, 1) := by decide +kernel
theorem dX9_goAll_3 : decode cX9_goAll 3 = .ok (.bipush 8, 2) := by decide +kernel
theorem dX9_goAll_5 : decode cX9_goAll 5 = .ok (.if_icmp .ge 16, 3) := by decide +kernel
theorem dX9_goAll_8 : decode cX9_goAll 8 = .ok (.aload_n 0, 1) := by decide +kernel
theorem dX9_goAll_9 : decode cX9_goAll 9 = .ok (.getfield 43, 3) := by decide +kernel
theorem dX9_goAll_12 : decode cX9_goAll 12 = .ok (.iload_n 1, 1) := by decide +kernel
theorem dX9_goAll_13 : decode cX9_goAll 13 = .ok (.iload_n 1, 1) := by decide +kernel
theorem dX9_goAll_14 : decode cX9_goAll 14 = .ok (.iastore, 1) := by decide +kernel
theorem dX9_goAll_15 : decode cX9_goAll 15 = .ok (.iinc 1 1, 3) := by decide +kernel
theorem dX9_goAll_18 : decode cX9_goAll 18 = .ok (.goto (-16), 3) := by decide +kernel
theorem dX9_goAll_21 : decode cX9_goAll 21 = .ok (.aload_n 0, 1) := by decide +kernel
theorem dX9_goAll_22 : decode cX9_goAll 22 = .ok (.aload_n 0, 1) := by decide +kernel
theorem dX9_goAll_23 : decode cX9_goAll 23 = .ok (.getfield 245, 3) := by decide +kernel
theorem dX9_goAll_26 : decode cX9_goAll 26 = .ok (.aload_n 0, 1) := by decide +kernel
theorem dX9_goAll_27 : decode cX9_goAll 27 = .ok (.getfield 248, 3) := by decide +kernel
theorem dX9_goAll_30 : decode cX9_goAll 30 = .ok (.iconst 0, 1) := by decide +kernel
theorem dX9_goAll_31 : decode cX9_goAll 31 = .ok (.invokevirtual 270, 3) := by decide +kernel
theorem dX9_goAll_34 : decode cX9_goAll 34 = .ok (.iconst 0, 1) := by decide +kernel
theorem dX9_goAll_35 : decode cX9_goAll 35 = .ok (.istore_n 1, 1) := by decide +kernel
theorem dX9_goAll_36 : decode cX9_goAll 36 = .ok (.iload_n 1, 1) := by decide +kernel
theorem dX9_goAll_37 : decode cX9_goAll 37 = .ok (.aload_n 0, 1) := by decide +kernel
theorem dX9_goAll_38 : decode cX9_goAll 38 = .ok (.invokevirtual 96, 3) := by decide +kernel
theorem dX9_goAll_41 : decode cX9_goAll 41 = .ok (.if_icmp .ge 148, 3) := by decide +kernel
theorem dX9_goAll_44 : decode cX9_goAll 44 = .ok (.iconst 0, 1) := by decide +kernel
theorem dX9_goAll_45 : decode cX9_goAll 45 = .ok (.istore_n 2, 1) := by decide +kernel
theorem dX9_goAll_46 : decode cX9_goAll 46 = .ok (.iload_n 2, 1) := by decide +kernel
theorem dX9_goAll_47 : decode cX9_goAll 47 = .ok (.aload_n 0, 1) := by decide +kernel
theorem dX9_goAll_48 : decode cX9_goAll 48 = .ok (.getfield 9, 3) := by decide +kernel
theorem dX9_goAll_51 : decode cX9_goAll 51 = .ok (.bipush 8, 2) := by decide +kernel
theorem dX9_goAll_53 : decode cX9_goAll 53 = .ok (.iaload, 1) := by decide +kernel
theorem dX9_goAll_54 : decode cX9_goAll 54 = .ok (.if_icmp .ge 51, 3) := by decide +kernel
theorem dX9_goAll_57 : decode cX9_goAll 57 = .ok (.aload_n 0, 1) := by decide +kernel
theorem dX9_goAll_58 : decode cX9_goAll 58 = .ok (.getfield 9, 3) := by decide +kernel
theorem dX9_goAll_61 : decode cX9_goAll 61 = .ok (.bipush 84, 2) := by decide +kernel
theorem dX9_goAll_63 : decode cX9_goAll 63 = .ok (.iload_n 2, 1) := by decide +kernel
theorem dX9_goAll_64 : decode cX9_goAll 64 = .ok (.iadd, 1) := by decide +kernel
theorem dX9_goAll_65 : decode cX9_goAll 65 = .ok (.iaload, 1) := by decide +kernel
theorem dX9_goAll_66 : decode cX9_goAll 66 = .ok (.istore_n 3, 1) := by decide +kernel
theorem dX9_goAll_67 : decode cX9_goAll 67 = .ok (.iload_n 3, 1) := by decide +kernel
theorem dX9_goAll_68 : decode cX9_goAll 68 = .ok (.sipush 10000, 3) := by decide +kernel
theorem dX9_goAll_71 : decode cX9_goAll 71 = .ok (.if_icmp .ge 28, 3) := by decide +kernel
theorem dX9_goAll_74 : decode cX9_goAll 74 = .ok (.iload_n 3, 1) := by decide +kernel
theorem dX9_goAll_75 : decode cX9_goAll 75 = .ok (.bipush 100, 2) := by decide +kernel
theorem dX9_goAll_77 : decode cX9_goAll 77 = .ok (.irem, 1) := by decide +kernel
theorem dX9_goAll_78 : decode cX9_goAll 78 = .ok (.iload_n 1, 1) := by decide +kernel
theorem dX9_goAll_79 : decode cX9_goAll 79 = .ok (.if_icmp .ne 20, 3) := by decide +kernel
theorem dX9_goAll_82 : decode cX9_goAll 82 = .ok (.aload_n 0, 1) := by decide +kernel
theorem dX9_goAll_83 : decode cX9_goAll 83 = .ok (.iload_n 3, 1) := by decide +kernel
theorem dX9_goAll_84 : decode cX9_goAll 84 = .ok (.sipush 1000, 3) := by decide +kernel
theorem dX9_goAll_87 : decode cX9_goAll 87 = .ok (.idiv, 1) := by decide +kernel
theorem dX9_goAll_88 : decode cX9_goAll 88 = .ok (.iload_n 3, 1) := by decide +kernel
theorem dX9_goAll_89 : decode cX9_goAll 89 = .ok (.bipush 100, 2) := by decide +kernel
theorem dX9_goAll_91 : decode cX9_goAll 91 = .ok (.idiv, 1) := by decide +kernel
theorem dX9_goAll_92 : decode cX9_goAll 92 = .ok (.bipush 10, 2) := by decide +kernel
theorem dX9_goAll_94 : decode cX9_goAll 94 = .ok (.irem, 1) := by decide +kernel
theorem dX9_goAll_95 : decode cX9_goAll 95 = .ok (.iload_n 1, 1) := by decide +kernel
theorem dX9_goAll_96 : decode cX9_goAll 96 = .ok (.invokevirtual 270, 3) := by decide +kernel
theorem dX9_goAll_99 : decode cX9_goAll 99 = .ok (.iinc 2 1, 3) := by decide +kernel
theorem dX9_goAll_102 : decode cX9_goAll 102 = .ok (.goto (-56), 3) := by decide +kernel
theorem dX9_goAll_105 : decode cX9_goAll 105 = .ok (.aload_n 0, 1) := by decide +kernel
theorem dX9_goAll_106 : decode cX9_goAll 106 = .ok (.getfield 49, 3) := by decide +kernel
theorem dX9_goAll_109 : decode cX9_goAll 109 = .ok (.iload_n 1, 1) := by decide +kernel
theorem dX9_goAll_110 : decode cX9_goAll 110 = .ok (.aload_n 0, 1) := by decide +kernel
theorem dX9_goAll_111 : decode cX9_goAll 111 = .ok (.iload_n 1, 1) := by decide +kernel
theorem dX9_goAll_112 : decode cX9_goAll 112 = .ok (.iconst 0, 1) := by decide +kernel
theorem dX9_goAll_113 : decode cX9_goAll 113 = .ok (.invokevirtual 274, 3) := by decide +kernel
theorem dX9_goAll_116 : decode cX9_goAll 116 = .ok (.iastore, 1) := by decide +kernel
theorem dX9_goAll_117 : decode cX9_goAll 117 = .ok (.aload_n 0, 1) := by decide +kernel
theorem dX9_goAll_118 : decode cX9_goAll 118 = .ok (.getfield 52, 3) := by decide +kernel
theorem dX9_goAll_121 : decode cX9_goAll 121 = .ok (.iload_n 1, 1) := by decide +kernel
theorem dX9_goAll_122 : decode cX9_goAll 122 = .ok (.aload_n 0, 1) := by decide +kernel
theorem dX9_goAll_123 : decode cX9_goAll 123 = .ok (.aload_n 0, 1) := by decide +kernel
theorem dX9_goAll_124 : decode cX9_goAll 124 = .ok (.getfield 49, 3) := by decide +kernel
theorem dX9_goAll_127 : decode cX9_goAll 127 = .ok (.iload_n 1, 1) := by decide +kernel
theorem dX9_goAll_128 : decode cX9_goAll 128 = .ok (.iaload, 1) := by decide +kernel
theorem dX9_goAll_129 : decode cX9_goAll 129 = .ok (.iload_n 1, 1) := by decide +kernel
theorem dX9_goAll_130 : decode cX9_goAll 130 = .ok (.invokevirtual 277, 3) := by decide +kernel
theorem dX9_goAll_133 : decode cX9_goAll 133 = .ok (.iastore, 1) := by decide +kernel
theorem dX9_goAll_134 : decode cX9_goAll 134 = .ok (.iconst 0, 1) := by decide +kernel
theorem dX9_goAll_135 : decode cX9_goAll 135 = .ok (.istore_n 2, 1) := by decide +kernel
theorem dX9_goAll_136 : decode cX9_goAll 136 = .ok (.iload_n 2, 1) := by decide +kernel
theorem dX9_goAll_137 : decode cX9_goAll 137 = .ok (.aload_n 0, 1) := by decide +kernel
theorem dX9_goAll_138 : decode cX9_goAll 138 = .ok (.invokevirtual 100, 3) := by decide +kernel
theorem dX9_goAll_141 : decode cX9_goAll 141 = .ok (.if_icmp .ge 42, 3) := by decide +kernel
theorem dX9_goAll_144 : decode cX9_goAll 144 = .ok (.aload_n 0, 1) := by decide +kernel
theorem dX9_goAll_145 : decode cX9_goAll 145 = .ok (.getfield 43, 3) := by decide +kernel
theorem dX9_goAll_148 : decode cX9_goAll 148 = .ok (.bipush 8, 2) := by decide +kernel
theorem dX9_goAll_150 : decode cX9_goAll 150 = .ok (.iload_n 1, 1) := by decide +kernel
theorem dX9_goAll_151 : decode cX9_goAll 151 = .ok (.iconst 1, 1) := by decide +kernel
theorem dX9_goAll_152 : decode cX9_goAll 152 = .ok (.iadd, 1) := by decide +kernel
theorem dX9_goAll_153 : decode cX9_goAll 153 = .ok (.imul, 1) := by decide +kernel
theorem dX9_goAll_154 : decode cX9_goAll 154 = .ok (.iload_n 2, 1) := by decide +kernel
theorem dX9_goAll_155 : decode cX9_goAll 155 = .ok (.iadd, 1) := by decide +kernel
theorem dX9_goAll_156 : decode cX9_goAll 156 = .ok (.aload_n 0, 1) := by decide +kernel
theorem dX9_goAll_157 : decode cX9_goAll 157 = .ok (.iload_n 2, 1) := by decide +kernel
theorem dX9_goAll_158 : decode cX9_goAll 158 = .ok (.iload_n 1, 1) := by decide +kernel
theorem dX9_goAll_159 : decode cX9_goAll 159 = .ok (.invokevirtual 261, 3) := by decide +kernel
theorem dX9_goAll_162 : decode cX9_goAll 162 = .ok (.aload_n 0, 1) := by decide +kernel
theorem dX9_goAll_163 : decode cX9_goAll 163 = .ok (.getfield 52, 3) := by decide +kernel
theorem dX9_goAll_166 : decode cX9_goAll 166 = .ok (.iload_n 1, 1) := by decide +kernel
theorem dX9_goAll_167 : decode cX9_goAll 167 = .ok (.iaload, 1) := by decide +kernel
theorem dX9_goAll_168 : decode cX9_goAll 168 = .ok (.iadd, 1) := by decide +kernel
theorem dX9_goAll_169 : decode cX9_goAll 169 = .ok (.aload_n 0, 1) := by decide +kernel
theorem dX9_goAll_170 : decode cX9_goAll 170 = .ok (.invokevirtual 100, 3) := by decide +kernel
theorem dX9_goAll_173 : decode cX9_goAll 173 = .ok (.invokestatic 258, 3) := by decide +kernel
theorem dX9_goAll_176 : decode cX9_goAll 176 = .ok (.iastore, 1) := by decide +kernel
theorem dX9_goAll_177 : decode cX9_goAll 177 = .ok (.iinc 2 1, 3) := by decide +kernel
theorem dX9_goAll_180 : decode cX9_goAll 180 = .ok (.goto (-44), 3) := by decide +kernel
theorem dX9_goAll_183 : decode cX9_goAll 183 = .ok (.iinc 1 1, 3) := by decide +kernel
theorem dX9_goAll_186 : decode cX9_goAll 186 = .ok (.goto (-150), 3) := by decide +kernel
theorem dX9_goAll_189 : decode cX9_goAll 189 = .ok (.return_, 1) := by decide +kernel
theorem dX9_asksTown_0 : decode cX9_asksTown 0 = .ok (.aload_n 0, 1) := by decide +kernel
theorem dX9_asksTown_1 : decode cX9_asksTown 1 = .ok (.invokevirtual 251, 3) := by decide +kernel
theorem dX9_asksTown_4 : decode cX9_asksTown 4 = .ok (.aload_n 0, 1) := by decide +kernel
theorem dX9_asksTown_5 : decode cX9_asksTown 5 = .ok (.invokevirtual 280, 3) := by decide +kernel
theorem dX9_asksTown_8 : decode cX9_asksTown 8 = .ok (.aload_n 0, 1) := by decide +kernel
theorem dX9_asksTown_9 : decode cX9_asksTown 9 = .ok (.invokevirtual 92, 3) := by decide +kernel
theorem dX9_asksTown_12 : decode cX9_asksTown 12 = .ok (.ireturn, 1) := by decide +kernel
theorem dX9_asksWeek_0 : decode cX9_asksWeek 0 = .ok (.aload_n 0, 1) := by decide +kernel
theorem dX9_asksWeek_1 : decode cX9_asksWeek 1 = .ok (.invokevirtual 283, 3) := by decide +kernel
theorem dX9_asksWeek_4 : decode cX9_asksWeek 4 = .ok (.pop, 1) := by decide +kernel
theorem dX9_asksWeek_5 : decode cX9_asksWeek 5 = .ok (.aload_n 0, 1) := by decide +kernel
theorem dX9_asksWeek_6 : decode cX9_asksWeek 6 = .ok (.iload_n 1, 1) := by decide +kernel
theorem dX9_asksWeek_7 : decode cX9_asksWeek 7 = .ok (.i2l, 1) := by decide +kernel
theorem dX9_asksWeek_8 : decode cX9_asksWeek 8 = .ok (.invokevirtual 286, 3) := by decide +kernel
theorem dX9_asksWeek_11 : decode cX9_asksWeek 11 = .ok (.ireturn, 1) := by decide +kernel
theorem dX9_asksAhead_0 : decode cX9_asksAhead 0 = .ok (.aload_n 0, 1) := by decide +kernel
theorem dX9_asksAhead_1 : decode cX9_asksAhead 1 = .ok (.invokevirtual 283, 3) := by decide +kernel
theorem dX9_asksAhead_4 : decode cX9_asksAhead 4 = .ok (.pop, 1) := by decide +kernel
theorem dX9_asksAhead_5 : decode cX9_asksAhead 5 = .ok (.aload_n 0, 1) := by decide +kernel
theorem dX9_asksAhead_6 : decode cX9_asksAhead 6 = .ok (.iload_n 1, 1) := by decide +kernel
theorem dX9_asksAhead_7 : decode cX9_asksAhead 7 = .ok (.i2l, 1) := by decide +kernel
theorem dX9_asksAhead_8 : decode cX9_asksAhead 8 = .ok (.invokevirtual 289, 3) := by decide +kernel
theorem dX9_asksAhead_11 : decode cX9_asksAhead 11 = .ok (.ireturn, 1) := by decide +kernel
theorem dX9_asksHouse_0 : decode cX9_asksHouse 0 = .ok (.aload_n 0, 1) := by decide +kernel
theorem dX9_asksHouse_1 : decode cX9_asksHouse 1 = .ok (.invokevirtual 283, 3) := by decide +kernel
theorem dX9_asksHouse_4 : decode cX9_asksHouse 4 = .ok (.pop, 1) := by decide +kernel
theorem dX9_asksHouse_5 : decode cX9_asksHouse 5 = .ok (.aload_n 0, 1) := by decide +kernel
theorem dX9_asksHouse_6 : decode cX9_asksHouse 6 = .ok (.iload_n 1, 1) := by decide +kernel
theorem dX9_asksHouse_7 : decode cX9_asksHouse 7 = .ok (.invokevirtual 103, 3) := by decide +kernel
theorem dX9_asksHouse_10 : decode cX9_asksHouse 10 = .ok (.ireturn, 1) := by decide +kernel
theorem dX9_snows_0 : decode cX9_snows 0 = .ok (.aload_n 0, 1) := by decide +kernel
theorem dX9_snows_1 : decode cX9_snows 1 = .ok (.invokevirtual 251, 3) := by decide +kernel
theorem dX9_snows_4 : decode cX9_snows 4 = .ok (.aload_n 0, 1) := by decide +kernel
theorem dX9_snows_5 : decode cX9_snows 5 = .ok (.invokevirtual 92, 3) := by decide +kernel
theorem dX9_snows_8 : decode cX9_snows 8 = .ok (.ifCond .eq 19, 3) := by decide +kernel
theorem dX9_snows_11 : decode cX9_snows 11 = .ok (.aload_n 0, 1) := by decide +kernel
theorem dX9_snows_12 : decode cX9_snows 12 = .ok (.getfield 239, 3) := by decide +kernel
theorem dX9_snows_15 : decode cX9_snows 15 = .ok (.iconst 1, 1) := by decide +kernel
theorem dX9_snows_16 : decode cX9_snows 16 = .ok (.aload_n 0, 1) := by decide +kernel
theorem dX9_snows_17 : decode cX9_snows 17 = .ok (.invokevirtual 96, 3) := by decide +kernel
theorem dX9_snows_20 : decode cX9_snows 20 = .ok (.ishl, 1) := by decide +kernel
theorem dX9_snows_21 : decode cX9_snows 21 = .ok (.iconst 1, 1) := by decide +kernel
theorem dX9_snows_22 : decode cX9_snows 22 = .ok (.isub, 1) := by decide +kernel
theorem dX9_snows_23 : decode cX9_snows 23 = .ok (.iand, 1) := by decide +kernel
theorem dX9_snows_24 : decode cX9_snows 24 = .ok (.goto 5, 3) := by decide +kernel
theorem dX9_snows_27 : decode cX9_snows 27 = .ok (.bipush (-2), 2) := by decide +kernel
theorem dX9_snows_29 : decode cX9_snows 29 = .ok (.ireturn, 1) := by decide +kernel
theorem dX9_at_0 : decode cX9_at 0 = .ok (.aload_n 0, 1) := by decide +kernel
theorem dX9_at_1 : decode cX9_at 1 = .ok (.iload_n 2, 1) := by decide +kernel
theorem dX9_at_2 : decode cX9_at 2 = .ok (.invokevirtual 292, 3) := by decide +kernel
theorem dX9_at_5 : decode cX9_at 5 = .ok (.ifCond .eq 20, 3) := by decide +kernel
theorem dX9_at_8 : decode cX9_at 8 = .ok (.aload_n 0, 1) := by decide +kernel
theorem dX9_at_9 : decode cX9_at 9 = .ok (.iload_n 1, 1) := by decide +kernel
theorem dX9_at_10 : decode cX9_at 10 = .ok (.invokevirtual 103, 3) := by decide +kernel
theorem dX9_at_13 : decode cX9_at 13 = .ok (.ifCond .eq 12, 3) := by decide +kernel
theorem dX9_at_16 : decode cX9_at 16 = .ok (.aload_n 0, 1) := by decide +kernel
theorem dX9_at_17 : decode cX9_at 17 = .ok (.iload_n 1, 1) := by decide +kernel
theorem dX9_at_18 : decode cX9_at 18 = .ok (.iload_n 2, 1) := by decide +kernel
theorem dX9_at_19 : decode cX9_at 19 = .ok (.invokevirtual 261, 3) := by decide +kernel
theorem dX9_at_22 : decode cX9_at 22 = .ok (.goto 5, 3) := by decide +kernel
theorem dX9_at_25 : decode cX9_at 25 = .ok (.bipush (-2), 2) := by decide +kernel
theorem dX9_at_27 : decode cX9_at 27 = .ok (.ireturn, 1) := by decide +kernel
theorem dX9_whoAt_0 : decode cX9_whoAt 0 = .ok (.iconst 0, 1) := by decide +kernel
theorem dX9_whoAt_1 : decode cX9_whoAt 1 = .ok (.istore_n 3, 1) := by decide +kernel
theorem dX9_whoAt_2 : decode cX9_whoAt 2 = .ok (.iload_n 3, 1) := by decide +kernel
theorem dX9_whoAt_3 : decode cX9_whoAt 3 = .ok (.aload_n 0, 1) := by decide +kernel
theorem dX9_whoAt_4 : decode cX9_whoAt 4 = .ok (.invokevirtual 100, 3) := by decide +kernel
theorem dX9_whoAt_7 : decode cX9_whoAt 7 = .ok (.if_icmp .ge 21, 3) := by decide +kernel
theorem dX9_whoAt_10 : decode cX9_whoAt 10 = .ok (.aload_n 0, 1) := by decide +kernel
theorem dX9_whoAt_11 : decode cX9_whoAt 11 = .ok (.iload_n 3, 1) := by decide +kernel
theorem dX9_whoAt_12 : decode cX9_whoAt 12 = .ok (.iload_n 2, 1) := by decide +kernel
theorem dX9_whoAt_13 : decode cX9_whoAt 13 = .ok (.invokevirtual 261, 3) := by decide +kernel
theorem dX9_whoAt_16 : decode cX9_whoAt 16 = .ok (.iload_n 1, 1) := by decide +kernel
theorem dX9_whoAt_17 : decode cX9_whoAt 17 = .ok (.if_icmp .ne 5, 3) := by decide +kernel
theorem dX9_whoAt_20 : decode cX9_whoAt 20 = .ok (.iload_n 3, 1) := by decide +kernel
theorem dX9_whoAt_21 : decode cX9_whoAt 21 = .ok (.ireturn, 1) := by decide +kernel
theorem dX9_whoAt_22 : decode cX9_whoAt 22 = .ok (.iinc 3 1, 3) := by decide +kernel
theorem dX9_whoAt_25 : decode cX9_whoAt 25 = .ok (.goto (-23), 3) := by decide +kernel
theorem dX9_whoAt_28 : decode cX9_whoAt 28 = .ok (.iconst (-1), 1) := by decide +kernel
theorem dX9_whoAt_29 : decode cX9_whoAt 29 = .ok (.ireturn, 1) := by decide +kernel
theorem dX9_who_0 : decode cX9_who 0 = .ok (.aload_n 0, 1) := by decide +kernel
theorem dX9_who_1 : decode cX9_who 1 = .ok (.iload_n 2, 1) := by decide +kernel
theorem dX9_who_2 : decode cX9_who 2 = .ok (.invokevirtual 292, 3) := by decide +kernel
theorem dX9_who_5 : decode cX9_who 5 = .ok (.ifCond .eq 21, 3) := by decide +kernel
theorem dX9_who_8 : decode cX9_who 8 = .ok (.aload_n 0, 1) := by decide +kernel
theorem dX9_who_9 : decode cX9_who 9 = .ok (.iload_n 1, 1) := by decide +kernel
theorem dX9_who_10 : decode cX9_who 10 = .ok (.i2l, 1) := by decide +kernel
theorem dX9_who_11 : decode cX9_who 11 = .ok (.invokevirtual 254, 3) := by decide +kernel
theorem dX9_who_14 : decode cX9_who 14 = .ok (.ifCond .eq 12, 3) := by decide +kernel
theorem dX9_who_17 : decode cX9_who 17 = .ok (.aload_n 0, 1) := by decide +kernel
theorem dX9_who_18 : decode cX9_who 18 = .ok (.iload_n 1, 1) := by decide +kernel
theorem dX9_who_19 : decode cX9_who 19 = .ok (.iload_n 2, 1) := by decide +kernel
theorem dX9_who_20 : decode cX9_who 20 = .ok (.invokevirtual 295, 3) := by decide +kernel
theorem dX9_who_23 : decode cX9_who 23 = .ok (.goto 5, 3) := by decide +kernel
theorem dX9_who_26 : decode cX9_who 26 = .ok (.bipush (-2), 2) := by decide +kernel
theorem dX9_who_28 : decode cX9_who 28 = .ok (.ireturn, 1) := by decide +kernel
theorem dX9_pushOf_0 : decode cX9_pushOf 0 = .ok (.aload_n 0, 1) := by decide +kernel
theorem dX9_pushOf_1 : decode cX9_pushOf 1 = .ok (.getfield 46, 3) := by decide +kernel
theorem dX9_pushOf_4 : decode cX9_pushOf 4 = .ok (.bipush 8, 2) := by decide +kernel
theorem dX9_pushOf_6 : decode cX9_pushOf 6 = .ok (.iload_n 2, 1) := by decide +kernel
theorem dX9_pushOf_7 : decode cX9_pushOf 7 = .ok (.imul, 1) := by decide +kernel
theorem dX9_pushOf_8 : decode cX9_pushOf 8 = .ok (.iload_n 1, 1) := by decide +kernel
theorem dX9_pushOf_9 : decode cX9_pushOf 9 = .ok (.iadd, 1) := by decide +kernel
theorem dX9_pushOf_10 : decode cX9_pushOf 10 = .ok (.iaload, 1) := by decide +kernel
theorem dX9_pushOf_11 : decode cX9_pushOf 11 = .ok (.ireturn, 1) := by decide +kernel
theorem dX9_pushes_0 : decode cX9_pushes 0 = .ok (.aload_n 0, 1) := by decide +kernel
theorem dX9_pushes_1 : decode cX9_pushes 1 = .ok (.iload_n 2, 1) := by decide +kernel
theorem dX9_pushes_2 : decode cX9_pushes 2 = .ok (.invokevirtual 298, 3) := by decide +kernel
theorem dX9_pushes_5 : decode cX9_pushes 5 = .ok (.ifCond .eq 20, 3) := by decide +kernel
theorem dX9_pushes_8 : decode cX9_pushes 8 = .ok (.aload_n 0, 1) := by decide +kernel
theorem dX9_pushes_9 : decode cX9_pushes 9 = .ok (.iload_n 1, 1) := by decide +kernel
theorem dX9_pushes_10 : decode cX9_pushes 10 = .ok (.invokevirtual 103, 3) := by decide +kernel
theorem dX9_pushes_13 : decode cX9_pushes 13 = .ok (.ifCond .eq 12, 3) := by decide +kernel
theorem dX9_pushes_16 : decode cX9_pushes 16 = .ok (.aload_n 0, 1) := by decide +kernel
theorem dX9_pushes_17 : decode cX9_pushes 17 = .ok (.iload_n 1, 1) := by decide +kernel
theorem dX9_pushes_18 : decode cX9_pushes 18 = .ok (.iload_n 2, 1) := by decide +kernel
theorem dX9_pushes_19 : decode cX9_pushes 19 = .ok (.invokevirtual 301, 3) := by decide +kernel
theorem dX9_pushes_22 : decode cX9_pushes 22 = .ok (.goto 5, 3) := by decide +kernel
theorem dX9_pushes_25 : decode cX9_pushes 25 = .ok (.bipush (-2), 2) := by decide +kernel
theorem dX9_pushes_27 : decode cX9_pushes 27 = .ok (.ireturn, 1) := by decide +kernel
theorem dX9_force_0 : decode cX9_force 0 = .ok (.aload_n 0, 1) := by decide +kernel
theorem dX9_force_1 : decode cX9_force 1 = .ok (.iload_n 1, 1) := by decide +kernel
theorem dX9_force_2 : decode cX9_force 2 = .ok (.invokevirtual 298, 3) := by decide +kernel
theorem dX9_force_5 : decode cX9_force 5 = .ok (.ifCond .eq 12, 3) := by decide +kernel
theorem dX9_force_8 : decode cX9_force 8 = .ok (.aload_n 0, 1) := by decide +kernel
theorem dX9_force_9 : decode cX9_force 9 = .ok (.getfield 49, 3) := by decide +kernel
theorem dX9_force_12 : decode cX9_force 12 = .ok (.iload_n 1, 1) := by decide +kernel
theorem dX9_force_13 : decode cX9_force 13 = .ok (.iaload, 1) := by decide +kernel
theorem dX9_force_14 : decode cX9_force 14 = .ok (.goto 6, 3) := by decide +kernel
theorem dX9_force_17 : decode cX9_force 17 = .ok (.sipush (-10000), 3) := by decide +kernel
theorem dX9_force_20 : decode cX9_force 20 = .ok (.ireturn, 1) := by decide +kernel
theorem dX9_turn_0 : decode cX9_turn 0 = .ok (.aload_n 0, 1) := by decide +kernel
theorem dX9_turn_1 : decode cX9_turn 1 = .ok (.iload_n 1, 1) := by decide +kernel
theorem dX9_turn_2 : decode cX9_turn 2 = .ok (.invokevirtual 298, 3) := by decide +kernel
theorem dX9_turn_5 : decode cX9_turn 5 = .ok (.ifCond .eq 12, 3) := by decide +kernel
theorem dX9_turn_8 : decode cX9_turn 8 = .ok (.aload_n 0, 1) := by decide +kernel
theorem dX9_turn_9 : decode cX9_turn 9 = .ok (.getfield 52, 3) := by decide +kernel
theorem dX9_turn_12 : decode cX9_turn 12 = .ok (.iload_n 1, 1) := by decide +kernel
theorem dX9_turn_13 : decode cX9_turn 13 = .ok (.iaload, 1) := by decide +kernel
theorem dX9_turn_14 : decode cX9_turn 14 = .ok (.goto 6, 3) := by decide +kernel
theorem dX9_turn_17 : decode cX9_turn 17 = .ok (.sipush (-10000), 3) := by decide +kernel
theorem dX9_turn_20 : decode cX9_turn 20 = .ok (.ireturn, 1) := by decide +kernel
theorem dX9_stands_0 : decode cX9_stands 0 = .ok (.aload_n 0, 1) := by decide +kernel
theorem dX9_stands_1 : decode cX9_stands 1 = .ok (.iload_n 1, 1) := by decide +kernel
theorem dX9_stands_2 : decode cX9_stands 2 = .ok (.invokevirtual 292, 3) := by decide +kernel
theorem dX9_stands_5 : decode cX9_stands 5 = .ok (.ifCond .ne 6, 3) := by decide +kernel
theorem dX9_stands_8 : decode cX9_stands 8 = .ok (.bipush (-2), 2) := by decide +kernel
theorem dX9_stands_10 : decode cX9_stands 10 = .ok (.ireturn, 1) := by decide +kernel
theorem dX9_stands_11 : decode cX9_stands 11 = .ok (.iconst 0, 1) := by decide +kernel
theorem dX9_stands_12 : decode cX9_stands 12 = .ok (.istore_n 2, 1) := by decide +kernel
theorem dX9_stands_13 : decode cX9_stands 13 = .ok (.iconst 0, 1) := by decide +kernel
theorem dX9_stands_14 : decode cX9_stands 14 = .ok (.istore_n 3, 1) := by decide +kernel
theorem dX9_stands_15 : decode cX9_stands 15 = .ok (.iload_n 3, 1) := by decide +kernel
theorem dX9_stands_16 : decode cX9_stands 16 = .ok (.iload_n 1, 1) := by decide +kernel
theorem dX9_stands_17 : decode cX9_stands 17 = .ok (.if_icmp .ge 18, 3) := by decide +kernel
theorem dX9_stands_20 : decode cX9_stands 20 = .ok (.iload_n 2, 1) := by decide +kernel
theorem dX9_stands_21 : decode cX9_stands 21 = .ok (.aload_n 0, 1) := by decide +kernel
theorem dX9_stands_22 : decode cX9_stands 22 = .ok (.getfield 52, 3) := by decide +kernel
theorem dX9_stands_25 : decode cX9_stands 25 = .ok (.iload_n 3, 1) := by decide +kernel
theorem dX9_stands_26 : decode cX9_stands 26 = .ok (.iaload, 1) := by decide +kernel
theorem dX9_stands_27 : decode cX9_stands 27 = .ok (.iadd, 1) := by decide +kernel
theorem dX9_stands_28 : decode cX9_stands 28 = .ok (.istore_n 2, 1) := by decide +kernel
theorem dX9_stands_29 : decode cX9_stands 29 = .ok (.iinc 3 1, 3) := by decide +kernel
theorem dX9_stands_32 : decode cX9_stands 32 = .ok (.goto (-17), 3) := by decide +kernel
theorem dX9_stands_35 : decode cX9_stands 35 = .ok (.aload_n 0, 1) := by decide +kernel
theorem dX9_stands_36 : decode cX9_stands 36 = .ok (.invokevirtual 100, 3) := by decide +kernel
theorem dX9_stands_39 : decode cX9_stands 39 = .ok (.ifCond .ne 7, 3) := by decide +kernel
theorem dX9_stands_42 : decode cX9_stands 42 = .ok (.iconst 0, 1) := by decide +kernel
theorem dX9_stands_43 : decode cX9_stands 43 = .ok (.goto 11, 3) := by decide +kernel
theorem dX9_stands_46 : decode cX9_stands 46 = .ok (.iload_n 2, 1) := by decide +kernel
theorem dX9_stands_47 : decode cX9_stands 47 = .ok (.aload_n 0, 1) := by decide +kernel
theorem dX9_stands_48 : decode cX9_stands 48 = .ok (.invokevirtual 100, 3) := by decide +kernel
theorem dX9_stands_51 : decode cX9_stands 51 = .ok (.invokestatic 258, 3) := by decide +kernel
theorem dX9_stands_54 : decode cX9_stands 54 = .ok (.ireturn, 1) := by decide +kernel
theorem dX9_jerk_0 : decode cX9_jerk 0 = .ok (.aload_n 0, 1) := by decide +kernel
theorem dX9_jerk_1 : decode cX9_jerk 1 = .ok (.invokevirtual 283, 3) := by decide +kernel
theorem dX9_jerk_4 : decode cX9_jerk 4 = .ok (.ifCond .ne 6, 3) := by decide +kernel
theorem dX9_jerk_7 : decode cX9_jerk 7 = .ok (.bipush (-2), 2) := by decide +kernel
theorem dX9_jerk_9 : decode cX9_jerk 9 = .ok (.ireturn, 1) := by decide +kernel
theorem dX9_jerk_10 : decode cX9_jerk 10 = .ok (.iconst 0, 1) := by decide +kernel
theorem dX9_jerk_11 : decode cX9_jerk 11 = .ok (.istore_n 1, 1) := by decide +kernel
theorem dX9_jerk_12 : decode cX9_jerk 12 = .ok (.iconst 1, 1) := by decide +kernel
theorem dX9_jerk_13 : decode cX9_jerk 13 = .ok (.istore_n 2, 1) := by decide +kernel
theorem dX9_jerk_14 : decode cX9_jerk 14 = .ok (.iload_n 2, 1) := by decide +kernel
theorem dX9_jerk_15 : decode cX9_jerk 15 = .ok (.aload_n 0, 1) := by decide +kernel
theorem dX9_jerk_16 : decode cX9_jerk 16 = .ok (.invokevirtual 96, 3) := by decide +kernel
theorem dX9_jerk_19 : decode cX9_jerk 19 = .ok (.if_icmp .ge 36, 3) := by decide +kernel
theorem dX9_jerk_22 : decode cX9_jerk 22 = .ok (.aload_n 0, 1) := by decide +kernel
theorem dX9_jerk_23 : decode cX9_jerk 23 = .ok (.getfield 52, 3) := by decide +kernel
theorem dX9_jerk_26 : decode cX9_jerk 26 = .ok (.iload_n 2, 1) := by decide +kernel
theorem dX9_jerk_27 : decode cX9_jerk 27 = .ok (.iaload, 1) := by decide +kernel
theorem dX9_jerk_28 : decode cX9_jerk 28 = .ok (.invokestatic 304, 3) := by decide +kernel
theorem dX9_jerk_31 : decode cX9_jerk 31 = .ok (.aload_n 0, 1) := by decide +kernel
theorem dX9_jerk_32 : decode cX9_jerk 32 = .ok (.getfield 52, 3) := by decide +kernel
theorem dX9_jerk_35 : decode cX9_jerk 35 = .ok (.iload_n 1, 1) := by decide +kernel
theorem dX9_jerk_36 : decode cX9_jerk 36 = .ok (.iaload, 1) := by decide +kernel
theorem dX9_jerk_37 : decode cX9_jerk 37 = .ok (.invokestatic 304, 3) := by decide +kernel
theorem dX9_jerk_40 : decode cX9_jerk 40 = .ok (.if_icmp .le 7, 3) := by decide +kernel
theorem dX9_jerk_43 : decode cX9_jerk 43 = .ok (.iload_n 2, 1) := by decide +kernel
theorem dX9_jerk_44 : decode cX9_jerk 44 = .ok (.goto 4, 3) := by decide +kernel
theorem dX9_jerk_47 : decode cX9_jerk 47 = .ok (.iload_n 1, 1) := by decide +kernel
theorem dX9_jerk_48 : decode cX9_jerk 48 = .ok (.istore_n 1, 1) := by decide +kernel
theorem dX9_jerk_49 : decode cX9_jerk 49 = .ok (.iinc 2 1, 3) := by decide +kernel
theorem dX9_jerk_52 : decode cX9_jerk 52 = .ok (.goto (-38), 3) := by decide +kernel
theorem dX9_jerk_55 : decode cX9_jerk 55 = .ok (.iload_n 1, 1) := by decide +kernel
theorem dX9_jerk_56 : decode cX9_jerk 56 = .ok (.ireturn, 1) := by decide +kernel
theorem dX9_still_0 : decode cX9_still 0 = .ok (.aload_n 0, 1) := by decide +kernel
theorem dX9_still_1 : decode cX9_still 1 = .ok (.invokevirtual 283, 3) := by decide +kernel
theorem dX9_still_4 : decode cX9_still 4 = .ok (.ifCond .ne 6, 3) := by decide +kernel
theorem dX9_still_7 : decode cX9_still 7 = .ok (.bipush (-2), 2) := by decide +kernel
theorem dX9_still_9 : decode cX9_still 9 = .ok (.ireturn, 1) := by decide +kernel
theorem dX9_still_10 : decode cX9_still 10 = .ok (.iconst 0, 1) := by decide +kernel
theorem dX9_still_11 : decode cX9_still 11 = .ok (.istore_n 1, 1) := by decide +kernel
theorem dX9_still_12 : decode cX9_still 12 = .ok (.iconst 0, 1) := by decide +kernel
theorem dX9_still_13 : decode cX9_still 13 = .ok (.istore_n 2, 1) := by decide +kernel
theorem dX9_still_14 : decode cX9_still 14 = .ok (.iload_n 2, 1) := by decide +kernel
theorem dX9_still_15 : decode cX9_still 15 = .ok (.aload_n 0, 1) := by decide +kernel
theorem dX9_still_16 : decode cX9_still 16 = .ok (.invokevirtual 96, 3) := by decide +kernel
theorem dX9_still_19 : decode cX9_still 19 = .ok (.if_icmp .ge 28, 3) := by decide +kernel
theorem dX9_still_22 : decode cX9_still 22 = .ok (.iload_n 1, 1) := by decide +kernel
theorem dX9_still_23 : decode cX9_still 23 = .ok (.aload_n 0, 1) := by decide +kernel
theorem dX9_still_24 : decode cX9_still 24 = .ok (.getfield 52, 3) := by decide +kernel
theorem dX9_still_27 : decode cX9_still 27 = .ok (.iload_n 2, 1) := by decide +kernel
theorem dX9_still_28 : decode cX9_still 28 = .ok (.iaload, 1) := by decide +kernel
theorem dX9_still_29 : decode cX9_still 29 = .ok (.ifCond .ne 9, 3) := by decide +kernel
theorem dX9_still_32 : decode cX9_still 32 = .ok (.iconst 1, 1) := by decide +kernel
theorem dX9_still_33 : decode cX9_still 33 = .ok (.iload_n 2, 1) := by decide +kernel
theorem dX9_still_34 : decode cX9_still 34 = .ok (.ishl, 1) := by decide +kernel
theorem dX9_still_35 : decode cX9_still 35 = .ok (.goto 4, 3) := by decide +kernel
theorem dX9_still_38 : decode cX9_still 38 = .ok (.iconst 0, 1) := by decide +kernel
theorem dX9_still_39 : decode cX9_still 39 = .ok (.ior, 1) := by decide +kernel
theorem dX9_still_40 : decode cX9_still 40 = .ok (.istore_n 1, 1) := by decide +kernel
theorem dX9_still_41 : decode cX9_still 41 = .ok (.iinc 2 1, 3) := by decide +kernel
theorem dX9_still_44 : decode cX9_still 44 = .ok (.goto (-30), 3) := by decide +kernel
theorem dX9_still_47 : decode cX9_still 47 = .ok (.iload_n 1, 1) := by decide +kernel
theorem dX9_still_48 : decode cX9_still 48 = .ok (.ireturn, 1) := by decide +kernel
theorem dX9_strongest_0 : decode cX9_strongest 0 = .ok (.aload_n 0, 1) := by decide +kernel
theorem dX9_strongest_1 : decode cX9_strongest 1 = .ok (.iload_n 1, 1) := by decide +kernel
theorem dX9_strongest_2 : decode cX9_strongest 2 = .ok (.invokevirtual 298, 3) := by decide +kernel
theorem dX9_strongest_5 : decode cX9_strongest 5 = .ok (.ifCond .ne 6, 3) := by decide +kernel
theorem dX9_strongest_8 : decode cX9_strongest 8 = .ok (.bipush (-2), 2) := by decide +kernel
theorem dX9_strongest_10 : decode cX9_strongest 10 = .ok (.ireturn, 1) := by decide +kernel
theorem dX9_strongest_11 : decode cX9_strongest 11 = .ok (.iconst (-1), 1) := by decide +kernel
theorem dX9_strongest_12 : decode cX9_strongest 12 = .ok (.istore_n 2, 1) := by decide +kernel
theorem dX9_strongest_13 : decode cX9_strongest 13 = .ok (.iconst 0, 1) := by decide +kernel
theorem dX9_strongest_14 : decode cX9_strongest 14 = .ok (.istore_n 3, 1) := by decide +kernel
theorem dX9_strongest_15 : decode cX9_strongest 15 = .ok (.iload_n 3, 1) := by decide +kernel
theorem dX9_strongest_16 : decode cX9_strongest 16 = .ok (.aload_n 0, 1) := by decide +kernel
theorem dX9_strongest_17 : decode cX9_strongest 17 = .ok (.invokevirtual 100, 3) := by decide +kernel
theorem dX9_strongest_20 : decode cX9_strongest 20 = .ok (.if_icmp .ge 35, 3) := by decide +kernel
theorem dX9_strongest_23 : decode cX9_strongest 23 = .ok (.aload_n 0, 1) := by decide +kernel
theorem dX9_strongest_24 : decode cX9_strongest 24 = .ok (.iload_n 3, 1) := by decide +kernel
theorem dX9_strongest_25 : decode cX9_strongest 25 = .ok (.iload_n 1, 1) := by decide +kernel
theorem dX9_strongest_26 : decode cX9_strongest 26 = .ok (.invokevirtual 301, 3) := by decide +kernel
theorem dX9_strongest_29 : decode cX9_strongest 29 = .ok (.iload_n 2, 1) := by decide +kernel
theorem dX9_strongest_30 : decode cX9_strongest 30 = .ok (.iconst (-1), 1) := by decide +kernel
theorem dX9_strongest_31 : decode cX9_strongest 31 = .ok (.if_icmp .ne 7, 3) := by decide +kernel
theorem dX9_strongest_34 : decode cX9_strongest 34 = .ok (.iconst 0, 1) := by decide +kernel
theorem dX9_strongest_35 : decode cX9_strongest 35 = .ok (.goto 9, 3) := by decide +kernel
theorem dX9_strongest_38 : decode cX9_strongest 38 = .ok (.aload_n 0, 1) := by decide +kernel
theorem dX9_strongest_39 : decode cX9_strongest 39 = .ok (.iload_n 2, 1) := by decide +kernel
theorem dX9_strongest_40 : decode cX9_strongest 40 = .ok (.iload_n 1, 1) := by decide +kernel
theorem dX9_strongest_41 : decode cX9_strongest 41 = .ok (.invokevirtual 301, 3) := by decide +kernel
theorem dX9_strongest_44 : decode cX9_strongest 44 = .ok (.if_icmp .le 5, 3) := by decide +kernel
theorem dX9_strongest_47 : decode cX9_strongest 47 = .ok (.iload_n 3, 1) := by decide +kernel
theorem dX9_strongest_48 : decode cX9_strongest 48 = .ok (.istore_n 2, 1) := by decide +kernel
theorem dX9_strongest_49 : decode cX9_strongest 49 = .ok (.iinc 3 1, 3) := by decide +kernel
theorem dX9_strongest_52 : decode cX9_strongest 52 = .ok (.goto (-37), 3) := by decide +kernel
theorem dX9_strongest_55 : decode cX9_strongest 55 = .ok (.iload_n 2, 1) := by decide +kernel
theorem dX9_strongest_56 : decode cX9_strongest 56 = .ok (.ireturn, 1) := by decide +kernel
theorem dX9_toil_0 : decode cX9_toil 0 = .ok (.aload_n 0, 1) := by decide +kernel
theorem dX9_toil_1 : decode cX9_toil 1 = .ok (.iload_n 1, 1) := by decide +kernel
theorem dX9_toil_2 : decode cX9_toil 2 = .ok (.invokevirtual 307, 3) := by decide +kernel
theorem dX9_toil_5 : decode cX9_toil 5 = .ok (.ifCond .ne 6, 3) := by decide +kernel
theorem dX9_toil_8 : decode cX9_toil 8 = .ok (.bipush (-2), 2) := by decide +kernel
theorem dX9_toil_10 : decode cX9_toil 10 = .ok (.ireturn, 1) := by decide +kernel
theorem dX9_toil_11 : decode cX9_toil 11 = .ok (.iconst 0, 1) := by decide +kernel
theorem dX9_toil_12 : decode cX9_toil 12 = .ok (.istore_n 2, 1) := by decide +kernel
theorem dX9_toil_13 : decode cX9_toil 13 = .ok (.iconst 0, 1) := by decide +kernel
theorem dX9_toil_14 : decode cX9_toil 14 = .ok (.istore_n 3, 1) := by decide +kernel
theorem dX9_toil_15 : decode cX9_toil 15 = .ok (.iload_n 3, 1) := by decide +kernel
theorem dX9_toil_16 : decode cX9_toil 16 = .ok (.aload_n 0, 1) := by decide +kernel
theorem dX9_toil_17 : decode cX9_toil 17 = .ok (.invokevirtual 96, 3) := by decide +kernel
theorem dX9_toil_20 : decode cX9_toil 20 = .ok (.if_icmp .ge 18, 3) := by decide +kernel
theorem dX9_toil_23 : decode cX9_toil 23 = .ok (.iload_n 2, 1) := by decide +kernel
theorem dX9_toil_24 : decode cX9_toil 24 = .ok (.aload_n 0, 1) := by decide +kernel
theorem dX9_toil_25 : decode cX9_toil 25 = .ok (.iload_n 1, 1) := by decide +kernel
theorem dX9_toil_26 : decode cX9_toil 26 = .ok (.iload_n 3, 1) := by decide +kernel
theorem dX9_toil_27 : decode cX9_toil 27 = .ok (.invokevirtual 301, 3) := by decide +kernel
theorem dX9_toil_30 : decode cX9_toil 30 = .ok (.iadd, 1) := by decide +kernel
theorem dX9_toil_31 : decode cX9_toil 31 = .ok (.istore_n 2, 1) := by decide +kernel
theorem dX9_toil_32 : decode cX9_toil 32 = .ok (.iinc 3 1, 3) := by decide +kernel
theorem dX9_toil_35 : decode cX9_toil 35 = .ok (.goto (-20), 3) := by decide +kernel
theorem dX9_toil_38 : decode cX9_toil 38 = .ok (.iload_n 2, 1) := by decide +kernel
theorem dX9_toil_39 : decode cX9_toil 39 = .ok (.ireturn, 1) := by decide +kernel
theorem dX9_sunTo_0 : decode cX9_sunTo 0 = .ok (.iconst 0, 1) := by decide +kernel
theorem dX9_sunTo_1 : decode cX9_sunTo 1 = .ok (.istore_n 3, 1) := by decide +kernel
theorem dX9_sunTo_2 : decode cX9_sunTo 2 = .ok (.iconst 0, 1) := by decide +kernel
theorem dX9_sunTo_3 : decode cX9_sunTo 3 = .ok (.istore 4, 2) := by decide +kernel
theorem dX9_sunTo_5 : decode cX9_sunTo 5 = .ok (.iload 4, 2) := by decide +kernel
theorem dX9_sunTo_7 : decode cX9_sunTo 7 = .ok (.iload_n 2, 1) := by decide +kernel
theorem dX9_sunTo_8 : decode cX9_sunTo 8 = .ok (.if_icmp .gt 24, 3) := by decide +kernel
theorem dX9_sunTo_11 : decode cX9_sunTo 11 = .ok (.iload_n 3, 1) := by decide +kernel
theorem dX9_sunTo_12 : decode cX9_sunTo 12 = .ok (.aload_n 0, 1) := by decide +kernel
theorem dX9_sunTo_13 : decode cX9_sunTo 13 = .ok (.getfield 34, 3) := by decide +kernel
theorem dX9_sunTo_16 : decode cX9_sunTo 16 = .ok (.aload_n 0, 1) := by decide +kernel
theorem dX9_sunTo_17 : decode cX9_sunTo 17 = .ok (.iload_n 1, 1) := by decide +kernel
theorem dX9_sunTo_18 : decode cX9_sunTo 18 = .ok (.iload 4, 2) := by decide +kernel
theorem dX9_sunTo_20 : decode cX9_sunTo 20 = .ok (.invokevirtual 261, 3) := by decide +kernel
theorem dX9_sunTo_23 : decode cX9_sunTo 23 = .ok (.iaload, 1) := by decide +kernel
theorem dX9_sunTo_24 : decode cX9_sunTo 24 = .ok (.iadd, 1) := by decide +kernel
theorem dX9_sunTo_25 : decode cX9_sunTo 25 = .ok (.istore_n 3, 1) := by decide +kernel
theorem dX9_sunTo_26 : decode cX9_sunTo 26 = .ok (.iinc 4 1, 3) := by decide +kernel
theorem dX9_sunTo_29 : decode cX9_sunTo 29 = .ok (.goto (-24), 3) := by decide +kernel
theorem dX9_sunTo_32 : decode cX9_sunTo 32 = .ok (.iload_n 3, 1) := by decide +kernel
theorem dX9_sunTo_33 : decode cX9_sunTo 33 = .ok (.ireturn, 1) := by decide +kernel
theorem dX9_sunAll_0 : decode cX9_sunAll 0 = .ok (.aload_n 0, 1) := by decide +kernel
theorem dX9_sunAll_1 : decode cX9_sunAll 1 = .ok (.iload_n 1, 1) := by decide +kernel
theorem dX9_sunAll_2 : decode cX9_sunAll 2 = .ok (.aload_n 0, 1) := by decide +kernel
theorem dX9_sunAll_3 : decode cX9_sunAll 3 = .ok (.invokevirtual 96, 3) := by decide +kernel
theorem dX9_sunAll_6 : decode cX9_sunAll 6 = .ok (.invokevirtual 310, 3) := by decide +kernel
theorem dX9_sunAll_9 : decode cX9_sunAll 9 = .ok (.ireturn, 1) := by decide +kernel
theorem dX9_sun_0 : decode cX9_sun 0 = .ok (.aload_n 0, 1) := by decide +kernel
theorem dX9_sun_1 : decode cX9_sun 1 = .ok (.iload_n 2, 1) := by decide +kernel
theorem dX9_sun_2 : decode cX9_sun 2 = .ok (.invokevirtual 292, 3) := by decide +kernel
theorem dX9_sun_5 : decode cX9_sun 5 = .ok (.ifCond .eq 20, 3) := by decide +kernel
theorem dX9_sun_8 : decode cX9_sun 8 = .ok (.aload_n 0, 1) := by decide +kernel
theorem dX9_sun_9 : decode cX9_sun 9 = .ok (.iload_n 1, 1) := by decide +kernel
theorem dX9_sun_10 : decode cX9_sun 10 = .ok (.invokevirtual 103, 3) := by decide +kernel
theorem dX9_sun_13 : decode cX9_sun 13 = .ok (.ifCond .eq 12, 3) := by decide +kernel
theorem dX9_sun_16 : decode cX9_sun 16 = .ok (.aload_n 0, 1) := by decide +kernel
theorem dX9_sun_17 : decode cX9_sun 17 = .ok (.iload_n 1, 1) := by decide +kernel
theorem dX9_sun_18 : decode cX9_sun 18 = .ok (.iload_n 2, 1) := by decide +kernel
theorem dX9_sun_19 : decode cX9_sun 19 = .ok (.invokevirtual 310, 3) := by decide +kernel
theorem dX9_sun_22 : decode cX9_sun 22 = .ok (.goto 5, 3) := by decide +kernel
theorem dX9_sun_25 : decode cX9_sun 25 = .ok (.bipush (-2), 2) := by decide +kernel
theorem dX9_sun_27 : decode cX9_sun 27 = .ok (.ireturn, 1) := by decide +kernel
theorem dX9_brownOf_0 : decode cX9_brownOf 0 = .ok (.iconst (-1), 1) := by decide +kernel
theorem dX9_brownOf_1 : decode cX9_brownOf 1 = .ok (.istore_n 1, 1) := by decide +kernel
theorem dX9_brownOf_2 : decode cX9_brownOf 2 = .ok (.iconst 0, 1) := by decide +kernel
theorem dX9_brownOf_3 : decode cX9_brownOf 3 = .ok (.istore_n 2, 1) := by decide +kernel
theorem dX9_brownOf_4 : decode cX9_brownOf 4 = .ok (.iload_n 2, 1) := by decide +kernel
theorem dX9_brownOf_5 : decode cX9_brownOf 5 = .ok (.aload_n 0, 1) := by decide +kernel
theorem dX9_brownOf_6 : decode cX9_brownOf 6 = .ok (.invokevirtual 100, 3) := by decide +kernel
theorem dX9_brownOf_9 : decode cX9_brownOf 9 = .ok (.if_icmp .ge 29, 3) := by decide +kernel
theorem dX9_brownOf_12 : decode cX9_brownOf 12 = .ok (.iload_n 1, 1) := by decide +kernel
theorem dX9_brownOf_13 : decode cX9_brownOf 13 = .ok (.iconst (-1), 1) := by decide +kernel
theorem dX9_brownOf_14 : decode cX9_brownOf 14 = .ok (.if_icmp .eq 16, 3) := by decide +kernel
theorem dX9_brownOf_17 : decode cX9_brownOf 17 = .ok (.aload_n 0, 1) := by decide +kernel
theorem dX9_brownOf_18 : decode cX9_brownOf 18 = .ok (.iload_n 2, 1) := by decide +kernel
theorem dX9_brownOf_19 : decode cX9_brownOf 19 = .ok (.invokevirtual 313, 3) := by decide +kernel
theorem dX9_brownOf_22 : decode cX9_brownOf 22 = .ok (.aload_n 0, 1) := by decide +kernel
theorem dX9_brownOf_23 : decode cX9_brownOf 23 = .ok (.iload_n 1, 1) := by decide +kernel
theorem dX9_brownOf_24 : decode cX9_brownOf 24 = .ok (.invokevirtual 313, 3) := by decide +kernel
theorem dX9_brownOf_27 : decode cX9_brownOf 27 = .ok (.if_icmp .le 5, 3) := by decide +kernel
theorem dX9_brownOf_30 : decode cX9_brownOf 30 = .ok (.iload_n 2, 1) := by decide +kernel
theorem dX9_brownOf_31 : decode cX9_brownOf 31 = .ok (.istore_n 1, 1) := by decide +kernel
theorem dX9_brownOf_32 : decode cX9_brownOf 32 = .ok (.iinc 2 1, 3) := by decide +kernel
theorem dX9_brownOf_35 : decode cX9_brownOf 35 = .ok (.goto (-31), 3) := by decide +kernel
theorem dX9_brownOf_38 : decode cX9_brownOf 38 = .ok (.iload_n 1, 1) := by decide +kernel
theorem dX9_brownOf_39 : decode cX9_brownOf 39 = .ok (.ireturn, 1) := by decide +kernel
theorem dX9_paleOf_0 : decode cX9_paleOf 0 = .ok (.iconst (-1), 1) := by decide +kernel
theorem dX9_paleOf_1 : decode cX9_paleOf 1 = .ok (.istore_n 1, 1) := by decide +kernel
theorem dX9_paleOf_2 : decode cX9_paleOf 2 = .ok (.iconst 0, 1) := by decide +kernel
theorem dX9_paleOf_3 : decode cX9_paleOf 3 = .ok (.istore_n 2, 1) := by decide +kernel
theorem dX9_paleOf_4 : decode cX9_paleOf 4 = .ok (.iload_n 2, 1) := by decide +kernel
theorem dX9_paleOf_5 : decode cX9_paleOf 5 = .ok (.aload_n 0, 1) := by decide +kernel
theorem dX9_paleOf_6 : decode cX9_paleOf 6 = .ok (.invokevirtual 100, 3) := by decide +kernel
theorem dX9_paleOf_9 : decode cX9_paleOf 9 = .ok (.if_icmp .ge 29, 3) := by decide +kernel
theorem dX9_paleOf_12 : decode cX9_paleOf 12 = .ok (.iload_n 1, 1) := by decide +kernel
theorem dX9_paleOf_13 : decode cX9_paleOf 13 = .ok (.iconst (-1), 1) := by decide +kernel
theorem dX9_paleOf_14 : decode cX9_paleOf 14 = .ok (.if_icmp .eq 16, 3) := by decide +kernel
theorem dX9_paleOf_17 : decode cX9_paleOf 17 = .ok (.aload_n 0, 1) := by decide +kernel
theorem dX9_paleOf_18 : decode cX9_paleOf 18 = .ok (.iload_n 2, 1) := by decide +kernel
theorem dX9_paleOf_19 : decode cX9_paleOf 19 = .ok (.invokevirtual 313, 3) := by decide +kernel
theorem dX9_paleOf_22 : decode cX9_paleOf 22 = .ok (.aload_n 0, 1) := by decide +kernel
theorem dX9_paleOf_23 : decode cX9_paleOf 23 = .ok (.iload_n 1, 1) := by decide +kernel
theorem dX9_paleOf_24 : decode cX9_paleOf 24 = .ok (.invokevirtual 313, 3) := by decide +kernel
theorem dX9_paleOf_27 : decode cX9_paleOf 27 = .ok (.if_icmp .ge 5, 3) := by decide +kernel
theorem dX9_paleOf_30 : decode cX9_paleOf 30 = .ok (.iload_n 2, 1) := by decide +kernel
theorem dX9_paleOf_31 : decode cX9_paleOf 31 = .ok (.istore_n 1, 1) := by decide +kernel
theorem dX9_paleOf_32 : decode cX9_paleOf 32 = .ok (.iinc 2 1, 3) := by decide +kernel
theorem dX9_paleOf_35 : decode cX9_paleOf 35 = .ok (.goto (-31), 3) := by decide +kernel
theorem dX9_paleOf_38 : decode cX9_paleOf 38 = .ok (.iload_n 1, 1) := by decide +kernel
theorem dX9_paleOf_39 : decode cX9_paleOf 39 = .ok (.ireturn, 1) := by decide +kernel
theorem dX9_brown_0 : decode cX9_brown 0 = .ok (.aload_n 0, 1) := by decide +kernel
theorem dX9_brown_1 : decode cX9_brown 1 = .ok (.invokevirtual 283, 3) := by decide +kernel
theorem dX9_brown_4 : decode cX9_brown 4 = .ok (.ifCond .eq 10, 3) := by decide +kernel
theorem dX9_brown_7 : decode cX9_brown 7 = .ok (.aload_n 0, 1) := by decide +kernel
theorem dX9_brown_8 : decode cX9_brown 8 = .ok (.invokevirtual 316, 3) := by decide +kernel
theorem dX9_brown_11 : decode cX9_brown 11 = .ok (.goto 5, 3) := by decide +kernel
theorem dX9_brown_14 : decode cX9_brown 14 = .ok (.bipush (-2), 2) := by decide +kernel
theorem dX9_brown_16 : decode cX9_brown 16 = .ok (.ireturn, 1) := by decide +kernel
theorem dX9_pale_0 : decode cX9_pale 0 = .ok (.aload_n 0, 1) := by decide +kernel
theorem dX9_pale_1 : decode cX9_pale 1 = .ok (.invokevirtual 283, 3) := by decide +kernel
theorem dX9_pale_4 : decode cX9_pale 4 = .ok (.ifCond .eq 10, 3) := by decide +kernel
theorem dX9_pale_7 : decode cX9_pale 7 = .ok (.aload_n 0, 1) := by decide +kernel
theorem dX9_pale_8 : decode cX9_pale 8 = .ok (.invokevirtual 319, 3) := by decide +kernel
theorem dX9_pale_11 : decode cX9_pale 11 = .ok (.goto 5, 3) := by decide +kernel
theorem dX9_pale_14 : decode cX9_pale 14 = .ok (.bipush (-2), 2) := by decide +kernel
theorem dX9_pale_16 : decode cX9_pale 16 = .ok (.ireturn, 1) := by decide +kernel
theorem dX9_spanOf_0 : decode cX9_spanOf 0 = .ok (.aload_n 0, 1) := by decide +kernel
theorem dX9_spanOf_1 : decode cX9_spanOf 1 = .ok (.invokevirtual 100, 3) := by decide +kernel
theorem dX9_spanOf_4 : decode cX9_spanOf 4 = .ok (.ifCond .ne 7, 3) := by decide +kernel
theorem dX9_spanOf_7 : decode cX9_spanOf 7 = .ok (.iconst 0, 1) := by decide +kernel
theorem dX9_spanOf_8 : decode cX9_spanOf 8 = .ok (.goto 20, 3) := by decide +kernel
theorem dX9_spanOf_11 : decode cX9_spanOf 11 = .ok (.aload_n 0, 1) := by decide +kernel
theorem dX9_spanOf_12 : decode cX9_spanOf 12 = .ok (.aload_n 0, 1) := by decide +kernel
theorem dX9_spanOf_13 : decode cX9_spanOf 13 = .ok (.invokevirtual 316, 3) := by decide +kernel
theorem dX9_spanOf_16 : decode cX9_spanOf 16 = .ok (.invokevirtual 313, 3) := by decide +kernel
theorem dX9_spanOf_19 : decode cX9_spanOf 19 = .ok (.aload_n 0, 1) := by decide +kernel
theorem dX9_spanOf_20 : decode cX9_spanOf 20 = .ok (.aload_n 0, 1) := by decide +kernel
theorem dX9_spanOf_21 : decode cX9_spanOf 21 = .ok (.invokevirtual 319, 3) := by decide +kernel
theorem dX9_spanOf_24 : decode cX9_spanOf 24 = .ok (.invokevirtual 313, 3) := by decide +kernel
theorem dX9_spanOf_27 : decode cX9_spanOf 27 = .ok (.isub, 1) := by decide +kernel
theorem dX9_spanOf_28 : decode cX9_spanOf 28 = .ok (.ireturn, 1) := by decide +kernel
theorem dX9_span_0 : decode cX9_span 0 = .ok (.aload_n 0, 1) := by decide +kernel
theorem dX9_span_1 : decode cX9_span 1 = .ok (.invokevirtual 283, 3) := by decide +kernel
theorem dX9_span_4 : decode cX9_span 4 = .ok (.ifCond .eq 10, 3) := by decide +kernel
theorem dX9_span_7 : decode cX9_span 7 = .ok (.aload_n 0, 1) := by decide +kernel
theorem dX9_span_8 : decode cX9_span 8 = .ok (.invokevirtual 322, 3) := by decide +kernel
theorem dX9_span_11 : decode cX9_span 11 = .ok (.goto 5, 3) := by decide +kernel
theorem dX9_span_14 : decode cX9_span 14 = .ok (.bipush (-2), 2) := by decide +kernel
theorem dX9_span_16 : decode cX9_span 16 = .ok (.ireturn, 1) := by decide +kernel
theorem dX9_sameIn_0 : decode cX9_sameIn 0 = .ok (.iconst 0, 1) := by decide +kernel
theorem dX9_sameIn_1 : decode cX9_sameIn 1 = .ok (.istore_n 2, 1) := by decide +kernel
theorem dX9_sameIn_2 : decode cX9_sameIn 2 = .ok (.iconst 0, 1) := by decide +kernel
theorem dX9_sameIn_3 : decode cX9_sameIn 3 = .ok (.istore_n 3, 1) := by decide +kernel
theorem dX9_sameIn_4 : decode cX9_sameIn 4 = .ok (.iload_n 3, 1) := by decide +kernel
theorem dX9_sameIn_5 : decode cX9_sameIn 5 = .ok (.aload_n 0, 1) := by decide +kernel
theorem dX9_sameIn_6 : decode cX9_sameIn 6 = .ok (.invokevirtual 100, 3) := by decide +kernel
theorem dX9_sameIn_9 : decode cX9_sameIn 9 = .ok (.if_icmp .ge 34, 3) := by decide +kernel
theorem dX9_sameIn_12 : decode cX9_sameIn 12 = .ok (.iload_n 2, 1) := by decide +kernel
theorem dX9_sameIn_13 : decode cX9_sameIn 13 = .ok (.aload_n 0, 1) := by decide +kernel
theorem dX9_sameIn_14 : decode cX9_sameIn 14 = .ok (.iload_n 3, 1) := by decide +kernel
theorem dX9_sameIn_15 : decode cX9_sameIn 15 = .ok (.iload_n 1, 1) := by decide +kernel
theorem dX9_sameIn_16 : decode cX9_sameIn 16 = .ok (.invokevirtual 261, 3) := by decide +kernel
theorem dX9_sameIn_19 : decode cX9_sameIn 19 = .ok (.aload_n 0, 1) := by decide +kernel
theorem dX9_sameIn_20 : decode cX9_sameIn 20 = .ok (.iload_n 3, 1) := by decide +kernel
theorem dX9_sameIn_21 : decode cX9_sameIn 21 = .ok (.iconst 0, 1) := by decide +kernel
theorem dX9_sameIn_22 : decode cX9_sameIn 22 = .ok (.invokevirtual 261, 3) := by decide +kernel
theorem dX9_sameIn_25 : decode cX9_sameIn 25 = .ok (.if_icmp .ne 9, 3) := by decide +kernel
theorem dX9_sameIn_28 : decode cX9_sameIn 28 = .ok (.iconst 1, 1) := by decide +kernel
theorem dX9_sameIn_29 : decode cX9_sameIn 29 = .ok (.iload_n 3, 1) := by decide +kernel
theorem dX9_sameIn_30 : decode cX9_sameIn 30 = .ok (.ishl, 1) := by decide +kernel
theorem dX9_sameIn_31 : decode cX9_sameIn 31 = .ok (.goto 4, 3) := by decide +kernel
theorem dX9_sameIn_34 : decode cX9_sameIn 34 = .ok (.iconst 0, 1) := by decide +kernel
theorem dX9_sameIn_35 : decode cX9_sameIn 35 = .ok (.ior, 1) := by decide +kernel
theorem dX9_sameIn_36 : decode cX9_sameIn 36 = .ok (.istore_n 2, 1) := by decide +kernel
theorem dX9_sameIn_37 : decode cX9_sameIn 37 = .ok (.iinc 3 1, 3) := by decide +kernel
theorem dX9_sameIn_40 : decode cX9_sameIn 40 = .ok (.goto (-36), 3) := by decide +kernel
theorem dX9_sameIn_43 : decode cX9_sameIn 43 = .ok (.iload_n 2, 1) := by decide +kernel
theorem dX9_sameIn_44 : decode cX9_sameIn 44 = .ok (.ireturn, 1) := by decide +kernel
theorem dX9_home_0 : decode cX9_home 0 = .ok (.aload_n 0, 1) := by decide +kernel
theorem dX9_home_1 : decode cX9_home 1 = .ok (.invokevirtual 283, 3) := by decide +kernel
theorem dX9_home_4 : decode cX9_home 4 = .ok (.ifCond .ne 6, 3) := by decide +kernel
theorem dX9_home_7 : decode cX9_home 7 = .ok (.bipush (-2), 2) := by decide +kernel
theorem dX9_home_9 : decode cX9_home 9 = .ok (.ireturn, 1) := by decide +kernel
theorem dX9_home_10 : decode cX9_home 10 = .ok (.iconst 1, 1) := by decide +kernel
theorem dX9_home_11 : decode cX9_home 11 = .ok (.istore_n 1, 1) := by decide +kernel
theorem dX9_home_12 : decode cX9_home 12 = .ok (.iload_n 1, 1) := by decide +kernel
theorem dX9_home_13 : decode cX9_home 13 = .ok (.aload_n 0, 1) := by decide +kernel
theorem dX9_home_14 : decode cX9_home 14 = .ok (.invokevirtual 96, 3) := by decide +kernel
theorem dX9_home_17 : decode cX9_home 17 = .ok (.if_icmp .gt 27, 3) := by decide +kernel
theorem dX9_home_20 : decode cX9_home 20 = .ok (.aload_n 0, 1) := by decide +kernel
theorem dX9_home_21 : decode cX9_home 21 = .ok (.iload_n 1, 1) := by decide +kernel
theorem dX9_home_22 : decode cX9_home 22 = .ok (.invokevirtual 325, 3) := by decide +kernel
theorem dX9_home_25 : decode cX9_home 25 = .ok (.iconst 1, 1) := by decide +kernel
theorem dX9_home_26 : decode cX9_home 26 = .ok (.aload_n 0, 1) := by decide +kernel
theorem dX9_home_27 : decode cX9_home 27 = .ok (.invokevirtual 100, 3) := by decide +kernel
theorem dX9_home_30 : decode cX9_home 30 = .ok (.ishl, 1) := by decide +kernel
theorem dX9_home_31 : decode cX9_home 31 = .ok (.iconst 1, 1) := by decide +kernel
theorem dX9_home_32 : decode cX9_home 32 = .ok (.isub, 1) := by decide +kernel
theorem dX9_home_33 : decode cX9_home 33 = .ok (.if_icmp .ne 5, 3) := by decide +kernel
theorem dX9_home_36 : decode cX9_home 36 = .ok (.iload_n 1, 1) := by decide +kernel
theorem dX9_home_37 : decode cX9_home 37 = .ok (.ireturn, 1) := by decide +kernel
theorem dX9_home_38 : decode cX9_home 38 = .ok (.iinc 1 1, 3) := by decide +kernel
theorem dX9_home_41 : decode cX9_home 41 = .ok (.goto (-29), 3) := by decide +kernel
theorem dX9_home_44 : decode cX9_home 44 = .ok (.iconst (-1), 1) := by decide +kernel
theorem dX9_home_45 : decode cX9_home 45 = .ok (.ireturn, 1) := by decide +kernel
theorem dX9_sees_0 : decode cX9_sees 0 = .ok (.aload_n 0, 1) := by decide +kernel
theorem dX9_sees_1 : decode cX9_sees 1 = .ok (.iload_n 1, 1) := by decide +kernel
theorem dX9_sees_2 : decode cX9_sees 2 = .ok (.invokevirtual 307, 3) := by decide +kernel
theorem dX9_sees_5 : decode cX9_sees 5 = .ok (.ifCond .ne 6, 3) := by decide +kernel
theorem dX9_sees_8 : decode cX9_sees 8 = .ok (.bipush (-2), 2) := by decide +kernel
theorem dX9_sees_10 : decode cX9_sees 10 = .ok (.ireturn, 1) := by decide +kernel
theorem dX9_sees_11 : decode cX9_sees 11 = .ok (.iconst 0, 1) := by decide +kernel
theorem dX9_sees_12 : decode cX9_sees 12 = .ok (.istore_n 2, 1) := by decide +kernel
theorem dX9_sees_13 : decode cX9_sees 13 = .ok (.iconst 0, 1) := by decide +kernel
theorem dX9_sees_14 : decode cX9_sees 14 = .ok (.istore_n 3, 1) := by decide +kernel
theorem dX9_sees_15 : decode cX9_sees 15 = .ok (.iload_n 3, 1) := by decide +kernel
theorem dX9_sees_16 : decode cX9_sees 16 = .ok (.aload_n 0, 1) := by decide +kernel
theorem dX9_sees_17 : decode cX9_sees 17 = .ok (.invokevirtual 96, 3) := by decide +kernel
theorem dX9_sees_20 : decode cX9_sees 20 = .ok (.if_icmp .gt 20, 3) := by decide +kernel
theorem dX9_sees_23 : decode cX9_sees 23 = .ok (.iload_n 2, 1) := by decide +kernel
theorem dX9_sees_24 : decode cX9_sees 24 = .ok (.iconst 1, 1) := by decide +kernel
theorem dX9_sees_25 : decode cX9_sees 25 = .ok (.aload_n 0, 1) := by decide +kernel
theorem dX9_sees_26 : decode cX9_sees 26 = .ok (.iload_n 1, 1) := by decide +kernel
theorem dX9_sees_27 : decode cX9_sees 27 = .ok (.iload_n 3, 1) := by decide +kernel
theorem dX9_sees_28 : decode cX9_sees 28 = .ok (.invokevirtual 261, 3) := by decide +kernel
theorem dX9_sees_31 : decode cX9_sees 31 = .ok (.ishl, 1) := by decide +kernel
theorem dX9_sees_32 : decode cX9_sees 32 = .ok (.ior, 1) := by decide +kernel
theorem dX9_sees_33 : decode cX9_sees 33 = .ok (.istore_n 2, 1) := by decide +kernel
theorem dX9_sees_34 : decode cX9_sees 34 = .ok (.iinc 3 1, 3) := by decide +kernel
theorem dX9_sees_37 : decode cX9_sees 37 = .ok (.goto (-22), 3) := by decide +kernel
theorem dX9_sees_40 : decode cX9_sees 40 = .ok (.iload_n 2, 1) := by decide +kernel
theorem dX9_sees_41 : decode cX9_sees 41 = .ok (.ireturn, 1) := by decide +kernel
theorem dX9_when_0 : decode cX9_when 0 = .ok (.aload_n 0, 1) := by decide +kernel
theorem dX9_when_1 : decode cX9_when 1 = .ok (.iload_n 1, 1) := by decide +kernel
theorem dX9_when_2 : decode cX9_when 2 = .ok (.invokevirtual 307, 3) := by decide +kernel
theorem dX9_when_5 : decode cX9_when 5 = .ok (.ifCond .eq 12, 3) := by decide +kernel
theorem dX9_when_8 : decode cX9_when 8 = .ok (.aload_n 0, 1) := by decide +kernel
theorem dX9_when_9 : decode cX9_when 9 = .ok (.iload_n 2, 1) := by decide +kernel
theorem dX9_when_10 : decode cX9_when 10 = .ok (.i2l, 1) := by decide +kernel
theorem dX9_when_11 : decode cX9_when 11 = .ok (.invokevirtual 254, 3) := by decide +kernel
theorem dX9_when_14 : decode cX9_when 14 = .ok (.ifCond .ne 6, 3) := by decide +kernel
theorem dX9_when_17 : decode cX9_when 17 = .ok (.bipush (-2), 2) := by decide +kernel
theorem dX9_when_19 : decode cX9_when 19 = .ok (.ireturn, 1) := by decide +kernel
theorem dX9_when_20 : decode cX9_when 20 = .ok (.iconst 0, 1) := by decide +kernel
theorem dX9_when_21 : decode cX9_when 21 = .ok (.istore_n 3, 1) := by decide +kernel
theorem dX9_when_22 : decode cX9_when 22 = .ok (.iload_n 3, 1) := by decide +kernel
theorem dX9_when_23 : decode cX9_when 23 = .ok (.aload_n 0, 1) := by decide +kernel
theorem dX9_when_24 : decode cX9_when 24 = .ok (.invokevirtual 96, 3) := by decide +kernel
theorem dX9_when_27 : decode cX9_when 27 = .ok (.if_icmp .gt 21, 3) := by decide +kernel
theorem dX9_when_30 : decode cX9_when 30 = .ok (.aload_n 0, 1) := by decide +kernel
theorem dX9_when_31 : decode cX9_when 31 = .ok (.iload_n 1, 1) := by decide +kernel
theorem dX9_when_32 : decode cX9_when 32 = .ok (.iload_n 3, 1) := by decide +kernel
theorem dX9_when_33 : decode cX9_when 33 = .ok (.invokevirtual 261, 3) := by decide +kernel
theorem dX9_when_36 : decode cX9_when 36 = .ok (.iload_n 2, 1) := by decide +kernel
theorem dX9_when_37 : decode cX9_when 37 = .ok (.if_icmp .ne 5, 3) := by decide +kernel
theorem dX9_when_40 : decode cX9_when 40 = .ok (.iload_n 3, 1) := by decide +kernel
theorem dX9_when_41 : decode cX9_when 41 = .ok (.ireturn, 1) := by decide +kernel
theorem dX9_when_42 : decode cX9_when 42 = .ok (.iinc 3 1, 3) := by decide +kernel
theorem dX9_when_45 : decode cX9_when 45 = .ok (.goto (-23), 3) := by decide +kernel
theorem dX9_when_48 : decode cX9_when 48 = .ok (.iconst (-1), 1) := by decide +kernel
theorem dX9_when_49 : decode cX9_when 49 = .ok (.ireturn, 1) := by decide +kernel
theorem dX9_apart_0 : decode cX9_apart 0 = .ok (.aload_n 0, 1) := by decide +kernel
theorem dX9_apart_1 : decode cX9_apart 1 = .ok (.iload_n 3, 1) := by decide +kernel
theorem dX9_apart_2 : decode cX9_apart 2 = .ok (.invokevirtual 292, 3) := by decide +kernel
theorem dX9_apart_5 : decode cX9_apart 5 = .ok (.ifCond .eq 42, 3) := by decide +kernel
theorem dX9_apart_8 : decode cX9_apart 8 = .ok (.aload_n 0, 1) := by decide +kernel
theorem dX9_apart_9 : decode cX9_apart 9 = .ok (.iload_n 1, 1) := by decide +kernel
theorem dX9_apart_10 : decode cX9_apart 10 = .ok (.invokevirtual 103, 3) := by decide +kernel
theorem dX9_apart_13 : decode cX9_apart 13 = .ok (.ifCond .eq 34, 3) := by decide +kernel
theorem dX9_apart_16 : decode cX9_apart 16 = .ok (.aload_n 0, 1) := by decide +kernel
theorem dX9_apart_17 : decode cX9_apart 17 = .ok (.iload_n 2, 1) := by decide +kernel
theorem dX9_apart_18 : decode cX9_apart 18 = .ok (.invokevirtual 103, 3) := by decide +kernel
theorem dX9_apart_21 : decode cX9_apart 21 = .ok (.ifCond .eq 26, 3) := by decide +kernel
theorem dX9_apart_24 : decode cX9_apart 24 = .ok (.aload_n 0, 1) := by decide +kernel
theorem dX9_apart_25 : decode cX9_apart 25 = .ok (.iload_n 2, 1) := by decide +kernel
theorem dX9_apart_26 : decode cX9_apart 26 = .ok (.iload_n 3, 1) := by decide +kernel
theorem dX9_apart_27 : decode cX9_apart 27 = .ok (.invokevirtual 261, 3) := by decide +kernel
theorem dX9_apart_30 : decode cX9_apart 30 = .ok (.aload_n 0, 1) := by decide +kernel
theorem dX9_apart_31 : decode cX9_apart 31 = .ok (.iload_n 1, 1) := by decide +kernel
theorem dX9_apart_32 : decode cX9_apart 32 = .ok (.iload_n 3, 1) := by decide +kernel
theorem dX9_apart_33 : decode cX9_apart 33 = .ok (.invokevirtual 261, 3) := by decide +kernel
theorem dX9_apart_36 : decode cX9_apart 36 = .ok (.isub, 1) := by decide +kernel
theorem dX9_apart_37 : decode cX9_apart 37 = .ok (.aload_n 0, 1) := by decide +kernel
theorem dX9_apart_38 : decode cX9_apart 38 = .ok (.invokevirtual 100, 3) := by decide +kernel
theorem dX9_apart_41 : decode cX9_apart 41 = .ok (.invokestatic 258, 3) := by decide +kernel
theorem dX9_apart_44 : decode cX9_apart 44 = .ok (.goto 5, 3) := by decide +kernel
theorem dX9_apart_47 : decode cX9_apart 47 = .ok (.bipush (-2), 2) := by decide +kernel
theorem dX9_apart_49 : decode cX9_apart 49 = .ok (.ireturn, 1) := by decide +kernel
theorem dX9_often_0 : decode cX9_often 0 = .ok (.aload_n 0, 1) := by decide +kernel
theorem dX9_often_1 : decode cX9_often 1 = .ok (.iload_n 1, 1) := by decide +kernel
theorem dX9_often_2 : decode cX9_often 2 = .ok (.invokevirtual 307, 3) := by decide +kernel
theorem dX9_often_5 : decode cX9_often 5 = .ok (.ifCond .eq 12, 3) := by decide +kernel
theorem dX9_often_8 : decode cX9_often 8 = .ok (.aload_n 0, 1) := by decide +kernel
theorem dX9_often_9 : decode cX9_often 9 = .ok (.iload_n 2, 1) := by decide +kernel
theorem dX9_often_10 : decode cX9_often 10 = .ok (.i2l, 1) := by decide +kernel
theorem dX9_often_11 : decode cX9_often 11 = .ok (.invokevirtual 254, 3) := by decide +kernel
theorem dX9_often_14 : decode cX9_often 14 = .ok (.ifCond .ne 6, 3) := by decide +kernel
theorem dX9_often_17 : decode cX9_often 17 = .ok (.bipush (-2), 2) := by decide +kernel
theorem dX9_often_19 : decode cX9_often 19 = .ok (.ireturn, 1) := by decide +kernel
theorem dX9_often_20 : decode cX9_often 20 = .ok (.iconst 0, 1) := by decide +kernel
theorem dX9_often_21 : decode cX9_often 21 = .ok (.istore_n 3, 1) := by decide +kernel
theorem dX9_often_22 : decode cX9_often 22 = .ok (.iconst 0, 1) := by decide +kernel
theorem dX9_often_23 : decode cX9_often 23 = .ok (.istore 4, 2) := by decide +kernel
theorem dX9_often_25 : decode cX9_often 25 = .ok (.iload 4, 2) := by decide +kernel
theorem dX9_often_27 : decode cX9_often 27 = .ok (.aload_n 0, 1) := by decide +kernel
theorem dX9_often_28 : decode cX9_often 28 = .ok (.invokevirtual 96, 3) := by decide +kernel
theorem dX9_often_31 : decode cX9_often 31 = .ok (.if_icmp .gt 28, 3) := by decide +kernel
theorem dX9_often_34 : decode cX9_often 34 = .ok (.iload_n 3, 1) := by decide +kernel
theorem dX9_often_35 : decode cX9_often 35 = .ok (.aload_n 0, 1) := by decide +kernel
theorem dX9_often_36 : decode cX9_often 36 = .ok (.iload_n 1, 1) := by decide +kernel
theorem dX9_often_37 : decode cX9_often 37 = .ok (.iload 4, 2) := by decide +kernel
theorem dX9_often_39 : decode cX9_often 39 = .ok (.invokevirtual 261, 3) := by decide +kernel
theorem dX9_often_42 : decode cX9_often 42 = .ok (.iload_n 2, 1) := by decide +kernel
theorem dX9_often_43 : decode cX9_often 43 = .ok (.if_icmp .ne 7, 3) := by decide +kernel
theorem dX9_often_46 : decode cX9_often 46 = .ok (.iconst 1, 1) := by decide +kernel
theorem dX9_often_47 : decode cX9_often 47 = .ok (.goto 4, 3) := by decide +kernel
theorem dX9_often_50 : decode cX9_often 50 = .ok (.iconst 0, 1) := by decide +kernel
theorem dX9_often_51 : decode cX9_often 51 = .ok (.iadd, 1) := by decide +kernel
theorem dX9_often_52 : decode cX9_often 52 = .ok (.istore_n 3, 1) := by decide +kernel
theorem dX9_often_53 : decode cX9_often 53 = .ok (.iinc 4 1, 3) := by decide +kernel
theorem dX9_often_56 : decode cX9_often 56 = .ok (.goto (-31), 3) := by decide +kernel
theorem dX9_often_59 : decode cX9_often 59 = .ok (.iload_n 3, 1) := by decide +kernel
theorem dX9_often_60 : decode cX9_often 60 = .ok (.ireturn, 1) := by decide +kernel
theorem dX9_nose_0 : decode cX9_nose 0 = .ok (.aload_n 0, 1) := by decide +kernel
theorem dX9_nose_1 : decode cX9_nose 1 = .ok (.iload_n 1, 1) := by decide +kernel
theorem dX9_nose_2 : decode cX9_nose 2 = .ok (.invokevirtual 307, 3) := by decide +kernel
theorem dX9_nose_5 : decode cX9_nose 5 = .ok (.ifCond .ne 6, 3) := by decide +kernel
theorem dX9_nose_8 : decode cX9_nose 8 = .ok (.bipush (-2), 2) := by decide +kernel
theorem dX9_nose_10 : decode cX9_nose 10 = .ok (.ireturn, 1) := by decide +kernel
theorem dX9_nose_11 : decode cX9_nose 11 = .ok (.iconst 0, 1) := by decide +kernel
theorem dX9_nose_12 : decode cX9_nose 12 = .ok (.istore_n 2, 1) := by decide +kernel
theorem dX9_nose_13 : decode cX9_nose 13 = .ok (.iconst 0, 1) := by decide +kernel
theorem dX9_nose_14 : decode cX9_nose 14 = .ok (.istore_n 3, 1) := by decide +kernel
theorem dX9_nose_15 : decode cX9_nose 15 = .ok (.iload_n 3, 1) := by decide +kernel
theorem dX9_nose_16 : decode cX9_nose 16 = .ok (.aload_n 0, 1) := by decide +kernel
theorem dX9_nose_17 : decode cX9_nose 17 = .ok (.invokevirtual 96, 3) := by decide +kernel
theorem dX9_nose_20 : decode cX9_nose 20 = .ok (.if_icmp .gt 23, 3) := by decide +kernel
theorem dX9_nose_23 : decode cX9_nose 23 = .ok (.iload_n 2, 1) := by decide +kernel
theorem dX9_nose_24 : decode cX9_nose 24 = .ok (.aload_n 0, 1) := by decide +kernel
theorem dX9_nose_25 : decode cX9_nose 25 = .ok (.getfield 37, 3) := by decide +kernel
theorem dX9_nose_28 : decode cX9_nose 28 = .ok (.aload_n 0, 1) := by decide +kernel
theorem dX9_nose_29 : decode cX9_nose 29 = .ok (.iload_n 1, 1) := by decide +kernel
theorem dX9_nose_30 : decode cX9_nose 30 = .ok (.iload_n 3, 1) := by decide +kernel
theorem dX9_nose_31 : decode cX9_nose 31 = .ok (.invokevirtual 261, 3) := by decide +kernel
theorem dX9_nose_34 : decode cX9_nose 34 = .ok (.iaload, 1) := by decide +kernel
theorem dX9_nose_35 : decode cX9_nose 35 = .ok (.iadd, 1) := by decide +kernel
theorem dX9_nose_36 : decode cX9_nose 36 = .ok (.istore_n 2, 1) := by decide +kernel
theorem dX9_nose_37 : decode cX9_nose 37 = .ok (.iinc 3 1, 3) := by decide +kernel
theorem dX9_nose_40 : decode cX9_nose 40 = .ok (.goto (-25), 3) := by decide +kernel
theorem dX9_nose_43 : decode cX9_nose 43 = .ok (.iload_n 2, 1) := by decide +kernel
theorem dX9_nose_44 : decode cX9_nose 44 = .ok (.ireturn, 1) := by decide +kernel
theorem dX9_idle_0 : decode cX9_idle 0 = .ok (.aload_n 0, 1) := by decide +kernel
theorem dX9_idle_1 : decode cX9_idle 1 = .ok (.iload_n 1, 1) := by decide +kernel
theorem dX9_idle_2 : decode cX9_idle 2 = .ok (.invokevirtual 298, 3) := by decide +kernel
theorem dX9_idle_5 : decode cX9_idle 5 = .ok (.ifCond .ne 6, 3) := by decide +kernel
theorem dX9_idle_8 : decode cX9_idle 8 = .ok (.bipush (-2), 2) := by decide +kernel
theorem dX9_idle_10 : decode cX9_idle 10 = .ok (.ireturn, 1) := by decide +kernel
theorem dX9_idle_11 : decode cX9_idle 11 = .ok (.iconst 0, 1) := by decide +kernel
theorem dX9_idle_12 : decode cX9_idle 12 = .ok (.istore_n 2, 1) := by decide +kernel
theorem dX9_idle_13 : decode cX9_idle 13 = .ok (.iconst 0, 1) := by decide +kernel
theorem dX9_idle_14 : decode cX9_idle 14 = .ok (.istore_n 3, 1) := by decide +kernel
theorem dX9_idle_15 : decode cX9_idle 15 = .ok (.iload_n 3, 1) := by decide +kernel
theorem dX9_idle_16 : decode cX9_idle 16 = .ok (.aload_n 0, 1) := by decide +kernel
theorem dX9_idle_17 : decode cX9_idle 17 = .ok (.invokevirtual 100, 3) := by decide +kernel
theorem dX9_idle_20 : decode cX9_idle 20 = .ok (.if_icmp .ge 28, 3) := by decide +kernel
theorem dX9_idle_23 : decode cX9_idle 23 = .ok (.iload_n 2, 1) := by decide +kernel
theorem dX9_idle_24 : decode cX9_idle 24 = .ok (.aload_n 0, 1) := by decide +kernel
theorem dX9_idle_25 : decode cX9_idle 25 = .ok (.iload_n 3, 1) := by decide +kernel
theorem dX9_idle_26 : decode cX9_idle 26 = .ok (.iload_n 1, 1) := by decide +kernel
theorem dX9_idle_27 : decode cX9_idle 27 = .ok (.invokevirtual 301, 3) := by decide +kernel
theorem dX9_idle_30 : decode cX9_idle 30 = .ok (.ifCond .ne 9, 3) := by decide +kernel
theorem dX9_idle_33 : decode cX9_idle 33 = .ok (.iconst 1, 1) := by decide +kernel
theorem dX9_idle_34 : decode cX9_idle 34 = .ok (.iload_n 3, 1) := by decide +kernel
theorem dX9_idle_35 : decode cX9_idle 35 = .ok (.ishl, 1) := by decide +kernel
theorem dX9_idle_36 : decode cX9_idle 36 = .ok (.goto 4, 3) := by decide +kernel
theorem dX9_idle_39 : decode cX9_idle 39 = .ok (.iconst 0, 1) := by decide +kernel
theorem dX9_idle_40 : decode cX9_idle 40 = .ok (.ior, 1) := by decide +kernel
theorem dX9_idle_41 : decode cX9_idle 41 = .ok (.istore_n 2, 1) := by decide +kernel
theorem dX9_idle_42 : decode cX9_idle 42 = .ok (.iinc 3 1, 3) := by decide +kernel
theorem dX9_idle_45 : decode cX9_idle 45 = .ok (.goto (-30), 3) := by decide +kernel
theorem dX9_idle_48 : decode cX9_idle 48 = .ok (.iload_n 2, 1) := by decide +kernel
theorem dX9_idle_49 : decode cX9_idle 49 = .ok (.ireturn, 1) := by decide +kernel
theorem dX9_backs_0 : decode cX9_backs 0 = .ok (.aload_n 0, 1) := by decide +kernel
theorem dX9_backs_1 : decode cX9_backs 1 = .ok (.invokevirtual 283, 3) := by decide +kernel
theorem dX9_backs_4 : decode cX9_backs 4 = .ok (.ifCond .ne 6, 3) := by decide +kernel
theorem dX9_backs_7 : decode cX9_backs 7 = .ok (.bipush (-2), 2) := by decide +kernel
theorem dX9_backs_9 : decode cX9_backs 9 = .ok (.ireturn, 1) := by decide +kernel
theorem dX9_backs_10 : decode cX9_backs 10 = .ok (.iconst 0, 1) := by decide +kernel
theorem dX9_backs_11 : decode cX9_backs 11 = .ok (.istore_n 1, 1) := by decide +kernel
theorem dX9_backs_12 : decode cX9_backs 12 = .ok (.iconst 0, 1) := by decide +kernel
theorem dX9_backs_13 : decode cX9_backs 13 = .ok (.istore_n 2, 1) := by decide +kernel
theorem dX9_backs_14 : decode cX9_backs 14 = .ok (.iload_n 2, 1) := by decide +kernel
theorem dX9_backs_15 : decode cX9_backs 15 = .ok (.aload_n 0, 1) := by decide +kernel
theorem dX9_backs_16 : decode cX9_backs 16 = .ok (.invokevirtual 96, 3) := by decide +kernel
theorem dX9_backs_19 : decode cX9_backs 19 = .ok (.if_icmp .ge 26, 3) := by decide +kernel
theorem dX9_backs_22 : decode cX9_backs 22 = .ok (.iload_n 1, 1) := by decide +kernel
theorem dX9_backs_23 : decode cX9_backs 23 = .ok (.aload_n 0, 1) := by decide +kernel
theorem dX9_backs_24 : decode cX9_backs 24 = .ok (.getfield 52, 3) := by decide +kernel
theorem dX9_backs_27 : decode cX9_backs 27 = .ok (.iload_n 2, 1) := by decide +kernel
theorem dX9_backs_28 : decode cX9_backs 28 = .ok (.iaload, 1) := by decide +kernel
theorem dX9_backs_29 : decode cX9_backs 29 = .ok (.ifCond .ge 7, 3) := by decide +kernel
theorem dX9_backs_32 : decode cX9_backs 32 = .ok (.iconst 1, 1) := by decide +kernel
theorem dX9_backs_33 : decode cX9_backs 33 = .ok (.goto 4, 3) := by decide +kernel
theorem dX9_backs_36 : decode cX9_backs 36 = .ok (.iconst 0, 1) := by decide +kernel
theorem dX9_backs_37 : decode cX9_backs 37 = .ok (.iadd, 1) := by decide +kernel
theorem dX9_backs_38 : decode cX9_backs 38 = .ok (.istore_n 1, 1) := by decide +kernel
theorem dX9_backs_39 : decode cX9_backs 39 = .ok (.iinc 2 1, 3) := by decide +kernel
theorem dX9_backs_42 : decode cX9_backs 42 = .ok (.goto (-28), 3) := by decide +kernel
theorem dX9_backs_45 : decode cX9_backs 45 = .ok (.iload_n 1, 1) := by decide +kernel
theorem dX9_backs_46 : decode cX9_backs 46 = .ok (.ireturn, 1) := by decide +kernel
theorem dX9_areBeside_0 : decode cX9_areBeside 0 = .ok (.aload_n 0, 1) := by decide +kernel
theorem dX9_areBeside_1 : decode cX9_areBeside 1 = .ok (.iload_n 2, 1) := by decide +kernel
theorem dX9_areBeside_2 : decode cX9_areBeside 2 = .ok (.iload_n 3, 1) := by decide +kernel
theorem dX9_areBeside_3 : decode cX9_areBeside 3 = .ok (.invokevirtual 261, 3) := by decide +kernel
theorem dX9_areBeside_6 : decode cX9_areBeside 6 = .ok (.aload_n 0, 1) := by decide +kernel
theorem dX9_areBeside_7 : decode cX9_areBeside 7 = .ok (.iload_n 1, 1) := by decide +kernel
theorem dX9_areBeside_8 : decode cX9_areBeside 8 = .ok (.iload_n 3, 1) := by decide +kernel
theorem dX9_areBeside_9 : decode cX9_areBeside 9 = .ok (.invokevirtual 261, 3) := by decide +kernel
theorem dX9_areBeside_12 : decode cX9_areBeside 12 = .ok (.isub, 1) := by decide +kernel
theorem dX9_areBeside_13 : decode cX9_areBeside 13 = .ok (.aload_n 0, 1) := by decide +kernel
theorem dX9_areBeside_14 : decode cX9_areBeside 14 = .ok (.invokevirtual 100, 3) := by decide +kernel
theorem dX9_areBeside_17 : decode cX9_areBeside 17 = .ok (.invokestatic 258, 3) := by decide +kernel
theorem dX9_areBeside_20 : decode cX9_areBeside 20 = .ok (.istore 4, 2) := by decide +kernel
theorem dX9_areBeside_22 : decode cX9_areBeside 22 = .ok (.iload 4, 2) := by decide +kernel
theorem dX9_areBeside_24 : decode cX9_areBeside 24 = .ok (.iconst 1, 1) := by decide +kernel
theorem dX9_areBeside_25 : decode cX9_areBeside 25 = .ok (.if_icmp .eq 14, 3) := by decide +kernel
theorem dX9_areBeside_28 : decode cX9_areBeside 28 = .ok (.iload 4, 2) := by decide +kernel
theorem dX9_areBeside_30 : decode cX9_areBeside 30 = .ok (.aload_n 0, 1) := by decide +kernel
theorem dX9_areBeside_31 : decode cX9_areBeside 31 = .ok (.invokevirtual 100, 3) := by decide +kernel
theorem dX9_areBeside_34 : decode cX9_areBeside 34 = .ok (.iconst 1, 1) := by decide +kernel
theorem dX9_areBeside_35 : decode cX9_areBeside 35 = .ok (.isub, 1) := by decide +kernel
theorem dX9_areBeside_36 : decode cX9_areBeside 36 = .ok (.if_icmp .ne 7, 3) := by decide +kernel
theorem dX9_areBeside_39 : decode cX9_areBeside 39 = .ok (.iconst 1, 1) := by decide +kernel
theorem dX9_areBeside_40 : decode cX9_areBeside 40 = .ok (.goto 4, 3) := by decide +kernel
theorem dX9_areBeside_43 : decode cX9_areBeside 43 = .ok (.iconst 0, 1) := by decide +kernel
theorem dX9_areBeside_44 : decode cX9_areBeside 44 = .ok (.ireturn, 1) := by decide +kernel
theorem dX9_beside_0 : decode cX9_beside 0 = .ok (.aload_n 0, 1) := by decide +kernel
theorem dX9_beside_1 : decode cX9_beside 1 = .ok (.invokevirtual 283, 3) := by decide +kernel
theorem dX9_beside_4 : decode cX9_beside 4 = .ok (.pop, 1) := by decide +kernel
theorem dX9_beside_5 : decode cX9_beside 5 = .ok (.aload_n 0, 1) := by decide +kernel
theorem dX9_beside_6 : decode cX9_beside 6 = .ok (.iload_n 1, 1) := by decide +kernel
theorem dX9_beside_7 : decode cX9_beside 7 = .ok (.iload_n 2, 1) := by decide +kernel
theorem dX9_beside_8 : decode cX9_beside 8 = .ok (.invokevirtual 328, 3) := by decide +kernel
theorem dX9_beside_11 : decode cX9_beside 11 = .ok (.ifCond .ne 6, 3) := by decide +kernel
theorem dX9_beside_14 : decode cX9_beside 14 = .ok (.bipush (-2), 2) := by decide +kernel
theorem dX9_beside_16 : decode cX9_beside 16 = .ok (.ireturn, 1) := by decide +kernel
theorem dX9_beside_17 : decode cX9_beside 17 = .ok (.iconst 0, 1) := by decide +kernel
theorem dX9_beside_18 : decode cX9_beside 18 = .ok (.istore_n 3, 1) := by decide +kernel
theorem dX9_beside_19 : decode cX9_beside 19 = .ok (.iload_n 3, 1) := by decide +kernel
theorem dX9_beside_20 : decode cX9_beside 20 = .ok (.aload_n 0, 1) := by decide +kernel
theorem dX9_beside_21 : decode cX9_beside 21 = .ok (.invokevirtual 96, 3) := by decide +kernel
theorem dX9_beside_24 : decode cX9_beside 24 = .ok (.if_icmp .gt 21, 3) := by decide +kernel
theorem dX9_beside_27 : decode cX9_beside 27 = .ok (.aload_n 0, 1) := by decide +kernel
theorem dX9_beside_28 : decode cX9_beside 28 = .ok (.iload_n 1, 1) := by decide +kernel
theorem dX9_beside_29 : decode cX9_beside 29 = .ok (.iload_n 2, 1) := by decide +kernel
theorem dX9_beside_30 : decode cX9_beside 30 = .ok (.iload_n 3, 1) := by decide +kernel
theorem dX9_beside_31 : decode cX9_beside 31 = .ok (.invokevirtual 332, 3) := by decide +kernel
theorem dX9_beside_34 : decode cX9_beside 34 = .ok (.ifCond .eq 5, 3) := by decide +kernel
theorem dX9_beside_37 : decode cX9_beside 37 = .ok (.iload_n 3, 1) := by decide +kernel
theorem dX9_beside_38 : decode cX9_beside 38 = .ok (.ireturn, 1) := by decide +kernel
theorem dX9_beside_39 : decode cX9_beside 39 = .ok (.iinc 3 1, 3) := by decide +kernel
theorem dX9_beside_42 : decode cX9_beside 42 = .ok (.goto (-23), 3) := by decide +kernel
theorem dX9_beside_45 : decode cX9_beside 45 = .ok (.iconst (-1), 1) := by decide +kernel
theorem dX9_beside_46 : decode cX9_beside 46 = .ok (.ireturn, 1) := by decide +kernel
theorem dX9_all_0 : decode cX9_all 0 = .ok (.aload_n 0, 1) := by decide +kernel
theorem dX9_all_1 : decode cX9_all 1 = .ok (.iload_n 1, 1) := by decide +kernel
theorem dX9_all_2 : decode cX9_all 2 = .ok (.invokevirtual 298, 3) := by decide +kernel
theorem dX9_all_5 : decode cX9_all 5 = .ok (.ifCond .ne 6, 3) := by decide +kernel
theorem dX9_all_8 : decode cX9_all 8 = .ok (.bipush (-2), 2) := by decide +kernel
theorem dX9_all_10 : decode cX9_all 10 = .ok (.ireturn, 1) := by decide +kernel
theorem dX9_all_11 : decode cX9_all 11 = .ok (.iconst 0, 1) := by decide +kernel
theorem dX9_all_12 : decode cX9_all 12 = .ok (.istore_n 2, 1) := by decide +kernel
theorem dX9_all_13 : decode cX9_all 13 = .ok (.iconst 0, 1) := by decide +kernel
theorem dX9_all_14 : decode cX9_all 14 = .ok (.istore_n 3, 1) := by decide +kernel
theorem dX9_all_15 : decode cX9_all 15 = .ok (.iload_n 3, 1) := by decide +kernel
theorem dX9_all_16 : decode cX9_all 16 = .ok (.aload_n 0, 1) := by decide +kernel
theorem dX9_all_17 : decode cX9_all 17 = .ok (.invokevirtual 100, 3) := by decide +kernel
theorem dX9_all_20 : decode cX9_all 20 = .ok (.if_icmp .ge 18, 3) := by decide +kernel
theorem dX9_all_23 : decode cX9_all 23 = .ok (.iload_n 2, 1) := by decide +kernel
theorem dX9_all_24 : decode cX9_all 24 = .ok (.aload_n 0, 1) := by decide +kernel
theorem dX9_all_25 : decode cX9_all 25 = .ok (.iload_n 3, 1) := by decide +kernel
theorem dX9_all_26 : decode cX9_all 26 = .ok (.iload_n 1, 1) := by decide +kernel
theorem dX9_all_27 : decode cX9_all 27 = .ok (.invokevirtual 301, 3) := by decide +kernel
theorem dX9_all_30 : decode cX9_all 30 = .ok (.iadd, 1) := by decide +kernel
theorem dX9_all_31 : decode cX9_all 31 = .ok (.istore_n 2, 1) := by decide +kernel
theorem dX9_all_32 : decode cX9_all 32 = .ok (.iinc 3 1, 3) := by decide +kernel
theorem dX9_all_35 : decode cX9_all 35 = .ok (.goto (-20), 3) := by decide +kernel
theorem dX9_all_38 : decode cX9_all 38 = .ok (.iload_n 2, 1) := by decide +kernel
theorem dX9_all_39 : decode cX9_all 39 = .ok (.ireturn, 1) := by decide +kernel
theorem dX9_noon_0 : decode cX9_noon 0 = .ok (.aload_n 0, 1) := by decide +kernel
theorem dX9_noon_1 : decode cX9_noon 1 = .ok (.iload_n 1, 1) := by decide +kernel
theorem dX9_noon_2 : decode cX9_noon 2 = .ok (.invokevirtual 292, 3) := by decide +kernel
theorem dX9_noon_5 : decode cX9_noon 5 = .ok (.ifCond .ne 6, 3) := by decide +kernel
theorem dX9_noon_8 : decode cX9_noon 8 = .ok (.bipush (-2), 2) := by decide +kernel
theorem dX9_noon_10 : decode cX9_noon 10 = .ok (.ireturn, 1) := by decide +kernel
theorem dX9_noon_11 : decode cX9_noon 11 = .ok (.iconst (-1), 1) := by decide +kernel
theorem dX9_noon_12 : decode cX9_noon 12 = .ok (.istore_n 2, 1) := by decide +kernel
theorem dX9_noon_13 : decode cX9_noon 13 = .ok (.iconst 0, 1) := by decide +kernel
theorem dX9_noon_14 : decode cX9_noon 14 = .ok (.istore_n 3, 1) := by decide +kernel
theorem dX9_noon_15 : decode cX9_noon 15 = .ok (.iload_n 3, 1) := by decide +kernel
theorem dX9_noon_16 : decode cX9_noon 16 = .ok (.aload_n 0, 1) := by decide +kernel
theorem dX9_noon_17 : decode cX9_noon 17 = .ok (.invokevirtual 100, 3) := by decide +kernel
theorem dX9_noon_20 : decode cX9_noon 20 = .ok (.if_icmp .ge 41, 3) := by decide +kernel
theorem dX9_noon_23 : decode cX9_noon 23 = .ok (.iload_n 2, 1) := by decide +kernel
theorem dX9_noon_24 : decode cX9_noon 24 = .ok (.iconst (-1), 1) := by decide +kernel
theorem dX9_noon_25 : decode cX9_noon 25 = .ok (.if_icmp .eq 28, 3) := by decide +kernel
theorem dX9_noon_28 : decode cX9_noon 28 = .ok (.aload_n 0, 1) := by decide +kernel
theorem dX9_noon_29 : decode cX9_noon 29 = .ok (.getfield 34, 3) := by decide +kernel
theorem dX9_noon_32 : decode cX9_noon 32 = .ok (.aload_n 0, 1) := by decide +kernel
theorem dX9_noon_33 : decode cX9_noon 33 = .ok (.iload_n 3, 1) := by decide +kernel
theorem dX9_noon_34 : decode cX9_noon 34 = .ok (.iload_n 1, 1) := by decide +kernel
theorem dX9_noon_35 : decode cX9_noon 35 = .ok (.invokevirtual 261, 3) := by decide +kernel
theorem dX9_noon_38 : decode cX9_noon 38 = .ok (.iaload, 1) := by decide +kernel
theorem dX9_noon_39 : decode cX9_noon 39 = .ok (.aload_n 0, 1) := by decide +kernel
theorem dX9_noon_40 : decode cX9_noon 40 = .ok (.getfield 34, 3) := by decide +kernel
theorem dX9_noon_43 : decode cX9_noon 43 = .ok (.aload_n 0, 1) := by decide +kernel
theorem dX9_noon_44 : decode cX9_noon 44 = .ok (.iload_n 2, 1) := by decide +kernel
theorem dX9_noon_45 : decode cX9_noon 45 = .ok (.iload_n 1, 1) := by decide +kernel
theorem dX9_noon_46 : decode cX9_noon 46 = .ok (.invokevirtual 261, 3) := by decide +kernel
theorem dX9_noon_49 : decode cX9_noon 49 = .ok (.iaload, 1) := by decide +kernel
theorem dX9_noon_50 : decode cX9_noon 50 = .ok (.if_icmp .le 5, 3) := by decide +kernel
theorem dX9_noon_53 : decode cX9_noon 53 = .ok (.iload_n 3, 1) := by decide +kernel
theorem dX9_noon_54 : decode cX9_noon 54 = .ok (.istore_n 2, 1) := by decide +kernel
theorem dX9_noon_55 : decode cX9_noon 55 = .ok (.iinc 3 1, 3) := by decide +kernel
theorem dX9_noon_58 : decode cX9_noon 58 = .ok (.goto (-43), 3) := by decide +kernel
theorem dX9_noon_61 : decode cX9_noon 61 = .ok (.iload_n 2, 1) := by decide +kernel
theorem dX9_noon_62 : decode cX9_noon 62 = .ok (.ireturn, 1) := by decide +kernel
theorem dX9_mates_0 : decode cX9_mates 0 = .ok (.aload_n 0, 1) := by decide +kernel
theorem dX9_mates_1 : decode cX9_mates 1 = .ok (.iload_n 2, 1) := by decide +kernel
theorem dX9_mates_2 : decode cX9_mates 2 = .ok (.invokevirtual 292, 3) := by decide +kernel
theorem dX9_mates_5 : decode cX9_mates 5 = .ok (.ifCond .eq 11, 3) := by decide +kernel
theorem dX9_mates_8 : decode cX9_mates 8 = .ok (.aload_n 0, 1) := by decide +kernel
theorem dX9_mates_9 : decode cX9_mates 9 = .ok (.iload_n 1, 1) := by decide +kernel
theorem dX9_mates_10 : decode cX9_mates 10 = .ok (.invokevirtual 103, 3) := by decide +kernel
theorem dX9_mates_13 : decode cX9_mates 13 = .ok (.ifCond .ne 6, 3) := by decide +kernel
theorem dX9_mates_16 : decode cX9_mates 16 = .ok (.bipush (-2), 2) := by decide +kernel
theorem dX9_mates_18 : decode cX9_mates 18 = .ok (.ireturn, 1) := by decide +kernel
theorem dX9_mates_19 : decode cX9_mates 19 = .ok (.aload_n 0, 1) := by decide +kernel
theorem dX9_mates_20 : decode cX9_mates 20 = .ok (.iload_n 1, 1) := by decide +kernel
theorem dX9_mates_21 : decode cX9_mates 21 = .ok (.iload_n 2, 1) := by decide +kernel
theorem dX9_mates_22 : decode cX9_mates 22 = .ok (.invokevirtual 261, 3) := by decide +kernel
theorem dX9_mates_25 : decode cX9_mates 25 = .ok (.istore_n 3, 1) := by decide +kernel
theorem dX9_mates_26 : decode cX9_mates 26 = .ok (.iconst 1, 1) := by decide +kernel
theorem dX9_mates_27 : decode cX9_mates 27 = .ok (.aload_n 0, 1) := by decide +kernel
theorem dX9_mates_28 : decode cX9_mates 28 = .ok (.iload_n 3, 1) := by decide +kernel
theorem dX9_mates_29 : decode cX9_mates 29 = .ok (.iconst 1, 1) := by decide +kernel
theorem dX9_mates_30 : decode cX9_mates 30 = .ok (.iadd, 1) := by decide +kernel
theorem dX9_mates_31 : decode cX9_mates 31 = .ok (.aload_n 0, 1) := by decide +kernel
theorem dX9_mates_32 : decode cX9_mates 32 = .ok (.invokevirtual 100, 3) := by decide +kernel
theorem dX9_mates_35 : decode cX9_mates 35 = .ok (.invokestatic 258, 3) := by decide +kernel
theorem dX9_mates_38 : decode cX9_mates 38 = .ok (.iload_n 2, 1) := by decide +kernel
theorem dX9_mates_39 : decode cX9_mates 39 = .ok (.invokevirtual 295, 3) := by decide +kernel
theorem dX9_mates_42 : decode cX9_mates 42 = .ok (.ishl, 1) := by decide +kernel
theorem dX9_mates_43 : decode cX9_mates 43 = .ok (.iconst 1, 1) := by decide +kernel
theorem dX9_mates_44 : decode cX9_mates 44 = .ok (.aload_n 0, 1) := by decide +kernel
theorem dX9_mates_45 : decode cX9_mates 45 = .ok (.iload_n 3, 1) := by decide +kernel
theorem dX9_mates_46 : decode cX9_mates 46 = .ok (.iconst 1, 1) := by decide +kernel
theorem dX9_mates_47 : decode cX9_mates 47 = .ok (.isub, 1) := by decide +kernel
theorem dX9_mates_48 : decode cX9_mates 48 = .ok (.aload_n 0, 1) := by decide +kernel
theorem dX9_mates_49 : decode cX9_mates 49 = .ok (.invokevirtual 100, 3) := by decide +kernel
theorem dX9_mates_52 : decode cX9_mates 52 = .ok (.invokestatic 258, 3) := by decide +kernel
theorem dX9_mates_55 : decode cX9_mates 55 = .ok (.iload_n 2, 1) := by decide +kernel
theorem dX9_mates_56 : decode cX9_mates 56 = .ok (.invokevirtual 295, 3) := by decide +kernel
theorem dX9_mates_59 : decode cX9_mates 59 = .ok (.ishl, 1) := by decide +kernel
theorem dX9_mates_60 : decode cX9_mates 60 = .ok (.ior, 1) := by decide +kernel
theorem dX9_mates_61 : decode cX9_mates 61 = .ok (.ireturn, 1) := by decide +kernel
theorem dX9_view_0 : decode cX9_view 0 = .ok (.aload_n 0, 1) := by decide +kernel
theorem dX9_view_1 : decode cX9_view 1 = .ok (.iload_n 2, 1) := by decide +kernel
theorem dX9_view_2 : decode cX9_view 2 = .ok (.invokevirtual 292, 3) := by decide +kernel
theorem dX9_view_5 : decode cX9_view 5 = .ok (.ifCond .eq 39, 3) := by decide +kernel
theorem dX9_view_8 : decode cX9_view 8 = .ok (.aload_n 0, 1) := by decide +kernel
theorem dX9_view_9 : decode cX9_view 9 = .ok (.iload_n 1, 1) := by decide +kernel
theorem dX9_view_10 : decode cX9_view 10 = .ok (.invokevirtual 103, 3) := by decide +kernel
theorem dX9_view_13 : decode cX9_view 13 = .ok (.ifCond .eq 31, 3) := by decide +kernel
theorem dX9_view_16 : decode cX9_view 16 = .ok (.aload_n 0, 1) := by decide +kernel
theorem dX9_view_17 : decode cX9_view 17 = .ok (.aload_n 0, 1) := by decide +kernel
theorem dX9_view_18 : decode cX9_view 18 = .ok (.iload_n 1, 1) := by decide +kernel
theorem dX9_view_19 : decode cX9_view 19 = .ok (.iload_n 2, 1) := by decide +kernel
theorem dX9_view_20 : decode cX9_view 20 = .ok (.invokevirtual 261, 3) := by decide +kernel
theorem dX9_view_23 : decode cX9_view 23 = .ok (.aload_n 0, 1) := by decide +kernel
theorem dX9_view_24 : decode cX9_view 24 = .ok (.invokevirtual 100, 3) := by decide +kernel
theorem dX9_view_27 : decode cX9_view 27 = .ok (.iconst 2, 1) := by decide +kernel
theorem dX9_view_28 : decode cX9_view 28 = .ok (.idiv, 1) := by decide +kernel
theorem dX9_view_29 : decode cX9_view 29 = .ok (.iadd, 1) := by decide +kernel
theorem dX9_view_30 : decode cX9_view 30 = .ok (.aload_n 0, 1) := by decide +kernel
theorem dX9_view_31 : decode cX9_view 31 = .ok (.invokevirtual 100, 3) := by decide +kernel
theorem dX9_view_34 : decode cX9_view 34 = .ok (.invokestatic 258, 3) := by decide +kernel
theorem dX9_view_37 : decode cX9_view 37 = .ok (.iload_n 2, 1) := by decide +kernel
theorem dX9_view_38 : decode cX9_view 38 = .ok (.invokevirtual 295, 3) := by decide +kernel
theorem dX9_view_41 : decode cX9_view 41 = .ok (.goto 5, 3) := by decide +kernel
theorem dX9_view_44 : decode cX9_view 44 = .ok (.bipush (-2), 2) := by decide +kernel
theorem dX9_view_46 : decode cX9_view 46 = .ok (.ireturn, 1) := by decide +kernel
theorem dX9_best_0 : decode cX9_best 0 = .ok (.aload_n 0, 1) := by decide +kernel
theorem dX9_best_1 : decode cX9_best 1 = .ok (.iload_n 1, 1) := by decide +kernel
theorem dX9_best_2 : decode cX9_best 2 = .ok (.invokevirtual 307, 3) := by decide +kernel
theorem dX9_best_5 : decode cX9_best 5 = .ok (.ifCond .ne 6, 3) := by decide +kernel
theorem dX9_best_8 : decode cX9_best 8 = .ok (.bipush (-2), 2) := by decide +kernel
theorem dX9_best_10 : decode cX9_best 10 = .ok (.ireturn, 1) := by decide +kernel
theorem dX9_best_11 : decode cX9_best 11 = .ok (.iconst 0, 1) := by decide +kernel
theorem dX9_best_12 : decode cX9_best 12 = .ok (.istore_n 2, 1) := by decide +kernel
theorem dX9_best_13 : decode cX9_best 13 = .ok (.iconst 1, 1) := by decide +kernel
theorem dX9_best_14 : decode cX9_best 14 = .ok (.istore_n 3, 1) := by decide +kernel
theorem dX9_best_15 : decode cX9_best 15 = .ok (.iload_n 3, 1) := by decide +kernel
theorem dX9_best_16 : decode cX9_best 16 = .ok (.aload_n 0, 1) := by decide +kernel
theorem dX9_best_17 : decode cX9_best 17 = .ok (.invokevirtual 96, 3) := by decide +kernel
theorem dX9_best_20 : decode cX9_best 20 = .ok (.if_icmp .gt 40, 3) := by decide +kernel
theorem dX9_best_23 : decode cX9_best 23 = .ok (.aload_n 0, 1) := by decide +kernel
theorem dX9_best_24 : decode cX9_best 24 = .ok (.getfield 34, 3) := by decide +kernel
theorem dX9_best_27 : decode cX9_best 27 = .ok (.aload_n 0, 1) := by decide +kernel
theorem dX9_best_28 : decode cX9_best 28 = .ok (.iload_n 1, 1) := by decide +kernel
theorem dX9_best_29 : decode cX9_best 29 = .ok (.iload_n 3, 1) := by decide +kernel
theorem dX9_best_30 : decode cX9_best 30 = .ok (.invokevirtual 261, 3) := by decide +kernel
theorem dX9_best_33 : decode cX9_best 33 = .ok (.iaload, 1) := by decide +kernel
theorem dX9_best_34 : decode cX9_best 34 = .ok (.aload_n 0, 1) := by decide +kernel
theorem dX9_best_35 : decode cX9_best 35 = .ok (.getfield 34, 3) := by decide +kernel
theorem dX9_best_38 : decode cX9_best 38 = .ok (.aload_n 0, 1) := by decide +kernel
theorem dX9_best_39 : decode cX9_best 39 = .ok (.iload_n 1, 1) := by decide +kernel
theorem dX9_best_40 : decode cX9_best 40 = .ok (.iload_n 2, 1) := by decide +kernel
theorem dX9_best_41 : decode cX9_best 41 = .ok (.invokevirtual 261, 3) := by decide +kernel
theorem dX9_best_44 : decode cX9_best 44 = .ok (.iaload, 1) := by decide +kernel
theorem dX9_best_45 : decode cX9_best 45 = .ok (.if_icmp .le 7, 3) := by decide +kernel
theorem dX9_best_48 : decode cX9_best 48 = .ok (.iload_n 3, 1) := by decide +kernel
theorem dX9_best_49 : decode cX9_best 49 = .ok (.goto 4, 3) := by decide +kernel
theorem dX9_best_52 : decode cX9_best 52 = .ok (.iload_n 2, 1) := by decide +kernel
theorem dX9_best_53 : decode cX9_best 53 = .ok (.istore_n 2, 1) := by decide +kernel
theorem dX9_best_54 : decode cX9_best 54 = .ok (.iinc 3 1, 3) := by decide +kernel
theorem dX9_best_57 : decode cX9_best 57 = .ok (.goto (-42), 3) := by decide +kernel
theorem dX9_best_60 : decode cX9_best 60 = .ok (.iload_n 2, 1) := by decide +kernel
theorem dX9_best_61 : decode cX9_best 61 = .ok (.ireturn, 1) := by decide +kernel
theorem dX9_sweet_0 : decode cX9_sweet 0 = .ok (.aload_n 0, 1) := by decide +kernel
theorem dX9_sweet_1 : decode cX9_sweet 1 = .ok (.iload_n 1, 1) := by decide +kernel
theorem dX9_sweet_2 : decode cX9_sweet 2 = .ok (.invokevirtual 307, 3) := by decide +kernel
theorem dX9_sweet_5 : decode cX9_sweet 5 = .ok (.ifCond .ne 6, 3) := by decide +kernel
theorem dX9_sweet_8 : decode cX9_sweet 8 = .ok (.bipush (-2), 2) := by decide +kernel
theorem dX9_sweet_10 : decode cX9_sweet 10 = .ok (.ireturn, 1) := by decide +kernel
theorem dX9_sweet_11 : decode cX9_sweet 11 = .ok (.iconst 0, 1) := by decide +kernel
theorem dX9_sweet_12 : decode cX9_sweet 12 = .ok (.istore_n 2, 1) := by decide +kernel
theorem dX9_sweet_13 : decode cX9_sweet 13 = .ok (.iconst 0, 1) := by decide +kernel
theorem dX9_sweet_14 : decode cX9_sweet 14 = .ok (.istore_n 3, 1) := by decide +kernel
theorem dX9_sweet_15 : decode cX9_sweet 15 = .ok (.iload_n 3, 1) := by decide +kernel
theorem dX9_sweet_16 : decode cX9_sweet 16 = .ok (.aload_n 0, 1) := by decide +kernel
theorem dX9_sweet_17 : decode cX9_sweet 17 = .ok (.invokevirtual 96, 3) := by decide +kernel
theorem dX9_sweet_20 : decode cX9_sweet 20 = .ok (.if_icmp .gt 42, 3) := by decide +kernel
theorem dX9_sweet_23 : decode cX9_sweet 23 = .ok (.iload_n 2, 1) := by decide +kernel
theorem dX9_sweet_24 : decode cX9_sweet 24 = .ok (.aload_n 0, 1) := by decide +kernel
theorem dX9_sweet_25 : decode cX9_sweet 25 = .ok (.getfield 34, 3) := by decide +kernel
theorem dX9_sweet_28 : decode cX9_sweet 28 = .ok (.aload_n 0, 1) := by decide +kernel
theorem dX9_sweet_29 : decode cX9_sweet 29 = .ok (.iload_n 1, 1) := by decide +kernel
theorem dX9_sweet_30 : decode cX9_sweet 30 = .ok (.iload_n 3, 1) := by decide +kernel
theorem dX9_sweet_31 : decode cX9_sweet 31 = .ok (.invokevirtual 261, 3) := by decide +kernel
theorem dX9_sweet_34 : decode cX9_sweet 34 = .ok (.iaload, 1) := by decide +kernel
theorem dX9_sweet_35 : decode cX9_sweet 35 = .ok (.aload_n 0, 1) := by decide +kernel
theorem dX9_sweet_36 : decode cX9_sweet 36 = .ok (.getfield 37, 3) := by decide +kernel
theorem dX9_sweet_39 : decode cX9_sweet 39 = .ok (.aload_n 0, 1) := by decide +kernel
theorem dX9_sweet_40 : decode cX9_sweet 40 = .ok (.iload_n 1, 1) := by decide +kernel
theorem dX9_sweet_41 : decode cX9_sweet 41 = .ok (.iload_n 3, 1) := by decide +kernel
theorem dX9_sweet_42 : decode cX9_sweet 42 = .ok (.invokevirtual 261, 3) := by decide +kernel
theorem dX9_sweet_45 : decode cX9_sweet 45 = .ok (.iaload, 1) := by decide +kernel
theorem dX9_sweet_46 : decode cX9_sweet 46 = .ok (.if_icmp .le 7, 3) := by decide +kernel
theorem dX9_sweet_49 : decode cX9_sweet 49 = .ok (.iconst 1, 1) := by decide +kernel
theorem dX9_sweet_50 : decode cX9_sweet 50 = .ok (.goto 4, 3) := by decide +kernel
theorem dX9_sweet_53 : decode cX9_sweet 53 = .ok (.iconst 0, 1) := by decide +kernel
theorem dX9_sweet_54 : decode cX9_sweet 54 = .ok (.iadd, 1) := by decide +kernel
theorem dX9_sweet_55 : decode cX9_sweet 55 = .ok (.istore_n 2, 1) := by decide +kernel
theorem dX9_sweet_56 : decode cX9_sweet 56 = .ok (.iinc 3 1, 3) := by decide +kernel
theorem dX9_sweet_59 : decode cX9_sweet 59 = .ok (.goto (-44), 3) := by decide +kernel
theorem dX9_sweet_62 : decode cX9_sweet 62 = .ok (.iload_n 2, 1) := by decide +kernel
theorem dX9_sweet_63 : decode cX9_sweet 63 = .ok (.ireturn, 1) := by decide +kernel
theorem dX9_last_0 : decode cX9_last 0 = .ok (.aload_n 0, 1) := by decide +kernel
theorem dX9_last_1 : decode cX9_last 1 = .ok (.iload_n 1, 1) := by decide +kernel
theorem dX9_last_2 : decode cX9_last 2 = .ok (.invokevirtual 307, 3) := by decide +kernel
theorem dX9_last_5 : decode cX9_last 5 = .ok (.ifCond .ne 6, 3) := by decide +kernel
theorem dX9_last_8 : decode cX9_last 8 = .ok (.bipush (-2), 2) := by decide +kernel
theorem dX9_last_10 : decode cX9_last 10 = .ok (.ireturn, 1) := by decide +kernel
theorem dX9_last_11 : decode cX9_last 11 = .ok (.aload_n 0, 1) := by decide +kernel
theorem dX9_last_12 : decode cX9_last 12 = .ok (.invokevirtual 96, 3) := by decide +kernel
theorem dX9_last_15 : decode cX9_last 15 = .ok (.istore_n 2, 1) := by decide +kernel
theorem dX9_last_16 : decode cX9_last 16 = .ok (.aload_n 0, 1) := by decide +kernel
theorem dX9_last_17 : decode cX9_last 17 = .ok (.iload_n 1, 1) := by decide +kernel
theorem dX9_last_18 : decode cX9_last 18 = .ok (.iload_n 2, 1) := by decide +kernel
theorem dX9_last_19 : decode cX9_last 19 = .ok (.invokevirtual 261, 3) := by decide +kernel
theorem dX9_last_22 : decode cX9_last 22 = .ok (.aload_n 0, 1) := by decide +kernel
theorem dX9_last_23 : decode cX9_last 23 = .ok (.iload_n 1, 1) := by decide +kernel
theorem dX9_last_24 : decode cX9_last 24 = .ok (.iconst 0, 1) := by decide +kernel
theorem dX9_last_25 : decode cX9_last 25 = .ok (.invokevirtual 261, 3) := by decide +kernel
theorem dX9_last_28 : decode cX9_last 28 = .ok (.if_icmp .eq 9, 3) := by decide +kernel
theorem dX9_last_31 : decode cX9_last 31 = .ok (.iinc 2 (-1), 3) := by decide +kernel
theorem dX9_last_34 : decode cX9_last 34 = .ok (.goto (-18), 3) := by decide +kernel
theorem dX9_last_37 : decode cX9_last 37 = .ok (.iload_n 2, 1) := by decide +kernel
theorem dX9_last_38 : decode cX9_last 38 = .ok (.ireturn, 1) := by decide +kernel
theorem dX9_same_0 : decode cX9_same 0 = .ok (.aload_n 0, 1) := by decide +kernel
theorem dX9_same_1 : decode cX9_same 1 = .ok (.iload_n 1, 1) := by decide +kernel
theorem dX9_same_2 : decode cX9_same 2 = .ok (.invokevirtual 292, 3) := by decide +kernel
theorem dX9_same_5 : decode cX9_same 5 = .ok (.ifCond .eq 11, 3) := by decide +kernel
theorem dX9_same_8 : decode cX9_same 8 = .ok (.aload_n 0, 1) := by decide +kernel
theorem dX9_same_9 : decode cX9_same 9 = .ok (.iload_n 1, 1) := by decide +kernel
theorem dX9_same_10 : decode cX9_same 10 = .ok (.invokevirtual 325, 3) := by decide +kernel
theorem dX9_same_13 : decode cX9_same 13 = .ok (.goto 5, 3) := by decide +kernel
theorem dX9_same_16 : decode cX9_same 16 = .ok (.bipush (-2), 2) := by decide +kernel
theorem dX9_same_18 : decode cX9_same 18 = .ok (.ireturn, 1) := by decide +kernel
theorem dX9_loose_0 : decode cX9_loose 0 = .ok (.aload_n 0, 1) := by decide +kernel
theorem dX9_loose_1 : decode cX9_loose 1 = .ok (.invokevirtual 283, 3) := by decide +kernel
theorem dX9_loose_4 : decode cX9_loose 4 = .ok (.pop, 1) := by decide +kernel
theorem dX9_loose_5 : decode cX9_loose 5 = .ok (.aload_n 0, 1) := by decide +kernel
theorem dX9_loose_6 : decode cX9_loose 6 = .ok (.iload_n 1, 1) := by decide +kernel
theorem dX9_loose_7 : decode cX9_loose 7 = .ok (.i2l, 1) := by decide +kernel
theorem dX9_loose_8 : decode cX9_loose 8 = .ok (.invokevirtual 254, 3) := by decide +kernel
theorem dX9_loose_11 : decode cX9_loose 11 = .ok (.ifCond .ne 6, 3) := by decide +kernel
theorem dX9_loose_14 : decode cX9_loose 14 = .ok (.bipush (-2), 2) := by decide +kernel
theorem dX9_loose_16 : decode cX9_loose 16 = .ok (.ireturn, 1) := by decide +kernel
theorem dX9_loose_17 : decode cX9_loose 17 = .ok (.iconst 0, 1) := by decide +kernel
theorem dX9_loose_18 : decode cX9_loose 18 = .ok (.istore_n 2, 1) := by decide +kernel
theorem dX9_loose_19 : decode cX9_loose 19 = .ok (.iconst 0, 1) := by decide +kernel
theorem dX9_loose_20 : decode cX9_loose 20 = .ok (.istore_n 3, 1) := by decide +kernel
theorem dX9_loose_21 : decode cX9_loose 21 = .ok (.iload_n 3, 1) := by decide +kernel
theorem dX9_loose_22 : decode cX9_loose 22 = .ok (.aload_n 0, 1) := by decide +kernel
theorem dX9_loose_23 : decode cX9_loose 23 = .ok (.invokevirtual 96, 3) := by decide +kernel
theorem dX9_loose_26 : decode cX9_loose 26 = .ok (.if_icmp .ge 33, 3) := by decide +kernel
theorem dX9_loose_29 : decode cX9_loose 29 = .ok (.iload_n 2, 1) := by decide +kernel
theorem dX9_loose_30 : decode cX9_loose 30 = .ok (.aload_n 0, 1) := by decide +kernel
theorem dX9_loose_31 : decode cX9_loose 31 = .ok (.aload_n 0, 1) := by decide +kernel
theorem dX9_loose_32 : decode cX9_loose 32 = .ok (.iload_n 1, 1) := by decide +kernel
theorem dX9_loose_33 : decode cX9_loose 33 = .ok (.iload_n 3, 1) := by decide +kernel
theorem dX9_loose_34 : decode cX9_loose 34 = .ok (.invokevirtual 295, 3) := by decide +kernel
theorem dX9_loose_37 : decode cX9_loose 37 = .ok (.iload_n 3, 1) := by decide +kernel
theorem dX9_loose_38 : decode cX9_loose 38 = .ok (.invokevirtual 301, 3) := by decide +kernel
theorem dX9_loose_41 : decode cX9_loose 41 = .ok (.ifCond .ne 9, 3) := by decide +kernel
theorem dX9_loose_44 : decode cX9_loose 44 = .ok (.iconst 1, 1) := by decide +kernel
theorem dX9_loose_45 : decode cX9_loose 45 = .ok (.iload_n 3, 1) := by decide +kernel
theorem dX9_loose_46 : decode cX9_loose 46 = .ok (.ishl, 1) := by decide +kernel
theorem dX9_loose_47 : decode cX9_loose 47 = .ok (.goto 4, 3) := by decide +kernel
theorem dX9_loose_50 : decode cX9_loose 50 = .ok (.iconst 0, 1) := by decide +kernel
theorem dX9_loose_51 : decode cX9_loose 51 = .ok (.ior, 1) := by decide +kernel
theorem dX9_loose_52 : decode cX9_loose 52 = .ok (.istore_n 2, 1) := by decide +kernel
theorem dX9_loose_53 : decode cX9_loose 53 = .ok (.iinc 3 1, 3) := by decide +kernel
theorem dX9_loose_56 : decode cX9_loose 56 = .ok (.goto (-35), 3) := by decide +kernel
theorem dX9_loose_59 : decode cX9_loose 59 = .ok (.iload_n 2, 1) := by decide +kernel
theorem dX9_loose_60 : decode cX9_loose 60 = .ok (.ireturn, 1) := by decide +kernel
theorem dX9_gold_0 : decode cX9_gold 0 = .ok (.aload_n 0, 1) := by decide +kernel
theorem dX9_gold_1 : decode cX9_gold 1 = .ok (.invokevirtual 283, 3) := by decide +kernel
theorem dX9_gold_4 : decode cX9_gold 4 = .ok (.ifCond .ne 6, 3) := by decide +kernel
theorem dX9_gold_7 : decode cX9_gold 7 = .ok (.bipush (-2), 2) := by decide +kernel
theorem dX9_gold_9 : decode cX9_gold 9 = .ok (.ireturn, 1) := by decide +kernel
theorem dX9_gold_10 : decode cX9_gold 10 = .ok (.iconst 0, 1) := by decide +kernel
theorem dX9_gold_11 : decode cX9_gold 11 = .ok (.istore_n 1, 1) := by decide +kernel
theorem dX9_gold_12 : decode cX9_gold 12 = .ok (.iconst 0, 1) := by decide +kernel
theorem dX9_gold_13 : decode cX9_gold 13 = .ok (.istore_n 2, 1) := by decide +kernel
theorem dX9_gold_14 : decode cX9_gold 14 = .ok (.iload_n 2, 1) := by decide +kernel
theorem dX9_gold_15 : decode cX9_gold 15 = .ok (.aload_n 0, 1) := by decide +kernel
theorem dX9_gold_16 : decode cX9_gold 16 = .ok (.invokevirtual 100, 3) := by decide +kernel
theorem dX9_gold_19 : decode cX9_gold 19 = .ok (.if_icmp .ge 35, 3) := by decide +kernel
theorem dX9_gold_22 : decode cX9_gold 22 = .ok (.iload_n 1, 1) := by decide +kernel
theorem dX9_gold_23 : decode cX9_gold 23 = .ok (.aload_n 0, 1) := by decide +kernel
theorem dX9_gold_24 : decode cX9_gold 24 = .ok (.iload_n 2, 1) := by decide +kernel
theorem dX9_gold_25 : decode cX9_gold 25 = .ok (.invokevirtual 313, 3) := by decide +kernel
theorem dX9_gold_28 : decode cX9_gold 28 = .ok (.aload_n 0, 1) := by decide +kernel
theorem dX9_gold_29 : decode cX9_gold 29 = .ok (.aload_n 0, 1) := by decide +kernel
theorem dX9_gold_30 : decode cX9_gold 30 = .ok (.invokevirtual 316, 3) := by decide +kernel
theorem dX9_gold_33 : decode cX9_gold 33 = .ok (.invokevirtual 313, 3) := by decide +kernel
theorem dX9_gold_36 : decode cX9_gold 36 = .ok (.if_icmp .ne 9, 3) := by decide +kernel
theorem dX9_gold_39 : decode cX9_gold 39 = .ok (.iconst 1, 1) := by decide +kernel
theorem dX9_gold_40 : decode cX9_gold 40 = .ok (.iload_n 2, 1) := by decide +kernel
theorem dX9_gold_41 : decode cX9_gold 41 = .ok (.ishl, 1) := by decide +kernel
theorem dX9_gold_42 : decode cX9_gold 42 = .ok (.goto 4, 3) := by decide +kernel
theorem dX9_gold_45 : decode cX9_gold 45 = .ok (.iconst 0, 1) := by decide +kernel
theorem dX9_gold_46 : decode cX9_gold 46 = .ok (.ior, 1) := by decide +kernel
theorem dX9_gold_47 : decode cX9_gold 47 = .ok (.istore_n 1, 1) := by decide +kernel
theorem dX9_gold_48 : decode cX9_gold 48 = .ok (.iinc 2 1, 3) := by decide +kernel
theorem dX9_gold_51 : decode cX9_gold 51 = .ok (.goto (-37), 3) := by decide +kernel
theorem dX9_gold_54 : decode cX9_gold 54 = .ok (.iload_n 1, 1) := by decide +kernel
theorem dX9_gold_55 : decode cX9_gold 55 = .ok (.ireturn, 1) := by decide +kernel
theorem dX9_isRight_0 : decode cX9_isRight 0 = .ok (.aload_n 0, 1) := by decide +kernel
theorem dX9_isRight_1 : decode cX9_isRight 1 = .ok (.aload_n 0, 1) := by decide +kernel
theorem dX9_isRight_2 : decode cX9_isRight 2 = .ok (.iload_n 1, 1) := by decide +kernel
theorem dX9_isRight_3 : decode cX9_isRight 3 = .ok (.iconst 2, 1) := by decide +kernel
theorem dX9_isRight_4 : decode cX9_isRight 4 = .ok (.invokevirtual 227, 3) := by decide +kernel
theorem dX9_isRight_7 : decode cX9_isRight 7 = .ok (.i2l, 1) := by decide +kernel
theorem dX9_isRight_8 : decode cX9_isRight 8 = .ok (.invokevirtual 286, 3) := by decide +kernel
theorem dX9_isRight_11 : decode cX9_isRight 11 = .ok (.ifCond .eq 32, 3) := by decide +kernel
theorem dX9_isRight_14 : decode cX9_isRight 14 = .ok (.aload_n 0, 1) := by decide +kernel
theorem dX9_isRight_15 : decode cX9_isRight 15 = .ok (.aload_n 0, 1) := by decide +kernel
theorem dX9_isRight_16 : decode cX9_isRight 16 = .ok (.iload_n 1, 1) := by decide +kernel
theorem dX9_isRight_17 : decode cX9_isRight 17 = .ok (.iconst 0, 1) := by decide +kernel
theorem dX9_isRight_18 : decode cX9_isRight 18 = .ok (.invokevirtual 227, 3) := by decide +kernel
theorem dX9_isRight_21 : decode cX9_isRight 21 = .ok (.aload_n 0, 1) := by decide +kernel
theorem dX9_isRight_22 : decode cX9_isRight 22 = .ok (.iload_n 1, 1) := by decide +kernel
theorem dX9_isRight_23 : decode cX9_isRight 23 = .ok (.iconst 2, 1) := by decide +kernel
theorem dX9_isRight_24 : decode cX9_isRight 24 = .ok (.invokevirtual 227, 3) := by decide +kernel
theorem dX9_isRight_27 : decode cX9_isRight 27 = .ok (.invokevirtual 261, 3) := by decide +kernel
theorem dX9_isRight_30 : decode cX9_isRight 30 = .ok (.aload_n 0, 1) := by decide +kernel
theorem dX9_isRight_31 : decode cX9_isRight 31 = .ok (.iload_n 1, 1) := by decide +kernel
theorem dX9_isRight_32 : decode cX9_isRight 32 = .ok (.iconst 1, 1) := by decide +kernel
theorem dX9_isRight_33 : decode cX9_isRight 33 = .ok (.invokevirtual 227, 3) := by decide +kernel
theorem dX9_isRight_36 : decode cX9_isRight 36 = .ok (.if_icmp .ne 7, 3) := by decide +kernel
theorem dX9_isRight_39 : decode cX9_isRight 39 = .ok (.iconst 1, 1) := by decide +kernel
theorem dX9_isRight_40 : decode cX9_isRight 40 = .ok (.goto 4, 3) := by decide +kernel
theorem dX9_isRight_43 : decode cX9_isRight 43 = .ok (.iconst 0, 1) := by decide +kernel
theorem dX9_isRight_44 : decode cX9_isRight 44 = .ok (.ireturn, 1) := by decide +kernel
theorem dX9_rightSet_0 : decode cX9_rightSet 0 = .ok (.iconst 0, 1) := by decide +kernel
theorem dX9_rightSet_1 : decode cX9_rightSet 1 = .ok (.istore_n 1, 1) := by decide +kernel
theorem dX9_rightSet_2 : decode cX9_rightSet 2 = .ok (.iconst 0, 1) := by decide +kernel
theorem dX9_rightSet_3 : decode cX9_rightSet 3 = .ok (.istore_n 2, 1) := by decide +kernel
theorem dX9_rightSet_4 : decode cX9_rightSet 4 = .ok (.iload_n 2, 1) := by decide +kernel
theorem dX9_rightSet_5 : decode cX9_rightSet 5 = .ok (.aload_n 0, 1) := by decide +kernel
theorem dX9_rightSet_6 : decode cX9_rightSet 6 = .ok (.getfield 9, 3) := by decide +kernel
theorem dX9_rightSet_9 : decode cX9_rightSet 9 = .ok (.bipush 7, 2) := by decide +kernel
theorem dX9_rightSet_11 : decode cX9_rightSet 11 = .ok (.iaload, 1) := by decide +kernel
theorem dX9_rightSet_12 : decode cX9_rightSet 12 = .ok (.if_icmp .ge 27, 3) := by decide +kernel
theorem dX9_rightSet_15 : decode cX9_rightSet 15 = .ok (.iload_n 1, 1) := by decide +kernel
theorem dX9_rightSet_16 : decode cX9_rightSet 16 = .ok (.aload_n 0, 1) := by decide +kernel
theorem dX9_rightSet_17 : decode cX9_rightSet 17 = .ok (.iload_n 2, 1) := by decide +kernel
theorem dX9_rightSet_18 : decode cX9_rightSet 18 = .ok (.invokevirtual 336, 3) := by decide +kernel
theorem dX9_rightSet_21 : decode cX9_rightSet 21 = .ok (.ifCond .eq 9, 3) := by decide +kernel
theorem dX9_rightSet_24 : decode cX9_rightSet 24 = .ok (.iconst 1, 1) := by decide +kernel
theorem dX9_rightSet_25 : decode cX9_rightSet 25 = .ok (.iload_n 2, 1) := by decide +kernel
theorem dX9_rightSet_26 : decode cX9_rightSet 26 = .ok (.ishl, 1) := by decide +kernel
theorem dX9_rightSet_27 : decode cX9_rightSet 27 = .ok (.goto 4, 3) := by decide +kernel
theorem dX9_rightSet_30 : decode cX9_rightSet 30 = .ok (.iconst 0, 1) := by decide +kernel
theorem dX9_rightSet_31 : decode cX9_rightSet 31 = .ok (.ior, 1) := by decide +kernel
theorem dX9_rightSet_32 : decode cX9_rightSet 32 = .ok (.istore_n 1, 1) := by decide +kernel
theorem dX9_rightSet_33 : decode cX9_rightSet 33 = .ok (.iinc 2 1, 3) := by decide +kernel
theorem dX9_rightSet_36 : decode cX9_rightSet 36 = .ok (.goto (-32), 3) := by decide +kernel
theorem dX9_rightSet_39 : decode cX9_rightSet 39 = .ok (.iload_n 1, 1) := by decide +kernel
theorem dX9_rightSet_40 : decode cX9_rightSet 40 = .ok (.ireturn, 1) := by decide +kernel
theorem dX9_right_0 : decode cX9_right 0 = .ok (.aload_n 0, 1) := by decide +kernel
theorem dX9_right_1 : decode cX9_right 1 = .ok (.invokevirtual 283, 3) := by decide +kernel
theorem dX9_right_4 : decode cX9_right 4 = .ok (.pop, 1) := by decide +kernel
theorem dX9_right_5 : decode cX9_right 5 = .ok (.aload_n 0, 1) := by decide +kernel
theorem dX9_right_6 : decode cX9_right 6 = .ok (.iload_n 1, 1) := by decide +kernel
theorem dX9_right_7 : decode cX9_right 7 = .ok (.invokevirtual 224, 3) := by decide +kernel
theorem dX9_right_10 : decode cX9_right 10 = .ok (.ifCond .eq 19, 3) := by decide +kernel
theorem dX9_right_13 : decode cX9_right 13 = .ok (.aload_n 0, 1) := by decide +kernel
theorem dX9_right_14 : decode cX9_right 14 = .ok (.iload_n 1, 1) := by decide +kernel
theorem dX9_right_15 : decode cX9_right 15 = .ok (.invokevirtual 336, 3) := by decide +kernel
theorem dX9_right_18 : decode cX9_right 18 = .ok (.ifCond .eq 7, 3) := by decide +kernel
theorem dX9_right_21 : decode cX9_right 21 = .ok (.iconst 1, 1) := by decide +kernel
theorem dX9_right_22 : decode cX9_right 22 = .ok (.goto 9, 3) := by decide +kernel
theorem dX9_right_25 : decode cX9_right 25 = .ok (.iconst 0, 1) := by decide +kernel
theorem dX9_right_26 : decode cX9_right 26 = .ok (.goto 5, 3) := by decide +kernel
theorem dX9_right_29 : decode cX9_right 29 = .ok (.bipush (-2), 2) := by decide +kernel
theorem dX9_right_31 : decode cX9_right 31 = .ok (.ireturn, 1) := by decide +kernel
theorem dX9_rights_0 : decode cX9_rights 0 = .ok (.aload_n 0, 1) := by decide +kernel
theorem dX9_rights_1 : decode cX9_rights 1 = .ok (.invokevirtual 283, 3) := by decide +kernel
theorem dX9_rights_4 : decode cX9_rights 4 = .ok (.ifCond .eq 10, 3) := by decide +kernel
theorem dX9_rights_7 : decode cX9_rights 7 = .ok (.aload_n 0, 1) := by decide +kernel
theorem dX9_rights_8 : decode cX9_rights 8 = .ok (.invokevirtual 339, 3) := by decide +kernel
theorem dX9_rights_11 : decode cX9_rights 11 = .ok (.goto 5, 3) := by decide +kernel
theorem dX9_rights_14 : decode cX9_rights 14 = .ok (.bipush (-2), 2) := by decide +kernel
theorem dX9_rights_16 : decode cX9_rights 16 = .ok (.ireturn, 1) := by decide +kernel
theorem dX9_wrong_0 : decode cX9_wrong 0 = .ok (.aload_n 0, 1) := by decide +kernel
theorem dX9_wrong_1 : decode cX9_wrong 1 = .ok (.invokevirtual 283, 3) := by decide +kernel
theorem dX9_wrong_4 : decode cX9_wrong 4 = .ok (.pop, 1) := by decide +kernel
theorem dX9_wrong_5 : decode cX9_wrong 5 = .ok (.aload_n 0, 1) := by decide +kernel
theorem dX9_wrong_6 : decode cX9_wrong 6 = .ok (.iload_n 1, 1) := by decide +kernel
theorem dX9_wrong_7 : decode cX9_wrong 7 = .ok (.invokevirtual 224, 3) := by decide +kernel
theorem dX9_wrong_10 : decode cX9_wrong 10 = .ok (.ifCond .ne 6, 3) := by decide +kernel
theorem dX9_wrong_13 : decode cX9_wrong 13 = .ok (.bipush (-2), 2) := by decide +kernel
theorem dX9_wrong_15 : decode cX9_wrong 15 = .ok (.ireturn, 1) := by decide +kernel
theorem dX9_wrong_16 : decode cX9_wrong 16 = .ok (.aload_n 0, 1) := by decide +kernel
theorem dX9_wrong_17 : decode cX9_wrong 17 = .ok (.iload_n 1, 1) := by decide +kernel
theorem dX9_wrong_18 : decode cX9_wrong 18 = .ok (.invokevirtual 336, 3) := by decide +kernel
theorem dX9_wrong_21 : decode cX9_wrong 21 = .ok (.ifCond .ne 17, 3) := by decide +kernel
theorem dX9_wrong_24 : decode cX9_wrong 24 = .ok (.aload_n 0, 1) := by decide +kernel
theorem dX9_wrong_25 : decode cX9_wrong 25 = .ok (.aload_n 0, 1) := by decide +kernel
theorem dX9_wrong_26 : decode cX9_wrong 26 = .ok (.iload_n 1, 1) := by decide +kernel
theorem dX9_wrong_27 : decode cX9_wrong 27 = .ok (.iconst 2, 1) := by decide +kernel
theorem dX9_wrong_28 : decode cX9_wrong 28 = .ok (.invokevirtual 227, 3) := by decide +kernel
theorem dX9_wrong_31 : decode cX9_wrong 31 = .ok (.i2l, 1) := by decide +kernel
theorem dX9_wrong_32 : decode cX9_wrong 32 = .ok (.invokevirtual 286, 3) := by decide +kernel
theorem dX9_wrong_35 : decode cX9_wrong 35 = .ok (.ifCond .ne 7, 3) := by decide +kernel
theorem dX9_wrong_38 : decode cX9_wrong 38 = .ok (.iconst (-1), 1) := by decide +kernel
theorem dX9_wrong_39 : decode cX9_wrong 39 = .ok (.goto 19, 3) := by decide +kernel
theorem dX9_wrong_42 : decode cX9_wrong 42 = .ok (.aload_n 0, 1) := by decide +kernel
theorem dX9_wrong_43 : decode cX9_wrong 43 = .ok (.aload_n 0, 1) := by decide +kernel
theorem dX9_wrong_44 : decode cX9_wrong 44 = .ok (.iload_n 1, 1) := by decide +kernel
theorem dX9_wrong_45 : decode cX9_wrong 45 = .ok (.iconst 1, 1) := by decide +kernel
theorem dX9_wrong_46 : decode cX9_wrong 46 = .ok (.invokevirtual 227, 3) := by decide +kernel
theorem dX9_wrong_49 : decode cX9_wrong 49 = .ok (.aload_n 0, 1) := by decide +kernel
theorem dX9_wrong_50 : decode cX9_wrong 50 = .ok (.iload_n 1, 1) := by decide +kernel
theorem dX9_wrong_51 : decode cX9_wrong 51 = .ok (.iconst 2, 1) := by decide +kernel
theorem dX9_wrong_52 : decode cX9_wrong 52 = .ok (.invokevirtual 227, 3) := by decide +kernel
theorem dX9_wrong_55 : decode cX9_wrong 55 = .ok (.invokevirtual 295, 3) := by decide +kernel
theorem dX9_wrong_58 : decode cX9_wrong 58 = .ok (.ireturn, 1) := by decide +kernel
theorem dX9_late_0 : decode cX9_late 0 = .ok (.aload_n 0, 1) := by decide +kernel
theorem dX9_late_1 : decode cX9_late 1 = .ok (.invokevirtual 283, 3) := by decide +kernel
theorem dX9_late_4 : decode cX9_late 4 = .ok (.pop, 1) := by decide +kernel
theorem dX9_late_5 : decode cX9_late 5 = .ok (.aload_n 0, 1) := by decide +kernel
theorem dX9_late_6 : decode cX9_late 6 = .ok (.iload_n 1, 1) := by decide +kernel
theorem dX9_late_7 : decode cX9_late 7 = .ok (.invokevirtual 224, 3) := by decide +kernel
theorem dX9_late_10 : decode cX9_late 10 = .ok (.ifCond .ne 6, 3) := by decide +kernel
theorem dX9_late_13 : decode cX9_late 13 = .ok (.bipush (-2), 2) := by decide +kernel
theorem dX9_late_15 : decode cX9_late 15 = .ok (.ireturn, 1) := by decide +kernel
theorem dX9_late_16 : decode cX9_late 16 = .ok (.aload_n 0, 1) := by decide +kernel
theorem dX9_late_17 : decode cX9_late 17 = .ok (.iload_n 1, 1) := by decide +kernel
theorem dX9_late_18 : decode cX9_late 18 = .ok (.iconst 2, 1) := by decide +kernel
theorem dX9_late_19 : decode cX9_late 19 = .ok (.invokevirtual 227, 3) := by decide +kernel
theorem dX9_late_22 : decode cX9_late 22 = .ok (.istore_n 2, 1) := by decide +kernel
theorem dX9_late_23 : decode cX9_late 23 = .ok (.iload_n 2, 1) := by decide +kernel
theorem dX9_late_24 : decode cX9_late 24 = .ok (.aload_n 0, 1) := by decide +kernel
theorem dX9_late_25 : decode cX9_late 25 = .ok (.invokevirtual 96, 3) := by decide +kernel
theorem dX9_late_28 : decode cX9_late 28 = .ok (.if_icmp .gt 31, 3) := by decide +kernel
theorem dX9_late_31 : decode cX9_late 31 = .ok (.aload_n 0, 1) := by decide +kernel
theorem dX9_late_32 : decode cX9_late 32 = .ok (.aload_n 0, 1) := by decide +kernel
theorem dX9_late_33 : decode cX9_late 33 = .ok (.iload_n 1, 1) := by decide +kernel
theorem dX9_late_34 : decode cX9_late 34 = .ok (.iconst 0, 1) := by decide +kernel
theorem dX9_late_35 : decode cX9_late 35 = .ok (.invokevirtual 227, 3) := by decide +kernel
theorem dX9_late_38 : decode cX9_late 38 = .ok (.iload_n 2, 1) := by decide +kernel
theorem dX9_late_39 : decode cX9_late 39 = .ok (.invokevirtual 261, 3) := by decide +kernel
theorem dX9_late_42 : decode cX9_late 42 = .ok (.aload_n 0, 1) := by decide +kernel
theorem dX9_late_43 : decode cX9_late 43 = .ok (.iload_n 1, 1) := by decide +kernel
theorem dX9_late_44 : decode cX9_late 44 = .ok (.iconst 1, 1) := by decide +kernel
theorem dX9_late_45 : decode cX9_late 45 = .ok (.invokevirtual 227, 3) := by decide +kernel
theorem dX9_late_48 : decode cX9_late 48 = .ok (.if_icmp .ne 5, 3) := by decide +kernel
theorem dX9_late_51 : decode cX9_late 51 = .ok (.iload_n 2, 1) := by decide +kernel
theorem dX9_late_52 : decode cX9_late 52 = .ok (.ireturn, 1) := by decide +kernel
theorem dX9_late_53 : decode cX9_late 53 = .ok (.iinc 2 1, 3) := by decide +kernel
theorem dX9_late_56 : decode cX9_late 56 = .ok (.goto (-33), 3) := by decide +kernel
theorem dX9_late_59 : decode cX9_late 59 = .ok (.iconst (-1), 1) := by decide +kernel
theorem dX9_late_60 : decode cX9_late 60 = .ok (.ireturn, 1) := by decide +kernel
theorem dX9_stayOf_0 : decode cX9_stayOf 0 = .ok (.iconst (-1), 1) := by decide +kernel
theorem dX9_stayOf_1 : decode cX9_stayOf 1 = .ok (.istore_n 3, 1) := by decide +kernel
theorem dX9_stayOf_2 : decode cX9_stayOf 2 = .ok (.iconst 0, 1) := by decide +kernel
theorem dX9_stayOf_3 : decode cX9_stayOf 3 = .ok (.istore 4, 2) := by decide +kernel
theorem dX9_stayOf_5 : decode cX9_stayOf 5 = .ok (.iload 4, 2) := by decide +kernel
theorem dX9_stayOf_7 : decode cX9_stayOf 7 = .ok (.iconst 1, 1) := by decide +kernel
theorem dX9_stayOf_8 : decode cX9_stayOf 8 = .ok (.aload_n 0, 1) := by decide +kernel
theorem dX9_stayOf_9 : decode cX9_stayOf 9 = .ok (.invokevirtual 100, 3) := by decide +kernel
theorem dX9_stayOf_12 : decode cX9_stayOf 12 = .ok (.ishl, 1) := by decide +kernel
theorem dX9_stayOf_13 : decode cX9_stayOf 13 = .ok (.if_icmp .ge 48, 3) := by decide +kernel
theorem dX9_stayOf_16 : decode cX9_stayOf 16 = .ok (.iload_n 3, 1) := by decide +kernel
theorem dX9_stayOf_17 : decode cX9_stayOf 17 = .ok (.iconst (-1), 1) := by decide +kernel
theorem dX9_stayOf_18 : decode cX9_stayOf 18 = .ok (.if_icmp .eq 18, 3) := by decide +kernel
theorem dX9_stayOf_21 : decode cX9_stayOf 21 = .ok (.iload 4, 2) := by decide +kernel
theorem dX9_stayOf_23 : decode cX9_stayOf 23 = .ok (.invokestatic 342, 3) := by decide +kernel
theorem dX9_stayOf_26 : decode cX9_stayOf 26 = .ok (.iload_n 3, 1) := by decide +kernel
theorem dX9_stayOf_27 : decode cX9_stayOf 27 = .ok (.invokestatic 342, 3) := by decide +kernel
theorem dX9_stayOf_30 : decode cX9_stayOf 30 = .ok (.if_icmp .lt 6, 3) := by decide +kernel
theorem dX9_stayOf_33 : decode cX9_stayOf 33 = .ok (.goto 22, 3) := by decide +kernel
theorem dX9_stayOf_36 : decode cX9_stayOf 36 = .ok (.aload_n 0, 1) := by decide +kernel
theorem dX9_stayOf_37 : decode cX9_stayOf 37 = .ok (.aload_n 0, 1) := by decide +kernel
theorem dX9_stayOf_38 : decode cX9_stayOf 38 = .ok (.iload_n 1, 1) := by decide +kernel
theorem dX9_stayOf_39 : decode cX9_stayOf 39 = .ok (.iload 4, 2) := by decide +kernel
theorem dX9_stayOf_41 : decode cX9_stayOf 41 = .ok (.invokevirtual 274, 3) := by decide +kernel
theorem dX9_stayOf_44 : decode cX9_stayOf 44 = .ok (.iload_n 1, 1) := by decide +kernel
theorem dX9_stayOf_45 : decode cX9_stayOf 45 = .ok (.invokevirtual 277, 3) := by decide +kernel
theorem dX9_stayOf_48 : decode cX9_stayOf 48 = .ok (.iload_n 2, 1) := by decide +kernel
theorem dX9_stayOf_49 : decode cX9_stayOf 49 = .ok (.if_icmp .ne 6, 3) := by decide +kernel
theorem dX9_stayOf_52 : decode cX9_stayOf 52 = .ok (.iload 4, 2) := by decide +kernel
theorem dX9_stayOf_54 : decode cX9_stayOf 54 = .ok (.istore_n 3, 1) := by decide +kernel
theorem dX9_stayOf_55 : decode cX9_stayOf 55 = .ok (.iinc 4 1, 3) := by decide +kernel
theorem dX9_stayOf_58 : decode cX9_stayOf 58 = .ok (.goto (-53), 3) := by decide +kernel
theorem dX9_stayOf_61 : decode cX9_stayOf 61 = .ok (.iload_n 3, 1) := by decide +kernel
theorem dX9_stayOf_62 : decode cX9_stayOf 62 = .ok (.ireturn, 1) := by decide +kernel
theorem dX9_stay_0 : decode cX9_stay 0 = .ok (.aload_n 0, 1) := by decide +kernel
theorem dX9_stay_1 : decode cX9_stay 1 = .ok (.iload_n 1, 1) := by decide +kernel
theorem dX9_stay_2 : decode cX9_stay 2 = .ok (.invokevirtual 298, 3) := by decide +kernel
theorem dX9_stay_5 : decode cX9_stay 5 = .ok (.ifCond .eq 17, 3) := by decide +kernel
theorem dX9_stay_8 : decode cX9_stay 8 = .ok (.iload_n 2, 1) := by decide +kernel
theorem dX9_stay_9 : decode cX9_stay 9 = .ok (.i2l, 1) := by decide +kernel
theorem dX9_stay_10 : decode cX9_stay 10 = .ok (.ldc2_w 345, 3) := by decide +kernel
theorem dX9_stay_13 : decode cX9_stay 13 = .ok (.ldc2_w 347, 3) := by decide +kernel
theorem dX9_stay_16 : decode cX9_stay 16 = .ok (.invokestatic 88, 3) := by decide +kernel
theorem dX9_stay_19 : decode cX9_stay 19 = .ok (.ifCond .ne 6, 3) := by decide +kernel
theorem dX9_stay_22 : decode cX9_stay 22 = .ok (.bipush (-2), 2) := by decide +kernel
theorem dX9_stay_24 : decode cX9_stay 24 = .ok (.ireturn, 1) := by decide +kernel
theorem dX9_stay_25 : decode cX9_stay 25 = .ok (.aload_n 0, 1) := by decide +kernel
theorem dX9_stay_26 : decode cX9_stay 26 = .ok (.iload_n 1, 1) := by decide +kernel
theorem dX9_stay_27 : decode cX9_stay 27 = .ok (.iload_n 2, 1) := by decide +kernel
theorem dX9_stay_28 : decode cX9_stay 28 = .ok (.invokevirtual 349, 3) := by decide +kernel
theorem dX9_stay_31 : decode cX9_stay 31 = .ok (.istore_n 3, 1) := by decide +kernel
theorem dX9_stay_32 : decode cX9_stay 32 = .ok (.iload_n 3, 1) := by decide +kernel
theorem dX9_stay_33 : decode cX9_stay 33 = .ok (.iconst (-1), 1) := by decide +kernel
theorem dX9_stay_34 : decode cX9_stay 34 = .ok (.if_icmp .ne 7, 3) := by decide +kernel
theorem dX9_stay_37 : decode cX9_stay 37 = .ok (.iconst (-1), 1) := by decide +kernel
theorem dX9_stay_38 : decode cX9_stay 38 = .ok (.goto 7, 3) := by decide +kernel
theorem dX9_stay_41 : decode cX9_stay 41 = .ok (.iload_n 3, 1) := by decide +kernel
theorem dX9_stay_42 : decode cX9_stay 42 = .ok (.invokestatic 342, 3) := by decide +kernel
theorem dX9_stay_45 : decode cX9_stay 45 = .ok (.ireturn, 1) := by decide +kernel
theorem dX9_stays_0 : decode cX9_stays 0 = .ok (.aload_n 0, 1) := by decide +kernel
theorem dX9_stays_1 : decode cX9_stays 1 = .ok (.iload_n 1, 1) := by decide +kernel
theorem dX9_stays_2 : decode cX9_stays 2 = .ok (.invokevirtual 298, 3) := by decide +kernel
theorem dX9_stays_5 : decode cX9_stays 5 = .ok (.ifCond .eq 26, 3) := by decide +kernel
theorem dX9_stays_8 : decode cX9_stays 8 = .ok (.iload_n 2, 1) := by decide +kernel
theorem dX9_stays_9 : decode cX9_stays 9 = .ok (.i2l, 1) := by decide +kernel
theorem dX9_stays_10 : decode cX9_stays 10 = .ok (.ldc2_w 345, 3) := by decide +kernel
theorem dX9_stays_13 : decode cX9_stays 13 = .ok (.ldc2_w 347, 3) := by decide +kernel
theorem dX9_stays_16 : decode cX9_stays 16 = .ok (.invokestatic 88, 3) := by decide +kernel
theorem dX9_stays_19 : decode cX9_stays 19 = .ok (.ifCond .eq 12, 3) := by decide +kernel
theorem dX9_stays_22 : decode cX9_stays 22 = .ok (.aload_n 0, 1) := by decide +kernel
theorem dX9_stays_23 : decode cX9_stays 23 = .ok (.iload_n 1, 1) := by decide +kernel
theorem dX9_stays_24 : decode cX9_stays 24 = .ok (.iload_n 2, 1) := by decide +kernel
theorem dX9_stays_25 : decode cX9_stays 25 = .ok (.invokevirtual 349, 3) := by decide +kernel
theorem dX9_stays_28 : decode cX9_stays 28 = .ok (.goto 5, 3) := by decide +kernel
theorem dX9_stays_31 : decode cX9_stays 31 = .ok (.bipush (-2), 2) := by decide +kernel
theorem dX9_stays_33 : decode cX9_stays 33 = .ok (.ireturn, 1) := by decide +kernel
theorem dX9_moves_0 : decode cX9_moves 0 = .ok (.aload_n 0, 1) := by decide +kernel
theorem dX9_moves_1 : decode cX9_moves 1 = .ok (.iload_n 1, 1) := by decide +kernel
theorem dX9_moves_2 : decode cX9_moves 2 = .ok (.invokevirtual 298, 3) := by decide +kernel
theorem dX9_moves_5 : decode cX9_moves 5 = .ok (.ifCond .ne 6, 3) := by decide +kernel
theorem dX9_moves_8 : decode cX9_moves 8 = .ok (.bipush (-2), 2) := by decide +kernel
theorem dX9_moves_10 : decode cX9_moves 10 = .ok (.ireturn, 1) := by decide +kernel
theorem dX9_moves_11 : decode cX9_moves 11 = .ok (.iconst 0, 1) := by decide +kernel
theorem dX9_moves_12 : decode cX9_moves 12 = .ok (.istore_n 2, 1) := by decide +kernel
theorem dX9_moves_13 : decode cX9_moves 13 = .ok (.iload_n 2, 1) := by decide +kernel
theorem dX9_moves_14 : decode cX9_moves 14 = .ok (.sipush 800, 3) := by decide +kernel
theorem dX9_moves_17 : decode cX9_moves 17 = .ok (.if_icmp .gt 16, 3) := by decide +kernel
theorem dX9_moves_20 : decode cX9_moves 20 = .ok (.aload_n 0, 1) := by decide +kernel
theorem dX9_moves_21 : decode cX9_moves 21 = .ok (.getfield 55, 3) := by decide +kernel
theorem dX9_moves_24 : decode cX9_moves 24 = .ok (.iload_n 2, 1) := by decide +kernel
theorem dX9_moves_25 : decode cX9_moves 25 = .ok (.iconst 0, 1) := by decide +kernel
theorem dX9_moves_26 : decode cX9_moves 26 = .ok (.bastore, 1) := by decide +kernel
theorem dX9_moves_27 : decode cX9_moves 27 = .ok (.iinc 2 1, 3) := by decide +kernel
theorem dX9_moves_30 : decode cX9_moves 30 = .ok (.goto (-17), 3) := by decide +kernel
theorem dX9_moves_33 : decode cX9_moves 33 = .ok (.iconst 0, 1) := by decide +kernel
theorem dX9_moves_34 : decode cX9_moves 34 = .ok (.istore_n 2, 1) := by decide +kernel
theorem dX9_moves_35 : decode cX9_moves 35 = .ok (.iconst 0, 1) := by decide +kernel
theorem dX9_moves_36 : decode cX9_moves 36 = .ok (.istore_n 3, 1) := by decide +kernel
theorem dX9_moves_37 : decode cX9_moves 37 = .ok (.iload_n 3, 1) := by decide +kernel
theorem dX9_moves_38 : decode cX9_moves 38 = .ok (.iconst 1, 1) := by decide +kernel
theorem dX9_moves_39 : decode cX9_moves 39 = .ok (.aload_n 0, 1) := by decide +kernel
theorem dX9_moves_40 : decode cX9_moves 40 = .ok (.invokevirtual 100, 3) := by decide +kernel
theorem dX9_moves_43 : decode cX9_moves 43 = .ok (.ishl, 1) := by decide +kernel
theorem dX9_moves_44 : decode cX9_moves 44 = .ok (.if_icmp .ge 52, 3) := by decide +kernel
theorem dX9_moves_47 : decode cX9_moves 47 = .ok (.sipush 400, 3) := by decide +kernel
theorem dX9_moves_50 : decode cX9_moves 50 = .ok (.aload_n 0, 1) := by decide +kernel
theorem dX9_moves_51 : decode cX9_moves 51 = .ok (.aload_n 0, 1) := by decide +kernel
theorem dX9_moves_52 : decode cX9_moves 52 = .ok (.iload_n 1, 1) := by decide +kernel
theorem dX9_moves_53 : decode cX9_moves 53 = .ok (.iload_n 3, 1) := by decide +kernel
theorem dX9_moves_54 : decode cX9_moves 54 = .ok (.invokevirtual 274, 3) := by decide +kernel
theorem dX9_moves_57 : decode cX9_moves 57 = .ok (.iload_n 1, 1) := by decide +kernel
theorem dX9_moves_58 : decode cX9_moves 58 = .ok (.invokevirtual 277, 3) := by decide +kernel
theorem dX9_moves_61 : decode cX9_moves 61 = .ok (.iadd, 1) := by decide +kernel
theorem dX9_moves_62 : decode cX9_moves 62 = .ok (.istore 4, 2) := by decide +kernel
theorem dX9_moves_64 : decode cX9_moves 64 = .ok (.iload_n 2, 1) := by decide +kernel
theorem dX9_moves_65 : decode cX9_moves 65 = .ok (.aload_n 0, 1) := by decide +kernel
theorem dX9_moves_66 : decode cX9_moves 66 = .ok (.getfield 55, 3) := by decide +kernel
theorem dX9_moves_69 : decode cX9_moves 69 = .ok (.iload 4, 2) := by decide +kernel
theorem dX9_moves_71 : decode cX9_moves 71 = .ok (.baload, 1) := by decide +kernel
theorem dX9_moves_72 : decode cX9_moves 72 = .ok (.ifCond .eq 7, 3) := by decide +kernel
theorem dX9_moves_75 : decode cX9_moves 75 = .ok (.iconst 0, 1) := by decide +kernel
theorem dX9_moves_76 : decode cX9_moves 76 = .ok (.goto 4, 3) := by decide +kernel
theorem dX9_moves_79 : decode cX9_moves 79 = .ok (.iconst 1, 1) := by decide +kernel
theorem dX9_moves_80 : decode cX9_moves 80 = .ok (.iadd, 1) := by decide +kernel
theorem dX9_moves_81 : decode cX9_moves 81 = .ok (.istore_n 2, 1) := by decide +kernel
theorem dX9_moves_82 : decode cX9_moves 82 = .ok (.aload_n 0, 1) := by decide +kernel
theorem dX9_moves_83 : decode cX9_moves 83 = .ok (.getfield 55, 3) := by decide +kernel
theorem dX9_moves_86 : decode cX9_moves 86 = .ok (.iload 4, 2) := by decide +kernel
theorem dX9_moves_88 : decode cX9_moves 88 = .ok (.iconst 1, 1) := by decide +kernel
theorem dX9_moves_89 : decode cX9_moves 89 = .ok (.bastore, 1) := by decide +kernel
theorem dX9_moves_90 : decode cX9_moves 90 = .ok (.iinc 3 1, 3) := by decide +kernel
theorem dX9_moves_93 : decode cX9_moves 93 = .ok (.goto (-56), 3) := by decide +kernel
theorem dX9_moves_96 : decode cX9_moves 96 = .ok (.iload_n 2, 1) := by decide +kernel
theorem dX9_moves_97 : decode cX9_moves 97 = .ok (.ireturn, 1) := by decide +kernel
theorem dX9_fair_0 : decode cX9_fair 0 = .ok (.aload_n 0, 1) := by decide +kernel
theorem dX9_fair_1 : decode cX9_fair 1 = .ok (.invokevirtual 283, 3) := by decide +kernel
theorem dX9_fair_4 : decode cX9_fair 4 = .ok (.ifCond .ne 6, 3) := by decide +kernel
theorem dX9_fair_7 : decode cX9_fair 7 = .ok (.bipush (-2), 2) := by decide +kernel
theorem dX9_fair_9 : decode cX9_fair 9 = .ok (.ireturn, 1) := by decide +kernel
theorem dX9_fair_10 : decode cX9_fair 10 = .ok (.iconst 1, 1) := by decide +kernel
theorem dX9_fair_11 : decode cX9_fair 11 = .ok (.istore_n 1, 1) := by decide +kernel
theorem dX9_fair_12 : decode cX9_fair 12 = .ok (.ldc_w 352, 3) := by decide +kernel
theorem dX9_fair_15 : decode cX9_fair 15 = .ok (.istore_n 2, 1) := by decide +kernel
theorem dX9_fair_16 : decode cX9_fair 16 = .ok (.aload_n 0, 1) := by decide +kernel
theorem dX9_fair_17 : decode cX9_fair 17 = .ok (.iconst 1, 1) := by decide +kernel
theorem dX9_fair_18 : decode cX9_fair 18 = .ok (.putfield 233, 3) := by decide +kernel
theorem dX9_fair_21 : decode cX9_fair 21 = .ok (.aload_n 0, 1) := by decide +kernel
theorem dX9_fair_22 : decode cX9_fair 22 = .ok (.getfield 233, 3) := by decide +kernel
theorem dX9_fair_25 : decode cX9_fair 25 = .ok (.bipush 30, 2) := by decide +kernel
theorem dX9_fair_27 : decode cX9_fair 27 = .ok (.if_icmp .gt 41, 3) := by decide +kernel
theorem dX9_fair_30 : decode cX9_fair 30 = .ok (.aload_n 0, 1) := by decide +kernel
theorem dX9_fair_31 : decode cX9_fair 31 = .ok (.invokevirtual 280, 3) := by decide +kernel
theorem dX9_fair_34 : decode cX9_fair 34 = .ok (.aload_n 0, 1) := by decide +kernel
theorem dX9_fair_35 : decode cX9_fair 35 = .ok (.invokevirtual 322, 3) := by decide +kernel
theorem dX9_fair_38 : decode cX9_fair 38 = .ok (.iload_n 2, 1) := by decide +kernel
theorem dX9_fair_39 : decode cX9_fair 39 = .ok (.if_icmp .lt 6, 3) := by decide +kernel
theorem dX9_fair_42 : decode cX9_fair 42 = .ok (.goto 13, 3) := by decide +kernel
theorem dX9_fair_45 : decode cX9_fair 45 = .ok (.aload_n 0, 1) := by decide +kernel
theorem dX9_fair_46 : decode cX9_fair 46 = .ok (.invokevirtual 322, 3) := by decide +kernel
theorem dX9_fair_49 : decode cX9_fair 49 = .ok (.istore_n 2, 1) := by decide +kernel
theorem dX9_fair_50 : decode cX9_fair 50 = .ok (.aload_n 0, 1) := by decide +kernel
theorem dX9_fair_51 : decode cX9_fair 51 = .ok (.getfield 233, 3) := by decide +kernel
theorem dX9_fair_54 : decode cX9_fair 54 = .ok (.istore_n 1, 1) := by decide +kernel
theorem dX9_fair_55 : decode cX9_fair 55 = .ok (.aload_n 0, 1) := by decide +kernel
theorem dX9_fair_56 : decode cX9_fair 56 = .ok (.dup, 1) := by decide +kernel
theorem dX9_fair_57 : decode cX9_fair 57 = .ok (.getfield 233, 3) := by decide +kernel
theorem dX9_fair_60 : decode cX9_fair 60 = .ok (.iconst 1, 1) := by decide +kernel
theorem dX9_fair_61 : decode cX9_fair 61 = .ok (.iadd, 1) := by decide +kernel
theorem dX9_fair_62 : decode cX9_fair 62 = .ok (.putfield 233, 3) := by decide +kernel
theorem dX9_fair_65 : decode cX9_fair 65 = .ok (.goto (-44), 3) := by decide +kernel
theorem dX9_fair_68 : decode cX9_fair 68 = .ok (.iload_n 1, 1) := by decide +kernel
theorem dX9_fair_69 : decode cX9_fair 69 = .ok (.ireturn, 1) := by decide +kernel
theorem dX9_post_0 : decode cX9_post 0 = .ok (.aload_n 0, 1) := by decide +kernel
theorem dX9_post_1 : decode cX9_post 1 = .ok (.invokevirtual 283, 3) := by decide +kernel
theorem dX9_post_4 : decode cX9_post 4 = .ok (.ifCond .ne 6, 3) := by decide +kernel
theorem dX9_post_7 : decode cX9_post 7 = .ok (.bipush (-2), 2) := by decide +kernel
theorem dX9_post_9 : decode cX9_post 9 = .ok (.ireturn, 1) := by decide +kernel
theorem dX9_post_10 : decode cX9_post 10 = .ok (.iconst 1, 1) := by decide +kernel
theorem dX9_post_11 : decode cX9_post 11 = .ok (.istore_n 1, 1) := by decide +kernel
theorem dX9_post_12 : decode cX9_post 12 = .ok (.iconst (-1), 1) := by decide +kernel
theorem dX9_post_13 : decode cX9_post 13 = .ok (.istore_n 2, 1) := by decide +kernel
theorem dX9_post_14 : decode cX9_post 14 = .ok (.aload_n 0, 1) := by decide +kernel
theorem dX9_post_15 : decode cX9_post 15 = .ok (.iconst 1, 1) := by decide +kernel
theorem dX9_post_16 : decode cX9_post 16 = .ok (.putfield 233, 3) := by decide +kernel
theorem dX9_post_19 : decode cX9_post 19 = .ok (.aload_n 0, 1) := by decide +kernel
theorem dX9_post_20 : decode cX9_post 20 = .ok (.getfield 233, 3) := by decide +kernel
theorem dX9_post_23 : decode cX9_post 23 = .ok (.bipush 30, 2) := by decide +kernel
theorem dX9_post_25 : decode cX9_post 25 = .ok (.if_icmp .gt 47, 3) := by decide +kernel
theorem dX9_post_28 : decode cX9_post 28 = .ok (.aload_n 0, 1) := by decide +kernel
theorem dX9_post_29 : decode cX9_post 29 = .ok (.invokevirtual 280, 3) := by decide +kernel
theorem dX9_post_32 : decode cX9_post 32 = .ok (.aload_n 0, 1) := by decide +kernel
theorem dX9_post_33 : decode cX9_post 33 = .ok (.invokevirtual 339, 3) := by decide +kernel
theorem dX9_post_36 : decode cX9_post 36 = .ok (.invokestatic 342, 3) := by decide +kernel
theorem dX9_post_39 : decode cX9_post 39 = .ok (.iload_n 2, 1) := by decide +kernel
theorem dX9_post_40 : decode cX9_post 40 = .ok (.if_icmp .gt 6, 3) := by decide +kernel
theorem dX9_post_43 : decode cX9_post 43 = .ok (.goto 16, 3) := by decide +kernel
theorem dX9_post_46 : decode cX9_post 46 = .ok (.aload_n 0, 1) := by decide +kernel
theorem dX9_post_47 : decode cX9_post 47 = .ok (.invokevirtual 339, 3) := by decide +kernel
theorem dX9_post_50 : decode cX9_post 50 = .ok (.invokestatic 342, 3) := by decide +kernel
theorem dX9_post_53 : decode cX9_post 53 = .ok (.istore_n 2, 1) := by decide +kernel
theorem dX9_post_54 : decode cX9_post 54 = .ok (.aload_n 0, 1) := by decide +kernel
theorem dX9_post_55 : decode cX9_post 55 = .ok (.getfield 233, 3) := by decide +kernel
theorem dX9_post_58 : decode cX9_post 58 = .ok (.istore_n 1, 1) := by decide +kernel
theorem dX9_post_59 : decode cX9_post 59 = .ok (.aload_n 0, 1) := by decide +kernel
theorem dX9_post_60 : decode cX9_post 60 = .ok (.dup, 1) := by decide +kernel
theorem dX9_post_61 : decode cX9_post 61 = .ok (.getfield 233, 3) := by decide +kernel
theorem dX9_post_64 : decode cX9_post 64 = .ok (.iconst 1, 1) := by decide +kernel
theorem dX9_post_65 : decode cX9_post 65 = .ok (.iadd, 1) := by decide +kernel
theorem dX9_post_66 : decode cX9_post 66 = .ok (.putfield 233, 3) := by decide +kernel
theorem dX9_post_69 : decode cX9_post 69 = .ok (.goto (-50), 3) := by decide +kernel
theorem dX9_post_72 : decode cX9_post 72 = .ok (.iload_n 1, 1) := by decide +kernel
theorem dX9_post_73 : decode cX9_post 73 = .ok (.ireturn, 1) := by decide +kernel
theorem dX9_spanBy_0 : decode cX9_spanBy 0 = .ok (.aload_n 0, 1) := by decide +kernel
theorem dX9_spanBy_1 : decode cX9_spanBy 1 = .ok (.iload_n 1, 1) := by decide +kernel
theorem dX9_spanBy_2 : decode cX9_spanBy 2 = .ok (.putfield 230, 3) := by decide +kernel
theorem dX9_spanBy_5 : decode cX9_spanBy 5 = .ok (.aload_n 0, 1) := by decide +kernel
theorem dX9_spanBy_6 : decode cX9_spanBy 6 = .ok (.invokevirtual 280, 3) := by decide +kernel
theorem dX9_spanBy_9 : decode cX9_spanBy 9 = .ok (.aload_n 0, 1) := by decide +kernel
theorem dX9_spanBy_10 : decode cX9_spanBy 10 = .ok (.invokevirtual 322, 3) := by decide +kernel
theorem dX9_spanBy_13 : decode cX9_spanBy 13 = .ok (.ireturn, 1) := by decide +kernel
theorem dX9_by_0 : decode cX9_by 0 = .ok (.aload_n 0, 1) := by decide +kernel
theorem dX9_by_1 : decode cX9_by 1 = .ok (.invokevirtual 283, 3) := by decide +kernel
theorem dX9_by_4 : decode cX9_by 4 = .ok (.ifCond .eq 23, 3) := by decide +kernel
theorem dX9_by_7 : decode cX9_by 7 = .ok (.iload_n 1, 1) := by decide +kernel
theorem dX9_by_8 : decode cX9_by 8 = .ok (.i2l, 1) := by decide +kernel
theorem dX9_by_9 : decode cX9_by 9 = .ok (.lconst 0, 1) := by decide +kernel
theorem dX9_by_10 : decode cX9_by 10 = .ok (.ldc2_w 353, 3) := by decide +kernel
theorem dX9_by_13 : decode cX9_by 13 = .ok (.invokestatic 88, 3) := by decide +kernel
theorem dX9_by_16 : decode cX9_by 16 = .ok (.ifCond .eq 11, 3) := by decide +kernel
theorem dX9_by_19 : decode cX9_by 19 = .ok (.aload_n 0, 1) := by decide +kernel
theorem dX9_by_20 : decode cX9_by 20 = .ok (.iload_n 1, 1) := by decide +kernel
theorem dX9_by_21 : decode cX9_by 21 = .ok (.invokevirtual 355, 3) := by decide +kernel
theorem dX9_by_24 : decode cX9_by 24 = .ok (.goto 5, 3) := by decide +kernel
theorem dX9_by_27 : decode cX9_by 27 = .ok (.bipush (-2), 2) := by decide +kernel
theorem dX9_by_29 : decode cX9_by 29 = .ok (.ireturn, 1) := by decide +kernel
theorem dX9_law_0 : decode cX9_law 0 = .ok (.aload_n 0, 1) := by decide +kernel
theorem dX9_law_1 : decode cX9_law 1 = .ok (.invokevirtual 283, 3) := by decide +kernel
theorem dX9_law_4 : decode cX9_law 4 = .ok (.ifCond .ne 6, 3) := by decide +kernel
theorem dX9_law_7 : decode cX9_law 7 = .ok (.bipush (-2), 2) := by decide +kernel
theorem dX9_law_9 : decode cX9_law 9 = .ok (.ireturn, 1) := by decide +kernel
theorem dX9_law_10 : decode cX9_law 10 = .ok (.iconst 0, 1) := by decide +kernel
theorem dX9_law_11 : decode cX9_law 11 = .ok (.istore_n 1, 1) := by decide +kernel
theorem dX9_law_12 : decode cX9_law 12 = .ok (.iconst 1, 1) := by decide +kernel
theorem dX9_law_13 : decode cX9_law 13 = .ok (.istore_n 2, 1) := by decide +kernel
theorem dX9_law_14 : decode cX9_law 14 = .ok (.iload_n 2, 1) := by decide +kernel
theorem dX9_law_15 : decode cX9_law 15 = .ok (.iconst 4, 1) := by decide +kernel
theorem dX9_law_16 : decode cX9_law 16 = .ok (.if_icmp .ge 28, 3) := by decide +kernel
theorem dX9_law_19 : decode cX9_law 19 = .ok (.aload_n 0, 1) := by decide +kernel
theorem dX9_law_20 : decode cX9_law 20 = .ok (.iload_n 2, 1) := by decide +kernel
theorem dX9_law_21 : decode cX9_law 21 = .ok (.invokevirtual 355, 3) := by decide +kernel
theorem dX9_law_24 : decode cX9_law 24 = .ok (.aload_n 0, 1) := by decide +kernel
theorem dX9_law_25 : decode cX9_law 25 = .ok (.iload_n 1, 1) := by decide +kernel
theorem dX9_law_26 : decode cX9_law 26 = .ok (.invokevirtual 355, 3) := by decide +kernel
theorem dX9_law_29 : decode cX9_law 29 = .ok (.if_icmp .ge 7, 3) := by decide +kernel
theorem dX9_law_32 : decode cX9_law 32 = .ok (.iload_n 2, 1) := by decide +kernel
theorem dX9_law_33 : decode cX9_law 33 = .ok (.goto 4, 3) := by decide +kernel
theorem dX9_law_36 : decode cX9_law 36 = .ok (.iload_n 1, 1) := by decide +kernel
theorem dX9_law_37 : decode cX9_law 37 = .ok (.istore_n 1, 1) := by decide +kernel
theorem dX9_law_38 : decode cX9_law 38 = .ok (.iinc 2 1, 3) := by decide +kernel
theorem dX9_law_41 : decode cX9_law 41 = .ok (.goto (-27), 3) := by decide +kernel
theorem dX9_law_44 : decode cX9_law 44 = .ok (.iload_n 1, 1) := by decide +kernel
theorem dX9_law_45 : decode cX9_law 45 = .ok (.ireturn, 1) := by decide +kernel
theorem dX9_asksTrades_0 : decode cX9_asksTrades 0 = .ok (.aload_n 0, 1) := by decide +kernel
theorem dX9_asksTrades_1 : decode cX9_asksTrades 1 = .ok (.invokevirtual 283, 3) := by decide +kernel
theorem dX9_asksTrades_4 : decode cX9_asksTrades 4 = .ok (.ifCond .ne 5, 3) := by decide +kernel
theorem dX9_asksTrades_7 : decode cX9_asksTrades 7 = .ok (.iconst 0, 1) := by decide +kernel
theorem dX9_asksTrades_8 : decode cX9_asksTrades 8 = .ok (.ireturn, 1) := by decide +kernel
theorem dX9_asksTrades_9 : decode cX9_asksTrades 9 = .ok (.iconst 0, 1) := by decide +kernel
theorem dX9_asksTrades_10 : decode cX9_asksTrades 10 = .ok (.istore_n 1, 1) := by decide +kernel
theorem dX9_asksTrades_11 : decode cX9_asksTrades 11 = .ok (.iload_n 1, 1) := by decide +kernel
theorem dX9_asksTrades_12 : decode cX9_asksTrades 12 = .ok (.aload_n 0, 1) := by decide +kernel
theorem dX9_asksTrades_13 : decode cX9_asksTrades 13 = .ok (.invokevirtual 100, 3) := by decide +kernel
theorem dX9_asksTrades_16 : decode cX9_asksTrades 16 = .ok (.if_icmp .ge 20, 3) := by decide +kernel
theorem dX9_asksTrades_19 : decode cX9_asksTrades 19 = .ok (.aload_n 0, 1) := by decide +kernel
theorem dX9_asksTrades_20 : decode cX9_asksTrades 20 = .ok (.getfield 58, 3) := by decide +kernel
theorem dX9_asksTrades_23 : decode cX9_asksTrades 23 = .ok (.iload_n 1, 1) := by decide +kernel
theorem dX9_asksTrades_24 : decode cX9_asksTrades 24 = .ok (.aload_n 0, 1) := by decide +kernel
theorem dX9_asksTrades_25 : decode cX9_asksTrades 25 = .ok (.iload_n 1, 1) := by decide +kernel
theorem dX9_asksTrades_26 : decode cX9_asksTrades 26 = .ok (.invokevirtual 313, 3) := by decide +kernel
theorem dX9_asksTrades_29 : decode cX9_asksTrades 29 = .ok (.iastore, 1) := by decide +kernel
theorem dX9_asksTrades_30 : decode cX9_asksTrades 30 = .ok (.iinc 1 1, 3) := by decide +kernel
theorem dX9_asksTrades_33 : decode cX9_asksTrades 33 = .ok (.goto (-22), 3) := by decide +kernel
theorem dX9_asksTrades_36 : decode cX9_asksTrades 36 = .ok (.aload_n 0, 1) := by decide +kernel
theorem dX9_asksTrades_37 : decode cX9_asksTrades 37 = .ok (.iconst 0, 1) := by decide +kernel
theorem dX9_asksTrades_38 : decode cX9_asksTrades 38 = .ok (.putfield 358, 3) := by decide +kernel
theorem dX9_asksTrades_41 : decode cX9_asksTrades 41 = .ok (.aload_n 0, 1) := by decide +kernel
theorem dX9_asksTrades_42 : decode cX9_asksTrades 42 = .ok (.iconst (-1), 1) := by decide +kernel
theorem dX9_asksTrades_43 : decode cX9_asksTrades 43 = .ok (.putfield 361, 3) := by decide +kernel
theorem dX9_asksTrades_46 : decode cX9_asksTrades 46 = .ok (.iconst 0, 1) := by decide +kernel
theorem dX9_asksTrades_47 : decode cX9_asksTrades 47 = .ok (.istore_n 1, 1) := by decide +kernel
theorem dX9_asksTrades_48 : decode cX9_asksTrades 48 = .ok (.iload_n 1, 1) := by decide +kernel
theorem dX9_asksTrades_49 : decode cX9_asksTrades 49 = .ok (.aload_n 0, 1) := by decide +kernel
theorem dX9_asksTrades_50 : decode cX9_asksTrades 50 = .ok (.invokevirtual 100, 3) := by decide +kernel
theorem dX9_asksTrades_53 : decode cX9_asksTrades 53 = .ok (.if_icmp .ge 106, 3) := by decide +kernel
theorem dX9_asksTrades_56 : decode cX9_asksTrades 56 = .ok (.iload_n 1, 1) := by decide +kernel
theorem dX9_asksTrades_57 : decode cX9_asksTrades 57 = .ok (.iconst 1, 1) := by decide +kernel
theorem dX9_asksTrades_58 : decode cX9_asksTrades 58 = .ok (.iadd, 1) := by decide +kernel
theorem dX9_asksTrades_59 : decode cX9_asksTrades 59 = .ok (.istore_n 2, 1) := by decide +kernel
theorem dX9_asksTrades_60 : decode cX9_asksTrades 60 = .ok (.iload_n 2, 1) := by decide +kernel
theorem dX9_asksTrades_61 : decode cX9_asksTrades 61 = .ok (.aload_n 0, 1) := by decide +kernel
theorem dX9_asksTrades_62 : decode cX9_asksTrades 62 = .ok (.invokevirtual 100, 3) := by decide +kernel
theorem dX9_asksTrades_65 : decode cX9_asksTrades 65 = .ok (.if_icmp .ge 88, 3) := by decide +kernel
theorem dX9_asksTrades_68 : decode cX9_asksTrades 68 = .ok (.aload_n 0, 1) := by decide +kernel
theorem dX9_asksTrades_69 : decode cX9_asksTrades 69 = .ok (.iload_n 1, 1) := by decide +kernel
theorem dX9_asksTrades_70 : decode cX9_asksTrades 70 = .ok (.putfield 245, 3) := by decide +kernel
theorem dX9_asksTrades_73 : decode cX9_asksTrades 73 = .ok (.aload_n 0, 1) := by decide +kernel
theorem dX9_asksTrades_74 : decode cX9_asksTrades 74 = .ok (.iload_n 2, 1) := by decide +kernel
theorem dX9_asksTrades_75 : decode cX9_asksTrades 75 = .ok (.putfield 248, 3) := by decide +kernel
theorem dX9_asksTrades_78 : decode cX9_asksTrades 78 = .ok (.aload_n 0, 1) := by decide +kernel
theorem dX9_asksTrades_79 : decode cX9_asksTrades 79 = .ok (.invokevirtual 280, 3) := by decide +kernel
theorem dX9_asksTrades_82 : decode cX9_asksTrades 82 = .ok (.aload_n 0, 1) := by decide +kernel
theorem dX9_asksTrades_83 : decode cX9_asksTrades 83 = .ok (.iload_n 1, 1) := by decide +kernel
theorem dX9_asksTrades_84 : decode cX9_asksTrades 84 = .ok (.invokevirtual 313, 3) := by decide +kernel
theorem dX9_asksTrades_87 : decode cX9_asksTrades 87 = .ok (.aload_n 0, 1) := by decide +kernel
theorem dX9_asksTrades_88 : decode cX9_asksTrades 88 = .ok (.getfield 58, 3) := by decide +kernel
theorem dX9_asksTrades_91 : decode cX9_asksTrades 91 = .ok (.iload_n 1, 1) := by decide +kernel
theorem dX9_asksTrades_92 : decode cX9_asksTrades 92 = .ok (.iaload, 1) := by decide +kernel
theorem dX9_asksTrades_93 : decode cX9_asksTrades 93 = .ok (.if_icmp .le 54, 3) := by decide +kernel
theorem dX9_asksTrades_96 : decode cX9_asksTrades 96 = .ok (.aload_n 0, 1) := by decide +kernel
theorem dX9_asksTrades_97 : decode cX9_asksTrades 97 = .ok (.iload_n 2, 1) := by decide +kernel
theorem dX9_asksTrades_98 : decode cX9_asksTrades 98 = .ok (.invokevirtual 313, 3) := by decide +kernel
theorem dX9_asksTrades_101 : decode cX9_asksTrades 101 = .ok (.aload_n 0, 1) := by decide +kernel
theorem dX9_asksTrades_102 : decode cX9_asksTrades 102 = .ok (.getfield 58, 3) := by decide +kernel
theorem dX9_asksTrades_105 : decode cX9_asksTrades 105 = .ok (.iload_n 2, 1) := by decide +kernel
theorem dX9_asksTrades_106 : decode cX9_asksTrades 106 = .ok (.iaload, 1) := by decide +kernel
theorem dX9_asksTrades_107 : decode cX9_asksTrades 107 = .ok (.if_icmp .gt 6, 3) := by decide +kernel
theorem dX9_asksTrades_110 : decode cX9_asksTrades 110 = .ok (.goto 37, 3) := by decide +kernel
theorem dX9_asksTrades_113 : decode cX9_asksTrades 113 = .ok (.aload_n 0, 1) := by decide +kernel
theorem dX9_asksTrades_114 : decode cX9_asksTrades 114 = .ok (.aload_n 0, 1) := by decide +kernel
theorem dX9_asksTrades_115 : decode cX9_asksTrades 115 = .ok (.getfield 358, 3) := by decide +kernel
theorem dX9_asksTrades_118 : decode cX9_asksTrades 118 = .ok (.ifCond .ne 12, 3) := by decide +kernel
theorem dX9_asksTrades_121 : decode cX9_asksTrades 121 = .ok (.bipush 10, 2) := by decide +kernel
theorem dX9_asksTrades_123 : decode cX9_asksTrades 123 = .ok (.iload_n 1, 1) := by decide +kernel
theorem dX9_asksTrades_124 : decode cX9_asksTrades 124 = .ok (.imul, 1) := by decide +kernel
theorem dX9_asksTrades_125 : decode cX9_asksTrades 125 = .ok (.iload_n 2, 1) := by decide +kernel
theorem dX9_asksTrades_126 : decode cX9_asksTrades 126 = .ok (.iadd, 1) := by decide +kernel
theorem dX9_asksTrades_127 : decode cX9_asksTrades 127 = .ok (.goto 7, 3) := by decide +kernel
theorem dX9_asksTrades_130 : decode cX9_asksTrades 130 = .ok (.aload_n 0, 1) := by decide +kernel
theorem dX9_asksTrades_131 : decode cX9_asksTrades 131 = .ok (.getfield 361, 3) := by decide +kernel
theorem dX9_asksTrades_134 : decode cX9_asksTrades 134 = .ok (.putfield 361, 3) := by decide +kernel
theorem dX9_asksTrades_137 : decode cX9_asksTrades 137 = .ok (.aload_n 0, 1) := by decide +kernel
theorem dX9_asksTrades_138 : decode cX9_asksTrades 138 = .ok (.dup, 1) := by decide +kernel
theorem dX9_asksTrades_139 : decode cX9_asksTrades 139 = .ok (.getfield 358, 3) := by decide +kernel
theorem dX9_asksTrades_142 : decode cX9_asksTrades 142 = .ok (.iconst 1, 1) := by decide +kernel
theorem dX9_asksTrades_143 : decode cX9_asksTrades 143 = .ok (.iadd, 1) := by decide +kernel
theorem dX9_asksTrades_144 : decode cX9_asksTrades 144 = .ok (.putfield 358, 3) := by decide +kernel
theorem dX9_asksTrades_147 : decode cX9_asksTrades 147 = .ok (.iinc 2 1, 3) := by decide +kernel
theorem dX9_asksTrades_150 : decode cX9_asksTrades 150 = .ok (.goto (-90), 3) := by decide +kernel
theorem dX9_asksTrades_153 : decode cX9_asksTrades 153 = .ok (.iinc 1 1, 3) := by decide +kernel
theorem dX9_asksTrades_156 : decode cX9_asksTrades 156 = .ok (.goto (-108), 3) := by decide +kernel
theorem dX9_asksTrades_159 : decode cX9_asksTrades 159 = .ok (.iconst 1, 1) := by decide +kernel
theorem dX9_asksTrades_160 : decode cX9_asksTrades 160 = .ok (.ireturn, 1) := by decide +kernel
theorem dX9_trade_0 : decode cX9_trade 0 = .ok (.aload_n 0, 1) := by decide +kernel
theorem dX9_trade_1 : decode cX9_trade 1 = .ok (.invokevirtual 364, 3) := by decide +kernel
theorem dX9_trade_4 : decode cX9_trade 4 = .ok (.ifCond .eq 10, 3) := by decide +kernel
theorem dX9_trade_7 : decode cX9_trade 7 = .ok (.aload_n 0, 1) := by decide +kernel
theorem dX9_trade_8 : decode cX9_trade 8 = .ok (.getfield 361, 3) := by decide +kernel
theorem dX9_trade_11 : decode cX9_trade 11 = .ok (.goto 5, 3) := by decide +kernel
theorem dX9_trade_14 : decode cX9_trade 14 = .ok (.bipush (-2), 2) := by decide +kernel
theorem dX9_trade_16 : decode cX9_trade 16 = .ok (.ireturn, 1) := by decide +kernel
theorem dX9_trades_0 : decode cX9_trades 0 = .ok (.aload_n 0, 1) := by decide +kernel
theorem dX9_trades_1 : decode cX9_trades 1 = .ok (.invokevirtual 364, 3) := by decide +kernel
theorem dX9_trades_4 : decode cX9_trades 4 = .ok (.ifCond .eq 10, 3) := by decide +kernel
theorem dX9_trades_7 : decode cX9_trades 7 = .ok (.aload_n 0, 1) := by decide +kernel
theorem dX9_trades_8 : decode cX9_trades 8 = .ok (.getfield 358, 3) := by decide +kernel
theorem dX9_trades_11 : decode cX9_trades 11 = .ok (.goto 5, 3) := by decide +kernel
theorem dX9_trades_14 : decode cX9_trades 14 = .ok (.bipush (-2), 2) := by decide +kernel
theorem dX9_trades_16 : decode cX9_trades 16 = .ok (.ireturn, 1) := by decide +kernel
theorem dX9_numberAt_0 : decode cX9_numberAt 0 = .ok (.aload_n 0, 1) := by decide +kernel
theorem dX9_numberAt_1 : decode cX9_numberAt 1 = .ok (.getfield 76, 3) := by decide +kernel
theorem dX9_numberAt_4 : decode cX9_numberAt 4 = .ok (.bipush 60, 2) := by decide +kernel
theorem dX9_numberAt_6 : decode cX9_numberAt 6 = .ok (.iload_n 1, 1) := by decide +kernel
theorem dX9_numberAt_7 : decode cX9_numberAt 7 = .ok (.imul, 1) := by decide +kernel
theorem dX9_numberAt_8 : decode cX9_numberAt 8 = .ok (.iload_n 2, 1) := by decide +kernel
theorem dX9_numberAt_9 : decode cX9_numberAt 9 = .ok (.iadd, 1) := by decide +kernel
theorem dX9_numberAt_10 : decode cX9_numberAt 10 = .ok (.laload, 1) := by decide +kernel
theorem dX9_numberAt_11 : decode cX9_numberAt 11 = .ok (.lreturn, 1) := by decide +kernel
theorem dX9_layLeans_0 : decode cX9_layLeans 0 = .ok (.iload_n 1, 1) := by decide +kernel
theorem dX9_layLeans_1 : decode cX9_layLeans 1 = .ok (.invokestatic 367, 3) := by decide +kernel
theorem dX9_layLeans_4 : decode cX9_layLeans 4 = .ok (.ifCond .eq 10, 3) := by decide +kernel
theorem dX9_layLeans_7 : decode cX9_layLeans 7 = .ok (.aload_n 0, 1) := by decide +kernel
theorem dX9_layLeans_8 : decode cX9_layLeans 8 = .ok (.invokevirtual 92, 3) := by decide +kernel
theorem dX9_layLeans_11 : decode cX9_layLeans 11 = .ok (.ifCond .ne 6, 3) := by decide +kernel
theorem dX9_layLeans_14 : decode cX9_layLeans 14 = .ok (.bipush (-2), 2) := by decide +kernel
theorem dX9_layLeans_16 : decode cX9_layLeans 16 = .ok (.ireturn, 1) := by decide +kernel
theorem dX9_layLeans_17 : decode cX9_layLeans 17 = .ok (.aload_n 0, 1) := by decide +kernel
theorem dX9_layLeans_18 : decode cX9_layLeans 18 = .ok (.getfield 70, 3) := by decide +kernel
theorem dX9_layLeans_21 : decode cX9_layLeans 21 = .ok (.iload_n 1, 1) := by decide +kernel
theorem dX9_layLeans_22 : decode cX9_layLeans 22 = .ok (.iaload, 1) := by decide +kernel
theorem dX9_layLeans_23 : decode cX9_layLeans 23 = .ok (.iconst (-1), 1) := by decide +kernel
theorem dX9_layLeans_24 : decode cX9_layLeans 24 = .ok (.if_icmp .ne 6, 3) := by decide +kernel
theorem dX9_layLeans_27 : decode cX9_layLeans 27 = .ok (.bipush (-6), 2) := by decide +kernel
theorem dX9_layLeans_29 : decode cX9_layLeans 29 = .ok (.ireturn, 1) := by decide +kernel
theorem dX9_layLeans_30 : decode cX9_layLeans 30 = .ok (.aload_n 0, 1) := by decide +kernel
theorem dX9_layLeans_31 : decode cX9_layLeans 31 = .ok (.getfield 70, 3) := by decide +kernel
theorem dX9_layLeans_34 : decode cX9_layLeans 34 = .ok (.iload_n 1, 1) := by decide +kernel
theorem dX9_layLeans_35 : decode cX9_layLeans 35 = .ok (.iaload, 1) := by decide +kernel
theorem dX9_layLeans_36 : decode cX9_layLeans 36 = .ok (.iconst 2, 1) := by decide +kernel
theorem dX9_layLeans_37 : decode cX9_layLeans 37 = .ok (.irem, 1) := by decide +kernel
theorem dX9_layLeans_38 : decode cX9_layLeans 38 = .ok (.ifCond .eq 6, 3) := by decide +kernel
theorem dX9_layLeans_41 : decode cX9_layLeans 41 = .ok (.bipush (-2), 2) := by decide +kernel
theorem dX9_layLeans_43 : decode cX9_layLeans 43 = .ok (.ireturn, 1) := by decide +kernel
theorem dX9_layLeans_44 : decode cX9_layLeans 44 = .ok (.iconst 0, 1) := by decide +kernel
theorem dX9_layLeans_45 : decode cX9_layLeans 45 = .ok (.istore_n 2, 1) := by decide +kernel
theorem dX9_layLeans_46 : decode cX9_layLeans 46 = .ok (.iload_n 2, 1) := by decide +kernel
theorem dX9_layLeans_47 : decode cX9_layLeans 47 = .ok (.aload_n 0, 1) := by decide +kernel
theorem dX9_layLeans_48 : decode cX9_layLeans 48 = .ok (.getfield 70, 3) := by decide +kernel
theorem dX9_layLeans_51 : decode cX9_layLeans 51 = .ok (.iload_n 1, 1) := by decide +kernel
theorem dX9_layLeans_52 : decode cX9_layLeans 52 = .ok (.iaload, 1) := by decide +kernel
theorem dX9_layLeans_53 : decode cX9_layLeans 53 = .ok (.if_icmp .ge 45, 3) := by decide +kernel
theorem dX9_layLeans_56 : decode cX9_layLeans 56 = .ok (.aload_n 0, 1) := by decide +kernel
theorem dX9_layLeans_57 : decode cX9_layLeans 57 = .ok (.aload_n 0, 1) := by decide +kernel
theorem dX9_layLeans_58 : decode cX9_layLeans 58 = .ok (.iload_n 1, 1) := by decide +kernel
theorem dX9_layLeans_59 : decode cX9_layLeans 59 = .ok (.iload_n 2, 1) := by decide +kernel
theorem dX9_layLeans_60 : decode cX9_layLeans 60 = .ok (.invokevirtual 370, 3) := by decide +kernel
theorem dX9_layLeans_63 : decode cX9_layLeans 63 = .ok (.invokevirtual 289, 3) := by decide +kernel
theorem dX9_layLeans_66 : decode cX9_layLeans 66 = .ok (.ifCond .eq 23, 3) := by decide +kernel
theorem dX9_layLeans_69 : decode cX9_layLeans 69 = .ok (.aload_n 0, 1) := by decide +kernel
theorem dX9_layLeans_70 : decode cX9_layLeans 70 = .ok (.iload_n 1, 1) := by decide +kernel
theorem dX9_layLeans_71 : decode cX9_layLeans 71 = .ok (.iload_n 2, 1) := by decide +kernel
theorem dX9_layLeans_72 : decode cX9_layLeans 72 = .ok (.iconst 1, 1) := by decide +kernel
theorem dX9_layLeans_73 : decode cX9_layLeans 73 = .ok (.iadd, 1) := by decide +kernel
theorem dX9_layLeans_74 : decode cX9_layLeans 74 = .ok (.invokevirtual 370, 3) := by decide +kernel
theorem dX9_layLeans_77 : decode cX9_layLeans 77 = .ok (.ldc2_w 345, 3) := by decide +kernel
theorem dX9_layLeans_80 : decode cX9_layLeans 80 = .ok (.ldc2_w 347, 3) := by decide +kernel
theorem dX9_layLeans_83 : decode cX9_layLeans 83 = .ok (.invokestatic 88, 3) := by decide +kernel
theorem dX9_layLeans_86 : decode cX9_layLeans 86 = .ok (.ifCond .ne 6, 3) := by decide +kernel
theorem dX9_layLeans_89 : decode cX9_layLeans 89 = .ok (.bipush (-2), 2) := by decide +kernel
theorem dX9_layLeans_91 : decode cX9_layLeans 91 = .ok (.ireturn, 1) := by decide +kernel
theorem dX9_layLeans_92 : decode cX9_layLeans 92 = .ok (.iinc 2 2, 3) := by decide +kernel
theorem dX9_layLeans_95 : decode cX9_layLeans 95 = .ok (.goto (-49), 3) := by decide +kernel
theorem dX9_layLeans_98 : decode cX9_layLeans 98 = .ok (.aload_n 0, 1) := by decide +kernel
theorem dX9_layLeans_99 : decode cX9_layLeans 99 = .ok (.invokevirtual 251, 3) := by decide +kernel
theorem dX9_layLeans_102 : decode cX9_layLeans 102 = .ok (.aload_n 0, 1) := by decide +kernel
theorem dX9_layLeans_103 : decode cX9_layLeans 103 = .ok (.iconst 0, 1) := by decide +kernel
theorem dX9_layLeans_104 : decode cX9_layLeans 104 = .ok (.putfield 374, 3) := by decide +kernel
theorem dX9_layLeans_107 : decode cX9_layLeans 107 = .ok (.aload_n 0, 1) := by decide +kernel
theorem dX9_layLeans_108 : decode cX9_layLeans 108 = .ok (.iconst 0, 1) := by decide +kernel
theorem dX9_layLeans_109 : decode cX9_layLeans 109 = .ok (.putfield 236, 3) := by decide +kernel
theorem dX9_layLeans_112 : decode cX9_layLeans 112 = .ok (.aload_n 0, 1) := by decide +kernel
theorem dX9_layLeans_113 : decode cX9_layLeans 113 = .ok (.getfield 236, 3) := by decide +kernel
theorem dX9_layLeans_116 : decode cX9_layLeans 116 = .ok (.iconst 1, 1) := by decide +kernel
theorem dX9_layLeans_117 : decode cX9_layLeans 117 = .ok (.aload_n 0, 1) := by decide +kernel
theorem dX9_layLeans_118 : decode cX9_layLeans 118 = .ok (.invokevirtual 100, 3) := by decide +kernel
theorem dX9_layLeans_121 : decode cX9_layLeans 121 = .ok (.ishl, 1) := by decide +kernel
theorem dX9_layLeans_122 : decode cX9_layLeans 122 = .ok (.if_icmp .ge 141, 3) := by decide +kernel
theorem dX9_layLeans_125 : decode cX9_layLeans 125 = .ok (.aload_n 0, 1) := by decide +kernel
theorem dX9_layLeans_126 : decode cX9_layLeans 126 = .ok (.invokevirtual 280, 3) := by decide +kernel
theorem dX9_layLeans_129 : decode cX9_layLeans 129 = .ok (.iconst 1, 1) := by decide +kernel
theorem dX9_layLeans_130 : decode cX9_layLeans 130 = .ok (.istore_n 2, 1) := by decide +kernel
theorem dX9_layLeans_131 : decode cX9_layLeans 131 = .ok (.iconst 0, 1) := by decide +kernel
theorem dX9_layLeans_132 : decode cX9_layLeans 132 = .ok (.istore_n 3, 1) := by decide +kernel
theorem dX9_layLeans_133 : decode cX9_layLeans 133 = .ok (.iload_n 3, 1) := by decide +kernel
theorem dX9_layLeans_134 : decode cX9_layLeans 134 = .ok (.aload_n 0, 1) := by decide +kernel
theorem dX9_layLeans_135 : decode cX9_layLeans 135 = .ok (.getfield 70, 3) := by decide +kernel
theorem dX9_layLeans_138 : decode cX9_layLeans 138 = .ok (.iload_n 1, 1) := by decide +kernel
theorem dX9_layLeans_139 : decode cX9_layLeans 139 = .ok (.iaload, 1) := by decide +kernel
theorem dX9_layLeans_140 : decode cX9_layLeans 140 = .ok (.if_icmp .ge 44, 3) := by decide +kernel
theorem dX9_layLeans_143 : decode cX9_layLeans 143 = .ok (.iload_n 2, 1) := by decide +kernel
theorem dX9_layLeans_144 : decode cX9_layLeans 144 = .ok (.ifCond .eq 32, 3) := by decide +kernel
theorem dX9_layLeans_147 : decode cX9_layLeans 147 = .ok (.aload_n 0, 1) := by decide +kernel
theorem dX9_layLeans_148 : decode cX9_layLeans 148 = .ok (.getfield 52, 3) := by decide +kernel
theorem dX9_layLeans_151 : decode cX9_layLeans 151 = .ok (.aload_n 0, 1) := by decide +kernel
theorem dX9_layLeans_152 : decode cX9_layLeans 152 = .ok (.iload_n 1, 1) := by decide +kernel
theorem dX9_layLeans_153 : decode cX9_layLeans 153 = .ok (.iload_n 3, 1) := by decide +kernel
theorem dX9_layLeans_154 : decode cX9_layLeans 154 = .ok (.invokevirtual 370, 3) := by decide +kernel
theorem dX9_layLeans_157 : decode cX9_layLeans 157 = .ok (.l2i, 1) := by decide +kernel
theorem dX9_layLeans_158 : decode cX9_layLeans 158 = .ok (.iaload, 1) := by decide +kernel
theorem dX9_layLeans_159 : decode cX9_layLeans 159 = .ok (.i2l, 1) := by decide +kernel
theorem dX9_layLeans_160 : decode cX9_layLeans 160 = .ok (.aload_n 0, 1) := by decide +kernel
theorem dX9_layLeans_161 : decode cX9_layLeans 161 = .ok (.iload_n 1, 1) := by decide +kernel
theorem dX9_layLeans_162 : decode cX9_layLeans 162 = .ok (.iload_n 3, 1) := by decide +kernel
theorem dX9_layLeans_163 : decode cX9_layLeans 163 = .ok (.iconst 1, 1) := by decide +kernel
theorem dX9_layLeans_164 : decode cX9_layLeans 164 = .ok (.iadd, 1) := by decide +kernel
theorem dX9_layLeans_165 : decode cX9_layLeans 165 = .ok (.invokevirtual 370, 3) := by decide +kernel
theorem dX9_layLeans_168 : decode cX9_layLeans 168 = .ok (.lcmp, 1) := by decide +kernel
theorem dX9_layLeans_169 : decode cX9_layLeans 169 = .ok (.ifCond .ne 7, 3) := by decide +kernel
theorem dX9_layLeans_172 : decode cX9_layLeans 172 = .ok (.iconst 1, 1) := by decide +kernel
theorem dX9_layLeans_173 : decode cX9_layLeans 173 = .ok (.goto 4, 3) := by decide +kernel
theorem dX9_layLeans_176 : decode cX9_layLeans 176 = .ok (.iconst 0, 1) := by decide +kernel
theorem dX9_layLeans_177 : decode cX9_layLeans 177 = .ok (.istore_n 2, 1) := by decide +kernel
theorem dX9_layLeans_178 : decode cX9_layLeans 178 = .ok (.iinc 3 2, 3) := by decide +kernel
theorem dX9_layLeans_181 : decode cX9_layLeans 181 = .ok (.goto (-48), 3) := by decide +kernel
theorem dX9_layLeans_184 : decode cX9_layLeans 184 = .ok (.iload_n 2, 1) := by decide +kernel
theorem dX9_layLeans_185 : decode cX9_layLeans 185 = .ok (.ifCond .ne 6, 3) := by decide +kernel
theorem dX9_layLeans_188 : decode cX9_layLeans 188 = .ok (.goto 62, 3) := by decide +kernel
theorem dX9_layLeans_191 : decode cX9_layLeans 191 = .ok (.aload_n 0, 1) := by decide +kernel
theorem dX9_layLeans_192 : decode cX9_layLeans 192 = .ok (.getfield 61, 3) := by decide +kernel
theorem dX9_layLeans_195 : decode cX9_layLeans 195 = .ok (.aload_n 0, 1) := by decide +kernel
theorem dX9_layLeans_196 : decode cX9_layLeans 196 = .ok (.getfield 374, 3) := by decide +kernel
theorem dX9_layLeans_199 : decode cX9_layLeans 199 = .ok (.aload_n 0, 1) := by decide +kernel
theorem dX9_layLeans_200 : decode cX9_layLeans 200 = .ok (.getfield 236, 3) := by decide +kernel
theorem dX9_layLeans_203 : decode cX9_layLeans 203 = .ok (.iastore, 1) := by decide +kernel
theorem dX9_layLeans_204 : decode cX9_layLeans 204 = .ok (.iconst 0, 1) := by decide +kernel
theorem dX9_layLeans_205 : decode cX9_layLeans 205 = .ok (.istore_n 3, 1) := by decide +kernel
theorem dX9_layLeans_206 : decode cX9_layLeans 206 = .ok (.iload_n 3, 1) := by decide +kernel
theorem dX9_layLeans_207 : decode cX9_layLeans 207 = .ok (.aload_n 0, 1) := by decide +kernel
theorem dX9_layLeans_208 : decode cX9_layLeans 208 = .ok (.invokevirtual 96, 3) := by decide +kernel
theorem dX9_layLeans_211 : decode cX9_layLeans 211 = .ok (.if_icmp .ge 29, 3) := by decide +kernel
theorem dX9_layLeans_214 : decode cX9_layLeans 214 = .ok (.aload_n 0, 1) := by decide +kernel
theorem dX9_layLeans_215 : decode cX9_layLeans 215 = .ok (.getfield 64, 3) := by decide +kernel
theorem dX9_layLeans_218 : decode cX9_layLeans 218 = .ok (.bipush 20, 2) := by decide +kernel
theorem dX9_layLeans_220 : decode cX9_layLeans 220 = .ok (.aload_n 0, 1) := by decide +kernel
theorem dX9_layLeans_221 : decode cX9_layLeans 221 = .ok (.getfield 374, 3) := by decide +kernel
theorem dX9_layLeans_224 : decode cX9_layLeans 224 = .ok (.imul, 1) := by decide +kernel
theorem dX9_layLeans_225 : decode cX9_layLeans 225 = .ok (.iload_n 3, 1) := by decide +kernel
theorem dX9_layLeans_226 : decode cX9_layLeans 226 = .ok (.iadd, 1) := by decide +kernel
theorem dX9_layLeans_227 : decode cX9_layLeans 227 = .ok (.aload_n 0, 1) := by decide +kernel
theorem dX9_layLeans_228 : decode cX9_layLeans 228 = .ok (.getfield 52, 3) := by decide +kernel
theorem dX9_layLeans_231 : decode cX9_layLeans 231 = .ok (.iload_n 3, 1) := by decide +kernel
theorem dX9_layLeans_232 : decode cX9_layLeans 232 = .ok (.iaload, 1) := by decide +kernel
theorem dX9_layLeans_233 : decode cX9_layLeans 233 = .ok (.iastore, 1) := by decide +kernel
theorem dX9_layLeans_234 : decode cX9_layLeans 234 = .ok (.iinc 3 1, 3) := by decide +kernel
theorem dX9_layLeans_237 : decode cX9_layLeans 237 = .ok (.goto (-31), 3) := by decide +kernel
theorem dX9_layLeans_240 : decode cX9_layLeans 240 = .ok (.aload_n 0, 1) := by decide +kernel
theorem dX9_layLeans_241 : decode cX9_layLeans 241 = .ok (.dup, 1) := by decide +kernel
theorem dX9_layLeans_242 : decode cX9_layLeans 242 = .ok (.getfield 374, 3) := by decide +kernel
theorem dX9_layLeans_245 : decode cX9_layLeans 245 = .ok (.iconst 1, 1) := by decide +kernel
theorem dX9_layLeans_246 : decode cX9_layLeans 246 = .ok (.iadd, 1) := by decide +kernel
theorem dX9_layLeans_247 : decode cX9_layLeans 247 = .ok (.putfield 374, 3) := by decide +kernel
theorem dX9_layLeans_250 : decode cX9_layLeans 250 = .ok (.aload_n 0, 1) := by decide +kernel
theorem dX9_layLeans_251 : decode cX9_layLeans 251 = .ok (.dup, 1) := by decide +kernel
theorem dX9_layLeans_252 : decode cX9_layLeans 252 = .ok (.getfield 236, 3) := by decide +kernel
theorem dX9_layLeans_255 : decode cX9_layLeans 255 = .ok (.iconst 1, 1) := by decide +kernel
theorem dX9_layLeans_256 : decode cX9_layLeans 256 = .ok (.iadd, 1) := by decide +kernel
theorem dX9_layLeans_257 : decode cX9_layLeans 257 = .ok (.putfield 236, 3) := by decide +kernel
theorem dX9_layLeans_260 : decode cX9_layLeans 260 = .ok (.goto (-148), 3) := by decide +kernel
theorem dX9_layLeans_263 : decode cX9_layLeans 263 = .ok (.iconst 0, 1) := by decide +kernel
theorem dX9_layLeans_264 : decode cX9_layLeans 264 = .ok (.ireturn, 1) := by decide +kernel
theorem dX9_leans_0 : decode cX9_leans 0 = .ok (.aload_n 0, 1) := by decide +kernel
theorem dX9_leans_1 : decode cX9_leans 1 = .ok (.iload_n 1, 1) := by decide +kernel
theorem dX9_leans_2 : decode cX9_leans 2 = .ok (.invokevirtual 377, 3) := by decide +kernel
theorem dX9_leans_5 : decode cX9_leans 5 = .ok (.istore_n 2, 1) := by decide +kernel
theorem dX9_leans_6 : decode cX9_leans 6 = .ok (.iload_n 2, 1) := by decide +kernel
theorem dX9_leans_7 : decode cX9_leans 7 = .ok (.ifCond .ge 7, 3) := by decide +kernel
theorem dX9_leans_10 : decode cX9_leans 10 = .ok (.iload_n 2, 1) := by decide +kernel
theorem dX9_leans_11 : decode cX9_leans 11 = .ok (.goto 7, 3) := by decide +kernel
theorem dX9_leans_14 : decode cX9_leans 14 = .ok (.aload_n 0, 1) := by decide +kernel
theorem dX9_leans_15 : decode cX9_leans 15 = .ok (.getfield 374, 3) := by decide +kernel
theorem dX9_leans_18 : decode cX9_leans 18 = .ok (.ireturn, 1) := by decide +kernel
theorem dX9_surely_0 : decode cX9_surely 0 = .ok (.aload_n 0, 1) := by decide +kernel
theorem dX9_surely_1 : decode cX9_surely 1 = .ok (.iload_n 1, 1) := by decide +kernel
theorem dX9_surely_2 : decode cX9_surely 2 = .ok (.invokevirtual 377, 3) := by decide +kernel
theorem dX9_surely_5 : decode cX9_surely 5 = .ok (.istore_n 2, 1) := by decide +kernel
theorem dX9_surely_6 : decode cX9_surely 6 = .ok (.iload_n 2, 1) := by decide +kernel
theorem dX9_surely_7 : decode cX9_surely 7 = .ok (.ifCond .ge 5, 3) := by decide +kernel
theorem dX9_surely_10 : decode cX9_surely 10 = .ok (.iload_n 2, 1) := by decide +kernel
theorem dX9_surely_11 : decode cX9_surely 11 = .ok (.ireturn, 1) := by decide +kernel
theorem dX9_surely_12 : decode cX9_surely 12 = .ok (.iconst 1, 1) := by decide +kernel
theorem dX9_surely_13 : decode cX9_surely 13 = .ok (.aload_n 0, 1) := by decide +kernel
theorem dX9_surely_14 : decode cX9_surely 14 = .ok (.invokevirtual 100, 3) := by decide +kernel
theorem dX9_surely_17 : decode cX9_surely 17 = .ok (.ishl, 1) := by decide +kernel
theorem dX9_surely_18 : decode cX9_surely 18 = .ok (.iconst 1, 1) := by decide +kernel
theorem dX9_surely_19 : decode cX9_surely 19 = .ok (.isub, 1) := by decide +kernel
theorem dX9_surely_20 : decode cX9_surely 20 = .ok (.istore_n 3, 1) := by decide +kernel
theorem dX9_surely_21 : decode cX9_surely 21 = .ok (.iconst 0, 1) := by decide +kernel
theorem dX9_surely_22 : decode cX9_surely 22 = .ok (.istore 4, 2) := by decide +kernel
theorem dX9_surely_24 : decode cX9_surely 24 = .ok (.iload 4, 2) := by decide +kernel
theorem dX9_surely_26 : decode cX9_surely 26 = .ok (.aload_n 0, 1) := by decide +kernel
theorem dX9_surely_27 : decode cX9_surely 27 = .ok (.getfield 374, 3) := by decide +kernel
theorem dX9_surely_30 : decode cX9_surely 30 = .ok (.if_icmp .ge 19, 3) := by decide +kernel
theorem dX9_surely_33 : decode cX9_surely 33 = .ok (.iload_n 3, 1) := by decide +kernel
theorem dX9_surely_34 : decode cX9_surely 34 = .ok (.aload_n 0, 1) := by decide +kernel
theorem dX9_surely_35 : decode cX9_surely 35 = .ok (.getfield 61, 3) := by decide +kernel
theorem dX9_surely_38 : decode cX9_surely 38 = .ok (.iload 4, 2) := by decide +kernel
theorem dX9_surely_40 : decode cX9_surely 40 = .ok (.iaload, 1) := by decide +kernel
theorem dX9_surely_41 : decode cX9_surely 41 = .ok (.iand, 1) := by decide +kernel
theorem dX9_surely_42 : decode cX9_surely 42 = .ok (.istore_n 3, 1) := by decide +kernel
theorem dX9_surely_43 : decode cX9_surely 43 = .ok (.iinc 4 1, 3) := by decide +kernel
theorem dX9_surely_46 : decode cX9_surely 46 = .ok (.goto (-22), 3) := by decide +kernel
theorem dX9_surely_49 : decode cX9_surely 49 = .ok (.aload_n 0, 1) := by decide +kernel
theorem dX9_surely_50 : decode cX9_surely 50 = .ok (.getfield 374, 3) := by decide +kernel
theorem dX9_surely_53 : decode cX9_surely 53 = .ok (.ifCond .ne 7, 3) := by decide +kernel
theorem dX9_surely_56 : decode cX9_surely 56 = .ok (.iconst (-1), 1) := by decide +kernel
theorem dX9_surely_57 : decode cX9_surely 57 = .ok (.goto 4, 3) := by decide +kernel
theorem dX9_surely_60 : decode cX9_surely 60 = .ok (.iload_n 3, 1) := by decide +kernel
theorem dX9_surely_61 : decode cX9_surely 61 = .ok (.ireturn, 1) := by decide +kernel
theorem dX9_never_0 : decode cX9_never 0 = .ok (.aload_n 0, 1) := by decide +kernel
theorem dX9_never_1 : decode cX9_never 1 = .ok (.iload_n 1, 1) := by decide +kernel
theorem dX9_never_2 : decode cX9_never 2 = .ok (.invokevirtual 377, 3) := by decide +kernel
theorem dX9_never_5 : decode cX9_never 5 = .ok (.istore_n 2, 1) := by decide +kernel
theorem dX9_never_6 : decode cX9_never 6 = .ok (.iload_n 2, 1) := by decide +kernel
theorem dX9_never_7 : decode cX9_never 7 = .ok (.ifCond .ge 5, 3) := by decide +kernel
theorem dX9_never_10 : decode cX9_never 10 = .ok (.iload_n 2, 1) := by decide +kernel
theorem dX9_never_11 : decode cX9_never 11 = .ok (.ireturn, 1) := by decide +kernel
theorem dX9_never_12 : decode cX9_never 12 = .ok (.iconst 0, 1) := by decide +kernel
theorem dX9_never_13 : decode cX9_never 13 = .ok (.istore_n 3, 1) := by decide +kernel
theorem dX9_never_14 : decode cX9_never 14 = .ok (.iconst 0, 1) := by decide +kernel
theorem dX9_never_15 : decode cX9_never 15 = .ok (.istore 4, 2) := by decide +kernel
theorem dX9_never_17 : decode cX9_never 17 = .ok (.iload 4, 2) := by decide +kernel
theorem dX9_never_19 : decode cX9_never 19 = .ok (.aload_n 0, 1) := by decide +kernel
theorem dX9_never_20 : decode cX9_never 20 = .ok (.getfield 374, 3) := by decide +kernel
theorem dX9_never_23 : decode cX9_never 23 = .ok (.if_icmp .ge 19, 3) := by decide +kernel
theorem dX9_never_26 : decode cX9_never 26 = .ok (.iload_n 3, 1) := by decide +kernel
theorem dX9_never_27 : decode cX9_never 27 = .ok (.aload_n 0, 1) := by decide +kernel
theorem dX9_never_28 : decode cX9_never 28 = .ok (.getfield 61, 3) := by decide +kernel
theorem dX9_never_31 : decode cX9_never 31 = .ok (.iload 4, 2) := by decide +kernel
theorem dX9_never_33 : decode cX9_never 33 = .ok (.iaload, 1) := by decide +kernel
theorem dX9_never_34 : decode cX9_never 34 = .ok (.ior, 1) := by decide +kernel
theorem dX9_never_35 : decode cX9_never 35 = .ok (.istore_n 3, 1) := by decide +kernel
theorem dX9_never_36 : decode cX9_never 36 = .ok (.iinc 4 1, 3) := by decide +kernel
theorem dX9_never_39 : decode cX9_never 39 = .ok (.goto (-22), 3) := by decide +kernel
theorem dX9_never_42 : decode cX9_never 42 = .ok (.aload_n 0, 1) := by decide +kernel
theorem dX9_never_43 : decode cX9_never 43 = .ok (.getfield 374, 3) := by decide +kernel
theorem dX9_never_46 : decode cX9_never 46 = .ok (.ifCond .ne 7, 3) := by decide +kernel
theorem dX9_never_49 : decode cX9_never 49 = .ok (.iconst (-1), 1) := by decide +kernel
theorem dX9_never_50 : decode cX9_never 50 = .ok (.goto 15, 3) := by decide +kernel
theorem dX9_never_53 : decode cX9_never 53 = .ok (.iconst 1, 1) := by decide +kernel
theorem dX9_never_54 : decode cX9_never 54 = .ok (.aload_n 0, 1) := by decide +kernel
theorem dX9_never_55 : decode cX9_never 55 = .ok (.invokevirtual 100, 3) := by decide +kernel
theorem dX9_never_58 : decode cX9_never 58 = .ok (.ishl, 1) := by decide +kernel
theorem dX9_never_59 : decode cX9_never 59 = .ok (.iconst 1, 1) := by decide +kernel
theorem dX9_never_60 : decode cX9_never 60 = .ok (.isub, 1) := by decide +kernel
theorem dX9_never_61 : decode cX9_never 61 = .ok (.iload_n 3, 1) := by decide +kernel
theorem dX9_never_62 : decode cX9_never 62 = .ok (.iconst (-1), 1) := by decide +kernel
theorem dX9_never_63 : decode cX9_never 63 = .ok (.ixor, 1) := by decide +kernel
theorem dX9_never_64 : decode cX9_never 64 = .ok (.iand, 1) := by decide +kernel
theorem dX9_never_65 : decode cX9_never 65 = .ok (.ireturn, 1) := by decide +kernel
theorem dX9_askOf_0 : decode cX9_askOf 0 = .ok (.aload_n 0, 1) := by decide +kernel
theorem dX9_askOf_1 : decode cX9_askOf 1 = .ok (.aload_n 0, 1) := by decide +kernel
theorem dX9_askOf_2 : decode cX9_askOf 2 = .ok (.getfield 374, 3) := by decide +kernel
theorem dX9_askOf_5 : decode cX9_askOf 5 = .ok (.putfield 380, 3) := by decide +kernel
theorem dX9_askOf_8 : decode cX9_askOf 8 = .ok (.iconst (-1), 1) := by decide +kernel
theorem dX9_askOf_9 : decode cX9_askOf 9 = .ok (.istore_n 1, 1) := by decide +kernel
theorem dX9_askOf_10 : decode cX9_askOf 10 = .ok (.iconst 0, 1) := by decide +kernel
theorem dX9_askOf_11 : decode cX9_askOf 11 = .ok (.istore_n 2, 1) := by decide +kernel
theorem dX9_askOf_12 : decode cX9_askOf 12 = .ok (.iload_n 2, 1) := by decide +kernel
theorem dX9_askOf_13 : decode cX9_askOf 13 = .ok (.aload_n 0, 1) := by decide +kernel
theorem dX9_askOf_14 : decode cX9_askOf 14 = .ok (.invokevirtual 96, 3) := by decide +kernel
theorem dX9_askOf_17 : decode cX9_askOf 17 = .ok (.if_icmp .ge 112, 3) := by decide +kernel
theorem dX9_askOf_20 : decode cX9_askOf 20 = .ok (.iconst 0, 1) := by decide +kernel
theorem dX9_askOf_21 : decode cX9_askOf 21 = .ok (.istore_n 3, 1) := by decide +kernel
theorem dX9_askOf_22 : decode cX9_askOf 22 = .ok (.iconst 0, 1) := by decide +kernel
theorem dX9_askOf_23 : decode cX9_askOf 23 = .ok (.istore 4, 2) := by decide +kernel
theorem dX9_askOf_25 : decode cX9_askOf 25 = .ok (.iload 4, 2) := by decide +kernel
theorem dX9_askOf_27 : decode cX9_askOf 27 = .ok (.aload_n 0, 1) := by decide +kernel
theorem dX9_askOf_28 : decode cX9_askOf 28 = .ok (.getfield 374, 3) := by decide +kernel
theorem dX9_askOf_31 : decode cX9_askOf 31 = .ok (.if_icmp .ge 74, 3) := by decide +kernel
theorem dX9_askOf_34 : decode cX9_askOf 34 = .ok (.iconst 0, 1) := by decide +kernel
theorem dX9_askOf_35 : decode cX9_askOf 35 = .ok (.istore 5, 2) := by decide +kernel
theorem dX9_askOf_37 : decode cX9_askOf 37 = .ok (.iconst 0, 1) := by decide +kernel
theorem dX9_askOf_38 : decode cX9_askOf 38 = .ok (.istore 6, 2) := by decide +kernel
theorem dX9_askOf_40 : decode cX9_askOf 40 = .ok (.iload 6, 2) := by decide +kernel
theorem dX9_askOf_42 : decode cX9_askOf 42 = .ok (.aload_n 0, 1) := by decide +kernel
theorem dX9_askOf_43 : decode cX9_askOf 43 = .ok (.getfield 374, 3) := by decide +kernel
theorem dX9_askOf_46 : decode cX9_askOf 46 = .ok (.if_icmp .ge 46, 3) := by decide +kernel
theorem dX9_askOf_49 : decode cX9_askOf 49 = .ok (.iload 5, 2) := by decide +kernel
theorem dX9_askOf_51 : decode cX9_askOf 51 = .ok (.aload_n 0, 1) := by decide +kernel
theorem dX9_askOf_52 : decode cX9_askOf 52 = .ok (.getfield 64, 3) := by decide +kernel
theorem dX9_askOf_55 : decode cX9_askOf 55 = .ok (.bipush 20, 2) := by decide +kernel
theorem dX9_askOf_57 : decode cX9_askOf 57 = .ok (.iload 4, 2) := by decide +kernel
theorem dX9_askOf_59 : decode cX9_askOf 59 = .ok (.imul, 1) := by decide +kernel
theorem dX9_askOf_60 : decode cX9_askOf 60 = .ok (.iload_n 2, 1) := by decide +kernel
theorem dX9_askOf_61 : decode cX9_askOf 61 = .ok (.iadd, 1) := by decide +kernel
theorem dX9_askOf_62 : decode cX9_askOf 62 = .ok (.iaload, 1) := by decide +kernel
theorem dX9_askOf_63 : decode cX9_askOf 63 = .ok (.aload_n 0, 1) := by decide +kernel
theorem dX9_askOf_64 : decode cX9_askOf 64 = .ok (.getfield 64, 3) := by decide +kernel
theorem dX9_askOf_67 : decode cX9_askOf 67 = .ok (.bipush 20, 2) := by decide +kernel
theorem dX9_askOf_69 : decode cX9_askOf 69 = .ok (.iload 6, 2) := by decide +kernel
theorem dX9_askOf_71 : decode cX9_askOf 71 = .ok (.imul, 1) := by decide +kernel
theorem dX9_askOf_72 : decode cX9_askOf 72 = .ok (.iload_n 2, 1) := by decide +kernel
theorem dX9_askOf_73 : decode cX9_askOf 73 = .ok (.iadd, 1) := by decide +kernel
theorem dX9_askOf_74 : decode cX9_askOf 74 = .ok (.iaload, 1) := by decide +kernel
theorem dX9_askOf_75 : decode cX9_askOf 75 = .ok (.if_icmp .ne 7, 3) := by decide +kernel
theorem dX9_askOf_78 : decode cX9_askOf 78 = .ok (.iconst 1, 1) := by decide +kernel
theorem dX9_askOf_79 : decode cX9_askOf 79 = .ok (.goto 4, 3) := by decide +kernel
theorem dX9_askOf_82 : decode cX9_askOf 82 = .ok (.iconst 0, 1) := by decide +kernel
theorem dX9_askOf_83 : decode cX9_askOf 83 = .ok (.iadd, 1) := by decide +kernel
theorem dX9_askOf_84 : decode cX9_askOf 84 = .ok (.istore 5, 2) := by decide +kernel
theorem dX9_askOf_86 : decode cX9_askOf 86 = .ok (.iinc 6 1, 3) := by decide +kernel
theorem dX9_askOf_89 : decode cX9_askOf 89 = .ok (.goto (-49), 3) := by decide +kernel
theorem dX9_askOf_92 : decode cX9_askOf 92 = .ok (.iload_n 3, 1) := by decide +kernel
theorem dX9_askOf_93 : decode cX9_askOf 93 = .ok (.iload 5, 2) := by decide +kernel
theorem dX9_askOf_95 : decode cX9_askOf 95 = .ok (.invokestatic 267, 3) := by decide +kernel
theorem dX9_askOf_98 : decode cX9_askOf 98 = .ok (.istore_n 3, 1) := by decide +kernel
theorem dX9_askOf_99 : decode cX9_askOf 99 = .ok (.iinc 4 1, 3) := by decide +kernel
theorem dX9_askOf_102 : decode cX9_askOf 102 = .ok (.goto (-77), 3) := by decide +kernel
theorem dX9_askOf_105 : decode cX9_askOf 105 = .ok (.iload_n 3, 1) := by decide +kernel
theorem dX9_askOf_106 : decode cX9_askOf 106 = .ok (.aload_n 0, 1) := by decide +kernel
theorem dX9_askOf_107 : decode cX9_askOf 107 = .ok (.getfield 380, 3) := by decide +kernel
theorem dX9_askOf_110 : decode cX9_askOf 110 = .ok (.if_icmp .lt 6, 3) := by decide +kernel
theorem dX9_askOf_113 : decode cX9_askOf 113 = .ok (.goto 10, 3) := by decide +kernel
theorem dX9_askOf_116 : decode cX9_askOf 116 = .ok (.aload_n 0, 1) := by decide +kernel
theorem dX9_askOf_117 : decode cX9_askOf 117 = .ok (.iload_n 3, 1) := by decide +kernel
theorem dX9_askOf_118 : decode cX9_askOf 118 = .ok (.putfield 380, 3) := by decide +kernel
theorem dX9_askOf_121 : decode cX9_askOf 121 = .ok (.iload_n 2, 1) := by decide +kernel
theorem dX9_askOf_122 : decode cX9_askOf 122 = .ok (.istore_n 1, 1) := by decide +kernel
theorem dX9_askOf_123 : decode cX9_askOf 123 = .ok (.iinc 2 1, 3) := by decide +kernel
theorem dX9_askOf_126 : decode cX9_askOf 126 = .ok (.goto (-114), 3) := by decide +kernel
theorem dX9_askOf_129 : decode cX9_askOf 129 = .ok (.iload_n 1, 1) := by decide +kernel
theorem dX9_askOf_130 : decode cX9_askOf 130 = .ok (.ireturn, 1) := by decide +kernel
theorem dX9_ask_0 : decode cX9_ask 0 = .ok (.aload_n 0, 1) := by decide +kernel
theorem dX9_ask_1 : decode cX9_ask 1 = .ok (.iload_n 1, 1) := by decide +kernel
theorem dX9_ask_2 : decode cX9_ask 2 = .ok (.invokevirtual 377, 3) := by decide +kernel
theorem dX9_ask_5 : decode cX9_ask 5 = .ok (.istore_n 2, 1) := by decide +kernel
theorem dX9_ask_6 : decode cX9_ask 6 = .ok (.iload_n 2, 1) := by decide +kernel
theorem dX9_ask_7 : decode cX9_ask 7 = .ok (.ifCond .ge 7, 3) := by decide +kernel
theorem dX9_ask_10 : decode cX9_ask 10 = .ok (.iload_n 2, 1) := by decide +kernel
theorem dX9_ask_11 : decode cX9_ask 11 = .ok (.goto 7, 3) := by decide +kernel
theorem dX9_ask_14 : decode cX9_ask 14 = .ok (.aload_n 0, 1) := by decide +kernel
theorem dX9_ask_15 : decode cX9_ask 15 = .ok (.invokevirtual 383, 3) := by decide +kernel
theorem dX9_ask_18 : decode cX9_ask 18 = .ok (.ireturn, 1) := by decide +kernel
theorem dX9_leaves_0 : decode cX9_leaves 0 = .ok (.aload_n 0, 1) := by decide +kernel
theorem dX9_leaves_1 : decode cX9_leaves 1 = .ok (.iload_n 1, 1) := by decide +kernel
theorem dX9_leaves_2 : decode cX9_leaves 2 = .ok (.invokevirtual 377, 3) := by decide +kernel
theorem dX9_leaves_5 : decode cX9_leaves 5 = .ok (.istore_n 2, 1) := by decide +kernel
theorem dX9_leaves_6 : decode cX9_leaves 6 = .ok (.iload_n 2, 1) := by decide +kernel
theorem dX9_leaves_7 : decode cX9_leaves 7 = .ok (.ifCond .ge 5, 3) := by decide +kernel
theorem dX9_leaves_10 : decode cX9_leaves 10 = .ok (.iload_n 2, 1) := by decide +kernel
theorem dX9_leaves_11 : decode cX9_leaves 11 = .ok (.ireturn, 1) := by decide +kernel
theorem dX9_leaves_12 : decode cX9_leaves 12 = .ok (.aload_n 0, 1) := by decide +kernel
theorem dX9_leaves_13 : decode cX9_leaves 13 = .ok (.invokevirtual 383, 3) := by decide +kernel
theorem dX9_leaves_16 : decode cX9_leaves 16 = .ok (.pop, 1) := by decide +kernel
theorem dX9_leaves_17 : decode cX9_leaves 17 = .ok (.aload_n 0, 1) := by decide +kernel
theorem dX9_leaves_18 : decode cX9_leaves 18 = .ok (.getfield 380, 3) := by decide +kernel
theorem dX9_leaves_21 : decode cX9_leaves 21 = .ok (.ireturn, 1) := by decide +kernel
theorem dX9_askGate_0 : decode cX9_askGate 0 = .ok (.iload_n 1, 1) := by decide +kernel
theorem dX9_askGate_1 : decode cX9_askGate 1 = .ok (.invokestatic 367, 3) := by decide +kernel
theorem dX9_askGate_4 : decode cX9_askGate 4 = .ok (.ifCond .eq 10, 3) := by decide +kernel
theorem dX9_askGate_7 : decode cX9_askGate 7 = .ok (.aload_n 0, 1) := by decide +kernel
theorem dX9_askGate_8 : decode cX9_askGate 8 = .ok (.invokevirtual 92, 3) := by decide +kernel
theorem dX9_askGate_11 : decode cX9_askGate 11 = .ok (.ifCond .ne 6, 3) := by decide +kernel
theorem dX9_askGate_14 : decode cX9_askGate 14 = .ok (.bipush (-2), 2) := by decide +kernel
theorem dX9_askGate_16 : decode cX9_askGate 16 = .ok (.ireturn, 1) := by decide +kernel
theorem dX9_askGate_17 : decode cX9_askGate 17 = .ok (.aload_n 0, 1) := by decide +kernel
theorem dX9_askGate_18 : decode cX9_askGate 18 = .ok (.getfield 70, 3) := by decide +kernel
theorem dX9_askGate_21 : decode cX9_askGate 21 = .ok (.iload_n 1, 1) := by decide +kernel
theorem dX9_askGate_22 : decode cX9_askGate 22 = .ok (.iaload, 1) := by decide +kernel
theorem dX9_askGate_23 : decode cX9_askGate 23 = .ok (.iconst (-1), 1) := by decide +kernel
theorem dX9_askGate_24 : decode cX9_askGate 24 = .ok (.if_icmp .ne 6, 3) := by decide +kernel
theorem dX9_askGate_27 : decode cX9_askGate 27 = .ok (.bipush (-6), 2) := by decide +kernel
theorem dX9_askGate_29 : decode cX9_askGate 29 = .ok (.ireturn, 1) := by decide +kernel
theorem dX9_askGate_30 : decode cX9_askGate 30 = .ok (.aload_n 0, 1) := by decide +kernel
theorem dX9_askGate_31 : decode cX9_askGate 31 = .ok (.getfield 70, 3) := by decide +kernel
theorem dX9_askGate_34 : decode cX9_askGate 34 = .ok (.iload_n 1, 1) := by decide +kernel
theorem dX9_askGate_35 : decode cX9_askGate 35 = .ok (.iaload, 1) := by decide +kernel
theorem dX9_askGate_36 : decode cX9_askGate 36 = .ok (.iconst 2, 1) := by decide +kernel
theorem dX9_askGate_37 : decode cX9_askGate 37 = .ok (.irem, 1) := by decide +kernel
theorem dX9_askGate_38 : decode cX9_askGate 38 = .ok (.ifCond .eq 6, 3) := by decide +kernel
theorem dX9_askGate_41 : decode cX9_askGate 41 = .ok (.bipush (-2), 2) := by decide +kernel
theorem dX9_askGate_43 : decode cX9_askGate 43 = .ok (.ireturn, 1) := by decide +kernel
theorem dX9_askGate_44 : decode cX9_askGate 44 = .ok (.iconst 0, 1) := by decide +kernel
theorem dX9_askGate_45 : decode cX9_askGate 45 = .ok (.istore_n 2, 1) := by decide +kernel
theorem dX9_askGate_46 : decode cX9_askGate 46 = .ok (.iload_n 2, 1) := by decide +kernel
theorem dX9_askGate_47 : decode cX9_askGate 47 = .ok (.aload_n 0, 1) := by decide +kernel
theorem dX9_askGate_48 : decode cX9_askGate 48 = .ok (.getfield 70, 3) := by decide +kernel
theorem dX9_askGate_51 : decode cX9_askGate 51 = .ok (.iload_n 1, 1) := by decide +kernel
theorem dX9_askGate_52 : decode cX9_askGate 52 = .ok (.iaload, 1) := by decide +kernel
theorem dX9_askGate_53 : decode cX9_askGate 53 = .ok (.if_icmp .ge 40, 3) := by decide +kernel
theorem dX9_askGate_56 : decode cX9_askGate 56 = .ok (.aload_n 0, 1) := by decide +kernel
theorem dX9_askGate_57 : decode cX9_askGate 57 = .ok (.aload_n 0, 1) := by decide +kernel
theorem dX9_askGate_58 : decode cX9_askGate 58 = .ok (.iload_n 1, 1) := by decide +kernel
theorem dX9_askGate_59 : decode cX9_askGate 59 = .ok (.iload_n 2, 1) := by decide +kernel
theorem dX9_askGate_60 : decode cX9_askGate 60 = .ok (.invokevirtual 370, 3) := by decide +kernel
theorem dX9_askGate_63 : decode cX9_askGate 63 = .ok (.invokevirtual 286, 3) := by decide +kernel
theorem dX9_askGate_66 : decode cX9_askGate 66 = .ok (.ifCond .eq 18, 3) := by decide +kernel
theorem dX9_askGate_69 : decode cX9_askGate 69 = .ok (.aload_n 0, 1) := by decide +kernel
theorem dX9_askGate_70 : decode cX9_askGate 70 = .ok (.aload_n 0, 1) := by decide +kernel
theorem dX9_askGate_71 : decode cX9_askGate 71 = .ok (.iload_n 1, 1) := by decide +kernel
theorem dX9_askGate_72 : decode cX9_askGate 72 = .ok (.iload_n 2, 1) := by decide +kernel
theorem dX9_askGate_73 : decode cX9_askGate 73 = .ok (.iconst 1, 1) := by decide +kernel
theorem dX9_askGate_74 : decode cX9_askGate 74 = .ok (.iadd, 1) := by decide +kernel
theorem dX9_askGate_75 : decode cX9_askGate 75 = .ok (.invokevirtual 370, 3) := by decide +kernel
theorem dX9_askGate_78 : decode cX9_askGate 78 = .ok (.invokevirtual 254, 3) := by decide +kernel
theorem dX9_askGate_81 : decode cX9_askGate 81 = .ok (.ifCond .ne 6, 3) := by decide +kernel
theorem dX9_askGate_84 : decode cX9_askGate 84 = .ok (.bipush (-2), 2) := by decide +kernel
theorem dX9_askGate_86 : decode cX9_askGate 86 = .ok (.ireturn, 1) := by decide +kernel
theorem dX9_askGate_87 : decode cX9_askGate 87 = .ok (.iinc 2 2, 3) := by decide +kernel
theorem dX9_askGate_90 : decode cX9_askGate 90 = .ok (.goto (-44), 3) := by decide +kernel
theorem dX9_askGate_93 : decode cX9_askGate 93 = .ok (.aload_n 0, 1) := by decide +kernel
theorem dX9_askGate_94 : decode cX9_askGate 94 = .ok (.invokevirtual 251, 3) := by decide +kernel
theorem dX9_askGate_97 : decode cX9_askGate 97 = .ok (.iconst 0, 1) := by decide +kernel
theorem dX9_askGate_98 : decode cX9_askGate 98 = .ok (.ireturn, 1) := by decide +kernel
theorem dX9_gateOf_0 : decode cX9_gateOf 0 = .ok (.aload_n 0, 1) := by decide +kernel
theorem dX9_gateOf_1 : decode cX9_gateOf 1 = .ok (.invokevirtual 280, 3) := by decide +kernel
theorem dX9_gateOf_4 : decode cX9_gateOf 4 = .ok (.iconst 0, 1) := by decide +kernel
theorem dX9_gateOf_5 : decode cX9_gateOf 5 = .ok (.istore_n 2, 1) := by decide +kernel
theorem dX9_gateOf_6 : decode cX9_gateOf 6 = .ok (.iconst 0, 1) := by decide +kernel
theorem dX9_gateOf_7 : decode cX9_gateOf 7 = .ok (.istore_n 3, 1) := by decide +kernel
theorem dX9_gateOf_8 : decode cX9_gateOf 8 = .ok (.iload_n 3, 1) := by decide +kernel
theorem dX9_gateOf_9 : decode cX9_gateOf 9 = .ok (.aload_n 0, 1) := by decide +kernel
theorem dX9_gateOf_10 : decode cX9_gateOf 10 = .ok (.invokevirtual 100, 3) := by decide +kernel
theorem dX9_gateOf_13 : decode cX9_gateOf 13 = .ok (.if_icmp .ge 86, 3) := by decide +kernel
theorem dX9_gateOf_16 : decode cX9_gateOf 16 = .ok (.iconst 1, 1) := by decide +kernel
theorem dX9_gateOf_17 : decode cX9_gateOf 17 = .ok (.istore 4, 2) := by decide +kernel
theorem dX9_gateOf_19 : decode cX9_gateOf 19 = .ok (.iconst 0, 1) := by decide +kernel
theorem dX9_gateOf_20 : decode cX9_gateOf 20 = .ok (.istore 5, 2) := by decide +kernel
theorem dX9_gateOf_22 : decode cX9_gateOf 22 = .ok (.iload 5, 2) := by decide +kernel
theorem dX9_gateOf_24 : decode cX9_gateOf 24 = .ok (.aload_n 0, 1) := by decide +kernel
theorem dX9_gateOf_25 : decode cX9_gateOf 25 = .ok (.getfield 70, 3) := by decide +kernel
theorem dX9_gateOf_28 : decode cX9_gateOf 28 = .ok (.iload_n 1, 1) := by decide +kernel
theorem dX9_gateOf_29 : decode cX9_gateOf 29 = .ok (.iaload, 1) := by decide +kernel
theorem dX9_gateOf_30 : decode cX9_gateOf 30 = .ok (.if_icmp .ge 48, 3) := by decide +kernel
theorem dX9_gateOf_33 : decode cX9_gateOf 33 = .ok (.iload 4, 2) := by decide +kernel
theorem dX9_gateOf_35 : decode cX9_gateOf 35 = .ok (.ifCond .eq 34, 3) := by decide +kernel
theorem dX9_gateOf_38 : decode cX9_gateOf 38 = .ok (.aload_n 0, 1) := by decide +kernel
theorem dX9_gateOf_39 : decode cX9_gateOf 39 = .ok (.iload_n 3, 1) := by decide +kernel
theorem dX9_gateOf_40 : decode cX9_gateOf 40 = .ok (.aload_n 0, 1) := by decide +kernel
theorem dX9_gateOf_41 : decode cX9_gateOf 41 = .ok (.iload_n 1, 1) := by decide +kernel
theorem dX9_gateOf_42 : decode cX9_gateOf 42 = .ok (.iload 5, 2) := by decide +kernel
theorem dX9_gateOf_44 : decode cX9_gateOf 44 = .ok (.invokevirtual 370, 3) := by decide +kernel
theorem dX9_gateOf_47 : decode cX9_gateOf 47 = .ok (.l2i, 1) := by decide +kernel
theorem dX9_gateOf_48 : decode cX9_gateOf 48 = .ok (.invokevirtual 261, 3) := by decide +kernel
theorem dX9_gateOf_51 : decode cX9_gateOf 51 = .ok (.i2l, 1) := by decide +kernel
theorem dX9_gateOf_52 : decode cX9_gateOf 52 = .ok (.aload_n 0, 1) := by decide +kernel
theorem dX9_gateOf_53 : decode cX9_gateOf 53 = .ok (.iload_n 1, 1) := by decide +kernel
theorem dX9_gateOf_54 : decode cX9_gateOf 54 = .ok (.iload 5, 2) := by decide +kernel
theorem dX9_gateOf_56 : decode cX9_gateOf 56 = .ok (.iconst 1, 1) := by decide +kernel
theorem dX9_gateOf_57 : decode cX9_gateOf 57 = .ok (.iadd, 1) := by decide +kernel
theorem dX9_gateOf_58 : decode cX9_gateOf 58 = .ok (.invokevirtual 370, 3) := by decide +kernel
theorem dX9_gateOf_61 : decode cX9_gateOf 61 = .ok (.lcmp, 1) := by decide +kernel
theorem dX9_gateOf_62 : decode cX9_gateOf 62 = .ok (.ifCond .ne 7, 3) := by decide +kernel
theorem dX9_gateOf_65 : decode cX9_gateOf 65 = .ok (.iconst 1, 1) := by decide +kernel
theorem dX9_gateOf_66 : decode cX9_gateOf 66 = .ok (.goto 4, 3) := by decide +kernel
theorem dX9_gateOf_69 : decode cX9_gateOf 69 = .ok (.iconst 0, 1) := by decide +kernel
theorem dX9_gateOf_70 : decode cX9_gateOf 70 = .ok (.istore 4, 2) := by decide +kernel
theorem dX9_gateOf_72 : decode cX9_gateOf 72 = .ok (.iinc 5 2, 3) := by decide +kernel
theorem dX9_gateOf_75 : decode cX9_gateOf 75 = .ok (.goto (-53), 3) := by decide +kernel
theorem dX9_gateOf_78 : decode cX9_gateOf 78 = .ok (.iload_n 2, 1) := by decide +kernel
theorem dX9_gateOf_79 : decode cX9_gateOf 79 = .ok (.iload 4, 2) := by decide +kernel
theorem dX9_gateOf_81 : decode cX9_gateOf 81 = .ok (.ifCond .eq 9, 3) := by decide +kernel
theorem dX9_gateOf_84 : decode cX9_gateOf 84 = .ok (.iconst 1, 1) := by decide +kernel
theorem dX9_gateOf_85 : decode cX9_gateOf 85 = .ok (.iload_n 3, 1) := by decide +kernel
theorem dX9_gateOf_86 : decode cX9_gateOf 86 = .ok (.ishl, 1) := by decide +kernel
theorem dX9_gateOf_87 : decode cX9_gateOf 87 = .ok (.goto 4, 3) := by decide +kernel
theorem dX9_gateOf_90 : decode cX9_gateOf 90 = .ok (.iconst 0, 1) := by decide +kernel
theorem dX9_gateOf_91 : decode cX9_gateOf 91 = .ok (.ior, 1) := by decide +kernel
theorem dX9_gateOf_92 : decode cX9_gateOf 92 = .ok (.istore_n 2, 1) := by decide +kernel
theorem dX9_gateOf_93 : decode cX9_gateOf 93 = .ok (.iinc 3 1, 3) := by decide +kernel
theorem dX9_gateOf_96 : decode cX9_gateOf 96 = .ok (.goto (-88), 3) := by decide +kernel
theorem dX9_gateOf_99 : decode cX9_gateOf 99 = .ok (.iload_n 2, 1) := by decide +kernel
theorem dX9_gateOf_100 : decode cX9_gateOf 100 = .ok (.ireturn, 1) := by decide +kernel
theorem dX9_gate_0 : decode cX9_gate 0 = .ok (.aload_n 0, 1) := by decide +kernel
theorem dX9_gate_1 : decode cX9_gate 1 = .ok (.iload_n 1, 1) := by decide +kernel
theorem dX9_gate_2 : decode cX9_gate 2 = .ok (.invokevirtual 386, 3) := by decide +kernel
theorem dX9_gate_5 : decode cX9_gate 5 = .ok (.istore_n 2, 1) := by decide +kernel
theorem dX9_gate_6 : decode cX9_gate 6 = .ok (.iload_n 2, 1) := by decide +kernel
theorem dX9_gate_7 : decode cX9_gate 7 = .ok (.ifCond .ge 7, 3) := by decide +kernel
theorem dX9_gate_10 : decode cX9_gate 10 = .ok (.iload_n 2, 1) := by decide +kernel
theorem dX9_gate_11 : decode cX9_gate 11 = .ok (.goto 8, 3) := by decide +kernel
theorem dX9_gate_14 : decode cX9_gate 14 = .ok (.aload_n 0, 1) := by decide +kernel
theorem dX9_gate_15 : decode cX9_gate 15 = .ok (.iload_n 1, 1) := by decide +kernel
theorem dX9_gate_16 : decode cX9_gate 16 = .ok (.invokevirtual 389, 3) := by decide +kernel
theorem dX9_gate_19 : decode cX9_gate 19 = .ok (.ireturn, 1) := by decide +kernel
theorem dX9_laws_0 : decode cX9_laws 0 = .ok (.aload_n 0, 1) := by decide +kernel
theorem dX9_laws_1 : decode cX9_laws 1 = .ok (.iload_n 1, 1) := by decide +kernel
theorem dX9_laws_2 : decode cX9_laws 2 = .ok (.invokevirtual 386, 3) := by decide +kernel
theorem dX9_laws_5 : decode cX9_laws 5 = .ok (.istore_n 2, 1) := by decide +kernel
theorem dX9_laws_6 : decode cX9_laws 6 = .ok (.iload_n 2, 1) := by decide +kernel
theorem dX9_laws_7 : decode cX9_laws 7 = .ok (.ifCond .ge 5, 3) := by decide +kernel
theorem dX9_laws_10 : decode cX9_laws 10 = .ok (.iload_n 2, 1) := by decide +kernel
theorem dX9_laws_11 : decode cX9_laws 11 = .ok (.ireturn, 1) := by decide +kernel
theorem dX9_laws_12 : decode cX9_laws 12 = .ok (.iconst 0, 1) := by decide +kernel
theorem dX9_laws_13 : decode cX9_laws 13 = .ok (.istore_n 3, 1) := by decide +kernel
theorem dX9_laws_14 : decode cX9_laws 14 = .ok (.aload_n 0, 1) := by decide +kernel
theorem dX9_laws_15 : decode cX9_laws 15 = .ok (.iconst 0, 1) := by decide +kernel
theorem dX9_laws_16 : decode cX9_laws 16 = .ok (.putfield 230, 3) := by decide +kernel
theorem dX9_laws_19 : decode cX9_laws 19 = .ok (.aload_n 0, 1) := by decide +kernel
theorem dX9_laws_20 : decode cX9_laws 20 = .ok (.getfield 230, 3) := by decide +kernel
theorem dX9_laws_23 : decode cX9_laws 23 = .ok (.iconst 4, 1) := by decide +kernel
theorem dX9_laws_24 : decode cX9_laws 24 = .ok (.if_icmp .ge 37, 3) := by decide +kernel
theorem dX9_laws_27 : decode cX9_laws 27 = .ok (.iload_n 3, 1) := by decide +kernel
theorem dX9_laws_28 : decode cX9_laws 28 = .ok (.aload_n 0, 1) := by decide +kernel
theorem dX9_laws_29 : decode cX9_laws 29 = .ok (.iload_n 1, 1) := by decide +kernel
theorem dX9_laws_30 : decode cX9_laws 30 = .ok (.invokevirtual 389, 3) := by decide +kernel
theorem dX9_laws_33 : decode cX9_laws 33 = .ok (.ifCond .eq 12, 3) := by decide +kernel
theorem dX9_laws_36 : decode cX9_laws 36 = .ok (.iconst 1, 1) := by decide +kernel
theorem dX9_laws_37 : decode cX9_laws 37 = .ok (.aload_n 0, 1) := by decide +kernel
theorem dX9_laws_38 : decode cX9_laws 38 = .ok (.getfield 230, 3) := by decide +kernel
theorem dX9_laws_41 : decode cX9_laws 41 = .ok (.ishl, 1) := by decide +kernel
theorem dX9_laws_42 : decode cX9_laws 42 = .ok (.goto 4, 3) := by decide +kernel
theorem dX9_laws_45 : decode cX9_laws 45 = .ok (.iconst 0, 1) := by decide +kernel
theorem dX9_laws_46 : decode cX9_laws 46 = .ok (.ior, 1) := by decide +kernel
theorem dX9_laws_47 : decode cX9_laws 47 = .ok (.istore_n 3, 1) := by decide +kernel
theorem dX9_laws_48 : decode cX9_laws 48 = .ok (.aload_n 0, 1) := by decide +kernel
theorem dX9_laws_49 : decode cX9_laws 49 = .ok (.dup, 1) := by decide +kernel
theorem dX9_laws_50 : decode cX9_laws 50 = .ok (.getfield 230, 3) := by decide +kernel
theorem dX9_laws_53 : decode cX9_laws 53 = .ok (.iconst 1, 1) := by decide +kernel
theorem dX9_laws_54 : decode cX9_laws 54 = .ok (.iadd, 1) := by decide +kernel
theorem dX9_laws_55 : decode cX9_laws 55 = .ok (.putfield 230, 3) := by decide +kernel
theorem dX9_laws_58 : decode cX9_laws 58 = .ok (.goto (-39), 3) := by decide +kernel
theorem dX9_laws_61 : decode cX9_laws 61 = .ok (.iload_n 3, 1) := by decide +kernel
theorem dX9_laws_62 : decode cX9_laws 62 = .ok (.ireturn, 1) := by decide +kernel
theorem dX9_worthOf_0 : decode cX9_worthOf 0 = .ok (.aload_n 0, 1) := by decide +kernel
theorem dX9_worthOf_1 : decode cX9_worthOf 1 = .ok (.iconst 1, 1) := by decide +kernel
theorem dX9_worthOf_2 : decode cX9_worthOf 2 = .ok (.aload_n 0, 1) := by decide +kernel
theorem dX9_worthOf_3 : decode cX9_worthOf 3 = .ok (.invokevirtual 100, 3) := by decide +kernel
theorem dX9_worthOf_6 : decode cX9_worthOf 6 = .ok (.ishl, 1) := by decide +kernel
theorem dX9_worthOf_7 : decode cX9_worthOf 7 = .ok (.iconst 1, 1) := by decide +kernel
theorem dX9_worthOf_8 : decode cX9_worthOf 8 = .ok (.isub, 1) := by decide +kernel
theorem dX9_worthOf_9 : decode cX9_worthOf 9 = .ok (.iload_n 1, 1) := by decide +kernel
theorem dX9_worthOf_10 : decode cX9_worthOf 10 = .ok (.iconst (-1), 1) := by decide +kernel
theorem dX9_worthOf_11 : decode cX9_worthOf 11 = .ok (.ixor, 1) := by decide +kernel
theorem dX9_worthOf_12 : decode cX9_worthOf 12 = .ok (.iand, 1) := by decide +kernel
theorem dX9_worthOf_13 : decode cX9_worthOf 13 = .ok (.putfield 242, 3) := by decide +kernel
theorem dX9_worthOf_16 : decode cX9_worthOf 16 = .ok (.aload_n 0, 1) := by decide +kernel
theorem dX9_worthOf_17 : decode cX9_worthOf 17 = .ok (.invokevirtual 280, 3) := by decide +kernel
theorem dX9_worthOf_20 : decode cX9_worthOf 20 = .ok (.iconst 0, 1) := by decide +kernel
theorem dX9_worthOf_21 : decode cX9_worthOf 21 = .ok (.istore_n 2, 1) := by decide +kernel
theorem dX9_worthOf_22 : decode cX9_worthOf 22 = .ok (.iconst 0, 1) := by decide +kernel
theorem dX9_worthOf_23 : decode cX9_worthOf 23 = .ok (.istore_n 3, 1) := by decide +kernel
theorem dX9_worthOf_24 : decode cX9_worthOf 24 = .ok (.iload_n 3, 1) := by decide +kernel
theorem dX9_worthOf_25 : decode cX9_worthOf 25 = .ok (.aload_n 0, 1) := by decide +kernel
theorem dX9_worthOf_26 : decode cX9_worthOf 26 = .ok (.invokevirtual 96, 3) := by decide +kernel
theorem dX9_worthOf_29 : decode cX9_worthOf 29 = .ok (.if_icmp .ge 21, 3) := by decide +kernel
theorem dX9_worthOf_32 : decode cX9_worthOf 32 = .ok (.iload_n 2, 1) := by decide +kernel
theorem dX9_worthOf_33 : decode cX9_worthOf 33 = .ok (.aload_n 0, 1) := by decide +kernel
theorem dX9_worthOf_34 : decode cX9_worthOf 34 = .ok (.getfield 52, 3) := by decide +kernel
theorem dX9_worthOf_37 : decode cX9_worthOf 37 = .ok (.iload_n 3, 1) := by decide +kernel
theorem dX9_worthOf_38 : decode cX9_worthOf 38 = .ok (.iaload, 1) := by decide +kernel
theorem dX9_worthOf_39 : decode cX9_worthOf 39 = .ok (.invokestatic 304, 3) := by decide +kernel
theorem dX9_worthOf_42 : decode cX9_worthOf 42 = .ok (.iadd, 1) := by decide +kernel
theorem dX9_worthOf_43 : decode cX9_worthOf 43 = .ok (.istore_n 2, 1) := by decide +kernel
theorem dX9_worthOf_44 : decode cX9_worthOf 44 = .ok (.iinc 3 1, 3) := by decide +kernel
theorem dX9_worthOf_47 : decode cX9_worthOf 47 = .ok (.goto (-23), 3) := by decide +kernel
theorem dX9_worthOf_50 : decode cX9_worthOf 50 = .ok (.iload_n 2, 1) := by decide +kernel
theorem dX9_worthOf_51 : decode cX9_worthOf 51 = .ok (.ireturn, 1) := by decide +kernel
theorem dX9_worth_0 : decode cX9_worth 0 = .ok (.aload_n 0, 1) := by decide +kernel
theorem dX9_worth_1 : decode cX9_worth 1 = .ok (.invokevirtual 251, 3) := by decide +kernel
theorem dX9_worth_4 : decode cX9_worth 4 = .ok (.aload_n 0, 1) := by decide +kernel
theorem dX9_worth_5 : decode cX9_worth 5 = .ok (.invokevirtual 92, 3) := by decide +kernel
theorem dX9_worth_8 : decode cX9_worth 8 = .ok (.ifCond .eq 29, 3) := by decide +kernel
theorem dX9_worth_11 : decode cX9_worth 11 = .ok (.iload_n 1, 1) := by decide +kernel
theorem dX9_worth_12 : decode cX9_worth 12 = .ok (.i2l, 1) := by decide +kernel
theorem dX9_worth_13 : decode cX9_worth 13 = .ok (.lconst 0, 1) := by decide +kernel
theorem dX9_worth_14 : decode cX9_worth 14 = .ok (.iconst 1, 1) := by decide +kernel
theorem dX9_worth_15 : decode cX9_worth 15 = .ok (.aload_n 0, 1) := by decide +kernel
theorem dX9_worth_16 : decode cX9_worth 16 = .ok (.invokevirtual 100, 3) := by decide +kernel
theorem dX9_worth_19 : decode cX9_worth 19 = .ok (.ishl, 1) := by decide +kernel
theorem dX9_worth_20 : decode cX9_worth 20 = .ok (.iconst 1, 1) := by decide +kernel
theorem dX9_worth_21 : decode cX9_worth 21 = .ok (.isub, 1) := by decide +kernel
theorem dX9_worth_22 : decode cX9_worth 22 = .ok (.i2l, 1) := by decide +kernel
theorem dX9_worth_23 : decode cX9_worth 23 = .ok (.invokestatic 88, 3) := by decide +kernel
theorem dX9_worth_26 : decode cX9_worth 26 = .ok (.ifCond .eq 11, 3) := by decide +kernel
theorem dX9_worth_29 : decode cX9_worth 29 = .ok (.aload_n 0, 1) := by decide +kernel
theorem dX9_worth_30 : decode cX9_worth 30 = .ok (.iload_n 1, 1) := by decide +kernel
theorem dX9_worth_31 : decode cX9_worth 31 = .ok (.invokevirtual 392, 3) := by decide +kernel
theorem dX9_worth_34 : decode cX9_worth 34 = .ok (.goto 5, 3) := by decide +kernel
theorem dX9_worth_37 : decode cX9_worth 37 = .ok (.bipush (-2), 2) := by decide +kernel
theorem dX9_worth_39 : decode cX9_worth 39 = .ok (.ireturn, 1) := by decide +kernel
theorem dX9_factorial_0 : decode cX9_factorial 0 = .ok (.lconst 1, 1) := by decide +kernel
theorem dX9_factorial_1 : decode cX9_factorial 1 = .ok (.lstore_n 1, 1) := by decide +kernel
theorem dX9_factorial_2 : decode cX9_factorial 2 = .ok (.iconst 2, 1) := by decide +kernel
theorem dX9_factorial_3 : decode cX9_factorial 3 = .ok (.istore_n 3, 1) := by decide +kernel
theorem dX9_factorial_4 : decode cX9_factorial 4 = .ok (.iload_n 3, 1) := by decide +kernel
theorem dX9_factorial_5 : decode cX9_factorial 5 = .ok (.iload_n 0, 1) := by decide +kernel
theorem dX9_factorial_6 : decode cX9_factorial 6 = .ok (.if_icmp .gt 14, 3) := by decide +kernel
theorem dX9_factorial_9 : decode cX9_factorial 9 = .ok (.lload_n 1, 1) := by decide +kernel
theorem dX9_factorial_10 : decode cX9_factorial 10 = .ok (.iload_n 3, 1) := by decide +kernel
theorem dX9_factorial_11 : decode cX9_factorial 11 = .ok (.i2l, 1) := by decide +kernel
theorem dX9_factorial_12 : decode cX9_factorial 12 = .ok (.lmul, 1) := by decide +kernel
theorem dX9_factorial_13 : decode cX9_factorial 13 = .ok (.lstore_n 1, 1) := by decide +kernel
theorem dX9_factorial_14 : decode cX9_factorial 14 = .ok (.iinc 3 1, 3) := by decide +kernel
theorem dX9_factorial_17 : decode cX9_factorial 17 = .ok (.goto (-13), 3) := by decide +kernel
theorem dX9_factorial_20 : decode cX9_factorial 20 = .ok (.lload_n 1, 1) := by decide +kernel
theorem dX9_factorial_21 : decode cX9_factorial 21 = .ok (.lreturn, 1) := by decide +kernel
theorem dX9_divisor_0 : decode cX9_divisor 0 = .ok (.lload_n 0, 1) := by decide +kernel
theorem dX9_divisor_1 : decode cX9_divisor 1 = .ok (.invokestatic 395, 3) := by decide +kernel
theorem dX9_divisor_4 : decode cX9_divisor 4 = .ok (.lstore 4, 2) := by decide +kernel
theorem dX9_divisor_6 : decode cX9_divisor 6 = .ok (.lload_n 2, 1) := by decide +kernel
theorem dX9_divisor_7 : decode cX9_divisor 7 = .ok (.lstore 6, 2) := by decide +kernel
theorem dX9_divisor_9 : decode cX9_divisor 9 = .ok (.lload 6, 2) := by decide +kernel
theorem dX9_divisor_11 : decode cX9_divisor 11 = .ok (.lconst 0, 1) := by decide +kernel
theorem dX9_divisor_12 : decode cX9_divisor 12 = .ok (.lcmp, 1) := by decide +kernel
theorem dX9_divisor_13 : decode cX9_divisor 13 = .ok (.ifCond .eq 21, 3) := by decide +kernel
theorem dX9_divisor_16 : decode cX9_divisor 16 = .ok (.lload 4, 2) := by decide +kernel
theorem dX9_divisor_18 : decode cX9_divisor 18 = .ok (.lload 6, 2) := by decide +kernel
theorem dX9_divisor_20 : decode cX9_divisor 20 = .ok (.lrem, 1) := by decide +kernel
theorem dX9_divisor_21 : decode cX9_divisor 21 = .ok (.lstore 8, 2) := by decide +kernel
theorem dX9_divisor_23 : decode cX9_divisor 23 = .ok (.lload 6, 2) := by decide +kernel
theorem dX9_divisor_25 : decode cX9_divisor 25 = .ok (.lstore 4, 2) := by decide +kernel
theorem dX9_divisor_27 : decode cX9_divisor 27 = .ok (.lload 8, 2) := by decide +kernel
theorem dX9_divisor_29 : decode cX9_divisor 29 = .ok (.lstore 6, 2) := by decide +kernel
theorem dX9_divisor_31 : decode cX9_divisor 31 = .ok (.goto (-22), 3) := by decide +kernel
theorem dX9_divisor_34 : decode cX9_divisor 34 = .ok (.lload 4, 2) := by decide +kernel
theorem dX9_divisor_36 : decode cX9_divisor 36 = .ok (.lreturn, 1) := by decide +kernel
theorem dX9_part_0 : decode cX9_part 0 = .ok (.iload 4, 2) := by decide +kernel
theorem dX9_part_2 : decode cX9_part 2 = .ok (.ifCond .ne 7, 3) := by decide +kernel
theorem dX9_part_5 : decode cX9_part 5 = .ok (.lload_n 0, 1) := by decide +kernel
theorem dX9_part_6 : decode cX9_part 6 = .ok (.goto 4, 3) := by decide +kernel
theorem dX9_part_9 : decode cX9_part 9 = .ok (.lload_n 2, 1) := by decide +kernel
theorem dX9_part_10 : decode cX9_part 10 = .ok (.lload_n 0, 1) := by decide +kernel
theorem dX9_part_11 : decode cX9_part 11 = .ok (.lload_n 2, 1) := by decide +kernel
theorem dX9_part_12 : decode cX9_part 12 = .ok (.invokestatic 398, 3) := by decide +kernel
theorem dX9_part_15 : decode cX9_part 15 = .ok (.ldiv, 1) := by decide +kernel
theorem dX9_part_16 : decode cX9_part 16 = .ok (.lreturn, 1) := by decide +kernel
theorem dX9_share_0 : decode cX9_share 0 = .ok (.aload_n 0, 1) := by decide +kernel
theorem dX9_share_1 : decode cX9_share 1 = .ok (.iload_n 1, 1) := by decide +kernel
theorem dX9_share_2 : decode cX9_share 2 = .ok (.invokevirtual 103, 3) := by decide +kernel
theorem dX9_share_5 : decode cX9_share 5 = .ok (.ifCond .eq 13, 3) := by decide +kernel
theorem dX9_share_8 : decode cX9_share 8 = .ok (.iload_n 2, 1) := by decide +kernel
theorem dX9_share_9 : decode cX9_share 9 = .ok (.i2l, 1) := by decide +kernel
theorem dX9_share_10 : decode cX9_share 10 = .ok (.lconst 0, 1) := by decide +kernel
theorem dX9_share_11 : decode cX9_share 11 = .ok (.lconst 1, 1) := by decide +kernel
theorem dX9_share_12 : decode cX9_share 12 = .ok (.invokestatic 88, 3) := by decide +kernel
theorem dX9_share_15 : decode cX9_share 15 = .ok (.ifCond .ne 6, 3) := by decide +kernel
theorem dX9_share_18 : decode cX9_share 18 = .ok (.bipush (-2), 2) := by decide +kernel
theorem dX9_share_20 : decode cX9_share 20 = .ok (.ireturn, 1) := by decide +kernel
theorem dX9_share_21 : decode cX9_share 21 = .ok (.aload_n 0, 1) := by decide +kernel
theorem dX9_share_22 : decode cX9_share 22 = .ok (.invokevirtual 251, 3) := by decide +kernel
theorem dX9_share_25 : decode cX9_share 25 = .ok (.aload_n 0, 1) := by decide +kernel
theorem dX9_share_26 : decode cX9_share 26 = .ok (.invokevirtual 100, 3) := by decide +kernel
theorem dX9_share_29 : decode cX9_share 29 = .ok (.istore_n 3, 1) := by decide +kernel
theorem dX9_share_30 : decode cX9_share 30 = .ok (.iconst 0, 1) := by decide +kernel
theorem dX9_share_31 : decode cX9_share 31 = .ok (.istore 4, 2) := by decide +kernel
theorem dX9_share_33 : decode cX9_share 33 = .ok (.iload 4, 2) := by decide +kernel
theorem dX9_share_35 : decode cX9_share 35 = .ok (.iconst 1, 1) := by decide +kernel
theorem dX9_share_36 : decode cX9_share 36 = .ok (.iload_n 3, 1) := by decide +kernel
theorem dX9_share_37 : decode cX9_share 37 = .ok (.ishl, 1) := by decide +kernel
theorem dX9_share_38 : decode cX9_share 38 = .ok (.if_icmp .ge 22, 3) := by decide +kernel
theorem dX9_share_41 : decode cX9_share 41 = .ok (.aload_n 0, 1) := by decide +kernel
theorem dX9_share_42 : decode cX9_share 42 = .ok (.getfield 67, 3) := by decide +kernel
theorem dX9_share_45 : decode cX9_share 45 = .ok (.iload 4, 2) := by decide +kernel
theorem dX9_share_47 : decode cX9_share 47 = .ok (.aload_n 0, 1) := by decide +kernel
theorem dX9_share_48 : decode cX9_share 48 = .ok (.iload 4, 2) := by decide +kernel
theorem dX9_share_50 : decode cX9_share 50 = .ok (.invokevirtual 392, 3) := by decide +kernel
theorem dX9_share_53 : decode cX9_share 53 = .ok (.iastore, 1) := by decide +kernel
theorem dX9_share_54 : decode cX9_share 54 = .ok (.iinc 4 1, 3) := by decide +kernel
theorem dX9_share_57 : decode cX9_share 57 = .ok (.goto (-24), 3) := by decide +kernel
theorem dX9_share_60 : decode cX9_share 60 = .ok (.lconst 0, 1) := by decide +kernel
theorem dX9_share_61 : decode cX9_share 61 = .ok (.lstore 4, 2) := by decide +kernel
theorem dX9_share_63 : decode cX9_share 63 = .ok (.iconst 0, 1) := by decide +kernel
theorem dX9_share_64 : decode cX9_share 64 = .ok (.istore 6, 2) := by decide +kernel
theorem dX9_share_66 : decode cX9_share 66 = .ok (.iload 6, 2) := by decide +kernel
theorem dX9_share_68 : decode cX9_share 68 = .ok (.iconst 1, 1) := by decide +kernel
theorem dX9_share_69 : decode cX9_share 69 = .ok (.iload_n 3, 1) := by decide +kernel
theorem dX9_share_70 : decode cX9_share 70 = .ok (.ishl, 1) := by decide +kernel
theorem dX9_share_71 : decode cX9_share 71 = .ok (.if_icmp .ge 65, 3) := by decide +kernel
theorem dX9_share_74 : decode cX9_share 74 = .ok (.iload 6, 2) := by decide +kernel
theorem dX9_share_76 : decode cX9_share 76 = .ok (.iload_n 1, 1) := by decide +kernel
theorem dX9_share_77 : decode cX9_share 77 = .ok (.invokestatic 264, 3) := by decide +kernel
theorem dX9_share_80 : decode cX9_share 80 = .ok (.ifCond .ne 50, 3) := by decide +kernel
theorem dX9_share_83 : decode cX9_share 83 = .ok (.lload 4, 2) := by decide +kernel
theorem dX9_share_85 : decode cX9_share 85 = .ok (.iload 6, 2) := by decide +kernel
theorem dX9_share_87 : decode cX9_share 87 = .ok (.invokestatic 342, 3) := by decide +kernel
theorem dX9_share_90 : decode cX9_share 90 = .ok (.invokestatic 402, 3) := by decide +kernel
theorem dX9_share_93 : decode cX9_share 93 = .ok (.iload_n 3, 1) := by decide +kernel
theorem dX9_share_94 : decode cX9_share 94 = .ok (.iconst 1, 1) := by decide +kernel
theorem dX9_share_95 : decode cX9_share 95 = .ok (.isub, 1) := by decide +kernel
theorem dX9_share_96 : decode cX9_share 96 = .ok (.iload 6, 2) := by decide +kernel
theorem dX9_share_98 : decode cX9_share 98 = .ok (.invokestatic 342, 3) := by decide +kernel
theorem dX9_share_101 : decode cX9_share 101 = .ok (.isub, 1) := by decide +kernel
theorem dX9_share_102 : decode cX9_share 102 = .ok (.invokestatic 402, 3) := by decide +kernel
theorem dX9_share_105 : decode cX9_share 105 = .ok (.lmul, 1) := by decide +kernel
theorem dX9_share_106 : decode cX9_share 106 = .ok (.aload_n 0, 1) := by decide +kernel
theorem dX9_share_107 : decode cX9_share 107 = .ok (.getfield 67, 3) := by decide +kernel
theorem dX9_share_110 : decode cX9_share 110 = .ok (.iload 6, 2) := by decide +kernel
theorem dX9_share_112 : decode cX9_share 112 = .ok (.iconst 1, 1) := by decide +kernel
theorem dX9_share_113 : decode cX9_share 113 = .ok (.iload_n 1, 1) := by decide +kernel
theorem dX9_share_114 : decode cX9_share 114 = .ok (.ishl, 1) := by decide +kernel
theorem dX9_share_115 : decode cX9_share 115 = .ok (.ior, 1) := by decide +kernel
theorem dX9_share_116 : decode cX9_share 116 = .ok (.iaload, 1) := by decide +kernel
theorem dX9_share_117 : decode cX9_share 117 = .ok (.aload_n 0, 1) := by decide +kernel
theorem dX9_share_118 : decode cX9_share 118 = .ok (.getfield 67, 3) := by decide +kernel
theorem dX9_share_121 : decode cX9_share 121 = .ok (.iload 6, 2) := by decide +kernel
theorem dX9_share_123 : decode cX9_share 123 = .ok (.iaload, 1) := by decide +kernel
theorem dX9_share_124 : decode cX9_share 124 = .ok (.isub, 1) := by decide +kernel
theorem dX9_share_125 : decode cX9_share 125 = .ok (.i2l, 1) := by decide +kernel
theorem dX9_share_126 : decode cX9_share 126 = .ok (.lmul, 1) := by decide +kernel
theorem dX9_share_127 : decode cX9_share 127 = .ok (.ladd, 1) := by decide +kernel
theorem dX9_share_128 : decode cX9_share 128 = .ok (.lstore 4, 2) := by decide +kernel
theorem dX9_share_130 : decode cX9_share 130 = .ok (.iinc 6 1, 3) := by decide +kernel
theorem dX9_share_133 : decode cX9_share 133 = .ok (.goto (-67), 3) := by decide +kernel
theorem dX9_share_136 : decode cX9_share 136 = .ok (.lload 4, 2) := by decide +kernel
theorem dX9_share_138 : decode cX9_share 138 = .ok (.iload_n 3, 1) := by decide +kernel
theorem dX9_share_139 : decode cX9_share 139 = .ok (.invokestatic 402, 3) := by decide +kernel
theorem dX9_share_142 : decode cX9_share 142 = .ok (.iload_n 2, 1) := by decide +kernel
theorem dX9_share_143 : decode cX9_share 143 = .ok (.invokestatic 406, 3) := by decide +kernel
theorem dX9_share_146 : decode cX9_share 146 = .ok (.l2i, 1) := by decide +kernel
theorem dX9_share_147 : decode cX9_share 147 = .ok (.ireturn, 1) := by decide +kernel
theorem dX9_getsBy_0 : decode cX9_getsBy 0 = .ok (.aload_n 0, 1) := by decide +kernel
theorem dX9_getsBy_1 : decode cX9_getsBy 1 = .ok (.invokevirtual 251, 3) := by decide +kernel
theorem dX9_getsBy_4 : decode cX9_getsBy 4 = .ok (.aload_n 0, 1) := by decide +kernel
theorem dX9_getsBy_5 : decode cX9_getsBy 5 = .ok (.iload_n 3, 1) := by decide +kernel
theorem dX9_getsBy_6 : decode cX9_getsBy 6 = .ok (.iload_n 1, 1) := by decide +kernel
theorem dX9_getsBy_7 : decode cX9_getsBy 7 = .ok (.ishl, 1) := by decide +kernel
theorem dX9_getsBy_8 : decode cX9_getsBy 8 = .ok (.iload 4, 2) := by decide +kernel
theorem dX9_getsBy_10 : decode cX9_getsBy 10 = .ok (.iload_n 2, 1) := by decide +kernel
theorem dX9_getsBy_11 : decode cX9_getsBy 11 = .ok (.ishl, 1) := by decide +kernel
theorem dX9_getsBy_12 : decode cX9_getsBy 12 = .ok (.ior, 1) := by decide +kernel
theorem dX9_getsBy_13 : decode cX9_getsBy 13 = .ok (.putfield 242, 3) := by decide +kernel
theorem dX9_getsBy_16 : decode cX9_getsBy 16 = .ok (.aload_n 0, 1) := by decide +kernel
theorem dX9_getsBy_17 : decode cX9_getsBy 17 = .ok (.invokevirtual 280, 3) := by decide +kernel
theorem dX9_getsBy_20 : decode cX9_getsBy 20 = .ok (.iload 5, 2) := by decide +kernel
theorem dX9_getsBy_22 : decode cX9_getsBy 22 = .ok (.ifCond .ne 7, 3) := by decide +kernel
theorem dX9_getsBy_25 : decode cX9_getsBy 25 = .ok (.iload_n 1, 1) := by decide +kernel
theorem dX9_getsBy_26 : decode cX9_getsBy 26 = .ok (.goto 4, 3) := by decide +kernel
theorem dX9_getsBy_29 : decode cX9_getsBy 29 = .ok (.iload_n 2, 1) := by decide +kernel
theorem dX9_getsBy_30 : decode cX9_getsBy 30 = .ok (.istore 6, 2) := by decide +kernel
theorem dX9_getsBy_32 : decode cX9_getsBy 32 = .ok (.aload_n 0, 1) := by decide +kernel
theorem dX9_getsBy_33 : decode cX9_getsBy 33 = .ok (.iload 6, 2) := by decide +kernel
theorem dX9_getsBy_35 : decode cX9_getsBy 35 = .ok (.invokevirtual 313, 3) := by decide +kernel
theorem dX9_getsBy_38 : decode cX9_getsBy 38 = .ok (.istore 7, 2) := by decide +kernel
theorem dX9_getsBy_40 : decode cX9_getsBy 40 = .ok (.iconst 0, 1) := by decide +kernel
theorem dX9_getsBy_41 : decode cX9_getsBy 41 = .ok (.istore 8, 2) := by decide +kernel
theorem dX9_getsBy_43 : decode cX9_getsBy 43 = .ok (.iload 8, 2) := by decide +kernel
theorem dX9_getsBy_45 : decode cX9_getsBy 45 = .ok (.aload_n 0, 1) := by decide +kernel
theorem dX9_getsBy_46 : decode cX9_getsBy 46 = .ok (.invokevirtual 96, 3) := by decide +kernel
theorem dX9_getsBy_49 : decode cX9_getsBy 49 = .ok (.if_icmp .ge 30, 3) := by decide +kernel
theorem dX9_getsBy_52 : decode cX9_getsBy 52 = .ok (.iload 7, 2) := by decide +kernel
theorem dX9_getsBy_54 : decode cX9_getsBy 54 = .ok (.aload_n 0, 1) := by decide +kernel
theorem dX9_getsBy_55 : decode cX9_getsBy 55 = .ok (.iload 6, 2) := by decide +kernel
theorem dX9_getsBy_57 : decode cX9_getsBy 57 = .ok (.iload 8, 2) := by decide +kernel
theorem dX9_getsBy_59 : decode cX9_getsBy 59 = .ok (.invokevirtual 301, 3) := by decide +kernel
theorem dX9_getsBy_62 : decode cX9_getsBy 62 = .ok (.ifCond .le 7, 3) := by decide +kernel
theorem dX9_getsBy_65 : decode cX9_getsBy 65 = .ok (.iconst 2, 1) := by decide +kernel
theorem dX9_getsBy_66 : decode cX9_getsBy 66 = .ok (.goto 4, 3) := by decide +kernel
theorem dX9_getsBy_69 : decode cX9_getsBy 69 = .ok (.iconst 0, 1) := by decide +kernel
theorem dX9_getsBy_70 : decode cX9_getsBy 70 = .ok (.isub, 1) := by decide +kernel
theorem dX9_getsBy_71 : decode cX9_getsBy 71 = .ok (.istore 7, 2) := by decide +kernel
theorem dX9_getsBy_73 : decode cX9_getsBy 73 = .ok (.iinc 8 1, 3) := by decide +kernel
theorem dX9_getsBy_76 : decode cX9_getsBy 76 = .ok (.goto (-33), 3) := by decide +kernel
theorem dX9_getsBy_79 : decode cX9_getsBy 79 = .ok (.iload 7, 2) := by decide +kernel
theorem dX9_getsBy_81 : decode cX9_getsBy 81 = .ok (.ireturn, 1) := by decide +kernel
theorem dX9_rests_0 : decode cX9_rests 0 = .ok (.aload_n 0, 1) := by decide +kernel
theorem dX9_rests_1 : decode cX9_rests 1 = .ok (.iload_n 1, 1) := by decide +kernel
theorem dX9_rests_2 : decode cX9_rests 2 = .ok (.iload_n 2, 1) := by decide +kernel
theorem dX9_rests_3 : decode cX9_rests 3 = .ok (.invokevirtual 328, 3) := by decide +kernel
theorem dX9_rests_6 : decode cX9_rests 6 = .ok (.ifCond .ne 6, 3) := by decide +kernel
theorem dX9_rests_9 : decode cX9_rests 9 = .ok (.bipush (-2), 2) := by decide +kernel
theorem dX9_rests_11 : decode cX9_rests 11 = .ok (.ireturn, 1) := by decide +kernel
theorem dX9_rests_12 : decode cX9_rests 12 = .ok (.iconst 0, 1) := by decide +kernel
theorem dX9_rests_13 : decode cX9_rests 13 = .ok (.istore_n 3, 1) := by decide +kernel
theorem dX9_rests_14 : decode cX9_rests 14 = .ok (.iconst 0, 1) := by decide +kernel
theorem dX9_rests_15 : decode cX9_rests 15 = .ok (.istore 4, 2) := by decide +kernel
theorem dX9_rests_17 : decode cX9_rests 17 = .ok (.iload 4, 2) := by decide +kernel
theorem dX9_rests_19 : decode cX9_rests 19 = .ok (.iconst 4, 1) := by decide +kernel
theorem dX9_rests_20 : decode cX9_rests 20 = .ok (.if_icmp .ge 98, 3) := by decide +kernel
theorem dX9_rests_23 : decode cX9_rests 23 = .ok (.iload 4, 2) := by decide +kernel
theorem dX9_rests_25 : decode cX9_rests 25 = .ok (.iconst 1, 1) := by decide +kernel
theorem dX9_rests_26 : decode cX9_rests 26 = .ok (.iand, 1) := by decide +kernel
theorem dX9_rests_27 : decode cX9_rests 27 = .ok (.istore 5, 2) := by decide +kernel
theorem dX9_rests_29 : decode cX9_rests 29 = .ok (.iload 4, 2) := by decide +kernel
theorem dX9_rests_31 : decode cX9_rests 31 = .ok (.iconst 1, 1) := by decide +kernel
theorem dX9_rests_32 : decode cX9_rests 32 = .ok (.ishr, 1) := by decide +kernel
theorem dX9_rests_33 : decode cX9_rests 33 = .ok (.istore 6, 2) := by decide +kernel
theorem dX9_rests_35 : decode cX9_rests 35 = .ok (.aload_n 0, 1) := by decide +kernel
theorem dX9_rests_36 : decode cX9_rests 36 = .ok (.iload_n 1, 1) := by decide +kernel
theorem dX9_rests_37 : decode cX9_rests 37 = .ok (.iload_n 2, 1) := by decide +kernel
theorem dX9_rests_38 : decode cX9_rests 38 = .ok (.iload 5, 2) := by decide +kernel
theorem dX9_rests_40 : decode cX9_rests 40 = .ok (.iload 6, 2) := by decide +kernel
theorem dX9_rests_42 : decode cX9_rests 42 = .ok (.iconst 0, 1) := by decide +kernel
theorem dX9_rests_43 : decode cX9_rests 43 = .ok (.invokevirtual 410, 3) := by decide +kernel
theorem dX9_rests_46 : decode cX9_rests 46 = .ok (.aload_n 0, 1) := by decide +kernel
theorem dX9_rests_47 : decode cX9_rests 47 = .ok (.iload_n 1, 1) := by decide +kernel
theorem dX9_rests_48 : decode cX9_rests 48 = .ok (.iload_n 2, 1) := by decide +kernel
theorem dX9_rests_49 : decode cX9_rests 49 = .ok (.iconst 1, 1) := by decide +kernel
theorem dX9_rests_50 : decode cX9_rests 50 = .ok (.iload 5, 2) := by decide +kernel
theorem dX9_rests_52 : decode cX9_rests 52 = .ok (.isub, 1) := by decide +kernel
theorem dX9_rests_53 : decode cX9_rests 53 = .ok (.iload 6, 2) := by decide +kernel
theorem dX9_rests_55 : decode cX9_rests 55 = .ok (.iconst 0, 1) := by decide +kernel
theorem dX9_rests_56 : decode cX9_rests 56 = .ok (.invokevirtual 410, 3) := by decide +kernel
theorem dX9_rests_59 : decode cX9_rests 59 = .ok (.if_icmp .lt 34, 3) := by decide +kernel
theorem dX9_rests_62 : decode cX9_rests 62 = .ok (.aload_n 0, 1) := by decide +kernel
theorem dX9_rests_63 : decode cX9_rests 63 = .ok (.iload_n 1, 1) := by decide +kernel
theorem dX9_rests_64 : decode cX9_rests 64 = .ok (.iload_n 2, 1) := by decide +kernel
theorem dX9_rests_65 : decode cX9_rests 65 = .ok (.iload 5, 2) := by decide +kernel
theorem dX9_rests_67 : decode cX9_rests 67 = .ok (.iload 6, 2) := by decide +kernel
theorem dX9_rests_69 : decode cX9_rests 69 = .ok (.iconst 1, 1) := by decide +kernel
theorem dX9_rests_70 : decode cX9_rests 70 = .ok (.invokevirtual 410, 3) := by decide +kernel
theorem dX9_rests_73 : decode cX9_rests 73 = .ok (.aload_n 0, 1) := by decide +kernel
theorem dX9_rests_74 : decode cX9_rests 74 = .ok (.iload_n 1, 1) := by decide +kernel
theorem dX9_rests_75 : decode cX9_rests 75 = .ok (.iload_n 2, 1) := by decide +kernel
theorem dX9_rests_76 : decode cX9_rests 76 = .ok (.iload 5, 2) := by decide +kernel
theorem dX9_rests_78 : decode cX9_rests 78 = .ok (.iconst 1, 1) := by decide +kernel
theorem dX9_rests_79 : decode cX9_rests 79 = .ok (.iload 6, 2) := by decide +kernel
theorem dX9_rests_81 : decode cX9_rests 81 = .ok (.isub, 1) := by decide +kernel
theorem dX9_rests_82 : decode cX9_rests 82 = .ok (.iconst 1, 1) := by decide +kernel
theorem dX9_rests_83 : decode cX9_rests 83 = .ok (.invokevirtual 410, 3) := by decide +kernel
theorem dX9_rests_86 : decode cX9_rests 86 = .ok (.if_icmp .lt 7, 3) := by decide +kernel
theorem dX9_rests_89 : decode cX9_rests 89 = .ok (.iconst 1, 1) := by decide +kernel
theorem dX9_rests_90 : decode cX9_rests 90 = .ok (.goto 4, 3) := by decide +kernel
theorem dX9_rests_93 : decode cX9_rests 93 = .ok (.iconst 0, 1) := by decide +kernel
theorem dX9_rests_94 : decode cX9_rests 94 = .ok (.istore 7, 2) := by decide +kernel
theorem dX9_rests_96 : decode cX9_rests 96 = .ok (.iload_n 3, 1) := by decide +kernel
theorem dX9_rests_97 : decode cX9_rests 97 = .ok (.iload 7, 2) := by decide +kernel
theorem dX9_rests_99 : decode cX9_rests 99 = .ok (.ifCond .eq 10, 3) := by decide +kernel
theorem dX9_rests_102 : decode cX9_rests 102 = .ok (.iconst 1, 1) := by decide +kernel
theorem dX9_rests_103 : decode cX9_rests 103 = .ok (.iload 4, 2) := by decide +kernel
theorem dX9_rests_105 : decode cX9_rests 105 = .ok (.ishl, 1) := by decide +kernel
theorem dX9_rests_106 : decode cX9_rests 106 = .ok (.goto 4, 3) := by decide +kernel
theorem dX9_rests_109 : decode cX9_rests 109 = .ok (.iconst 0, 1) := by decide +kernel
theorem dX9_rests_110 : decode cX9_rests 110 = .ok (.ior, 1) := by decide +kernel
theorem dX9_rests_111 : decode cX9_rests 111 = .ok (.istore_n 3, 1) := by decide +kernel
theorem dX9_rests_112 : decode cX9_rests 112 = .ok (.iinc 4 1, 3) := by decide +kernel
theorem dX9_rests_115 : decode cX9_rests 115 = .ok (.goto (-98), 3) := by decide +kernel
theorem dX9_rests_118 : decode cX9_rests 118 = .ok (.iload_n 3, 1) := by decide +kernel
theorem dX9_rests_119 : decode cX9_rests 119 = .ok (.ireturn, 1) := by decide +kernel
theorem dX9_gets_0 : decode cX9_gets 0 = .ok (.aload_n 0, 1) := by decide +kernel
theorem dX9_gets_1 : decode cX9_gets 1 = .ok (.iload_n 1, 1) := by decide +kernel
theorem dX9_gets_2 : decode cX9_gets 2 = .ok (.iload_n 2, 1) := by decide +kernel
theorem dX9_gets_3 : decode cX9_gets 3 = .ok (.invokevirtual 328, 3) := by decide +kernel
theorem dX9_gets_6 : decode cX9_gets 6 = .ok (.ifCond .eq 37, 3) := by decide +kernel
theorem dX9_gets_9 : decode cX9_gets 9 = .ok (.iload_n 3, 1) := by decide +kernel
theorem dX9_gets_10 : decode cX9_gets 10 = .ok (.i2l, 1) := by decide +kernel
theorem dX9_gets_11 : decode cX9_gets 11 = .ok (.lconst 0, 1) := by decide +kernel
theorem dX9_gets_12 : decode cX9_gets 12 = .ok (.lconst 1, 1) := by decide +kernel
theorem dX9_gets_13 : decode cX9_gets 13 = .ok (.invokestatic 88, 3) := by decide +kernel
theorem dX9_gets_16 : decode cX9_gets 16 = .ok (.ifCond .eq 27, 3) := by decide +kernel
theorem dX9_gets_19 : decode cX9_gets 19 = .ok (.iload 4, 2) := by decide +kernel
theorem dX9_gets_21 : decode cX9_gets 21 = .ok (.i2l, 1) := by decide +kernel
theorem dX9_gets_22 : decode cX9_gets 22 = .ok (.lconst 0, 1) := by decide +kernel
theorem dX9_gets_23 : decode cX9_gets 23 = .ok (.lconst 1, 1) := by decide +kernel
theorem dX9_gets_24 : decode cX9_gets 24 = .ok (.invokestatic 88, 3) := by decide +kernel
theorem dX9_gets_27 : decode cX9_gets 27 = .ok (.ifCond .eq 16, 3) := by decide +kernel
theorem dX9_gets_30 : decode cX9_gets 30 = .ok (.aload_n 0, 1) := by decide +kernel
theorem dX9_gets_31 : decode cX9_gets 31 = .ok (.iload_n 1, 1) := by decide +kernel
theorem dX9_gets_32 : decode cX9_gets 32 = .ok (.iload_n 2, 1) := by decide +kernel
theorem dX9_gets_33 : decode cX9_gets 33 = .ok (.iload_n 3, 1) := by decide +kernel
theorem dX9_gets_34 : decode cX9_gets 34 = .ok (.iload 4, 2) := by decide +kernel
theorem dX9_gets_36 : decode cX9_gets 36 = .ok (.iconst 0, 1) := by decide +kernel
theorem dX9_gets_37 : decode cX9_gets 37 = .ok (.invokevirtual 410, 3) := by decide +kernel
theorem dX9_gets_40 : decode cX9_gets 40 = .ok (.goto 6, 3) := by decide +kernel
theorem dX9_gets_43 : decode cX9_gets 43 = .ok (.sipush (-1000), 3) := by decide +kernel
theorem dX9_gets_46 : decode cX9_gets 46 = .ok (.ireturn, 1) := by decide +kernel
theorem dX9_laySnows_0 : decode cX9_laySnows 0 = .ok (.aload_n 0, 1) := by decide +kernel
theorem dX9_laySnows_1 : decode cX9_laySnows 1 = .ok (.lconst 0, 1) := by decide +kernel
theorem dX9_laySnows_2 : decode cX9_laySnows 2 = .ok (.putfield 414, 3) := by decide +kernel
theorem dX9_laySnows_5 : decode cX9_laySnows 5 = .ok (.aload_n 0, 1) := by decide +kernel
theorem dX9_laySnows_6 : decode cX9_laySnows 6 = .ok (.lconst 0, 1) := by decide +kernel
theorem dX9_laySnows_7 : decode cX9_laySnows 7 = .ok (.putfield 418, 3) := by decide +kernel
theorem dX9_laySnows_10 : decode cX9_laySnows 10 = .ok (.aload_n 0, 1) := by decide +kernel
theorem dX9_laySnows_11 : decode cX9_laySnows 11 = .ok (.lconst 0, 1) := by decide +kernel
theorem dX9_laySnows_12 : decode cX9_laySnows 12 = .ok (.putfield 421, 3) := by decide +kernel
theorem dX9_laySnows_15 : decode cX9_laySnows 15 = .ok (.aload_n 0, 1) := by decide +kernel
theorem dX9_laySnows_16 : decode cX9_laySnows 16 = .ok (.invokevirtual 251, 3) := by decide +kernel
theorem dX9_laySnows_19 : decode cX9_laySnows 19 = .ok (.aload_n 0, 1) := by decide +kernel
theorem dX9_laySnows_20 : decode cX9_laySnows 20 = .ok (.getfield 239, 3) := by decide +kernel
theorem dX9_laySnows_23 : decode cX9_laySnows 23 = .ok (.iconst 2, 1) := by decide +kernel
theorem dX9_laySnows_24 : decode cX9_laySnows 24 = .ok (.iload_n 3, 1) := by decide +kernel
theorem dX9_laySnows_25 : decode cX9_laySnows 25 = .ok (.ishl, 1) := by decide +kernel
theorem dX9_laySnows_26 : decode cX9_laySnows 26 = .ok (.iconst 1, 1) := by decide +kernel
theorem dX9_laySnows_27 : decode cX9_laySnows 27 = .ok (.isub, 1) := by decide +kernel
theorem dX9_laySnows_28 : decode cX9_laySnows 28 = .ok (.iconst (-1), 1) := by decide +kernel
theorem dX9_laySnows_29 : decode cX9_laySnows 29 = .ok (.ixor, 1) := by decide +kernel
theorem dX9_laySnows_30 : decode cX9_laySnows 30 = .ok (.iand, 1) := by decide +kernel
theorem dX9_laySnows_31 : decode cX9_laySnows 31 = .ok (.istore 4, 2) := by decide +kernel
theorem dX9_laySnows_33 : decode cX9_laySnows 33 = .ok (.iconst 0, 1) := by decide +kernel
theorem dX9_laySnows_34 : decode cX9_laySnows 34 = .ok (.istore 5, 2) := by decide +kernel
theorem dX9_laySnows_36 : decode cX9_laySnows 36 = .ok (.iload 5, 2) := by decide +kernel
theorem dX9_laySnows_38 : decode cX9_laySnows 38 = .ok (.iconst 2, 1) := by decide +kernel
theorem dX9_laySnows_39 : decode cX9_laySnows 39 = .ok (.iload_n 3, 1) := by decide +kernel
theorem dX9_laySnows_40 : decode cX9_laySnows 40 = .ok (.ishl, 1) := by decide +kernel
theorem dX9_laySnows_41 : decode cX9_laySnows 41 = .ok (.if_icmp .ge 145, 3) := by decide +kernel
theorem dX9_laySnows_44 : decode cX9_laySnows 44 = .ok (.lconst 1, 1) := by decide +kernel
theorem dX9_laySnows_45 : decode cX9_laySnows 45 = .ok (.lstore 6, 2) := by decide +kernel
theorem dX9_laySnows_47 : decode cX9_laySnows 47 = .ok (.iconst 0, 1) := by decide +kernel
theorem dX9_laySnows_48 : decode cX9_laySnows 48 = .ok (.istore 8, 2) := by decide +kernel
theorem dX9_laySnows_50 : decode cX9_laySnows 50 = .ok (.iload 8, 2) := by decide +kernel
theorem dX9_laySnows_52 : decode cX9_laySnows 52 = .ok (.iload_n 3, 1) := by decide +kernel
theorem dX9_laySnows_53 : decode cX9_laySnows 53 = .ok (.if_icmp .gt 45, 3) := by decide +kernel
theorem dX9_laySnows_56 : decode cX9_laySnows 56 = .ok (.lload 6, 2) := by decide +kernel
theorem dX9_laySnows_58 : decode cX9_laySnows 58 = .ok (.iload 5, 2) := by decide +kernel
theorem dX9_laySnows_60 : decode cX9_laySnows 60 = .ok (.iload 8, 2) := by decide +kernel
theorem dX9_laySnows_62 : decode cX9_laySnows 62 = .ok (.invokestatic 264, 3) := by decide +kernel
theorem dX9_laySnows_65 : decode cX9_laySnows 65 = .ok (.iconst 1, 1) := by decide +kernel
theorem dX9_laySnows_66 : decode cX9_laySnows 66 = .ok (.if_icmp .ne 13, 3) := by decide +kernel
theorem dX9_laySnows_69 : decode cX9_laySnows 69 = .ok (.aload_n 0, 1) := by decide +kernel
theorem dX9_laySnows_70 : decode cX9_laySnows 70 = .ok (.getfield 9, 3) := by decide +kernel
theorem dX9_laySnows_73 : decode cX9_laySnows 73 = .ok (.iconst 3, 1) := by decide +kernel
theorem dX9_laySnows_74 : decode cX9_laySnows 74 = .ok (.iaload, 1) := by decide +kernel
theorem dX9_laySnows_75 : decode cX9_laySnows 75 = .ok (.i2l, 1) := by decide +kernel
theorem dX9_laySnows_76 : decode cX9_laySnows 76 = .ok (.goto 13, 3) := by decide +kernel
theorem dX9_laySnows_79 : decode cX9_laySnows 79 = .ok (.bipush 10, 2) := by decide +kernel
theorem dX9_laySnows_81 : decode cX9_laySnows 81 = .ok (.aload_n 0, 1) := by decide +kernel
theorem dX9_laySnows_82 : decode cX9_laySnows 82 = .ok (.getfield 9, 3) := by decide +kernel
theorem dX9_laySnows_85 : decode cX9_laySnows 85 = .ok (.iconst 3, 1) := by decide +kernel
theorem dX9_laySnows_86 : decode cX9_laySnows 86 = .ok (.iaload, 1) := by decide +kernel
theorem dX9_laySnows_87 : decode cX9_laySnows 87 = .ok (.isub, 1) := by decide +kernel
theorem dX9_laySnows_88 : decode cX9_laySnows 88 = .ok (.i2l, 1) := by decide +kernel
theorem dX9_laySnows_89 : decode cX9_laySnows 89 = .ok (.lmul, 1) := by decide +kernel
theorem dX9_laySnows_90 : decode cX9_laySnows 90 = .ok (.lstore 6, 2) := by decide +kernel
theorem dX9_laySnows_92 : decode cX9_laySnows 92 = .ok (.iinc 8 1, 3) := by decide +kernel
theorem dX9_laySnows_95 : decode cX9_laySnows 95 = .ok (.goto (-45), 3) := by decide +kernel
theorem dX9_laySnows_98 : decode cX9_laySnows 98 = .ok (.lload 6, 2) := by decide +kernel
theorem dX9_laySnows_100 : decode cX9_laySnows 100 = .ok (.lconst 0, 1) := by decide +kernel
theorem dX9_laySnows_101 : decode cX9_laySnows 101 = .ok (.lcmp, 1) := by decide +kernel
theorem dX9_laySnows_102 : decode cX9_laySnows 102 = .ok (.ifCond .ne 6, 3) := by decide +kernel
theorem dX9_laySnows_105 : decode cX9_laySnows 105 = .ok (.goto 75, 3) := by decide +kernel
theorem dX9_laySnows_108 : decode cX9_laySnows 108 = .ok (.aload_n 0, 1) := by decide +kernel
theorem dX9_laySnows_109 : decode cX9_laySnows 109 = .ok (.iload 4, 2) := by decide +kernel
theorem dX9_laySnows_111 : decode cX9_laySnows 111 = .ok (.iload 5, 2) := by decide +kernel
theorem dX9_laySnows_113 : decode cX9_laySnows 113 = .ok (.ior, 1) := by decide +kernel
theorem dX9_laySnows_114 : decode cX9_laySnows 114 = .ok (.putfield 239, 3) := by decide +kernel
theorem dX9_laySnows_117 : decode cX9_laySnows 117 = .ok (.aload_n 0, 1) := by decide +kernel
theorem dX9_laySnows_118 : decode cX9_laySnows 118 = .ok (.invokevirtual 280, 3) := by decide +kernel
theorem dX9_laySnows_121 : decode cX9_laySnows 121 = .ok (.aload_n 0, 1) := by decide +kernel
theorem dX9_laySnows_122 : decode cX9_laySnows 122 = .ok (.dup, 1) := by decide +kernel
theorem dX9_laySnows_123 : decode cX9_laySnows 123 = .ok (.getfield 414, 3) := by decide +kernel
theorem dX9_laySnows_126 : decode cX9_laySnows 126 = .ok (.lload 6, 2) := by decide +kernel
theorem dX9_laySnows_128 : decode cX9_laySnows 128 = .ok (.ladd, 1) := by decide +kernel
theorem dX9_laySnows_129 : decode cX9_laySnows 129 = .ok (.putfield 414, 3) := by decide +kernel
theorem dX9_laySnows_132 : decode cX9_laySnows 132 = .ok (.aload_n 0, 1) := by decide +kernel
theorem dX9_laySnows_133 : decode cX9_laySnows 133 = .ok (.dup, 1) := by decide +kernel
theorem dX9_laySnows_134 : decode cX9_laySnows 134 = .ok (.getfield 418, 3) := by decide +kernel
theorem dX9_laySnows_137 : decode cX9_laySnows 137 = .ok (.aload_n 0, 1) := by decide +kernel
theorem dX9_laySnows_138 : decode cX9_laySnows 138 = .ok (.iload_n 1, 1) := by decide +kernel
theorem dX9_laySnows_139 : decode cX9_laySnows 139 = .ok (.iload_n 3, 1) := by decide +kernel
theorem dX9_laySnows_140 : decode cX9_laySnows 140 = .ok (.iconst 1, 1) := by decide +kernel
theorem dX9_laySnows_141 : decode cX9_laySnows 141 = .ok (.iadd, 1) := by decide +kernel
theorem dX9_laySnows_142 : decode cX9_laySnows 142 = .ok (.invokevirtual 261, 3) := by decide +kernel
theorem dX9_laySnows_145 : decode cX9_laySnows 145 = .ok (.iload_n 2, 1) := by decide +kernel
theorem dX9_laySnows_146 : decode cX9_laySnows 146 = .ok (.if_icmp .ne 8, 3) := by decide +kernel
theorem dX9_laySnows_149 : decode cX9_laySnows 149 = .ok (.lload 6, 2) := by decide +kernel
theorem dX9_laySnows_151 : decode cX9_laySnows 151 = .ok (.goto 4, 3) := by decide +kernel
theorem dX9_laySnows_154 : decode cX9_laySnows 154 = .ok (.lconst 0, 1) := by decide +kernel
theorem dX9_laySnows_155 : decode cX9_laySnows 155 = .ok (.ladd, 1) := by decide +kernel
theorem dX9_laySnows_156 : decode cX9_laySnows 156 = .ok (.putfield 418, 3) := by decide +kernel
theorem dX9_laySnows_159 : decode cX9_laySnows 159 = .ok (.aload_n 0, 1) := by decide +kernel
theorem dX9_laySnows_160 : decode cX9_laySnows 160 = .ok (.dup, 1) := by decide +kernel
theorem dX9_laySnows_161 : decode cX9_laySnows 161 = .ok (.getfield 421, 3) := by decide +kernel
theorem dX9_laySnows_164 : decode cX9_laySnows 164 = .ok (.lload 6, 2) := by decide +kernel
theorem dX9_laySnows_166 : decode cX9_laySnows 166 = .ok (.aload_n 0, 1) := by decide +kernel
theorem dX9_laySnows_167 : decode cX9_laySnows 167 = .ok (.iload_n 1, 1) := by decide +kernel
theorem dX9_laySnows_168 : decode cX9_laySnows 168 = .ok (.iload_n 3, 1) := by decide +kernel
theorem dX9_laySnows_169 : decode cX9_laySnows 169 = .ok (.iconst 1, 1) := by decide +kernel
theorem dX9_laySnows_170 : decode cX9_laySnows 170 = .ok (.iadd, 1) := by decide +kernel
theorem dX9_laySnows_171 : decode cX9_laySnows 171 = .ok (.invokevirtual 310, 3) := by decide +kernel
theorem dX9_laySnows_174 : decode cX9_laySnows 174 = .ok (.i2l, 1) := by decide +kernel
theorem dX9_laySnows_175 : decode cX9_laySnows 175 = .ok (.lmul, 1) := by decide +kernel
theorem dX9_laySnows_176 : decode cX9_laySnows 176 = .ok (.ladd, 1) := by decide +kernel
theorem dX9_laySnows_177 : decode cX9_laySnows 177 = .ok (.putfield 421, 3) := by decide +kernel
theorem dX9_laySnows_180 : decode cX9_laySnows 180 = .ok (.iinc 5 1, 3) := by decide +kernel
theorem dX9_laySnows_183 : decode cX9_laySnows 183 = .ok (.goto (-147), 3) := by decide +kernel
theorem dX9_laySnows_186 : decode cX9_laySnows 186 = .ok (.return_, 1) := by decide +kernel
theorem dX9_isSnows_0 : decode cX9_isSnows 0 = .ok (.aload_n 0, 1) := by decide +kernel
theorem dX9_isSnows_1 : decode cX9_isSnows 1 = .ok (.iload_n 1, 1) := by decide +kernel
theorem dX9_isSnows_2 : decode cX9_isSnows 2 = .ok (.i2l, 1) := by decide +kernel
theorem dX9_isSnows_3 : decode cX9_isSnows 3 = .ok (.invokevirtual 289, 3) := by decide +kernel
theorem dX9_isSnows_6 : decode cX9_isSnows 6 = .ok (.ifCond .eq 29, 3) := by decide +kernel
theorem dX9_isSnows_9 : decode cX9_isSnows 9 = .ok (.iload_n 1, 1) := by decide +kernel
theorem dX9_isSnows_10 : decode cX9_isSnows 10 = .ok (.i2l, 1) := by decide +kernel
theorem dX9_isSnows_11 : decode cX9_isSnows 11 = .ok (.lconst 0, 1) := by decide +kernel
theorem dX9_isSnows_12 : decode cX9_isSnows 12 = .ok (.ldc2_w 424, 3) := by decide +kernel
theorem dX9_isSnows_15 : decode cX9_isSnows 15 = .ok (.invokestatic 88, 3) := by decide +kernel
theorem dX9_isSnows_18 : decode cX9_isSnows 18 = .ok (.ifCond .eq 17, 3) := by decide +kernel
theorem dX9_isSnows_21 : decode cX9_isSnows 21 = .ok (.iload_n 2, 1) := by decide +kernel
theorem dX9_isSnows_22 : decode cX9_isSnows 22 = .ok (.i2l, 1) := by decide +kernel
theorem dX9_isSnows_23 : decode cX9_isSnows 23 = .ok (.lconst 0, 1) := by decide +kernel
theorem dX9_isSnows_24 : decode cX9_isSnows 24 = .ok (.lconst 1, 1) := by decide +kernel
theorem dX9_isSnows_25 : decode cX9_isSnows 25 = .ok (.invokestatic 88, 3) := by decide +kernel
theorem dX9_isSnows_28 : decode cX9_isSnows 28 = .ok (.ifCond .eq 7, 3) := by decide +kernel
theorem dX9_isSnows_31 : decode cX9_isSnows 31 = .ok (.iconst 1, 1) := by decide +kernel
theorem dX9_isSnows_32 : decode cX9_isSnows 32 = .ok (.goto 4, 3) := by decide +kernel
theorem dX9_isSnows_35 : decode cX9_isSnows 35 = .ok (.iconst 0, 1) := by decide +kernel
theorem dX9_isSnows_36 : decode cX9_isSnows 36 = .ok (.ireturn, 1) := by decide +kernel
theorem dX9_chance_0 : decode cX9_chance 0 = .ok (.aload_n 0, 1) := by decide +kernel
theorem dX9_chance_1 : decode cX9_chance 1 = .ok (.iload_n 1, 1) := by decide +kernel
theorem dX9_chance_2 : decode cX9_chance 2 = .ok (.invokevirtual 103, 3) := by decide +kernel
theorem dX9_chance_5 : decode cX9_chance 5 = .ok (.ifCond .eq 22, 3) := by decide +kernel
theorem dX9_chance_8 : decode cX9_chance 8 = .ok (.aload_n 0, 1) := by decide +kernel
theorem dX9_chance_9 : decode cX9_chance 9 = .ok (.iload_n 2, 1) := by decide +kernel
theorem dX9_chance_10 : decode cX9_chance 10 = .ok (.i2l, 1) := by decide +kernel
theorem dX9_chance_11 : decode cX9_chance 11 = .ok (.invokevirtual 254, 3) := by decide +kernel
theorem dX9_chance_14 : decode cX9_chance 14 = .ok (.ifCond .eq 13, 3) := by decide +kernel
theorem dX9_chance_17 : decode cX9_chance 17 = .ok (.aload_n 0, 1) := by decide +kernel
theorem dX9_chance_18 : decode cX9_chance 18 = .ok (.iload_n 3, 1) := by decide +kernel
theorem dX9_chance_19 : decode cX9_chance 19 = .ok (.iload 4, 2) := by decide +kernel
theorem dX9_chance_21 : decode cX9_chance 21 = .ok (.invokevirtual 426, 3) := by decide +kernel
theorem dX9_chance_24 : decode cX9_chance 24 = .ok (.ifCond .ne 7, 3) := by decide +kernel
theorem dX9_chance_27 : decode cX9_chance 27 = .ok (.ldc2_w 429, 3) := by decide +kernel
theorem dX9_chance_30 : decode cX9_chance 30 = .ok (.lreturn, 1) := by decide +kernel
theorem dX9_chance_31 : decode cX9_chance 31 = .ok (.aload_n 0, 1) := by decide +kernel
theorem dX9_chance_32 : decode cX9_chance 32 = .ok (.iload_n 1, 1) := by decide +kernel
theorem dX9_chance_33 : decode cX9_chance 33 = .ok (.iload_n 2, 1) := by decide +kernel
theorem dX9_chance_34 : decode cX9_chance 34 = .ok (.iload_n 3, 1) := by decide +kernel
theorem dX9_chance_35 : decode cX9_chance 35 = .ok (.invokevirtual 431, 3) := by decide +kernel
theorem dX9_chance_38 : decode cX9_chance 38 = .ok (.aload_n 0, 1) := by decide +kernel
theorem dX9_chance_39 : decode cX9_chance 39 = .ok (.getfield 418, 3) := by decide +kernel
theorem dX9_chance_42 : decode cX9_chance 42 = .ok (.aload_n 0, 1) := by decide +kernel
theorem dX9_chance_43 : decode cX9_chance 43 = .ok (.getfield 414, 3) := by decide +kernel
theorem dX9_chance_46 : decode cX9_chance 46 = .ok (.iload 4, 2) := by decide +kernel
theorem dX9_chance_48 : decode cX9_chance 48 = .ok (.invokestatic 406, 3) := by decide +kernel
theorem dX9_chance_51 : decode cX9_chance 51 = .ok (.lreturn, 1) := by decide +kernel
theorem dX9_mean_0 : decode cX9_mean 0 = .ok (.aload_n 0, 1) := by decide +kernel
theorem dX9_mean_1 : decode cX9_mean 1 = .ok (.iload_n 1, 1) := by decide +kernel
theorem dX9_mean_2 : decode cX9_mean 2 = .ok (.invokevirtual 103, 3) := by decide +kernel
theorem dX9_mean_5 : decode cX9_mean 5 = .ok (.ifCond .eq 12, 3) := by decide +kernel
theorem dX9_mean_8 : decode cX9_mean 8 = .ok (.aload_n 0, 1) := by decide +kernel
theorem dX9_mean_9 : decode cX9_mean 9 = .ok (.iload_n 2, 1) := by decide +kernel
theorem dX9_mean_10 : decode cX9_mean 10 = .ok (.iload_n 3, 1) := by decide +kernel
theorem dX9_mean_11 : decode cX9_mean 11 = .ok (.invokevirtual 426, 3) := by decide +kernel
theorem dX9_mean_14 : decode cX9_mean 14 = .ok (.ifCond .ne 7, 3) := by decide +kernel
theorem dX9_mean_17 : decode cX9_mean 17 = .ok (.ldc2_w 429, 3) := by decide +kernel
theorem dX9_mean_20 : decode cX9_mean 20 = .ok (.lreturn, 1) := by decide +kernel
theorem dX9_mean_21 : decode cX9_mean 21 = .ok (.aload_n 0, 1) := by decide +kernel
theorem dX9_mean_22 : decode cX9_mean 22 = .ok (.iload_n 1, 1) := by decide +kernel
theorem dX9_mean_23 : decode cX9_mean 23 = .ok (.iconst 0, 1) := by decide +kernel
theorem dX9_mean_24 : decode cX9_mean 24 = .ok (.iload_n 2, 1) := by decide +kernel
theorem dX9_mean_25 : decode cX9_mean 25 = .ok (.invokevirtual 431, 3) := by decide +kernel
theorem dX9_mean_28 : decode cX9_mean 28 = .ok (.aload_n 0, 1) := by decide +kernel
theorem dX9_mean_29 : decode cX9_mean 29 = .ok (.getfield 421, 3) := by decide +kernel
theorem dX9_mean_32 : decode cX9_mean 32 = .ok (.aload_n 0, 1) := by decide +kernel
theorem dX9_mean_33 : decode cX9_mean 33 = .ok (.getfield 414, 3) := by decide +kernel
theorem dX9_mean_36 : decode cX9_mean 36 = .ok (.iload_n 3, 1) := by decide +kernel
theorem dX9_mean_37 : decode cX9_mean 37 = .ok (.invokestatic 406, 3) := by decide +kernel
theorem dX9_mean_40 : decode cX9_mean 40 = .ok (.lreturn, 1) := by decide +kernel
theorem dX9_keepAct_0 : decode cX9_keepAct 0 = .ok (.aload_n 0, 1) := by decide +kernel
theorem dX9_keepAct_1 : decode cX9_keepAct 1 = .ok (.getfield 9, 3) := by decide +kernel
theorem dX9_keepAct_4 : decode cX9_keepAct 4 = .ok (.bipush 8, 2) := by decide +kernel
theorem dX9_keepAct_6 : decode cX9_keepAct 6 = .ok (.iaload, 1) := by decide +kernel
theorem dX9_keepAct_7 : decode cX9_keepAct 7 = .ok (.bipush 30, 2) := by decide +kernel
theorem dX9_keepAct_9 : decode cX9_keepAct 9 = .ok (.if_icmp .ne 6, 3) := by decide +kernel
theorem dX9_keepAct_12 : decode cX9_keepAct 12 = .ok (.bipush (-5), 2) := by decide +kernel
theorem dX9_keepAct_14 : decode cX9_keepAct 14 = .ok (.ireturn, 1) := by decide +kernel
theorem dX9_keepAct_15 : decode cX9_keepAct 15 = .ok (.aload_n 0, 1) := by decide +kernel
theorem dX9_keepAct_16 : decode cX9_keepAct 16 = .ok (.getfield 9, 3) := by decide +kernel
theorem dX9_keepAct_19 : decode cX9_keepAct 19 = .ok (.bipush 84, 2) := by decide +kernel
theorem dX9_keepAct_21 : decode cX9_keepAct 21 = .ok (.aload_n 0, 1) := by decide +kernel
theorem dX9_keepAct_22 : decode cX9_keepAct 22 = .ok (.getfield 9, 3) := by decide +kernel
theorem dX9_keepAct_25 : decode cX9_keepAct 25 = .ok (.bipush 8, 2) := by decide +kernel
theorem dX9_keepAct_27 : decode cX9_keepAct 27 = .ok (.iaload, 1) := by decide +kernel
theorem dX9_keepAct_28 : decode cX9_keepAct 28 = .ok (.iadd, 1) := by decide +kernel
theorem dX9_keepAct_29 : decode cX9_keepAct 29 = .ok (.iload_n 1, 1) := by decide +kernel
theorem dX9_keepAct_30 : decode cX9_keepAct 30 = .ok (.iastore, 1) := by decide +kernel
theorem dX9_keepAct_31 : decode cX9_keepAct 31 = .ok (.aload_n 0, 1) := by decide +kernel
theorem dX9_keepAct_32 : decode cX9_keepAct 32 = .ok (.getfield 9, 3) := by decide +kernel
theorem dX9_keepAct_35 : decode cX9_keepAct 35 = .ok (.bipush 8, 2) := by decide +kernel
theorem dX9_keepAct_37 : decode cX9_keepAct 37 = .ok (.dup2, 1) := by decide +kernel
theorem dX9_keepAct_38 : decode cX9_keepAct 38 = .ok (.iaload, 1) := by decide +kernel
theorem dX9_keepAct_39 : decode cX9_keepAct 39 = .ok (.iconst 1, 1) := by decide +kernel
theorem dX9_keepAct_40 : decode cX9_keepAct 40 = .ok (.iadd, 1) := by decide +kernel
theorem dX9_keepAct_41 : decode cX9_keepAct 41 = .ok (.iastore, 1) := by decide +kernel
theorem dX9_keepAct_42 : decode cX9_keepAct 42 = .ok (.aload_n 0, 1) := by decide +kernel
theorem dX9_keepAct_43 : decode cX9_keepAct 43 = .ok (.invokevirtual 283, 3) := by decide +kernel
theorem dX9_keepAct_46 : decode cX9_keepAct 46 = .ok (.pop, 1) := by decide +kernel
theorem dX9_keepAct_47 : decode cX9_keepAct 47 = .ok (.aload_n 0, 1) := by decide +kernel
theorem dX9_keepAct_48 : decode cX9_keepAct 48 = .ok (.iload_n 2, 1) := by decide +kernel
theorem dX9_keepAct_49 : decode cX9_keepAct 49 = .ok (.aload_n 0, 1) := by decide +kernel
theorem dX9_keepAct_50 : decode cX9_keepAct 50 = .ok (.invokevirtual 96, 3) := by decide +kernel
theorem dX9_keepAct_53 : decode cX9_keepAct 53 = .ok (.invokevirtual 261, 3) := by decide +kernel
theorem dX9_keepAct_56 : decode cX9_keepAct 56 = .ok (.ireturn, 1) := by decide +kernel
theorem dX9_rest_0 : decode cX9_rest 0 = .ok (.aload_n 0, 1) := by decide +kernel
theorem dX9_rest_1 : decode cX9_rest 1 = .ok (.iload_n 1, 1) := by decide +kernel
theorem dX9_rest_2 : decode cX9_rest 2 = .ok (.invokevirtual 103, 3) := by decide +kernel
theorem dX9_rest_5 : decode cX9_rest 5 = .ok (.ifCond .eq 12, 3) := by decide +kernel
theorem dX9_rest_8 : decode cX9_rest 8 = .ok (.aload_n 0, 1) := by decide +kernel
theorem dX9_rest_9 : decode cX9_rest 9 = .ok (.iload_n 2, 1) := by decide +kernel
theorem dX9_rest_10 : decode cX9_rest 10 = .ok (.i2l, 1) := by decide +kernel
theorem dX9_rest_11 : decode cX9_rest 11 = .ok (.invokevirtual 289, 3) := by decide +kernel
theorem dX9_rest_14 : decode cX9_rest 14 = .ok (.ifCond .ne 6, 3) := by decide +kernel
theorem dX9_rest_17 : decode cX9_rest 17 = .ok (.bipush (-2), 2) := by decide +kernel
theorem dX9_rest_19 : decode cX9_rest 19 = .ok (.ireturn, 1) := by decide +kernel
theorem dX9_rest_20 : decode cX9_rest 20 = .ok (.aload_n 0, 1) := by decide +kernel
theorem dX9_rest_21 : decode cX9_rest 21 = .ok (.sipush 10000, 3) := by decide +kernel
theorem dX9_rest_24 : decode cX9_rest 24 = .ok (.bipush 100, 2) := by decide +kernel
theorem dX9_rest_26 : decode cX9_rest 26 = .ok (.iload_n 1, 1) := by decide +kernel
theorem dX9_rest_27 : decode cX9_rest 27 = .ok (.imul, 1) := by decide +kernel
theorem dX9_rest_28 : decode cX9_rest 28 = .ok (.iadd, 1) := by decide +kernel
theorem dX9_rest_29 : decode cX9_rest 29 = .ok (.iload_n 2, 1) := by decide +kernel
theorem dX9_rest_30 : decode cX9_rest 30 = .ok (.iadd, 1) := by decide +kernel
theorem dX9_rest_31 : decode cX9_rest 31 = .ok (.iload_n 1, 1) := by decide +kernel
theorem dX9_rest_32 : decode cX9_rest 32 = .ok (.invokevirtual 434, 3) := by decide +kernel
theorem dX9_rest_35 : decode cX9_rest 35 = .ok (.ireturn, 1) := by decide +kernel
theorem dX9_swap_0 : decode cX9_swap 0 = .ok (.aload_n 0, 1) := by decide +kernel
theorem dX9_swap_1 : decode cX9_swap 1 = .ok (.iload_n 1, 1) := by decide +kernel
theorem dX9_swap_2 : decode cX9_swap 2 = .ok (.iload_n 2, 1) := by decide +kernel
theorem dX9_swap_3 : decode cX9_swap 3 = .ok (.invokevirtual 328, 3) := by decide +kernel
theorem dX9_swap_6 : decode cX9_swap 6 = .ok (.ifCond .eq 12, 3) := by decide +kernel
theorem dX9_swap_9 : decode cX9_swap 9 = .ok (.aload_n 0, 1) := by decide +kernel
theorem dX9_swap_10 : decode cX9_swap 10 = .ok (.iload_n 3, 1) := by decide +kernel
theorem dX9_swap_11 : decode cX9_swap 11 = .ok (.i2l, 1) := by decide +kernel
theorem dX9_swap_12 : decode cX9_swap 12 = .ok (.invokevirtual 289, 3) := by decide +kernel
theorem dX9_swap_15 : decode cX9_swap 15 = .ok (.ifCond .ne 6, 3) := by decide +kernel
theorem dX9_swap_18 : decode cX9_swap 18 = .ok (.bipush (-2), 2) := by decide +kernel
theorem dX9_swap_20 : decode cX9_swap 20 = .ok (.ireturn, 1) := by decide +kernel
theorem dX9_swap_21 : decode cX9_swap 21 = .ok (.aload_n 0, 1) := by decide +kernel
theorem dX9_swap_22 : decode cX9_swap 22 = .ok (.sipush 1000, 3) := by decide +kernel
theorem dX9_swap_25 : decode cX9_swap 25 = .ok (.iload_n 1, 1) := by decide +kernel
theorem dX9_swap_26 : decode cX9_swap 26 = .ok (.imul, 1) := by decide +kernel
theorem dX9_swap_27 : decode cX9_swap 27 = .ok (.bipush 100, 2) := by decide +kernel
theorem dX9_swap_29 : decode cX9_swap 29 = .ok (.iload_n 2, 1) := by decide +kernel
theorem dX9_swap_30 : decode cX9_swap 30 = .ok (.imul, 1) := by decide +kernel
theorem dX9_swap_31 : decode cX9_swap 31 = .ok (.iadd, 1) := by decide +kernel
theorem dX9_swap_32 : decode cX9_swap 32 = .ok (.iload_n 3, 1) := by decide +kernel
theorem dX9_swap_33 : decode cX9_swap 33 = .ok (.iadd, 1) := by decide +kernel
theorem dX9_swap_34 : decode cX9_swap 34 = .ok (.iload_n 1, 1) := by decide +kernel
theorem dX9_swap_35 : decode cX9_swap 35 = .ok (.invokevirtual 434, 3) := by decide +kernel
theorem dX9_swap_38 : decode cX9_swap 38 = .ok (.ireturn, 1) := by decide +kernel
theorem dX9_undo_0 : decode cX9_undo 0 = .ok (.aload_n 0, 1) := by decide +kernel
theorem dX9_undo_1 : decode cX9_undo 1 = .ok (.invokevirtual 92, 3) := by decide +kernel
theorem dX9_undo_4 : decode cX9_undo 4 = .ok (.ifCond .ne 6, 3) := by decide +kernel
theorem dX9_undo_7 : decode cX9_undo 7 = .ok (.bipush (-2), 2) := by decide +kernel
theorem dX9_undo_9 : decode cX9_undo 9 = .ok (.ireturn, 1) := by decide +kernel
theorem dX9_undo_10 : decode cX9_undo 10 = .ok (.aload_n 0, 1) := by decide +kernel
theorem dX9_undo_11 : decode cX9_undo 11 = .ok (.getfield 9, 3) := by decide +kernel
theorem dX9_undo_14 : decode cX9_undo 14 = .ok (.bipush 8, 2) := by decide +kernel
theorem dX9_undo_16 : decode cX9_undo 16 = .ok (.iaload, 1) := by decide +kernel
theorem dX9_undo_17 : decode cX9_undo 17 = .ok (.ifCond .ne 6, 3) := by decide +kernel
theorem dX9_undo_20 : decode cX9_undo 20 = .ok (.bipush (-5), 2) := by decide +kernel
theorem dX9_undo_22 : decode cX9_undo 22 = .ok (.ireturn, 1) := by decide +kernel
theorem dX9_undo_23 : decode cX9_undo 23 = .ok (.aload_n 0, 1) := by decide +kernel
theorem dX9_undo_24 : decode cX9_undo 24 = .ok (.getfield 9, 3) := by decide +kernel
theorem dX9_undo_27 : decode cX9_undo 27 = .ok (.bipush 8, 2) := by decide +kernel
theorem dX9_undo_29 : decode cX9_undo 29 = .ok (.dup2, 1) := by decide +kernel
theorem dX9_undo_30 : decode cX9_undo 30 = .ok (.iaload, 1) := by decide +kernel
theorem dX9_undo_31 : decode cX9_undo 31 = .ok (.iconst 1, 1) := by decide +kernel
theorem dX9_undo_32 : decode cX9_undo 32 = .ok (.isub, 1) := by decide +kernel
theorem dX9_undo_33 : decode cX9_undo 33 = .ok (.iastore, 1) := by decide +kernel
theorem dX9_undo_34 : decode cX9_undo 34 = .ok (.aload_n 0, 1) := by decide +kernel
theorem dX9_undo_35 : decode cX9_undo 35 = .ok (.getfield 9, 3) := by decide +kernel
theorem dX9_undo_38 : decode cX9_undo 38 = .ok (.bipush 8, 2) := by decide +kernel
theorem dX9_undo_40 : decode cX9_undo 40 = .ok (.iaload, 1) := by decide +kernel
theorem dX9_undo_41 : decode cX9_undo 41 = .ok (.ireturn, 1) := by decide +kernel
theorem dX9_anew_0 : decode cX9_anew 0 = .ok (.aload_n 0, 1) := by decide +kernel
theorem dX9_anew_1 : decode cX9_anew 1 = .ok (.invokevirtual 92, 3) := by decide +kernel
theorem dX9_anew_4 : decode cX9_anew 4 = .ok (.ifCond .ne 6, 3) := by decide +kernel
theorem dX9_anew_7 : decode cX9_anew 7 = .ok (.bipush (-2), 2) := by decide +kernel
theorem dX9_anew_9 : decode cX9_anew 9 = .ok (.ireturn, 1) := by decide +kernel
theorem dX9_anew_10 : decode cX9_anew 10 = .ok (.aload_n 0, 1) := by decide +kernel
theorem dX9_anew_11 : decode cX9_anew 11 = .ok (.getfield 9, 3) := by decide +kernel
theorem dX9_anew_14 : decode cX9_anew 14 = .ok (.bipush 8, 2) := by decide +kernel
theorem dX9_anew_16 : decode cX9_anew 16 = .ok (.iaload, 1) := by decide +kernel
theorem dX9_anew_17 : decode cX9_anew 17 = .ok (.istore_n 1, 1) := by decide +kernel
theorem dX9_anew_18 : decode cX9_anew 18 = .ok (.aload_n 0, 1) := by decide +kernel
theorem dX9_anew_19 : decode cX9_anew 19 = .ok (.getfield 9, 3) := by decide +kernel
theorem dX9_anew_22 : decode cX9_anew 22 = .ok (.bipush 8, 2) := by decide +kernel
theorem dX9_anew_24 : decode cX9_anew 24 = .ok (.iconst 0, 1) := by decide +kernel
theorem dX9_anew_25 : decode cX9_anew 25 = .ok (.iastore, 1) := by decide +kernel
theorem dX9_anew_26 : decode cX9_anew 26 = .ok (.iload_n 1, 1) := by decide +kernel
theorem dX9_anew_27 : decode cX9_anew 27 = .ok (.ireturn, 1) := by decide +kernel
theorem dX9_goDrawn_0 : decode cX9_goDrawn 0 = .ok (.aload_n 0, 1) := by decide +kernel
theorem dX9_goDrawn_1 : decode cX9_goDrawn 1 = .ok (.invokevirtual 251, 3) := by decide +kernel
theorem dX9_goDrawn_4 : decode cX9_goDrawn 4 = .ok (.aload_n 0, 1) := by decide +kernel
theorem dX9_goDrawn_5 : decode cX9_goDrawn 5 = .ok (.iconst 0, 1) := by decide +kernel
theorem dX9_goDrawn_6 : decode cX9_goDrawn 6 = .ok (.putfield 239, 3) := by decide +kernel
theorem dX9_goDrawn_9 : decode cX9_goDrawn 9 = .ok (.lload_n 1, 1) := by decide +kernel
theorem dX9_goDrawn_10 : decode cX9_goDrawn 10 = .ok (.lstore_n 3, 1) := by decide +kernel
theorem dX9_goDrawn_11 : decode cX9_goDrawn 11 = .ok (.iconst 0, 1) := by decide +kernel
theorem dX9_goDrawn_12 : decode cX9_goDrawn 12 = .ok (.istore 5, 2) := by decide +kernel
theorem dX9_goDrawn_14 : decode cX9_goDrawn 14 = .ok (.iload 5, 2) := by decide +kernel
theorem dX9_goDrawn_16 : decode cX9_goDrawn 16 = .ok (.aload_n 0, 1) := by decide +kernel
theorem dX9_goDrawn_17 : decode cX9_goDrawn 17 = .ok (.invokevirtual 96, 3) := by decide +kernel
theorem dX9_goDrawn_20 : decode cX9_goDrawn 20 = .ok (.if_icmp .ge 60, 3) := by decide +kernel
theorem dX9_goDrawn_23 : decode cX9_goDrawn 23 = .ok (.ldc2_w 437, 3) := by decide +kernel
theorem dX9_goDrawn_26 : decode cX9_goDrawn 26 = .ok (.lload_n 3, 1) := by decide +kernel
theorem dX9_goDrawn_27 : decode cX9_goDrawn 27 = .ok (.lmul, 1) := by decide +kernel
theorem dX9_goDrawn_28 : decode cX9_goDrawn 28 = .ok (.ldc2_w 439, 3) := by decide +kernel
theorem dX9_goDrawn_31 : decode cX9_goDrawn 31 = .ok (.ladd, 1) := by decide +kernel
theorem dX9_goDrawn_32 : decode cX9_goDrawn 32 = .ok (.ldc2_w 441, 3) := by decide +kernel
theorem dX9_goDrawn_35 : decode cX9_goDrawn 35 = .ok (.lrem, 1) := by decide +kernel
theorem dX9_goDrawn_36 : decode cX9_goDrawn 36 = .ok (.lstore_n 3, 1) := by decide +kernel
theorem dX9_goDrawn_37 : decode cX9_goDrawn 37 = .ok (.aload_n 0, 1) := by decide +kernel
theorem dX9_goDrawn_38 : decode cX9_goDrawn 38 = .ok (.dup, 1) := by decide +kernel
theorem dX9_goDrawn_39 : decode cX9_goDrawn 39 = .ok (.getfield 239, 3) := by decide +kernel
theorem dX9_goDrawn_42 : decode cX9_goDrawn 42 = .ok (.lload_n 3, 1) := by decide +kernel
theorem dX9_goDrawn_43 : decode cX9_goDrawn 43 = .ok (.ldc2_w 443, 3) := by decide +kernel
theorem dX9_goDrawn_46 : decode cX9_goDrawn 46 = .ok (.ldiv, 1) := by decide +kernel
theorem dX9_goDrawn_47 : decode cX9_goDrawn 47 = .ok (.ldc2_w 445, 3) := by decide +kernel
theorem dX9_goDrawn_50 : decode cX9_goDrawn 50 = .ok (.lrem, 1) := by decide +kernel
theorem dX9_goDrawn_51 : decode cX9_goDrawn 51 = .ok (.aload_n 0, 1) := by decide +kernel
theorem dX9_goDrawn_52 : decode cX9_goDrawn 52 = .ok (.getfield 9, 3) := by decide +kernel
theorem dX9_goDrawn_55 : decode cX9_goDrawn 55 = .ok (.iconst 3, 1) := by decide +kernel
theorem dX9_goDrawn_56 : decode cX9_goDrawn 56 = .ok (.iaload, 1) := by decide +kernel
theorem dX9_goDrawn_57 : decode cX9_goDrawn 57 = .ok (.i2l, 1) := by decide +kernel
theorem dX9_goDrawn_58 : decode cX9_goDrawn 58 = .ok (.lcmp, 1) := by decide +kernel
theorem dX9_goDrawn_59 : decode cX9_goDrawn 59 = .ok (.ifCond .ge 10, 3) := by decide +kernel
theorem dX9_goDrawn_62 : decode cX9_goDrawn 62 = .ok (.iconst 1, 1) := by decide +kernel
theorem dX9_goDrawn_63 : decode cX9_goDrawn 63 = .ok (.iload 5, 2) := by decide +kernel
theorem dX9_goDrawn_65 : decode cX9_goDrawn 65 = .ok (.ishl, 1) := by decide +kernel
theorem dX9_goDrawn_66 : decode cX9_goDrawn 66 = .ok (.goto 4, 3) := by decide +kernel
theorem dX9_goDrawn_69 : decode cX9_goDrawn 69 = .ok (.iconst 0, 1) := by decide +kernel
theorem dX9_goDrawn_70 : decode cX9_goDrawn 70 = .ok (.ior, 1) := by decide +kernel
theorem dX9_goDrawn_71 : decode cX9_goDrawn 71 = .ok (.putfield 239, 3) := by decide +kernel
theorem dX9_goDrawn_74 : decode cX9_goDrawn 74 = .ok (.iinc 5 1, 3) := by decide +kernel
theorem dX9_goDrawn_77 : decode cX9_goDrawn 77 = .ok (.goto (-63), 3) := by decide +kernel
theorem dX9_goDrawn_80 : decode cX9_goDrawn 80 = .ok (.aload_n 0, 1) := by decide +kernel
theorem dX9_goDrawn_81 : decode cX9_goDrawn 81 = .ok (.invokevirtual 280, 3) := by decide +kernel
theorem dX9_goDrawn_84 : decode cX9_goDrawn 84 = .ok (.return_, 1) := by decide +kernel
theorem dX9_isSeed_0 : decode cX9_isSeed 0 = .ok (.iload_n 0, 1) := by decide +kernel
theorem dX9_isSeed_1 : decode cX9_isSeed 1 = .ok (.i2l, 1) := by decide +kernel
theorem dX9_isSeed_2 : decode cX9_isSeed 2 = .ok (.lconst 0, 1) := by decide +kernel
theorem dX9_isSeed_3 : decode cX9_isSeed 3 = .ok (.ldc2_w 447, 3) := by decide +kernel
theorem dX9_isSeed_6 : decode cX9_isSeed 6 = .ok (.invokestatic 88, 3) := by decide +kernel
theorem dX9_isSeed_9 : decode cX9_isSeed 9 = .ok (.ireturn, 1) := by decide +kernel
theorem dX9_drawn_0 : decode cX9_drawn 0 = .ok (.aload_n 0, 1) := by decide +kernel
theorem dX9_drawn_1 : decode cX9_drawn 1 = .ok (.invokevirtual 92, 3) := by decide +kernel
theorem dX9_drawn_4 : decode cX9_drawn 4 = .ok (.ifCond .eq 22, 3) := by decide +kernel
theorem dX9_drawn_7 : decode cX9_drawn 7 = .ok (.iload_n 1, 1) := by decide +kernel
theorem dX9_drawn_8 : decode cX9_drawn 8 = .ok (.invokestatic 449, 3) := by decide +kernel
theorem dX9_drawn_11 : decode cX9_drawn 11 = .ok (.ifCond .eq 15, 3) := by decide +kernel
theorem dX9_drawn_14 : decode cX9_drawn 14 = .ok (.iload_n 2, 1) := by decide +kernel
theorem dX9_drawn_15 : decode cX9_drawn 15 = .ok (.i2l, 1) := by decide +kernel
theorem dX9_drawn_16 : decode cX9_drawn 16 = .ok (.lconst 0, 1) := by decide +kernel
theorem dX9_drawn_17 : decode cX9_drawn 17 = .ok (.ldc2_w 86, 3) := by decide +kernel
theorem dX9_drawn_20 : decode cX9_drawn 20 = .ok (.invokestatic 88, 3) := by decide +kernel
theorem dX9_drawn_23 : decode cX9_drawn 23 = .ok (.ifCond .ne 6, 3) := by decide +kernel
theorem dX9_drawn_26 : decode cX9_drawn 26 = .ok (.bipush (-2), 2) := by decide +kernel
theorem dX9_drawn_28 : decode cX9_drawn 28 = .ok (.ireturn, 1) := by decide +kernel
theorem dX9_drawn_29 : decode cX9_drawn 29 = .ok (.aload_n 0, 1) := by decide +kernel
theorem dX9_drawn_30 : decode cX9_drawn 30 = .ok (.iload_n 1, 1) := by decide +kernel
theorem dX9_drawn_31 : decode cX9_drawn 31 = .ok (.i2l, 1) := by decide +kernel
theorem dX9_drawn_32 : decode cX9_drawn 32 = .ok (.invokevirtual 452, 3) := by decide +kernel
theorem dX9_drawn_35 : decode cX9_drawn 35 = .ok (.iload_n 2, 1) := by decide +kernel
theorem dX9_drawn_36 : decode cX9_drawn 36 = .ok (.ifCond .ne 10, 3) := by decide +kernel
theorem dX9_drawn_39 : decode cX9_drawn 39 = .ok (.aload_n 0, 1) := by decide +kernel
theorem dX9_drawn_40 : decode cX9_drawn 40 = .ok (.getfield 239, 3) := by decide +kernel
theorem dX9_drawn_43 : decode cX9_drawn 43 = .ok (.goto 19, 3) := by decide +kernel
theorem dX9_drawn_46 : decode cX9_drawn 46 = .ok (.iload_n 2, 1) := by decide +kernel
theorem dX9_drawn_47 : decode cX9_drawn 47 = .ok (.iconst 1, 1) := by decide +kernel
theorem dX9_drawn_48 : decode cX9_drawn 48 = .ok (.if_icmp .ne 10, 3) := by decide +kernel
theorem dX9_drawn_51 : decode cX9_drawn 51 = .ok (.aload_n 0, 1) := by decide +kernel
theorem dX9_drawn_52 : decode cX9_drawn 52 = .ok (.invokevirtual 322, 3) := by decide +kernel
theorem dX9_drawn_55 : decode cX9_drawn 55 = .ok (.goto 7, 3) := by decide +kernel
theorem dX9_drawn_58 : decode cX9_drawn 58 = .ok (.aload_n 0, 1) := by decide +kernel
theorem dX9_drawn_59 : decode cX9_drawn 59 = .ok (.invokevirtual 339, 3) := by decide +kernel
theorem dX9_drawn_62 : decode cX9_drawn 62 = .ok (.ireturn, 1) := by decide +kernel
theorem dX9_luck_0 : decode cX9_luck 0 = .ok (.iload_n 1, 1) := by decide +kernel
theorem dX9_luck_1 : decode cX9_luck 1 = .ok (.invokestatic 449, 3) := by decide +kernel
theorem dX9_luck_4 : decode cX9_luck 4 = .ok (.ifCond .eq 23, 3) := by decide +kernel
theorem dX9_luck_7 : decode cX9_luck 7 = .ok (.iload_n 2, 1) := by decide +kernel
theorem dX9_luck_8 : decode cX9_luck 8 = .ok (.i2l, 1) := by decide +kernel
theorem dX9_luck_9 : decode cX9_luck 9 = .ok (.lconst 1, 1) := by decide +kernel
theorem dX9_luck_10 : decode cX9_luck 10 = .ok (.ldc2_w 456, 3) := by decide +kernel
theorem dX9_luck_13 : decode cX9_luck 13 = .ok (.invokestatic 88, 3) := by decide +kernel
theorem dX9_luck_16 : decode cX9_luck 16 = .ok (.ifCond .eq 11, 3) := by decide +kernel
theorem dX9_luck_19 : decode cX9_luck 19 = .ok (.aload_n 0, 1) := by decide +kernel
theorem dX9_luck_20 : decode cX9_luck 20 = .ok (.iload_n 3, 1) := by decide +kernel
theorem dX9_luck_21 : decode cX9_luck 21 = .ok (.invokevirtual 224, 3) := by decide +kernel
theorem dX9_luck_24 : decode cX9_luck 24 = .ok (.ifCond .ne 6, 3) := by decide +kernel
theorem dX9_luck_27 : decode cX9_luck 27 = .ok (.bipush (-2), 2) := by decide +kernel
theorem dX9_luck_29 : decode cX9_luck 29 = .ok (.ireturn, 1) := by decide +kernel
theorem dX9_luck_30 : decode cX9_luck 30 = .ok (.iconst 0, 1) := by decide +kernel
theorem dX9_luck_31 : decode cX9_luck 31 = .ok (.istore 4, 2) := by decide +kernel
theorem dX9_luck_33 : decode cX9_luck 33 = .ok (.iconst 0, 1) := by decide +kernel
theorem dX9_luck_34 : decode cX9_luck 34 = .ok (.istore 5, 2) := by decide +kernel
theorem dX9_luck_36 : decode cX9_luck 36 = .ok (.iload 5, 2) := by decide +kernel
theorem dX9_luck_38 : decode cX9_luck 38 = .ok (.iload_n 2, 1) := by decide +kernel
theorem dX9_luck_39 : decode cX9_luck 39 = .ok (.if_icmp .ge 37, 3) := by decide +kernel
theorem dX9_luck_42 : decode cX9_luck 42 = .ok (.aload_n 0, 1) := by decide +kernel
theorem dX9_luck_43 : decode cX9_luck 43 = .ok (.iload_n 1, 1) := by decide +kernel
theorem dX9_luck_44 : decode cX9_luck 44 = .ok (.i2l, 1) := by decide +kernel
theorem dX9_luck_45 : decode cX9_luck 45 = .ok (.iload 5, 2) := by decide +kernel
theorem dX9_luck_47 : decode cX9_luck 47 = .ok (.i2l, 1) := by decide +kernel
theorem dX9_luck_48 : decode cX9_luck 48 = .ok (.ladd, 1) := by decide +kernel
theorem dX9_luck_49 : decode cX9_luck 49 = .ok (.invokevirtual 452, 3) := by decide +kernel
theorem dX9_luck_52 : decode cX9_luck 52 = .ok (.iload 4, 2) := by decide +kernel
theorem dX9_luck_54 : decode cX9_luck 54 = .ok (.aload_n 0, 1) := by decide +kernel
theorem dX9_luck_55 : decode cX9_luck 55 = .ok (.iload_n 3, 1) := by decide +kernel
theorem dX9_luck_56 : decode cX9_luck 56 = .ok (.invokevirtual 336, 3) := by decide +kernel
theorem dX9_luck_59 : decode cX9_luck 59 = .ok (.ifCond .eq 7, 3) := by decide +kernel
theorem dX9_luck_62 : decode cX9_luck 62 = .ok (.iconst 1, 1) := by decide +kernel
theorem dX9_luck_63 : decode cX9_luck 63 = .ok (.goto 4, 3) := by decide +kernel
theorem dX9_luck_66 : decode cX9_luck 66 = .ok (.iconst 0, 1) := by decide +kernel
theorem dX9_luck_67 : decode cX9_luck 67 = .ok (.iadd, 1) := by decide +kernel
theorem dX9_luck_68 : decode cX9_luck 68 = .ok (.istore 4, 2) := by decide +kernel
theorem dX9_luck_70 : decode cX9_luck 70 = .ok (.iinc 5 1, 3) := by decide +kernel
theorem dX9_luck_73 : decode cX9_luck 73 = .ok (.goto (-37), 3) := by decide +kernel
theorem dX9_luck_76 : decode cX9_luck 76 = .ok (.iload 4, 2) := by decide +kernel
theorem dX9_luck_78 : decode cX9_luck 78 = .ok (.ireturn, 1) := by decide +kernel
theorem dX9_rate_0 : decode cX9_rate 0 = .ok (.aload_n 0, 1) := by decide +kernel
theorem dX9_rate_1 : decode cX9_rate 1 = .ok (.iload_n 1, 1) := by decide +kernel
theorem dX9_rate_2 : decode cX9_rate 2 = .ok (.invokevirtual 103, 3) := by decide +kernel
theorem dX9_rate_5 : decode cX9_rate 5 = .ok (.ifCond .eq 15, 3) := by decide +kernel
theorem dX9_rate_8 : decode cX9_rate 8 = .ok (.iload_n 2, 1) := by decide +kernel
theorem dX9_rate_9 : decode cX9_rate 9 = .ok (.i2l, 1) := by decide +kernel
theorem dX9_rate_10 : decode cX9_rate 10 = .ok (.lconst 0, 1) := by decide +kernel
theorem dX9_rate_11 : decode cX9_rate 11 = .ok (.ldc2_w 458, 3) := by decide +kernel
theorem dX9_rate_14 : decode cX9_rate 14 = .ok (.invokestatic 88, 3) := by decide +kernel
theorem dX9_rate_17 : decode cX9_rate 17 = .ok (.ifCond .ne 6, 3) := by decide +kernel
theorem dX9_rate_20 : decode cX9_rate 20 = .ok (.bipush (-2), 2) := by decide +kernel
theorem dX9_rate_22 : decode cX9_rate 22 = .ok (.ireturn, 1) := by decide +kernel
theorem dX9_rate_23 : decode cX9_rate 23 = .ok (.aload_n 0, 1) := by decide +kernel
theorem dX9_rate_24 : decode cX9_rate 24 = .ok (.getfield 9, 3) := by decide +kernel
theorem dX9_rate_27 : decode cX9_rate 27 = .ok (.bipush 8, 2) := by decide +kernel
theorem dX9_rate_29 : decode cX9_rate 29 = .ok (.iaload, 1) := by decide +kernel
theorem dX9_rate_30 : decode cX9_rate 30 = .ok (.ifCond .le 6, 3) := by decide +kernel
theorem dX9_rate_33 : decode cX9_rate 33 = .ok (.bipush (-5), 2) := by decide +kernel
theorem dX9_rate_35 : decode cX9_rate 35 = .ok (.ireturn, 1) := by decide +kernel
theorem dX9_rate_36 : decode cX9_rate 36 = .ok (.aload_n 0, 1) := by decide +kernel
theorem dX9_rate_37 : decode cX9_rate 37 = .ok (.getfield 9, 3) := by decide +kernel
theorem dX9_rate_40 : decode cX9_rate 40 = .ok (.bipush 10, 2) := by decide +kernel
theorem dX9_rate_42 : decode cX9_rate 42 = .ok (.iconst 2, 1) := by decide +kernel
theorem dX9_rate_43 : decode cX9_rate 43 = .ok (.iload_n 1, 1) := by decide +kernel
theorem dX9_rate_44 : decode cX9_rate 44 = .ok (.imul, 1) := by decide +kernel
theorem dX9_rate_45 : decode cX9_rate 45 = .ok (.iadd, 1) := by decide +kernel
theorem dX9_rate_46 : decode cX9_rate 46 = .ok (.iaload, 1) := by decide +kernel
theorem dX9_rate_47 : decode cX9_rate 47 = .ok (.istore_n 3, 1) := by decide +kernel
theorem dX9_rate_48 : decode cX9_rate 48 = .ok (.aload_n 0, 1) := by decide +kernel
theorem dX9_rate_49 : decode cX9_rate 49 = .ok (.getfield 9, 3) := by decide +kernel
theorem dX9_rate_52 : decode cX9_rate 52 = .ok (.bipush 10, 2) := by decide +kernel
theorem dX9_rate_54 : decode cX9_rate 54 = .ok (.iconst 2, 1) := by decide +kernel
theorem dX9_rate_55 : decode cX9_rate 55 = .ok (.iload_n 1, 1) := by decide +kernel
theorem dX9_rate_56 : decode cX9_rate 56 = .ok (.imul, 1) := by decide +kernel
theorem dX9_rate_57 : decode cX9_rate 57 = .ok (.iadd, 1) := by decide +kernel
theorem dX9_rate_58 : decode cX9_rate 58 = .ok (.iload_n 2, 1) := by decide +kernel
theorem dX9_rate_59 : decode cX9_rate 59 = .ok (.iastore, 1) := by decide +kernel
theorem dX9_rate_60 : decode cX9_rate 60 = .ok (.iload_n 3, 1) := by decide +kernel
theorem dX9_rate_61 : decode cX9_rate 61 = .ok (.ireturn, 1) := by decide +kernel
theorem dX9_count_0 : decode cX9_count 0 = .ok (.iload_n 1, 1) := by decide +kernel
theorem dX9_count_1 : decode cX9_count 1 = .ok (.i2l, 1) := by decide +kernel
theorem dX9_count_2 : decode cX9_count 2 = .ok (.lconst 0, 1) := by decide +kernel
theorem dX9_count_3 : decode cX9_count 3 = .ok (.ldc2_w 460, 3) := by decide +kernel
theorem dX9_count_6 : decode cX9_count 6 = .ok (.invokestatic 88, 3) := by decide +kernel
theorem dX9_count_9 : decode cX9_count 9 = .ok (.ifCond .eq 10, 3) := by decide +kernel
theorem dX9_count_12 : decode cX9_count 12 = .ok (.aload_n 0, 1) := by decide +kernel
theorem dX9_count_13 : decode cX9_count 13 = .ok (.getfield 9, 3) := by decide +kernel
theorem dX9_count_16 : decode cX9_count 16 = .ok (.iload_n 1, 1) := by decide +kernel
theorem dX9_count_17 : decode cX9_count 17 = .ok (.iaload, 1) := by decide +kernel
theorem dX9_count_18 : decode cX9_count 18 = .ok (.ireturn, 1) := by decide +kernel
theorem dX9_count_19 : decode cX9_count 19 = .ok (.iload_n 1, 1) := by decide +kernel
theorem dX9_count_20 : decode cX9_count 20 = .ok (.bipush 10, 2) := by decide +kernel
theorem dX9_count_22 : decode cX9_count 22 = .ok (.if_icmp .ne 8, 3) := by decide +kernel
theorem dX9_count_25 : decode cX9_count 25 = .ok (.aload_n 0, 1) := by decide +kernel
theorem dX9_count_26 : decode cX9_count 26 = .ok (.getfield 107, 3) := by decide +kernel
theorem dX9_count_29 : decode cX9_count 29 = .ok (.ireturn, 1) := by decide +kernel
theorem dX9_count_30 : decode cX9_count 30 = .ok (.iload_n 1, 1) := by decide +kernel
theorem dX9_count_31 : decode cX9_count 31 = .ok (.bipush 11, 2) := by decide +kernel
theorem dX9_count_33 : decode cX9_count 33 = .ok (.if_icmp .eq 5, 3) := by decide +kernel
theorem dX9_count_36 : decode cX9_count 36 = .ok (.iconst (-1), 1) := by decide +kernel
theorem dX9_count_37 : decode cX9_count 37 = .ok (.ireturn, 1) := by decide +kernel
theorem dX9_count_38 : decode cX9_count 38 = .ok (.iconst 0, 1) := by decide +kernel
theorem dX9_count_39 : decode cX9_count 39 = .ok (.istore_n 2, 1) := by decide +kernel
theorem dX9_count_40 : decode cX9_count 40 = .ok (.iconst 0, 1) := by decide +kernel
theorem dX9_count_41 : decode cX9_count 41 = .ok (.istore_n 3, 1) := by decide +kernel
theorem dX9_count_42 : decode cX9_count 42 = .ok (.iload_n 3, 1) := by decide +kernel
theorem dX9_count_43 : decode cX9_count 43 = .ok (.iconst 4, 1) := by decide +kernel
theorem dX9_count_44 : decode cX9_count 44 = .ok (.if_icmp .ge 27, 3) := by decide +kernel
theorem dX9_count_47 : decode cX9_count 47 = .ok (.iload_n 2, 1) := by decide +kernel
theorem dX9_count_48 : decode cX9_count 48 = .ok (.aload_n 0, 1) := by decide +kernel
theorem dX9_count_49 : decode cX9_count 49 = .ok (.getfield 70, 3) := by decide +kernel
theorem dX9_count_52 : decode cX9_count 52 = .ok (.iload_n 3, 1) := by decide +kernel
theorem dX9_count_53 : decode cX9_count 53 = .ok (.iaload, 1) := by decide +kernel
theorem dX9_count_54 : decode cX9_count 54 = .ok (.iconst (-1), 1) := by decide +kernel
theorem dX9_count_55 : decode cX9_count 55 = .ok (.if_icmp .ne 7, 3) := by decide +kernel
theorem dX9_count_58 : decode cX9_count 58 = .ok (.iconst 0, 1) := by decide +kernel
theorem dX9_count_59 : decode cX9_count 59 = .ok (.goto 4, 3) := by decide +kernel
theorem dX9_count_62 : decode cX9_count 62 = .ok (.iconst 1, 1) := by decide +kernel
theorem dX9_count_63 : decode cX9_count 63 = .ok (.iadd, 1) := by decide +kernel
theorem dX9_count_64 : decode cX9_count 64 = .ok (.istore_n 2, 1) := by decide +kernel
theorem dX9_count_65 : decode cX9_count 65 = .ok (.iinc 3 1, 3) := by decide +kernel
theorem dX9_count_68 : decode cX9_count 68 = .ok (.goto (-26), 3) := by decide +kernel
theorem dX9_count_71 : decode cX9_count 71 = .ok (.iload_n 2, 1) := by decide +kernel
theorem dX9_count_72 : decode cX9_count 72 = .ok (.ireturn, 1) := by decide +kernel
theorem dX9_isSlot_0 : decode cX9_isSlot 0 = .ok (.iload_n 0, 1) := by decide +kernel
theorem dX9_isSlot_1 : decode cX9_isSlot 1 = .ok (.i2l, 1) := by decide +kernel
theorem dX9_isSlot_2 : decode cX9_isSlot 2 = .ok (.lconst 0, 1) := by decide +kernel
theorem dX9_isSlot_3 : decode cX9_isSlot 3 = .ok (.ldc2_w 353, 3) := by decide +kernel
theorem dX9_isSlot_6 : decode cX9_isSlot 6 = .ok (.invokestatic 88, 3) := by decide +kernel
theorem dX9_isSlot_9 : decode cX9_isSlot 9 = .ok (.ireturn, 1) := by decide +kernel
theorem dX9_cut_0 : decode cX9_cut 0 = .ok (.bipush 64, 2) := by decide +kernel
theorem dX9_cut_2 : decode cX9_cut 2 = .ok (.bipush 8, 2) := by decide +kernel
theorem dX9_cut_4 : decode cX9_cut 4 = .ok (.iload_n 2, 1) := by decide +kernel
theorem dX9_cut_5 : decode cX9_cut 5 = .ok (.ishl, 1) := by decide +kernel
theorem dX9_cut_6 : decode cX9_cut 6 = .ok (.isub, 1) := by decide +kernel
theorem dX9_cut_7 : decode cX9_cut 7 = .ok (.istore_n 3, 1) := by decide +kernel
theorem dX9_cut_8 : decode cX9_cut 8 = .ok (.lload_n 0, 1) := by decide +kernel
theorem dX9_cut_9 : decode cX9_cut 9 = .ok (.iload_n 3, 1) := by decide +kernel
theorem dX9_cut_10 : decode cX9_cut 10 = .ok (.lshl, 1) := by decide +kernel
theorem dX9_cut_11 : decode cX9_cut 11 = .ok (.iload_n 3, 1) := by decide +kernel
theorem dX9_cut_12 : decode cX9_cut 12 = .ok (.lshr, 1) := by decide +kernel
theorem dX9_cut_13 : decode cX9_cut 13 = .ok (.lreturn, 1) := by decide +kernel
theorem dX9_row_0 : decode cX9_row 0 = .ok (.iload_n 1, 1) := by decide +kernel
theorem dX9_row_1 : decode cX9_row 1 = .ok (.invokestatic 367, 3) := by decide +kernel
theorem dX9_row_4 : decode cX9_row 4 = .ok (.ifCond .eq 21, 3) := by decide +kernel
theorem dX9_row_7 : decode cX9_row 7 = .ok (.iload_n 2, 1) := by decide +kernel
theorem dX9_row_8 : decode cX9_row 8 = .ok (.i2l, 1) := by decide +kernel
theorem dX9_row_9 : decode cX9_row 9 = .ok (.lconst 0, 1) := by decide +kernel
theorem dX9_row_10 : decode cX9_row 10 = .ok (.ldc2_w 353, 3) := by decide +kernel
theorem dX9_row_13 : decode cX9_row 13 = .ok (.invokestatic 88, 3) := by decide +kernel
theorem dX9_row_16 : decode cX9_row 16 = .ok (.ifCond .eq 9, 3) := by decide +kernel
theorem dX9_row_19 : decode cX9_row 19 = .ok (.iload_n 3, 1) := by decide +kernel
theorem dX9_row_20 : decode cX9_row 20 = .ok (.bipush 60, 2) := by decide +kernel
theorem dX9_row_22 : decode cX9_row 22 = .ok (.if_icmp .le 6, 3) := by decide +kernel
theorem dX9_row_25 : decode cX9_row 25 = .ok (.bipush (-2), 2) := by decide +kernel
theorem dX9_row_27 : decode cX9_row 27 = .ok (.ireturn, 1) := by decide +kernel
theorem dX9_row_28 : decode cX9_row 28 = .ok (.iload_n 3, 1) := by decide +kernel
theorem dX9_row_29 : decode cX9_row 29 = .ok (.ifCond .ge 6, 3) := by decide +kernel
theorem dX9_row_32 : decode cX9_row 32 = .ok (.bipush (-3), 2) := by decide +kernel
theorem dX9_row_34 : decode cX9_row 34 = .ok (.ireturn, 1) := by decide +kernel
theorem dX9_row_35 : decode cX9_row 35 = .ok (.aload_n 0, 1) := by decide +kernel
theorem dX9_row_36 : decode cX9_row 36 = .ok (.getfield 70, 3) := by decide +kernel
theorem dX9_row_39 : decode cX9_row 39 = .ok (.iload_n 1, 1) := by decide +kernel
theorem dX9_row_40 : decode cX9_row 40 = .ok (.iload_n 3, 1) := by decide +kernel
theorem dX9_row_41 : decode cX9_row 41 = .ok (.iastore, 1) := by decide +kernel
theorem dX9_row_42 : decode cX9_row 42 = .ok (.aload_n 0, 1) := by decide +kernel
theorem dX9_row_43 : decode cX9_row 43 = .ok (.getfield 73, 3) := by decide +kernel
theorem dX9_row_46 : decode cX9_row 46 = .ok (.iload_n 1, 1) := by decide +kernel
theorem dX9_row_47 : decode cX9_row 47 = .ok (.iload_n 2, 1) := by decide +kernel
theorem dX9_row_48 : decode cX9_row 48 = .ok (.iastore, 1) := by decide +kernel
theorem dX9_row_49 : decode cX9_row 49 = .ok (.iconst 0, 1) := by decide +kernel
theorem dX9_row_50 : decode cX9_row 50 = .ok (.istore 4, 2) := by decide +kernel
theorem dX9_row_52 : decode cX9_row 52 = .ok (.iload 4, 2) := by decide +kernel
theorem dX9_row_54 : decode cX9_row 54 = .ok (.bipush 60, 2) := by decide +kernel
theorem dX9_row_56 : decode cX9_row 56 = .ok (.if_icmp .ge 22, 3) := by decide +kernel
theorem dX9_row_59 : decode cX9_row 59 = .ok (.aload_n 0, 1) := by decide +kernel
theorem dX9_row_60 : decode cX9_row 60 = .ok (.getfield 76, 3) := by decide +kernel
theorem dX9_row_63 : decode cX9_row 63 = .ok (.bipush 60, 2) := by decide +kernel
theorem dX9_row_65 : decode cX9_row 65 = .ok (.iload_n 1, 1) := by decide +kernel
theorem dX9_row_66 : decode cX9_row 66 = .ok (.imul, 1) := by decide +kernel
theorem dX9_row_67 : decode cX9_row 67 = .ok (.iload 4, 2) := by decide +kernel
theorem dX9_row_69 : decode cX9_row 69 = .ok (.iadd, 1) := by decide +kernel
theorem dX9_row_70 : decode cX9_row 70 = .ok (.lconst 0, 1) := by decide +kernel
theorem dX9_row_71 : decode cX9_row 71 = .ok (.lastore, 1) := by decide +kernel
theorem dX9_row_72 : decode cX9_row 72 = .ok (.iinc 4 1, 3) := by decide +kernel
theorem dX9_row_75 : decode cX9_row 75 = .ok (.goto (-23), 3) := by decide +kernel
theorem dX9_row_78 : decode cX9_row 78 = .ok (.iconst 0, 1) := by decide +kernel
theorem dX9_row_79 : decode cX9_row 79 = .ok (.ireturn, 1) := by decide +kernel
theorem dX9_write_0 : decode cX9_write 0 = .ok (.iload_n 1, 1) := by decide +kernel
theorem dX9_write_1 : decode cX9_write 1 = .ok (.invokestatic 367, 3) := by decide +kernel
theorem dX9_write_4 : decode cX9_write 4 = .ok (.ifCond .ne 6, 3) := by decide +kernel
theorem dX9_write_7 : decode cX9_write 7 = .ok (.bipush (-2), 2) := by decide +kernel
theorem dX9_write_9 : decode cX9_write 9 = .ok (.ireturn, 1) := by decide +kernel
theorem dX9_write_10 : decode cX9_write 10 = .ok (.aload_n 0, 1) := by decide +kernel
theorem dX9_write_11 : decode cX9_write 11 = .ok (.getfield 70, 3) := by decide +kernel
theorem dX9_write_14 : decode cX9_write 14 = .ok (.iload_n 1, 1) := by decide +kernel
theorem dX9_write_15 : decode cX9_write 15 = .ok (.iaload, 1) := by decide +kernel
theorem dX9_write_16 : decode cX9_write 16 = .ok (.iconst (-1), 1) := by decide +kernel
theorem dX9_write_17 : decode cX9_write 17 = .ok (.if_icmp .ne 6, 3) := by decide +kernel
theorem dX9_write_20 : decode cX9_write 20 = .ok (.bipush (-6), 2) := by decide +kernel
theorem dX9_write_22 : decode cX9_write 22 = .ok (.ireturn, 1) := by decide +kernel
theorem dX9_write_23 : decode cX9_write 23 = .ok (.iload_n 2, 1) := by decide +kernel
theorem dX9_write_24 : decode cX9_write 24 = .ok (.i2l, 1) := by decide +kernel
theorem dX9_write_25 : decode cX9_write 25 = .ok (.lconst 0, 1) := by decide +kernel
theorem dX9_write_26 : decode cX9_write 26 = .ok (.aload_n 0, 1) := by decide +kernel
theorem dX9_write_27 : decode cX9_write 27 = .ok (.getfield 70, 3) := by decide +kernel
theorem dX9_write_30 : decode cX9_write 30 = .ok (.iload_n 1, 1) := by decide +kernel
theorem dX9_write_31 : decode cX9_write 31 = .ok (.iaload, 1) := by decide +kernel
theorem dX9_write_32 : decode cX9_write 32 = .ok (.iconst 1, 1) := by decide +kernel
theorem dX9_write_33 : decode cX9_write 33 = .ok (.isub, 1) := by decide +kernel
theorem dX9_write_34 : decode cX9_write 34 = .ok (.i2l, 1) := by decide +kernel
theorem dX9_write_35 : decode cX9_write 35 = .ok (.invokestatic 88, 3) := by decide +kernel
theorem dX9_write_38 : decode cX9_write 38 = .ok (.ifCond .ne 6, 3) := by decide +kernel
theorem dX9_write_41 : decode cX9_write 41 = .ok (.bipush (-7), 2) := by decide +kernel
theorem dX9_write_43 : decode cX9_write 43 = .ok (.ireturn, 1) := by decide +kernel
theorem dX9_write_44 : decode cX9_write 44 = .ok (.aload_n 0, 1) := by decide +kernel
theorem dX9_write_45 : decode cX9_write 45 = .ok (.getfield 76, 3) := by decide +kernel
theorem dX9_write_48 : decode cX9_write 48 = .ok (.bipush 60, 2) := by decide +kernel
theorem dX9_write_50 : decode cX9_write 50 = .ok (.iload_n 1, 1) := by decide +kernel
theorem dX9_write_51 : decode cX9_write 51 = .ok (.imul, 1) := by decide +kernel
theorem dX9_write_52 : decode cX9_write 52 = .ok (.iload_n 2, 1) := by decide +kernel
theorem dX9_write_53 : decode cX9_write 53 = .ok (.iadd, 1) := by decide +kernel
theorem dX9_write_54 : decode cX9_write 54 = .ok (.lload_n 3, 1) := by decide +kernel
theorem dX9_write_55 : decode cX9_write 55 = .ok (.aload_n 0, 1) := by decide +kernel
theorem dX9_write_56 : decode cX9_write 56 = .ok (.getfield 73, 3) := by decide +kernel
theorem dX9_write_59 : decode cX9_write 59 = .ok (.iload_n 1, 1) := by decide +kernel
theorem dX9_write_60 : decode cX9_write 60 = .ok (.iaload, 1) := by decide +kernel
theorem dX9_write_61 : decode cX9_write 61 = .ok (.invokestatic 462, 3) := by decide +kernel
theorem dX9_write_64 : decode cX9_write 64 = .ok (.lastore, 1) := by decide +kernel
theorem dX9_write_65 : decode cX9_write 65 = .ok (.iconst 0, 1) := by decide +kernel
theorem dX9_write_66 : decode cX9_write 66 = .ok (.ireturn, 1) := by decide +kernel
theorem dX9_paste_0 : decode cX9_paste 0 = .ok (.iload_n 1, 1) := by decide +kernel
theorem dX9_paste_1 : decode cX9_paste 1 = .ok (.invokestatic 367, 3) := by decide +kernel
theorem dX9_paste_4 : decode cX9_paste 4 = .ok (.ifCond .eq 10, 3) := by decide +kernel
theorem dX9_paste_7 : decode cX9_paste 7 = .ok (.iload_n 3, 1) := by decide +kernel
theorem dX9_paste_8 : decode cX9_paste 8 = .ok (.invokestatic 367, 3) := by decide +kernel
theorem dX9_paste_11 : decode cX9_paste 11 = .ok (.ifCond .ne 6, 3) := by decide +kernel
theorem dX9_paste_14 : decode cX9_paste 14 = .ok (.bipush (-2), 2) := by decide +kernel
theorem dX9_paste_16 : decode cX9_paste 16 = .ok (.ireturn, 1) := by decide +kernel
theorem dX9_paste_17 : decode cX9_paste 17 = .ok (.aload_n 0, 1) := by decide +kernel
theorem dX9_paste_18 : decode cX9_paste 18 = .ok (.getfield 70, 3) := by decide +kernel
theorem dX9_paste_21 : decode cX9_paste 21 = .ok (.iload_n 1, 1) := by decide +kernel
theorem dX9_paste_22 : decode cX9_paste 22 = .ok (.iaload, 1) := by decide +kernel
theorem dX9_paste_23 : decode cX9_paste 23 = .ok (.iconst (-1), 1) := by decide +kernel
theorem dX9_paste_24 : decode cX9_paste 24 = .ok (.if_icmp .eq 13, 3) := by decide +kernel
theorem dX9_paste_27 : decode cX9_paste 27 = .ok (.aload_n 0, 1) := by decide +kernel
theorem dX9_paste_28 : decode cX9_paste 28 = .ok (.getfield 70, 3) := by decide +kernel
theorem dX9_paste_31 : decode cX9_paste 31 = .ok (.iload_n 3, 1) := by decide +kernel
theorem dX9_paste_32 : decode cX9_paste 32 = .ok (.iaload, 1) := by decide +kernel
theorem dX9_paste_33 : decode cX9_paste 33 = .ok (.iconst (-1), 1) := by decide +kernel
theorem dX9_paste_34 : decode cX9_paste 34 = .ok (.if_icmp .ne 6, 3) := by decide +kernel
theorem dX9_paste_37 : decode cX9_paste 37 = .ok (.bipush (-6), 2) := by decide +kernel
theorem dX9_paste_39 : decode cX9_paste 39 = .ok (.ireturn, 1) := by decide +kernel
theorem dX9_paste_40 : decode cX9_paste 40 = .ok (.aload_n 0, 1) := by decide +kernel
theorem dX9_paste_41 : decode cX9_paste 41 = .ok (.getfield 73, 3) := by decide +kernel
theorem dX9_paste_44 : decode cX9_paste 44 = .ok (.iload_n 1, 1) := by decide +kernel
theorem dX9_paste_45 : decode cX9_paste 45 = .ok (.iaload, 1) := by decide +kernel
theorem dX9_paste_46 : decode cX9_paste 46 = .ok (.aload_n 0, 1) := by decide +kernel
theorem dX9_paste_47 : decode cX9_paste 47 = .ok (.getfield 73, 3) := by decide +kernel
theorem dX9_paste_50 : decode cX9_paste 50 = .ok (.iload_n 3, 1) := by decide +kernel
theorem dX9_paste_51 : decode cX9_paste 51 = .ok (.iaload, 1) := by decide +kernel
theorem dX9_paste_52 : decode cX9_paste 52 = .ok (.if_icmp .eq 6, 3) := by decide +kernel
theorem dX9_paste_55 : decode cX9_paste 55 = .ok (.bipush (-8), 2) := by decide +kernel
theorem dX9_paste_57 : decode cX9_paste 57 = .ok (.ireturn, 1) := by decide +kernel
theorem dX9_paste_58 : decode cX9_paste 58 = .ok (.iload_n 2, 1) := by decide +kernel
theorem dX9_paste_59 : decode cX9_paste 59 = .ok (.ifCond .lt 48, 3) := by decide +kernel
theorem dX9_paste_62 : decode cX9_paste 62 = .ok (.iload 4, 2) := by decide +kernel
theorem dX9_paste_64 : decode cX9_paste 64 = .ok (.ifCond .lt 43, 3) := by decide +kernel
theorem dX9_paste_67 : decode cX9_paste 67 = .ok (.iload 5, 2) := by decide +kernel
theorem dX9_paste_69 : decode cX9_paste 69 = .ok (.ifCond .lt 38, 3) := by decide +kernel
theorem dX9_paste_72 : decode cX9_paste 72 = .ok (.iload_n 2, 1) := by decide +kernel
theorem dX9_paste_73 : decode cX9_paste 73 = .ok (.i2l, 1) := by decide +kernel
theorem dX9_paste_74 : decode cX9_paste 74 = .ok (.iload 5, 2) := by decide +kernel
theorem dX9_paste_76 : decode cX9_paste 76 = .ok (.i2l, 1) := by decide +kernel
theorem dX9_paste_77 : decode cX9_paste 77 = .ok (.ladd, 1) := by decide +kernel
theorem dX9_paste_78 : decode cX9_paste 78 = .ok (.aload_n 0, 1) := by decide +kernel
theorem dX9_paste_79 : decode cX9_paste 79 = .ok (.getfield 70, 3) := by decide +kernel
theorem dX9_paste_82 : decode cX9_paste 82 = .ok (.iload_n 1, 1) := by decide +kernel
theorem dX9_paste_83 : decode cX9_paste 83 = .ok (.iaload, 1) := by decide +kernel
theorem dX9_paste_84 : decode cX9_paste 84 = .ok (.i2l, 1) := by decide +kernel
theorem dX9_paste_85 : decode cX9_paste 85 = .ok (.lcmp, 1) := by decide +kernel
theorem dX9_paste_86 : decode cX9_paste 86 = .ok (.ifCond .gt 21, 3) := by decide +kernel
theorem dX9_paste_89 : decode cX9_paste 89 = .ok (.iload 4, 2) := by decide +kernel
theorem dX9_paste_91 : decode cX9_paste 91 = .ok (.i2l, 1) := by decide +kernel
theorem dX9_paste_92 : decode cX9_paste 92 = .ok (.iload 5, 2) := by decide +kernel
theorem dX9_paste_94 : decode cX9_paste 94 = .ok (.i2l, 1) := by decide +kernel
theorem dX9_paste_95 : decode cX9_paste 95 = .ok (.ladd, 1) := by decide +kernel
theorem dX9_paste_96 : decode cX9_paste 96 = .ok (.aload_n 0, 1) := by decide +kernel
theorem dX9_paste_97 : decode cX9_paste 97 = .ok (.getfield 70, 3) := by decide +kernel
theorem dX9_paste_100 : decode cX9_paste 100 = .ok (.iload_n 3, 1) := by decide +kernel
theorem dX9_paste_101 : decode cX9_paste 101 = .ok (.iaload, 1) := by decide +kernel
theorem dX9_paste_102 : decode cX9_paste 102 = .ok (.i2l, 1) := by decide +kernel
theorem dX9_paste_103 : decode cX9_paste 103 = .ok (.lcmp, 1) := by decide +kernel
theorem dX9_paste_104 : decode cX9_paste 104 = .ok (.ifCond .le 6, 3) := by decide +kernel
theorem dX9_paste_107 : decode cX9_paste 107 = .ok (.bipush (-7), 2) := by decide +kernel
theorem dX9_paste_109 : decode cX9_paste 109 = .ok (.ireturn, 1) := by decide +kernel
theorem dX9_paste_110 : decode cX9_paste 110 = .ok (.iconst 0, 1) := by decide +kernel
theorem dX9_paste_111 : decode cX9_paste 111 = .ok (.istore 6, 2) := by decide +kernel
theorem dX9_paste_113 : decode cX9_paste 113 = .ok (.iload 6, 2) := by decide +kernel
theorem dX9_paste_115 : decode cX9_paste 115 = .ok (.iload 5, 2) := by decide +kernel
theorem dX9_paste_117 : decode cX9_paste 117 = .ok (.if_icmp .ge 30, 3) := by decide +kernel
theorem dX9_paste_120 : decode cX9_paste 120 = .ok (.aload_n 0, 1) := by decide +kernel
theorem dX9_paste_121 : decode cX9_paste 121 = .ok (.getfield 80, 3) := by decide +kernel
theorem dX9_paste_124 : decode cX9_paste 124 = .ok (.iload 6, 2) := by decide +kernel
theorem dX9_paste_126 : decode cX9_paste 126 = .ok (.aload_n 0, 1) := by decide +kernel
theorem dX9_paste_127 : decode cX9_paste 127 = .ok (.getfield 76, 3) := by decide +kernel
theorem dX9_paste_130 : decode cX9_paste 130 = .ok (.bipush 60, 2) := by decide +kernel
theorem dX9_paste_132 : decode cX9_paste 132 = .ok (.iload_n 1, 1) := by decide +kernel
theorem dX9_paste_133 : decode cX9_paste 133 = .ok (.imul, 1) := by decide +kernel
theorem dX9_paste_134 : decode cX9_paste 134 = .ok (.iload_n 2, 1) := by decide +kernel
theorem dX9_paste_135 : decode cX9_paste 135 = .ok (.iadd, 1) := by decide +kernel
theorem dX9_paste_136 : decode cX9_paste 136 = .ok (.iload 6, 2) := by decide +kernel
theorem dX9_paste_138 : decode cX9_paste 138 = .ok (.iadd, 1) := by decide +kernel
theorem dX9_paste_139 : decode cX9_paste 139 = .ok (.laload, 1) := by decide +kernel
theorem dX9_paste_140 : decode cX9_paste 140 = .ok (.lastore, 1) := by decide +kernel
theorem dX9_paste_141 : decode cX9_paste 141 = .ok (.iinc 6 1, 3) := by decide +kernel
theorem dX9_paste_144 : decode cX9_paste 144 = .ok (.goto (-31), 3) := by decide +kernel
theorem dX9_paste_147 : decode cX9_paste 147 = .ok (.iconst 0, 1) := by decide +kernel
theorem dX9_paste_148 : decode cX9_paste 148 = .ok (.istore 6, 2) := by decide +kernel
theorem dX9_paste_150 : decode cX9_paste 150 = .ok (.iload 6, 2) := by decide +kernel
theorem dX9_paste_152 : decode cX9_paste 152 = .ok (.iload 5, 2) := by decide +kernel
theorem dX9_paste_154 : decode cX9_paste 154 = .ok (.if_icmp .ge 31, 3) := by decide +kernel
theorem dX9_paste_157 : decode cX9_paste 157 = .ok (.aload_n 0, 1) := by decide +kernel
theorem dX9_paste_158 : decode cX9_paste 158 = .ok (.getfield 76, 3) := by decide +kernel
theorem dX9_paste_161 : decode cX9_paste 161 = .ok (.bipush 60, 2) := by decide +kernel
theorem dX9_paste_163 : decode cX9_paste 163 = .ok (.iload_n 3, 1) := by decide +kernel
theorem dX9_paste_164 : decode cX9_paste 164 = .ok (.imul, 1) := by decide +kernel
theorem dX9_paste_165 : decode cX9_paste 165 = .ok (.iload 4, 2) := by decide +kernel
theorem dX9_paste_167 : decode cX9_paste 167 = .ok (.iadd, 1) := by decide +kernel
theorem dX9_paste_168 : decode cX9_paste 168 = .ok (.iload 6, 2) := by decide +kernel
theorem dX9_paste_170 : decode cX9_paste 170 = .ok (.iadd, 1) := by decide +kernel
theorem dX9_paste_171 : decode cX9_paste 171 = .ok (.aload_n 0, 1) := by decide +kernel
theorem dX9_paste_172 : decode cX9_paste 172 = .ok (.getfield 80, 3) := by decide +kernel
theorem dX9_paste_175 : decode cX9_paste 175 = .ok (.iload 6, 2) := by decide +kernel
theorem dX9_paste_177 : decode cX9_paste 177 = .ok (.laload, 1) := by decide +kernel
theorem dX9_paste_178 : decode cX9_paste 178 = .ok (.lastore, 1) := by decide +kernel
theorem dX9_paste_179 : decode cX9_paste 179 = .ok (.iinc 6 1, 3) := by decide +kernel
theorem dX9_paste_182 : decode cX9_paste 182 = .ok (.goto (-32), 3) := by decide +kernel
theorem dX9_paste_185 : decode cX9_paste 185 = .ok (.iconst 0, 1) := by decide +kernel
theorem dX9_paste_186 : decode cX9_paste 186 = .ok (.ireturn, 1) := by decide +kernel
