theorem dX8_init_0 : decode cX8_init 0 = .ok (.aload_n 0, 1) := by decide +kernel
theorem dX8_init_1 : decode cX8_init 1 = .ok (.invokespecial 1, 3) := by decide +kernel
theorem dX8_init_4 : decode cX8_init 4 = .ok (.aload_n 0, 1) := by decide +kernel
theorem dX8_init_5 : decode cX8_init 5 = .ok (.iconst 3, 1) := by decide +kernel
theorem dX8_init_6 : decode cX8_init 6 = .ok (.putfield 7, 3) := by decide +kernel
theorem dX8_init_9 : decode cX8_init 9 = .ok (.aload_n 0, 1) := by decide +kernel
theorem dX8_init_10 : decode cX8_init 10 = .ok (.bipush 8, 2) := by decide +kernel
theorem dX8_init_12 : decode cX8_init 12 = .ok (.putfield 13, 3) := by decide +kernel
theorem dX8_init_15 : decode cX8_init 15 = .ok (.aload_n 0, 1) := by decide +kernel
theorem dX8_init_16 : decode cX8_init 16 = .ok (.bipush 8, 2) := by decide +kernel
theorem dX8_init_18 : decode cX8_init 18 = .ok (.newarray .long, 2) := by decide +kernel
theorem dX8_init_20 : decode cX8_init 20 = .ok (.putfield 16, 3) := by decide +kernel
theorem dX8_init_23 : decode cX8_init 23 = .ok (.aload_n 0, 1) := by decide +kernel
theorem dX8_init_24 : decode cX8_init 24 = .ok (.bipush 8, 2) := by decide +kernel
theorem dX8_init_26 : decode cX8_init 26 = .ok (.newarray .boolean, 2) := by decide +kernel
theorem dX8_init_28 : decode cX8_init 28 = .ok (.putfield 20, 3) := by decide +kernel
theorem dX8_init_31 : decode cX8_init 31 = .ok (.aload_n 0, 1) := by decide +kernel
theorem dX8_init_32 : decode cX8_init 32 = .ok (.bipush 10, 2) := by decide +kernel
theorem dX8_init_34 : decode cX8_init 34 = .ok (.newarray .int, 2) := by decide +kernel
theorem dX8_init_36 : decode cX8_init 36 = .ok (.putfield 24, 3) := by decide +kernel
theorem dX8_init_39 : decode cX8_init 39 = .ok (.aload_n 0, 1) := by decide +kernel
theorem dX8_init_40 : decode cX8_init 40 = .ok (.bipush 10, 2) := by decide +kernel
theorem dX8_init_42 : decode cX8_init 42 = .ok (.newarray .long, 2) := by decide +kernel
theorem dX8_init_44 : decode cX8_init 44 = .ok (.putfield 28, 3) := by decide +kernel
theorem dX8_init_47 : decode cX8_init 47 = .ok (.aload_n 0, 1) := by decide +kernel
theorem dX8_init_48 : decode cX8_init 48 = .ok (.bipush 10, 2) := by decide +kernel
theorem dX8_init_50 : decode cX8_init 50 = .ok (.newarray .boolean, 2) := by decide +kernel
theorem dX8_init_52 : decode cX8_init 52 = .ok (.putfield 31, 3) := by decide +kernel
theorem dX8_init_55 : decode cX8_init 55 = .ok (.aload_n 0, 1) := by decide +kernel
theorem dX8_init_56 : decode cX8_init 56 = .ok (.bipush 32, 2) := by decide +kernel
theorem dX8_init_58 : decode cX8_init 58 = .ok (.newarray .int, 2) := by decide +kernel
theorem dX8_init_60 : decode cX8_init 60 = .ok (.putfield 34, 3) := by decide +kernel
theorem dX8_init_63 : decode cX8_init 63 = .ok (.aload_n 0, 1) := by decide +kernel
theorem dX8_init_64 : decode cX8_init 64 = .ok (.bipush 80, 2) := by decide +kernel
theorem dX8_init_66 : decode cX8_init 66 = .ok (.newarray .int, 2) := by decide +kernel
theorem dX8_init_68 : decode cX8_init 68 = .ok (.putfield 37, 3) := by decide +kernel
theorem dX8_init_71 : decode cX8_init 71 = .ok (.aload_n 0, 1) := by decide +kernel
theorem dX8_init_72 : decode cX8_init 72 = .ok (.bipush 40, 2) := by decide +kernel
theorem dX8_init_74 : decode cX8_init 74 = .ok (.newarray .int, 2) := by decide +kernel
theorem dX8_init_76 : decode cX8_init 76 = .ok (.putfield 40, 3) := by decide +kernel
theorem dX8_init_79 : decode cX8_init 79 = .ok (.aload_n 0, 1) := by decide +kernel
theorem dX8_init_80 : decode cX8_init 80 = .ok (.iconst 4, 1) := by decide +kernel
theorem dX8_init_81 : decode cX8_init 81 = .ok (.newarray .int, 2) := by decide +kernel
theorem dX8_init_83 : decode cX8_init 83 = .ok (.putfield 43, 3) := by decide +kernel
theorem dX8_init_86 : decode cX8_init 86 = .ok (.aload_n 0, 1) := by decide +kernel
theorem dX8_init_87 : decode cX8_init 87 = .ok (.bipush 64, 2) := by decide +kernel
theorem dX8_init_89 : decode cX8_init 89 = .ok (.newarray .int, 2) := by decide +kernel
theorem dX8_init_91 : decode cX8_init 91 = .ok (.putfield 46, 3) := by decide +kernel
theorem dX8_init_94 : decode cX8_init 94 = .ok (.aload_n 0, 1) := by decide +kernel
theorem dX8_init_95 : decode cX8_init 95 = .ok (.iconst (-1), 1) := by decide +kernel
theorem dX8_init_96 : decode cX8_init 96 = .ok (.putfield 49, 3) := by decide +kernel
theorem dX8_init_99 : decode cX8_init 99 = .ok (.aload_n 0, 1) := by decide +kernel
theorem dX8_init_100 : decode cX8_init 100 = .ok (.bipush 8, 2) := by decide +kernel
theorem dX8_init_102 : decode cX8_init 102 = .ok (.newarray .long, 2) := by decide +kernel
theorem dX8_init_104 : decode cX8_init 104 = .ok (.putfield 52, 3) := by decide +kernel
theorem dX8_init_107 : decode cX8_init 107 = .ok (.aload_n 0, 1) := by decide +kernel
theorem dX8_init_108 : decode cX8_init 108 = .ok (.bipush 8, 2) := by decide +kernel
theorem dX8_init_110 : decode cX8_init 110 = .ok (.newarray .boolean, 2) := by decide +kernel
theorem dX8_init_112 : decode cX8_init 112 = .ok (.putfield 55, 3) := by decide +kernel
theorem dX8_init_115 : decode cX8_init 115 = .ok (.aload_n 0, 1) := by decide +kernel
theorem dX8_init_116 : decode cX8_init 116 = .ok (.bipush 32, 2) := by decide +kernel
theorem dX8_init_118 : decode cX8_init 118 = .ok (.newarray .int, 2) := by decide +kernel
theorem dX8_init_120 : decode cX8_init 120 = .ok (.putfield 58, 3) := by decide +kernel
theorem dX8_init_123 : decode cX8_init 123 = .ok (.aload_n 0, 1) := by decide +kernel
theorem dX8_init_124 : decode cX8_init 124 = .ok (.iconst 5, 1) := by decide +kernel
theorem dX8_init_125 : decode cX8_init 125 = .ok (.newarray .int, 2) := by decide +kernel
theorem dX8_init_127 : decode cX8_init 127 = .ok (.putfield 61, 3) := by decide +kernel
theorem dX8_init_130 : decode cX8_init 130 = .ok (.aload_n 0, 1) := by decide +kernel
theorem dX8_init_131 : decode cX8_init 131 = .ok (.bipush 12, 2) := by decide +kernel
theorem dX8_init_133 : decode cX8_init 133 = .ok (.newarray .int, 2) := by decide +kernel
theorem dX8_init_135 : decode cX8_init 135 = .ok (.putfield 64, 3) := by decide +kernel
theorem dX8_init_138 : decode cX8_init 138 = .ok (.aload_n 0, 1) := by decide +kernel
theorem dX8_init_139 : decode cX8_init 139 = .ok (.bipush 12, 2) := by decide +kernel
theorem dX8_init_141 : decode cX8_init 141 = .ok (.newarray .int, 2) := by decide +kernel
theorem dX8_init_143 : decode cX8_init 143 = .ok (.putfield 67, 3) := by decide +kernel
theorem dX8_init_146 : decode cX8_init 146 = .ok (.aload_n 0, 1) := by decide +kernel
theorem dX8_init_147 : decode cX8_init 147 = .ok (.sipush 900, 3) := by decide +kernel
theorem dX8_init_150 : decode cX8_init 150 = .ok (.newarray .long, 2) := by decide +kernel
theorem dX8_init_152 : decode cX8_init 152 = .ok (.putfield 70, 3) := by decide +kernel
theorem dX8_init_155 : decode cX8_init 155 = .ok (.aload_n 0, 1) := by decide +kernel
theorem dX8_init_156 : decode cX8_init 156 = .ok (.sipush 900, 3) := by decide +kernel
theorem dX8_init_159 : decode cX8_init 159 = .ok (.newarray .long, 2) := by decide +kernel
theorem dX8_init_161 : decode cX8_init 161 = .ok (.putfield 73, 3) := by decide +kernel
theorem dX8_init_164 : decode cX8_init 164 = .ok (.aload_n 0, 1) := by decide +kernel
theorem dX8_init_165 : decode cX8_init 165 = .ok (.sipush 900, 3) := by decide +kernel
theorem dX8_init_168 : decode cX8_init 168 = .ok (.newarray .int, 2) := by decide +kernel
theorem dX8_init_170 : decode cX8_init 170 = .ok (.putfield 76, 3) := by decide +kernel
theorem dX8_init_173 : decode cX8_init 173 = .ok (.aload_n 0, 1) := by decide +kernel
theorem dX8_init_174 : decode cX8_init 174 = .ok (.sipush 900, 3) := by decide +kernel
theorem dX8_init_177 : decode cX8_init 177 = .ok (.newarray .int, 2) := by decide +kernel
theorem dX8_init_179 : decode cX8_init 179 = .ok (.putfield 79, 3) := by decide +kernel
theorem dX8_init_182 : decode cX8_init 182 = .ok (.iconst 0, 1) := by decide +kernel
theorem dX8_init_183 : decode cX8_init 183 = .ok (.istore_n 1, 1) := by decide +kernel
theorem dX8_init_184 : decode cX8_init 184 = .ok (.iload_n 1, 1) := by decide +kernel
theorem dX8_init_185 : decode cX8_init 185 = .ok (.iconst 4, 1) := by decide +kernel
theorem dX8_init_186 : decode cX8_init 186 = .ok (.if_icmp .ge 16, 3) := by decide +kernel
theorem dX8_init_189 : decode cX8_init 189 = .ok (.aload_n 0, 1) := by decide +kernel
theorem dX8_init_190 : decode cX8_init 190 = .ok (.getfield 43, 3) := by decide +kernel
theorem dX8_init_193 : decode cX8_init 193 = .ok (.iload_n 1, 1) := by decide +kernel
theorem dX8_init_194 : decode cX8_init 194 = .ok (.iconst (-1), 1) := by decide +kernel
theorem dX8_init_195 : decode cX8_init 195 = .ok (.iastore, 1) := by decide +kernel
theorem dX8_init_196 : decode cX8_init 196 = .ok (.iinc 1 1, 3) := by decide +kernel
theorem dX8_init_199 : decode cX8_init 199 = .ok (.goto (-15), 3) := by decide +kernel
theorem dX8_init_202 : decode cX8_init 202 = .ok (.aload_n 0, 1) := by decide +kernel
theorem dX8_init_203 : decode cX8_init 203 = .ok (.invokevirtual 82, 3) := by decide +kernel
theorem dX8_init_206 : decode cX8_init 206 = .ok (.return_, 1) := by decide +kernel
theorem dX8_isIn_0 : decode cX8_isIn 0 = .ok (.lload_n 0, 1) := by decide +kernel
theorem dX8_isIn_1 : decode cX8_isIn 1 = .ok (.lload_n 2, 1) := by decide +kernel
theorem dX8_isIn_2 : decode cX8_isIn 2 = .ok (.lcmp, 1) := by decide +kernel
theorem dX8_isIn_3 : decode cX8_isIn 3 = .ok (.ifCond .lt 14, 3) := by decide +kernel
theorem dX8_isIn_6 : decode cX8_isIn 6 = .ok (.lload_n 0, 1) := by decide +kernel
theorem dX8_isIn_7 : decode cX8_isIn 7 = .ok (.lload 4, 2) := by decide +kernel
theorem dX8_isIn_9 : decode cX8_isIn 9 = .ok (.lcmp, 1) := by decide +kernel
theorem dX8_isIn_10 : decode cX8_isIn 10 = .ok (.ifCond .gt 7, 3) := by decide +kernel
theorem dX8_isIn_13 : decode cX8_isIn 13 = .ok (.iconst 1, 1) := by decide +kernel
theorem dX8_isIn_14 : decode cX8_isIn 14 = .ok (.goto 4, 3) := by decide +kernel
theorem dX8_isIn_17 : decode cX8_isIn 17 = .ok (.iconst 0, 1) := by decide +kernel
theorem dX8_isIn_18 : decode cX8_isIn 18 = .ok (.ireturn, 1) := by decide +kernel
theorem dX8_isSlot_0 : decode cX8_isSlot 0 = .ok (.iload_n 0, 1) := by decide +kernel
theorem dX8_isSlot_1 : decode cX8_isSlot 1 = .ok (.i2l, 1) := by decide +kernel
theorem dX8_isSlot_2 : decode cX8_isSlot 2 = .ok (.lconst 0, 1) := by decide +kernel
theorem dX8_isSlot_3 : decode cX8_isSlot 3 = .ok (.ldc2_w 85, 3) := by decide +kernel
theorem dX8_isSlot_6 : decode cX8_isSlot 6 = .ok (.invokestatic 87, 3) := by decide +kernel
theorem dX8_isSlot_9 : decode cX8_isSlot 9 = .ok (.ireturn, 1) := by decide +kernel
theorem dX8_isPoint_0 : decode cX8_isPoint 0 = .ok (.iload_n 1, 1) := by decide +kernel
theorem dX8_isPoint_1 : decode cX8_isPoint 1 = .ok (.i2l, 1) := by decide +kernel
theorem dX8_isPoint_2 : decode cX8_isPoint 2 = .ok (.lconst 0, 1) := by decide +kernel
theorem dX8_isPoint_3 : decode cX8_isPoint 3 = .ok (.aload_n 0, 1) := by decide +kernel
theorem dX8_isPoint_4 : decode cX8_isPoint 4 = .ok (.getfield 13, 3) := by decide +kernel
theorem dX8_isPoint_7 : decode cX8_isPoint 7 = .ok (.iconst 1, 1) := by decide +kernel
theorem dX8_isPoint_8 : decode cX8_isPoint 8 = .ok (.isub, 1) := by decide +kernel
theorem dX8_isPoint_9 : decode cX8_isPoint 9 = .ok (.i2l, 1) := by decide +kernel
theorem dX8_isPoint_10 : decode cX8_isPoint 10 = .ok (.invokestatic 87, 3) := by decide +kernel
theorem dX8_isPoint_13 : decode cX8_isPoint 13 = .ok (.ireturn, 1) := by decide +kernel
theorem dX8_isVariable_0 : decode cX8_isVariable 0 = .ok (.iload_n 1, 1) := by decide +kernel
theorem dX8_isVariable_1 : decode cX8_isVariable 1 = .ok (.i2l, 1) := by decide +kernel
theorem dX8_isVariable_2 : decode cX8_isVariable 2 = .ok (.lconst 0, 1) := by decide +kernel
theorem dX8_isVariable_3 : decode cX8_isVariable 3 = .ok (.aload_n 0, 1) := by decide +kernel
theorem dX8_isVariable_4 : decode cX8_isVariable 4 = .ok (.getfield 7, 3) := by decide +kernel
theorem dX8_isVariable_7 : decode cX8_isVariable 7 = .ok (.iconst 1, 1) := by decide +kernel
theorem dX8_isVariable_8 : decode cX8_isVariable 8 = .ok (.isub, 1) := by decide +kernel
theorem dX8_isVariable_9 : decode cX8_isVariable 9 = .ok (.i2l, 1) := by decide +kernel
theorem dX8_isVariable_10 : decode cX8_isVariable 10 = .ok (.invokestatic 87, 3) := by decide +kernel
theorem dX8_isVariable_13 : decode cX8_isVariable 13 = .ok (.ireturn, 1) := by decide +kernel
theorem dX8_at_0 : decode cX8_at 0 = .ok (.lload_n 0, 1) := by decide +kernel
theorem dX8_at_1 : decode cX8_at 1 = .ok (.iload_n 2, 1) := by decide +kernel
theorem dX8_at_2 : decode cX8_at 2 = .ok (.lshr, 1) := by decide +kernel
theorem dX8_at_3 : decode cX8_at 3 = .ok (.lconst 1, 1) := by decide +kernel
theorem dX8_at_4 : decode cX8_at 4 = .ok (.land, 1) := by decide +kernel
theorem dX8_at_5 : decode cX8_at 5 = .ok (.lconst 1, 1) := by decide +kernel
theorem dX8_at_6 : decode cX8_at 6 = .ok (.lcmp, 1) := by decide +kernel
theorem dX8_at_7 : decode cX8_at 7 = .ok (.ifCond .ne 7, 3) := by decide +kernel
theorem dX8_at_10 : decode cX8_at 10 = .ok (.iconst 1, 1) := by decide +kernel
theorem dX8_at_11 : decode cX8_at 11 = .ok (.goto 4, 3) := by decide +kernel
theorem dX8_at_14 : decode cX8_at 14 = .ok (.iconst 0, 1) := by decide +kernel
theorem dX8_at_15 : decode cX8_at 15 = .ok (.ireturn, 1) := by decide +kernel
theorem dX8_ones_0 : decode cX8_ones 0 = .ok (.iconst 0, 1) := by decide +kernel
theorem dX8_ones_1 : decode cX8_ones 1 = .ok (.istore_n 3, 1) := by decide +kernel
theorem dX8_ones_2 : decode cX8_ones 2 = .ok (.iconst 0, 1) := by decide +kernel
theorem dX8_ones_3 : decode cX8_ones 3 = .ok (.istore 4, 2) := by decide +kernel
theorem dX8_ones_5 : decode cX8_ones 5 = .ok (.iload 4, 2) := by decide +kernel
theorem dX8_ones_7 : decode cX8_ones 7 = .ok (.aload_n 0, 1) := by decide +kernel
theorem dX8_ones_8 : decode cX8_ones 8 = .ok (.getfield 13, 3) := by decide +kernel
theorem dX8_ones_11 : decode cX8_ones 11 = .ok (.if_icmp .ge 26, 3) := by decide +kernel
theorem dX8_ones_14 : decode cX8_ones 14 = .ok (.iload_n 3, 1) := by decide +kernel
theorem dX8_ones_15 : decode cX8_ones 15 = .ok (.lload_n 1, 1) := by decide +kernel
theorem dX8_ones_16 : decode cX8_ones 16 = .ok (.iload 4, 2) := by decide +kernel
theorem dX8_ones_18 : decode cX8_ones 18 = .ok (.invokestatic 91, 3) := by decide +kernel
theorem dX8_ones_21 : decode cX8_ones 21 = .ok (.ifCond .eq 7, 3) := by decide +kernel
theorem dX8_ones_24 : decode cX8_ones 24 = .ok (.iconst 1, 1) := by decide +kernel
theorem dX8_ones_25 : decode cX8_ones 25 = .ok (.goto 4, 3) := by decide +kernel
theorem dX8_ones_28 : decode cX8_ones 28 = .ok (.iconst 0, 1) := by decide +kernel
theorem dX8_ones_29 : decode cX8_ones 29 = .ok (.iadd, 1) := by decide +kernel
theorem dX8_ones_30 : decode cX8_ones 30 = .ok (.istore_n 3, 1) := by decide +kernel
theorem dX8_ones_31 : decode cX8_ones 31 = .ok (.iinc 4 1, 3) := by decide +kernel
theorem dX8_ones_34 : decode cX8_ones 34 = .ok (.goto (-29), 3) := by decide +kernel
theorem dX8_ones_37 : decode cX8_ones 37 = .ok (.iload_n 3, 1) := by decide +kernel
theorem dX8_ones_38 : decode cX8_ones 38 = .ok (.ireturn, 1) := by decide +kernel
theorem dX8_bits_0 : decode cX8_bits 0 = .ok (.iconst 0, 1) := by decide +kernel
theorem dX8_bits_1 : decode cX8_bits 1 = .ok (.istore_n 1, 1) := by decide +kernel
theorem dX8_bits_2 : decode cX8_bits 2 = .ok (.iconst 0, 1) := by decide +kernel
theorem dX8_bits_3 : decode cX8_bits 3 = .ok (.istore_n 2, 1) := by decide +kernel
theorem dX8_bits_4 : decode cX8_bits 4 = .ok (.iload_n 2, 1) := by decide +kernel
theorem dX8_bits_5 : decode cX8_bits 5 = .ok (.iconst 5, 1) := by decide +kernel
theorem dX8_bits_6 : decode cX8_bits 6 = .ok (.if_icmp .ge 17, 3) := by decide +kernel
theorem dX8_bits_9 : decode cX8_bits 9 = .ok (.iload_n 1, 1) := by decide +kernel
theorem dX8_bits_10 : decode cX8_bits 10 = .ok (.iload_n 0, 1) := by decide +kernel
theorem dX8_bits_11 : decode cX8_bits 11 = .ok (.iload_n 2, 1) := by decide +kernel
theorem dX8_bits_12 : decode cX8_bits 12 = .ok (.ishr, 1) := by decide +kernel
theorem dX8_bits_13 : decode cX8_bits 13 = .ok (.iconst 1, 1) := by decide +kernel
theorem dX8_bits_14 : decode cX8_bits 14 = .ok (.iand, 1) := by decide +kernel
theorem dX8_bits_15 : decode cX8_bits 15 = .ok (.iadd, 1) := by decide +kernel
theorem dX8_bits_16 : decode cX8_bits 16 = .ok (.istore_n 1, 1) := by decide +kernel
theorem dX8_bits_17 : decode cX8_bits 17 = .ok (.iinc 2 1, 3) := by decide +kernel
theorem dX8_bits_20 : decode cX8_bits 20 = .ok (.goto (-16), 3) := by decide +kernel
theorem dX8_bits_23 : decode cX8_bits 23 = .ok (.iload_n 1, 1) := by decide +kernel
theorem dX8_bits_24 : decode cX8_bits 24 = .ok (.ireturn, 1) := by decide +kernel
theorem dX8_record_0 : decode cX8_record 0 = .ok (.aload_n 0, 1) := by decide +kernel
theorem dX8_record_1 : decode cX8_record 1 = .ok (.getfield 95, 3) := by decide +kernel
theorem dX8_record_4 : decode cX8_record 4 = .ok (.bipush 10, 2) := by decide +kernel
theorem dX8_record_6 : decode cX8_record 6 = .ok (.if_icmp .ne 69, 3) := by decide +kernel
theorem dX8_record_9 : decode cX8_record 9 = .ok (.iconst 1, 1) := by decide +kernel
theorem dX8_record_10 : decode cX8_record 10 = .ok (.istore_n 2, 1) := by decide +kernel
theorem dX8_record_11 : decode cX8_record 11 = .ok (.iload_n 2, 1) := by decide +kernel
theorem dX8_record_12 : decode cX8_record 12 = .ok (.bipush 10, 2) := by decide +kernel
theorem dX8_record_14 : decode cX8_record 14 = .ok (.if_icmp .ge 51, 3) := by decide +kernel
theorem dX8_record_17 : decode cX8_record 17 = .ok (.aload_n 0, 1) := by decide +kernel
theorem dX8_record_18 : decode cX8_record 18 = .ok (.getfield 24, 3) := by decide +kernel
theorem dX8_record_21 : decode cX8_record 21 = .ok (.iload_n 2, 1) := by decide +kernel
theorem dX8_record_22 : decode cX8_record 22 = .ok (.iconst 1, 1) := by decide +kernel
theorem dX8_record_23 : decode cX8_record 23 = .ok (.isub, 1) := by decide +kernel
theorem dX8_record_24 : decode cX8_record 24 = .ok (.aload_n 0, 1) := by decide +kernel
theorem dX8_record_25 : decode cX8_record 25 = .ok (.getfield 24, 3) := by decide +kernel
theorem dX8_record_28 : decode cX8_record 28 = .ok (.iload_n 2, 1) := by decide +kernel
theorem dX8_record_29 : decode cX8_record 29 = .ok (.iaload, 1) := by decide +kernel
theorem dX8_record_30 : decode cX8_record 30 = .ok (.iastore, 1) := by decide +kernel
theorem dX8_record_31 : decode cX8_record 31 = .ok (.aload_n 0, 1) := by decide +kernel
theorem dX8_record_32 : decode cX8_record 32 = .ok (.getfield 28, 3) := by decide +kernel
theorem dX8_record_35 : decode cX8_record 35 = .ok (.iload_n 2, 1) := by decide +kernel
theorem dX8_record_36 : decode cX8_record 36 = .ok (.iconst 1, 1) := by decide +kernel
theorem dX8_record_37 : decode cX8_record 37 = .ok (.isub, 1) := by decide +kernel
theorem dX8_record_38 : decode cX8_record 38 = .ok (.aload_n 0, 1) := by decide +kernel
theorem dX8_record_39 : decode cX8_record 39 = .ok (.getfield 28, 3) := by decide +kernel
theorem dX8_record_42 : decode cX8_record 42 = .ok (.iload_n 2, 1) := by decide +kernel
theorem dX8_record_43 : decode cX8_record 43 = .ok (.laload, 1) := by decide +kernel
theorem dX8_record_44 : decode cX8_record 44 = .ok (.lastore, 1) := by decide +kernel
theorem dX8_record_45 : decode cX8_record 45 = .ok (.aload_n 0, 1) := by decide +kernel
theorem dX8_record_46 : decode cX8_record 46 = .ok (.getfield 31, 3) := by decide +kernel
theorem dX8_record_49 : decode cX8_record 49 = .ok (.iload_n 2, 1) := by decide +kernel
theorem dX8_record_50 : decode cX8_record 50 = .ok (.iconst 1, 1) := by decide +kernel
theorem dX8_record_51 : decode cX8_record 51 = .ok (.isub, 1) := by decide +kernel
theorem dX8_record_52 : decode cX8_record 52 = .ok (.aload_n 0, 1) := by decide +kernel
theorem dX8_record_53 : decode cX8_record 53 = .ok (.getfield 31, 3) := by decide +kernel
theorem dX8_record_56 : decode cX8_record 56 = .ok (.iload_n 2, 1) := by decide +kernel
theorem dX8_record_57 : decode cX8_record 57 = .ok (.baload, 1) := by decide +kernel
theorem dX8_record_58 : decode cX8_record 58 = .ok (.bastore, 1) := by decide +kernel
theorem dX8_record_59 : decode cX8_record 59 = .ok (.iinc 2 1, 3) := by decide +kernel
theorem dX8_record_62 : decode cX8_record 62 = .ok (.goto (-51), 3) := by decide +kernel
theorem dX8_record_65 : decode cX8_record 65 = .ok (.aload_n 0, 1) := by decide +kernel
theorem dX8_record_66 : decode cX8_record 66 = .ok (.dup, 1) := by decide +kernel
theorem dX8_record_67 : decode cX8_record 67 = .ok (.getfield 95, 3) := by decide +kernel
theorem dX8_record_70 : decode cX8_record 70 = .ok (.iconst 1, 1) := by decide +kernel
theorem dX8_record_71 : decode cX8_record 71 = .ok (.isub, 1) := by decide +kernel
theorem dX8_record_72 : decode cX8_record 72 = .ok (.putfield 95, 3) := by decide +kernel
theorem dX8_record_75 : decode cX8_record 75 = .ok (.aload_n 0, 1) := by decide +kernel
theorem dX8_record_76 : decode cX8_record 76 = .ok (.getfield 24, 3) := by decide +kernel
theorem dX8_record_79 : decode cX8_record 79 = .ok (.aload_n 0, 1) := by decide +kernel
theorem dX8_record_80 : decode cX8_record 80 = .ok (.getfield 95, 3) := by decide +kernel
theorem dX8_record_83 : decode cX8_record 83 = .ok (.iload_n 1, 1) := by decide +kernel
theorem dX8_record_84 : decode cX8_record 84 = .ok (.iastore, 1) := by decide +kernel
theorem dX8_record_85 : decode cX8_record 85 = .ok (.aload_n 0, 1) := by decide +kernel
theorem dX8_record_86 : decode cX8_record 86 = .ok (.getfield 28, 3) := by decide +kernel
theorem dX8_record_89 : decode cX8_record 89 = .ok (.aload_n 0, 1) := by decide +kernel
theorem dX8_record_90 : decode cX8_record 90 = .ok (.getfield 95, 3) := by decide +kernel
theorem dX8_record_93 : decode cX8_record 93 = .ok (.aload_n 0, 1) := by decide +kernel
theorem dX8_record_94 : decode cX8_record 94 = .ok (.getfield 16, 3) := by decide +kernel
theorem dX8_record_97 : decode cX8_record 97 = .ok (.iload_n 1, 1) := by decide +kernel
theorem dX8_record_98 : decode cX8_record 98 = .ok (.laload, 1) := by decide +kernel
theorem dX8_record_99 : decode cX8_record 99 = .ok (.lastore, 1) := by decide +kernel
theorem dX8_record_100 : decode cX8_record 100 = .ok (.aload_n 0, 1) := by decide +kernel
theorem dX8_record_101 : decode cX8_record 101 = .ok (.getfield 31, 3) := by decide +kernel
theorem dX8_record_104 : decode cX8_record 104 = .ok (.aload_n 0, 1) := by decide +kernel
theorem dX8_record_105 : decode cX8_record 105 = .ok (.getfield 95, 3) := by decide +kernel
theorem dX8_record_108 : decode cX8_record 108 = .ok (.aload_n 0, 1) := by decide +kernel
theorem dX8_record_109 : decode cX8_record 109 = .ok (.getfield 20, 3) := by decide +kernel
theorem dX8_record_112 : decode cX8_record 112 = .ok (.iload_n 1, 1) := by decide +kernel
theorem dX8_record_113 : decode cX8_record 113 = .ok (.baload, 1) := by decide +kernel
theorem dX8_record_114 : decode cX8_record 114 = .ok (.bastore, 1) := by decide +kernel
theorem dX8_record_115 : decode cX8_record 115 = .ok (.aload_n 0, 1) := by decide +kernel
theorem dX8_record_116 : decode cX8_record 116 = .ok (.dup, 1) := by decide +kernel
theorem dX8_record_117 : decode cX8_record 117 = .ok (.getfield 95, 3) := by decide +kernel
theorem dX8_record_120 : decode cX8_record 120 = .ok (.iconst 1, 1) := by decide +kernel
theorem dX8_record_121 : decode cX8_record 121 = .ok (.iadd, 1) := by decide +kernel
theorem dX8_record_122 : decode cX8_record 122 = .ok (.putfield 95, 3) := by decide +kernel
theorem dX8_record_125 : decode cX8_record 125 = .ok (.return_, 1) := by decide +kernel
theorem dX8_store_0 : decode cX8_store 0 = .ok (.aload_n 0, 1) := by decide +kernel
theorem dX8_store_1 : decode cX8_store 1 = .ok (.iload_n 1, 1) := by decide +kernel
theorem dX8_store_2 : decode cX8_store 2 = .ok (.invokevirtual 98, 3) := by decide +kernel
theorem dX8_store_5 : decode cX8_store 5 = .ok (.aload_n 0, 1) := by decide +kernel
theorem dX8_store_6 : decode cX8_store 6 = .ok (.getfield 16, 3) := by decide +kernel
theorem dX8_store_9 : decode cX8_store 9 = .ok (.iload_n 1, 1) := by decide +kernel
theorem dX8_store_10 : decode cX8_store 10 = .ok (.lload_n 2, 1) := by decide +kernel
theorem dX8_store_11 : decode cX8_store 11 = .ok (.lastore, 1) := by decide +kernel
theorem dX8_store_12 : decode cX8_store 12 = .ok (.aload_n 0, 1) := by decide +kernel
theorem dX8_store_13 : decode cX8_store 13 = .ok (.getfield 20, 3) := by decide +kernel
theorem dX8_store_16 : decode cX8_store 16 = .ok (.iload_n 1, 1) := by decide +kernel
theorem dX8_store_17 : decode cX8_store 17 = .ok (.iconst 1, 1) := by decide +kernel
theorem dX8_store_18 : decode cX8_store 18 = .ok (.bastore, 1) := by decide +kernel
theorem dX8_store_19 : decode cX8_store 19 = .ok (.aload_n 0, 1) := by decide +kernel
theorem dX8_store_20 : decode cX8_store 20 = .ok (.lload_n 2, 1) := by decide +kernel
theorem dX8_store_21 : decode cX8_store 21 = .ok (.invokevirtual 102, 3) := by decide +kernel
theorem dX8_store_24 : decode cX8_store 24 = .ok (.ireturn, 1) := by decide +kernel
theorem dX8_setVariables_0 : decode cX8_setVariables 0 = .ok (.iload_n 1, 1) := by decide +kernel
theorem dX8_setVariables_1 : decode cX8_setVariables 1 = .ok (.i2l, 1) := by decide +kernel
theorem dX8_setVariables_2 : decode cX8_setVariables 2 = .ok (.lconst 1, 1) := by decide +kernel
theorem dX8_setVariables_3 : decode cX8_setVariables 3 = .ok (.ldc2_w 106, 3) := by decide +kernel
theorem dX8_setVariables_6 : decode cX8_setVariables 6 = .ok (.invokestatic 87, 3) := by decide +kernel
theorem dX8_setVariables_9 : decode cX8_setVariables 9 = .ok (.ifCond .ne 6, 3) := by decide +kernel
theorem dX8_setVariables_12 : decode cX8_setVariables 12 = .ok (.bipush (-2), 2) := by decide +kernel
theorem dX8_setVariables_14 : decode cX8_setVariables 14 = .ok (.ireturn, 1) := by decide +kernel
theorem dX8_setVariables_15 : decode cX8_setVariables 15 = .ok (.aload_n 0, 1) := by decide +kernel
theorem dX8_setVariables_16 : decode cX8_setVariables 16 = .ok (.getfield 7, 3) := by decide +kernel
theorem dX8_setVariables_19 : decode cX8_setVariables 19 = .ok (.istore_n 2, 1) := by decide +kernel
theorem dX8_setVariables_20 : decode cX8_setVariables 20 = .ok (.aload_n 0, 1) := by decide +kernel
theorem dX8_setVariables_21 : decode cX8_setVariables 21 = .ok (.iload_n 1, 1) := by decide +kernel
theorem dX8_setVariables_22 : decode cX8_setVariables 22 = .ok (.putfield 7, 3) := by decide +kernel
theorem dX8_setVariables_25 : decode cX8_setVariables 25 = .ok (.aload_n 0, 1) := by decide +kernel
theorem dX8_setVariables_26 : decode cX8_setVariables 26 = .ok (.iconst 1, 1) := by decide +kernel
theorem dX8_setVariables_27 : decode cX8_setVariables 27 = .ok (.aload_n 0, 1) := by decide +kernel
theorem dX8_setVariables_28 : decode cX8_setVariables 28 = .ok (.getfield 7, 3) := by decide +kernel
theorem dX8_setVariables_31 : decode cX8_setVariables 31 = .ok (.ishl, 1) := by decide +kernel
theorem dX8_setVariables_32 : decode cX8_setVariables 32 = .ok (.putfield 13, 3) := by decide +kernel
theorem dX8_setVariables_35 : decode cX8_setVariables 35 = .ok (.iconst 0, 1) := by decide +kernel
theorem dX8_setVariables_36 : decode cX8_setVariables 36 = .ok (.istore_n 3, 1) := by decide +kernel
theorem dX8_setVariables_37 : decode cX8_setVariables 37 = .ok (.iload_n 3, 1) := by decide +kernel
theorem dX8_setVariables_38 : decode cX8_setVariables 38 = .ok (.bipush 8, 2) := by decide +kernel
theorem dX8_setVariables_40 : decode cX8_setVariables 40 = .ok (.if_icmp .ge 16, 3) := by decide +kernel
theorem dX8_setVariables_43 : decode cX8_setVariables 43 = .ok (.aload_n 0, 1) := by decide +kernel
theorem dX8_setVariables_44 : decode cX8_setVariables 44 = .ok (.getfield 20, 3) := by decide +kernel
theorem dX8_setVariables_47 : decode cX8_setVariables 47 = .ok (.iload_n 3, 1) := by decide +kernel
theorem dX8_setVariables_48 : decode cX8_setVariables 48 = .ok (.iconst 0, 1) := by decide +kernel
theorem dX8_setVariables_49 : decode cX8_setVariables 49 = .ok (.bastore, 1) := by decide +kernel
theorem dX8_setVariables_50 : decode cX8_setVariables 50 = .ok (.iinc 3 1, 3) := by decide +kernel
theorem dX8_setVariables_53 : decode cX8_setVariables 53 = .ok (.goto (-16), 3) := by decide +kernel
theorem dX8_setVariables_56 : decode cX8_setVariables 56 = .ok (.aload_n 0, 1) := by decide +kernel
theorem dX8_setVariables_57 : decode cX8_setVariables 57 = .ok (.iconst 0, 1) := by decide +kernel
theorem dX8_setVariables_58 : decode cX8_setVariables 58 = .ok (.putfield 95, 3) := by decide +kernel
theorem dX8_setVariables_61 : decode cX8_setVariables 61 = .ok (.aload_n 0, 1) := by decide +kernel
theorem dX8_setVariables_62 : decode cX8_setVariables 62 = .ok (.lconst 0, 1) := by decide +kernel
theorem dX8_setVariables_63 : decode cX8_setVariables 63 = .ok (.putfield 108, 3) := by decide +kernel
theorem dX8_setVariables_66 : decode cX8_setVariables 66 = .ok (.aload_n 0, 1) := by decide +kernel
theorem dX8_setVariables_67 : decode cX8_setVariables 67 = .ok (.lconst 0, 1) := by decide +kernel
theorem dX8_setVariables_68 : decode cX8_setVariables 68 = .ok (.putfield 112, 3) := by decide +kernel
theorem dX8_setVariables_71 : decode cX8_setVariables 71 = .ok (.aload_n 0, 1) := by decide +kernel
theorem dX8_setVariables_72 : decode cX8_setVariables 72 = .ok (.iconst 0, 1) := by decide +kernel
theorem dX8_setVariables_73 : decode cX8_setVariables 73 = .ok (.putfield 115, 3) := by decide +kernel
theorem dX8_setVariables_76 : decode cX8_setVariables 76 = .ok (.aload_n 0, 1) := by decide +kernel
theorem dX8_setVariables_77 : decode cX8_setVariables 77 = .ok (.invokevirtual 82, 3) := by decide +kernel
theorem dX8_setVariables_80 : decode cX8_setVariables 80 = .ok (.iload_n 2, 1) := by decide +kernel
theorem dX8_setVariables_81 : decode cX8_setVariables 81 = .ok (.ireturn, 1) := by decide +kernel
theorem dX8_variables_0 : decode cX8_variables 0 = .ok (.aload_n 0, 1) := by decide +kernel
theorem dX8_variables_1 : decode cX8_variables 1 = .ok (.getfield 7, 3) := by decide +kernel
theorem dX8_variables_4 : decode cX8_variables 4 = .ok (.ireturn, 1) := by decide +kernel
theorem dX8_setTable_0 : decode cX8_setTable 0 = .ok (.iload_n 1, 1) := by decide +kernel
theorem dX8_setTable_1 : decode cX8_setTable 1 = .ok (.invokestatic 118, 3) := by decide +kernel
theorem dX8_setTable_4 : decode cX8_setTable 4 = .ok (.ifCond .eq 19, 3) := by decide +kernel
theorem dX8_setTable_7 : decode cX8_setTable 7 = .ok (.lload_n 2, 1) := by decide +kernel
theorem dX8_setTable_8 : decode cX8_setTable 8 = .ok (.lconst 0, 1) := by decide +kernel
theorem dX8_setTable_9 : decode cX8_setTable 9 = .ok (.lconst 1, 1) := by decide +kernel
theorem dX8_setTable_10 : decode cX8_setTable 10 = .ok (.aload_n 0, 1) := by decide +kernel
theorem dX8_setTable_11 : decode cX8_setTable 11 = .ok (.getfield 13, 3) := by decide +kernel
theorem dX8_setTable_14 : decode cX8_setTable 14 = .ok (.lshl, 1) := by decide +kernel
theorem dX8_setTable_15 : decode cX8_setTable 15 = .ok (.lconst 1, 1) := by decide +kernel
theorem dX8_setTable_16 : decode cX8_setTable 16 = .ok (.lsub, 1) := by decide +kernel
theorem dX8_setTable_17 : decode cX8_setTable 17 = .ok (.invokestatic 87, 3) := by decide +kernel
theorem dX8_setTable_20 : decode cX8_setTable 20 = .ok (.ifCond .ne 6, 3) := by decide +kernel
theorem dX8_setTable_23 : decode cX8_setTable 23 = .ok (.bipush (-2), 2) := by decide +kernel
theorem dX8_setTable_25 : decode cX8_setTable 25 = .ok (.ireturn, 1) := by decide +kernel
theorem dX8_setTable_26 : decode cX8_setTable 26 = .ok (.aload_n 0, 1) := by decide +kernel
theorem dX8_setTable_27 : decode cX8_setTable 27 = .ok (.iload_n 1, 1) := by decide +kernel
theorem dX8_setTable_28 : decode cX8_setTable 28 = .ok (.lload_n 2, 1) := by decide +kernel
theorem dX8_setTable_29 : decode cX8_setTable 29 = .ok (.invokevirtual 122, 3) := by decide +kernel
theorem dX8_setTable_32 : decode cX8_setTable 32 = .ok (.ireturn, 1) := by decide +kernel
theorem dX8_table_0 : decode cX8_table 0 = .ok (.iload_n 1, 1) := by decide +kernel
theorem dX8_table_1 : decode cX8_table 1 = .ok (.invokestatic 118, 3) := by decide +kernel
theorem dX8_table_4 : decode cX8_table 4 = .ok (.ifCond .ne 9, 3) := by decide +kernel
theorem dX8_table_7 : decode cX8_table 7 = .ok (.ldc2_w 126, 3) := by decide +kernel
theorem dX8_table_10 : decode cX8_table 10 = .ok (.goto 24, 3) := by decide +kernel
theorem dX8_table_13 : decode cX8_table 13 = .ok (.aload_n 0, 1) := by decide +kernel
theorem dX8_table_14 : decode cX8_table 14 = .ok (.getfield 20, 3) := by decide +kernel
theorem dX8_table_17 : decode cX8_table 17 = .ok (.iload_n 1, 1) := by decide +kernel
theorem dX8_table_18 : decode cX8_table 18 = .ok (.baload, 1) := by decide +kernel
theorem dX8_table_19 : decode cX8_table 19 = .ok (.ifCond .eq 12, 3) := by decide +kernel
theorem dX8_table_22 : decode cX8_table 22 = .ok (.aload_n 0, 1) := by decide +kernel
theorem dX8_table_23 : decode cX8_table 23 = .ok (.getfield 16, 3) := by decide +kernel
theorem dX8_table_26 : decode cX8_table 26 = .ok (.iload_n 1, 1) := by decide +kernel
theorem dX8_table_27 : decode cX8_table 27 = .ok (.laload, 1) := by decide +kernel
theorem dX8_table_28 : decode cX8_table 28 = .ok (.goto 6, 3) := by decide +kernel
theorem dX8_table_31 : decode cX8_table 31 = .ok (.ldc2_w 128, 3) := by decide +kernel
theorem dX8_table_34 : decode cX8_table 34 = .ok (.lreturn, 1) := by decide +kernel
theorem dX8_clear_0 : decode cX8_clear 0 = .ok (.iload_n 1, 1) := by decide +kernel
theorem dX8_clear_1 : decode cX8_clear 1 = .ok (.invokestatic 118, 3) := by decide +kernel
theorem dX8_clear_4 : decode cX8_clear 4 = .ok (.ifCond .ne 6, 3) := by decide +kernel
theorem dX8_clear_7 : decode cX8_clear 7 = .ok (.bipush (-2), 2) := by decide +kernel
theorem dX8_clear_9 : decode cX8_clear 9 = .ok (.ireturn, 1) := by decide +kernel
theorem dX8_clear_10 : decode cX8_clear 10 = .ok (.aload_n 0, 1) := by decide +kernel
theorem dX8_clear_11 : decode cX8_clear 11 = .ok (.getfield 20, 3) := by decide +kernel
theorem dX8_clear_14 : decode cX8_clear 14 = .ok (.iload_n 1, 1) := by decide +kernel
theorem dX8_clear_15 : decode cX8_clear 15 = .ok (.baload, 1) := by decide +kernel
theorem dX8_clear_16 : decode cX8_clear 16 = .ok (.ifCond .ne 6, 3) := by decide +kernel
theorem dX8_clear_19 : decode cX8_clear 19 = .ok (.bipush (-3), 2) := by decide +kernel
theorem dX8_clear_21 : decode cX8_clear 21 = .ok (.ireturn, 1) := by decide +kernel
theorem dX8_clear_22 : decode cX8_clear 22 = .ok (.aload_n 0, 1) := by decide +kernel
theorem dX8_clear_23 : decode cX8_clear 23 = .ok (.iload_n 1, 1) := by decide +kernel
theorem dX8_clear_24 : decode cX8_clear 24 = .ok (.invokevirtual 98, 3) := by decide +kernel
theorem dX8_clear_27 : decode cX8_clear 27 = .ok (.aload_n 0, 1) := by decide +kernel
theorem dX8_clear_28 : decode cX8_clear 28 = .ok (.getfield 20, 3) := by decide +kernel
theorem dX8_clear_31 : decode cX8_clear 31 = .ok (.iload_n 1, 1) := by decide +kernel
theorem dX8_clear_32 : decode cX8_clear 32 = .ok (.iconst 0, 1) := by decide +kernel
theorem dX8_clear_33 : decode cX8_clear 33 = .ok (.bastore, 1) := by decide +kernel
theorem dX8_clear_34 : decode cX8_clear 34 = .ok (.aload_n 0, 1) := by decide +kernel
theorem dX8_clear_35 : decode cX8_clear 35 = .ok (.invokevirtual 130, 3) := by decide +kernel
theorem dX8_clear_38 : decode cX8_clear 38 = .ok (.ireturn, 1) := by decide +kernel
theorem dX8_wrong_0 : decode cX8_wrong 0 = .ok (.iload_n 1, 1) := by decide +kernel
theorem dX8_wrong_1 : decode cX8_wrong 1 = .ok (.invokestatic 118, 3) := by decide +kernel
theorem dX8_wrong_4 : decode cX8_wrong 4 = .ok (.ifCond .ne 8, 3) := by decide +kernel
theorem dX8_wrong_7 : decode cX8_wrong 7 = .ok (.bipush (-2), 2) := by decide +kernel
theorem dX8_wrong_9 : decode cX8_wrong 9 = .ok (.goto 18, 3) := by decide +kernel
theorem dX8_wrong_12 : decode cX8_wrong 12 = .ok (.aload_n 0, 1) := by decide +kernel
theorem dX8_wrong_13 : decode cX8_wrong 13 = .ok (.getfield 20, 3) := by decide +kernel
theorem dX8_wrong_16 : decode cX8_wrong 16 = .ok (.iload_n 1, 1) := by decide +kernel
theorem dX8_wrong_17 : decode cX8_wrong 17 = .ok (.baload, 1) := by decide +kernel
theorem dX8_wrong_18 : decode cX8_wrong 18 = .ok (.ifCond .eq 7, 3) := by decide +kernel
theorem dX8_wrong_21 : decode cX8_wrong 21 = .ok (.iconst 0, 1) := by decide +kernel
theorem dX8_wrong_22 : decode cX8_wrong 22 = .ok (.goto 5, 3) := by decide +kernel
theorem dX8_wrong_25 : decode cX8_wrong 25 = .ok (.bipush (-3), 2) := by decide +kernel
theorem dX8_wrong_27 : decode cX8_wrong 27 = .ok (.ireturn, 1) := by decide +kernel
theorem dX8_value_0 : decode cX8_value 0 = .ok (.iload_n 1, 1) := by decide +kernel
theorem dX8_value_1 : decode cX8_value 1 = .ok (.invokestatic 118, 3) := by decide +kernel
theorem dX8_value_4 : decode cX8_value 4 = .ok (.ifCond .eq 11, 3) := by decide +kernel
theorem dX8_value_7 : decode cX8_value 7 = .ok (.aload_n 0, 1) := by decide +kernel
theorem dX8_value_8 : decode cX8_value 8 = .ok (.iload_n 2, 1) := by decide +kernel
theorem dX8_value_9 : decode cX8_value 9 = .ok (.invokevirtual 134, 3) := by decide +kernel
theorem dX8_value_12 : decode cX8_value 12 = .ok (.ifCond .ne 6, 3) := by decide +kernel
theorem dX8_value_15 : decode cX8_value 15 = .ok (.bipush (-2), 2) := by decide +kernel
theorem dX8_value_17 : decode cX8_value 17 = .ok (.ireturn, 1) := by decide +kernel
theorem dX8_value_18 : decode cX8_value 18 = .ok (.aload_n 0, 1) := by decide +kernel
theorem dX8_value_19 : decode cX8_value 19 = .ok (.getfield 20, 3) := by decide +kernel
theorem dX8_value_22 : decode cX8_value 22 = .ok (.iload_n 1, 1) := by decide +kernel
theorem dX8_value_23 : decode cX8_value 23 = .ok (.baload, 1) := by decide +kernel
theorem dX8_value_24 : decode cX8_value 24 = .ok (.ifCond .ne 8, 3) := by decide +kernel
theorem dX8_value_27 : decode cX8_value 27 = .ok (.bipush (-3), 2) := by decide +kernel
theorem dX8_value_29 : decode cX8_value 29 = .ok (.goto 21, 3) := by decide +kernel
theorem dX8_value_32 : decode cX8_value 32 = .ok (.aload_n 0, 1) := by decide +kernel
theorem dX8_value_33 : decode cX8_value 33 = .ok (.getfield 16, 3) := by decide +kernel
theorem dX8_value_36 : decode cX8_value 36 = .ok (.iload_n 1, 1) := by decide +kernel
theorem dX8_value_37 : decode cX8_value 37 = .ok (.laload, 1) := by decide +kernel
theorem dX8_value_38 : decode cX8_value 38 = .ok (.iload_n 2, 1) := by decide +kernel
theorem dX8_value_39 : decode cX8_value 39 = .ok (.invokestatic 91, 3) := by decide +kernel
theorem dX8_value_42 : decode cX8_value 42 = .ok (.ifCond .eq 7, 3) := by decide +kernel
theorem dX8_value_45 : decode cX8_value 45 = .ok (.iconst 1, 1) := by decide +kernel
theorem dX8_value_46 : decode cX8_value 46 = .ok (.goto 4, 3) := by decide +kernel
theorem dX8_value_49 : decode cX8_value 49 = .ok (.iconst 0, 1) := by decide +kernel
theorem dX8_value_50 : decode cX8_value 50 = .ok (.ireturn, 1) := by decide +kernel
theorem dX8_essentialOf_0 : decode cX8_essentialOf 0 = .ok (.iconst 0, 1) := by decide +kernel
theorem dX8_essentialOf_1 : decode cX8_essentialOf 1 = .ok (.istore_n 3, 1) := by decide +kernel
theorem dX8_essentialOf_2 : decode cX8_essentialOf 2 = .ok (.iconst 0, 1) := by decide +kernel
theorem dX8_essentialOf_3 : decode cX8_essentialOf 3 = .ok (.istore 4, 2) := by decide +kernel
theorem dX8_essentialOf_5 : decode cX8_essentialOf 5 = .ok (.iload 4, 2) := by decide +kernel
theorem dX8_essentialOf_7 : decode cX8_essentialOf 7 = .ok (.aload_n 0, 1) := by decide +kernel
theorem dX8_essentialOf_8 : decode cX8_essentialOf 8 = .ok (.getfield 7, 3) := by decide +kernel
theorem dX8_essentialOf_11 : decode cX8_essentialOf 11 = .ok (.if_icmp .ge 58, 3) := by decide +kernel
theorem dX8_essentialOf_14 : decode cX8_essentialOf 14 = .ok (.iconst 0, 1) := by decide +kernel
theorem dX8_essentialOf_15 : decode cX8_essentialOf 15 = .ok (.istore 5, 2) := by decide +kernel
theorem dX8_essentialOf_17 : decode cX8_essentialOf 17 = .ok (.iload 5, 2) := by decide +kernel
theorem dX8_essentialOf_19 : decode cX8_essentialOf 19 = .ok (.aload_n 0, 1) := by decide +kernel
theorem dX8_essentialOf_20 : decode cX8_essentialOf 20 = .ok (.getfield 13, 3) := by decide +kernel
theorem dX8_essentialOf_23 : decode cX8_essentialOf 23 = .ok (.if_icmp .ge 40, 3) := by decide +kernel
theorem dX8_essentialOf_26 : decode cX8_essentialOf 26 = .ok (.iload_n 3, 1) := by decide +kernel
theorem dX8_essentialOf_27 : decode cX8_essentialOf 27 = .ok (.lload_n 1, 1) := by decide +kernel
theorem dX8_essentialOf_28 : decode cX8_essentialOf 28 = .ok (.iload 5, 2) := by decide +kernel
theorem dX8_essentialOf_30 : decode cX8_essentialOf 30 = .ok (.invokestatic 91, 3) := by decide +kernel
theorem dX8_essentialOf_33 : decode cX8_essentialOf 33 = .ok (.lload_n 1, 1) := by decide +kernel
theorem dX8_essentialOf_34 : decode cX8_essentialOf 34 = .ok (.iload 5, 2) := by decide +kernel
theorem dX8_essentialOf_36 : decode cX8_essentialOf 36 = .ok (.iconst 1, 1) := by decide +kernel
theorem dX8_essentialOf_37 : decode cX8_essentialOf 37 = .ok (.iload 4, 2) := by decide +kernel
theorem dX8_essentialOf_39 : decode cX8_essentialOf 39 = .ok (.ishl, 1) := by decide +kernel
theorem dX8_essentialOf_40 : decode cX8_essentialOf 40 = .ok (.ixor, 1) := by decide +kernel
theorem dX8_essentialOf_41 : decode cX8_essentialOf 41 = .ok (.invokestatic 91, 3) := by decide +kernel
theorem dX8_essentialOf_44 : decode cX8_essentialOf 44 = .ok (.if_icmp .eq 10, 3) := by decide +kernel
theorem dX8_essentialOf_47 : decode cX8_essentialOf 47 = .ok (.iconst 1, 1) := by decide +kernel
theorem dX8_essentialOf_48 : decode cX8_essentialOf 48 = .ok (.iload 4, 2) := by decide +kernel
theorem dX8_essentialOf_50 : decode cX8_essentialOf 50 = .ok (.ishl, 1) := by decide +kernel
theorem dX8_essentialOf_51 : decode cX8_essentialOf 51 = .ok (.goto 4, 3) := by decide +kernel
theorem dX8_essentialOf_54 : decode cX8_essentialOf 54 = .ok (.iconst 0, 1) := by decide +kernel
theorem dX8_essentialOf_55 : decode cX8_essentialOf 55 = .ok (.ior, 1) := by decide +kernel
theorem dX8_essentialOf_56 : decode cX8_essentialOf 56 = .ok (.istore_n 3, 1) := by decide +kernel
theorem dX8_essentialOf_57 : decode cX8_essentialOf 57 = .ok (.iinc 5 1, 3) := by decide +kernel
theorem dX8_essentialOf_60 : decode cX8_essentialOf 60 = .ok (.goto (-43), 3) := by decide +kernel
theorem dX8_essentialOf_63 : decode cX8_essentialOf 63 = .ok (.iinc 4 1, 3) := by decide +kernel
theorem dX8_essentialOf_66 : decode cX8_essentialOf 66 = .ok (.goto (-61), 3) := by decide +kernel
theorem dX8_essentialOf_69 : decode cX8_essentialOf 69 = .ok (.iload_n 3, 1) := by decide +kernel
theorem dX8_essentialOf_70 : decode cX8_essentialOf 70 = .ok (.ireturn, 1) := by decide +kernel
theorem dX8_essential_0 : decode cX8_essential 0 = .ok (.aload_n 0, 1) := by decide +kernel
theorem dX8_essential_1 : decode cX8_essential 1 = .ok (.iload_n 1, 1) := by decide +kernel
theorem dX8_essential_2 : decode cX8_essential 2 = .ok (.invokevirtual 137, 3) := by decide +kernel
theorem dX8_essential_5 : decode cX8_essential 5 = .ok (.ifCond .eq 11, 3) := by decide +kernel
theorem dX8_essential_8 : decode cX8_essential 8 = .ok (.aload_n 0, 1) := by decide +kernel
theorem dX8_essential_9 : decode cX8_essential 9 = .ok (.iload_n 1, 1) := by decide +kernel
theorem dX8_essential_10 : decode cX8_essential 10 = .ok (.invokevirtual 137, 3) := by decide +kernel
theorem dX8_essential_13 : decode cX8_essential 13 = .ok (.goto 13, 3) := by decide +kernel
theorem dX8_essential_16 : decode cX8_essential 16 = .ok (.aload_n 0, 1) := by decide +kernel
theorem dX8_essential_17 : decode cX8_essential 17 = .ok (.aload_n 0, 1) := by decide +kernel
theorem dX8_essential_18 : decode cX8_essential 18 = .ok (.getfield 16, 3) := by decide +kernel
theorem dX8_essential_21 : decode cX8_essential 21 = .ok (.iload_n 1, 1) := by decide +kernel
theorem dX8_essential_22 : decode cX8_essential 22 = .ok (.laload, 1) := by decide +kernel
theorem dX8_essential_23 : decode cX8_essential 23 = .ok (.invokevirtual 141, 3) := by decide +kernel
theorem dX8_essential_26 : decode cX8_essential 26 = .ok (.ireturn, 1) := by decide +kernel
theorem dX8_violation_0 : decode cX8_violation 0 = .ok (.iconst 0, 1) := by decide +kernel
theorem dX8_violation_1 : decode cX8_violation 1 = .ok (.istore_n 3, 1) := by decide +kernel
theorem dX8_violation_2 : decode cX8_violation 2 = .ok (.iload_n 3, 1) := by decide +kernel
theorem dX8_violation_3 : decode cX8_violation 3 = .ok (.aload_n 0, 1) := by decide +kernel
theorem dX8_violation_4 : decode cX8_violation 4 = .ok (.getfield 13, 3) := by decide +kernel
theorem dX8_violation_7 : decode cX8_violation 7 = .ok (.if_icmp .ge 59, 3) := by decide +kernel
theorem dX8_violation_10 : decode cX8_violation 10 = .ok (.iconst 0, 1) := by decide +kernel
theorem dX8_violation_11 : decode cX8_violation 11 = .ok (.istore 4, 2) := by decide +kernel
theorem dX8_violation_13 : decode cX8_violation 13 = .ok (.iload 4, 2) := by decide +kernel
theorem dX8_violation_15 : decode cX8_violation 15 = .ok (.aload_n 0, 1) := by decide +kernel
theorem dX8_violation_16 : decode cX8_violation 16 = .ok (.getfield 7, 3) := by decide +kernel
theorem dX8_violation_19 : decode cX8_violation 19 = .ok (.if_icmp .ge 41, 3) := by decide +kernel
theorem dX8_violation_22 : decode cX8_violation 22 = .ok (.iload_n 3, 1) := by decide +kernel
theorem dX8_violation_23 : decode cX8_violation 23 = .ok (.iload 4, 2) := by decide +kernel
theorem dX8_violation_25 : decode cX8_violation 25 = .ok (.ishr, 1) := by decide +kernel
theorem dX8_violation_26 : decode cX8_violation 26 = .ok (.iconst 1, 1) := by decide +kernel
theorem dX8_violation_27 : decode cX8_violation 27 = .ok (.iand, 1) := by decide +kernel
theorem dX8_violation_28 : decode cX8_violation 28 = .ok (.ifCond .ne 26, 3) := by decide +kernel
theorem dX8_violation_31 : decode cX8_violation 31 = .ok (.lload_n 1, 1) := by decide +kernel
theorem dX8_violation_32 : decode cX8_violation 32 = .ok (.iload_n 3, 1) := by decide +kernel
theorem dX8_violation_33 : decode cX8_violation 33 = .ok (.invokestatic 91, 3) := by decide +kernel
theorem dX8_violation_36 : decode cX8_violation 36 = .ok (.ifCond .eq 18, 3) := by decide +kernel
theorem dX8_violation_39 : decode cX8_violation 39 = .ok (.lload_n 1, 1) := by decide +kernel
theorem dX8_violation_40 : decode cX8_violation 40 = .ok (.iload_n 3, 1) := by decide +kernel
theorem dX8_violation_41 : decode cX8_violation 41 = .ok (.iconst 1, 1) := by decide +kernel
theorem dX8_violation_42 : decode cX8_violation 42 = .ok (.iload 4, 2) := by decide +kernel
theorem dX8_violation_44 : decode cX8_violation 44 = .ok (.ishl, 1) := by decide +kernel
theorem dX8_violation_45 : decode cX8_violation 45 = .ok (.ior, 1) := by decide +kernel
theorem dX8_violation_46 : decode cX8_violation 46 = .ok (.invokestatic 91, 3) := by decide +kernel
theorem dX8_violation_49 : decode cX8_violation 49 = .ok (.ifCond .ne 5, 3) := by decide +kernel
theorem dX8_violation_52 : decode cX8_violation 52 = .ok (.iload_n 3, 1) := by decide +kernel
theorem dX8_violation_53 : decode cX8_violation 53 = .ok (.ireturn, 1) := by decide +kernel
theorem dX8_violation_54 : decode cX8_violation 54 = .ok (.iinc 4 1, 3) := by decide +kernel
theorem dX8_violation_57 : decode cX8_violation 57 = .ok (.goto (-44), 3) := by decide +kernel
theorem dX8_violation_60 : decode cX8_violation 60 = .ok (.iinc 3 1, 3) := by decide +kernel
theorem dX8_violation_63 : decode cX8_violation 63 = .ok (.goto (-61), 3) := by decide +kernel
theorem dX8_violation_66 : decode cX8_violation 66 = .ok (.iconst (-1), 1) := by decide +kernel
theorem dX8_violation_67 : decode cX8_violation 67 = .ok (.ireturn, 1) := by decide +kernel
theorem dX8_isMonotone_0 : decode cX8_isMonotone 0 = .ok (.aload_n 0, 1) := by decide +kernel
theorem dX8_isMonotone_1 : decode cX8_isMonotone 1 = .ok (.iload_n 1, 1) := by decide +kernel
theorem dX8_isMonotone_2 : decode cX8_isMonotone 2 = .ok (.invokevirtual 137, 3) := by decide +kernel
theorem dX8_isMonotone_5 : decode cX8_isMonotone 5 = .ok (.ifCond .eq 11, 3) := by decide +kernel
theorem dX8_isMonotone_8 : decode cX8_isMonotone 8 = .ok (.aload_n 0, 1) := by decide +kernel
theorem dX8_isMonotone_9 : decode cX8_isMonotone 9 = .ok (.iload_n 1, 1) := by decide +kernel
theorem dX8_isMonotone_10 : decode cX8_isMonotone 10 = .ok (.invokevirtual 137, 3) := by decide +kernel
theorem dX8_isMonotone_13 : decode cX8_isMonotone 13 = .ok (.goto 22, 3) := by decide +kernel
theorem dX8_isMonotone_16 : decode cX8_isMonotone 16 = .ok (.aload_n 0, 1) := by decide +kernel
theorem dX8_isMonotone_17 : decode cX8_isMonotone 17 = .ok (.aload_n 0, 1) := by decide +kernel
theorem dX8_isMonotone_18 : decode cX8_isMonotone 18 = .ok (.getfield 16, 3) := by decide +kernel
theorem dX8_isMonotone_21 : decode cX8_isMonotone 21 = .ok (.iload_n 1, 1) := by decide +kernel
theorem dX8_isMonotone_22 : decode cX8_isMonotone 22 = .ok (.laload, 1) := by decide +kernel
theorem dX8_isMonotone_23 : decode cX8_isMonotone 23 = .ok (.invokevirtual 144, 3) := by decide +kernel
theorem dX8_isMonotone_26 : decode cX8_isMonotone 26 = .ok (.iconst (-1), 1) := by decide +kernel
theorem dX8_isMonotone_27 : decode cX8_isMonotone 27 = .ok (.if_icmp .ne 7, 3) := by decide +kernel
theorem dX8_isMonotone_30 : decode cX8_isMonotone 30 = .ok (.iconst 1, 1) := by decide +kernel
theorem dX8_isMonotone_31 : decode cX8_isMonotone 31 = .ok (.goto 4, 3) := by decide +kernel
theorem dX8_isMonotone_34 : decode cX8_isMonotone 34 = .ok (.iconst 0, 1) := by decide +kernel
theorem dX8_isMonotone_35 : decode cX8_isMonotone 35 = .ok (.ireturn, 1) := by decide +kernel
theorem dX8_violatingPoint_0 : decode cX8_violatingPoint 0 = .ok (.aload_n 0, 1) := by decide +kernel
theorem dX8_violatingPoint_1 : decode cX8_violatingPoint 1 = .ok (.iload_n 1, 1) := by decide +kernel
theorem dX8_violatingPoint_2 : decode cX8_violatingPoint 2 = .ok (.invokevirtual 137, 3) := by decide +kernel
theorem dX8_violatingPoint_5 : decode cX8_violatingPoint 5 = .ok (.ifCond .eq 11, 3) := by decide +kernel
theorem dX8_violatingPoint_8 : decode cX8_violatingPoint 8 = .ok (.aload_n 0, 1) := by decide +kernel
theorem dX8_violatingPoint_9 : decode cX8_violatingPoint 9 = .ok (.iload_n 1, 1) := by decide +kernel
theorem dX8_violatingPoint_10 : decode cX8_violatingPoint 10 = .ok (.invokevirtual 137, 3) := by decide +kernel
theorem dX8_violatingPoint_13 : decode cX8_violatingPoint 13 = .ok (.goto 13, 3) := by decide +kernel
theorem dX8_violatingPoint_16 : decode cX8_violatingPoint 16 = .ok (.aload_n 0, 1) := by decide +kernel
theorem dX8_violatingPoint_17 : decode cX8_violatingPoint 17 = .ok (.aload_n 0, 1) := by decide +kernel
theorem dX8_violatingPoint_18 : decode cX8_violatingPoint 18 = .ok (.getfield 16, 3) := by decide +kernel
theorem dX8_violatingPoint_21 : decode cX8_violatingPoint 21 = .ok (.iload_n 1, 1) := by decide +kernel
theorem dX8_violatingPoint_22 : decode cX8_violatingPoint 22 = .ok (.laload, 1) := by decide +kernel
theorem dX8_violatingPoint_23 : decode cX8_violatingPoint 23 = .ok (.invokevirtual 144, 3) := by decide +kernel
theorem dX8_violatingPoint_26 : decode cX8_violatingPoint 26 = .ok (.ireturn, 1) := by decide +kernel
theorem dX8_isPrime_0 : decode cX8_isPrime 0 = .ok (.lload_n 1, 1) := by decide +kernel
theorem dX8_isPrime_1 : decode cX8_isPrime 1 = .ok (.iload_n 3, 1) := by decide +kernel
theorem dX8_isPrime_2 : decode cX8_isPrime 2 = .ok (.invokestatic 91, 3) := by decide +kernel
theorem dX8_isPrime_5 : decode cX8_isPrime 5 = .ok (.ifCond .ne 5, 3) := by decide +kernel
theorem dX8_isPrime_8 : decode cX8_isPrime 8 = .ok (.iconst 0, 1) := by decide +kernel
theorem dX8_isPrime_9 : decode cX8_isPrime 9 = .ok (.ireturn, 1) := by decide +kernel
theorem dX8_isPrime_10 : decode cX8_isPrime 10 = .ok (.iconst 0, 1) := by decide +kernel
theorem dX8_isPrime_11 : decode cX8_isPrime 11 = .ok (.istore 4, 2) := by decide +kernel
theorem dX8_isPrime_13 : decode cX8_isPrime 13 = .ok (.iload 4, 2) := by decide +kernel
theorem dX8_isPrime_15 : decode cX8_isPrime 15 = .ok (.aload_n 0, 1) := by decide +kernel
theorem dX8_isPrime_16 : decode cX8_isPrime 16 = .ok (.getfield 7, 3) := by decide +kernel
theorem dX8_isPrime_19 : decode cX8_isPrime 19 = .ok (.if_icmp .ge 34, 3) := by decide +kernel
theorem dX8_isPrime_22 : decode cX8_isPrime 22 = .ok (.iload_n 3, 1) := by decide +kernel
theorem dX8_isPrime_23 : decode cX8_isPrime 23 = .ok (.iload 4, 2) := by decide +kernel
theorem dX8_isPrime_25 : decode cX8_isPrime 25 = .ok (.ishr, 1) := by decide +kernel
theorem dX8_isPrime_26 : decode cX8_isPrime 26 = .ok (.iconst 1, 1) := by decide +kernel
theorem dX8_isPrime_27 : decode cX8_isPrime 27 = .ok (.iand, 1) := by decide +kernel
theorem dX8_isPrime_28 : decode cX8_isPrime 28 = .ok (.iconst 1, 1) := by decide +kernel
theorem dX8_isPrime_29 : decode cX8_isPrime 29 = .ok (.if_icmp .ne 18, 3) := by decide +kernel
theorem dX8_isPrime_32 : decode cX8_isPrime 32 = .ok (.lload_n 1, 1) := by decide +kernel
theorem dX8_isPrime_33 : decode cX8_isPrime 33 = .ok (.iload_n 3, 1) := by decide +kernel
theorem dX8_isPrime_34 : decode cX8_isPrime 34 = .ok (.iconst 1, 1) := by decide +kernel
theorem dX8_isPrime_35 : decode cX8_isPrime 35 = .ok (.iload 4, 2) := by decide +kernel
theorem dX8_isPrime_37 : decode cX8_isPrime 37 = .ok (.ishl, 1) := by decide +kernel
theorem dX8_isPrime_38 : decode cX8_isPrime 38 = .ok (.ixor, 1) := by decide +kernel
theorem dX8_isPrime_39 : decode cX8_isPrime 39 = .ok (.invokestatic 91, 3) := by decide +kernel
theorem dX8_isPrime_42 : decode cX8_isPrime 42 = .ok (.ifCond .eq 5, 3) := by decide +kernel
theorem dX8_isPrime_45 : decode cX8_isPrime 45 = .ok (.iconst 0, 1) := by decide +kernel
theorem dX8_isPrime_46 : decode cX8_isPrime 46 = .ok (.ireturn, 1) := by decide +kernel
theorem dX8_isPrime_47 : decode cX8_isPrime 47 = .ok (.iinc 4 1, 3) := by decide +kernel
theorem dX8_isPrime_50 : decode cX8_isPrime 50 = .ok (.goto (-37), 3) := by decide +kernel
theorem dX8_isPrime_53 : decode cX8_isPrime 53 = .ok (.iconst 1, 1) := by decide +kernel
theorem dX8_isPrime_54 : decode cX8_isPrime 54 = .ok (.ireturn, 1) := by decide +kernel
theorem dX8_wrongOrNot_0 : decode cX8_wrongOrNot 0 = .ok (.aload_n 0, 1) := by decide +kernel
theorem dX8_wrongOrNot_1 : decode cX8_wrongOrNot 1 = .ok (.iload_n 1, 1) := by decide +kernel
theorem dX8_wrongOrNot_2 : decode cX8_wrongOrNot 2 = .ok (.invokevirtual 137, 3) := by decide +kernel
theorem dX8_wrongOrNot_5 : decode cX8_wrongOrNot 5 = .ok (.ifCond .eq 11, 3) := by decide +kernel
theorem dX8_wrongOrNot_8 : decode cX8_wrongOrNot 8 = .ok (.aload_n 0, 1) := by decide +kernel
theorem dX8_wrongOrNot_9 : decode cX8_wrongOrNot 9 = .ok (.iload_n 1, 1) := by decide +kernel
theorem dX8_wrongOrNot_10 : decode cX8_wrongOrNot 10 = .ok (.invokevirtual 137, 3) := by decide +kernel
theorem dX8_wrongOrNot_13 : decode cX8_wrongOrNot 13 = .ok (.goto 23, 3) := by decide +kernel
theorem dX8_wrongOrNot_16 : decode cX8_wrongOrNot 16 = .ok (.aload_n 0, 1) := by decide +kernel
theorem dX8_wrongOrNot_17 : decode cX8_wrongOrNot 17 = .ok (.aload_n 0, 1) := by decide +kernel
theorem dX8_wrongOrNot_18 : decode cX8_wrongOrNot 18 = .ok (.getfield 16, 3) := by decide +kernel
theorem dX8_wrongOrNot_21 : decode cX8_wrongOrNot 21 = .ok (.iload_n 1, 1) := by decide +kernel
theorem dX8_wrongOrNot_22 : decode cX8_wrongOrNot 22 = .ok (.laload, 1) := by decide +kernel
theorem dX8_wrongOrNot_23 : decode cX8_wrongOrNot 23 = .ok (.invokevirtual 144, 3) := by decide +kernel
theorem dX8_wrongOrNot_26 : decode cX8_wrongOrNot 26 = .ok (.iconst (-1), 1) := by decide +kernel
theorem dX8_wrongOrNot_27 : decode cX8_wrongOrNot 27 = .ok (.if_icmp .ne 7, 3) := by decide +kernel
theorem dX8_wrongOrNot_30 : decode cX8_wrongOrNot 30 = .ok (.iconst 0, 1) := by decide +kernel
theorem dX8_wrongOrNot_31 : decode cX8_wrongOrNot 31 = .ok (.goto 5, 3) := by decide +kernel
theorem dX8_wrongOrNot_34 : decode cX8_wrongOrNot 34 = .ok (.bipush (-4), 2) := by decide +kernel
theorem dX8_wrongOrNot_36 : decode cX8_wrongOrNot 36 = .ok (.ireturn, 1) := by decide +kernel
theorem dX8_primesOf_0 : decode cX8_primesOf 0 = .ok (.iconst 0, 1) := by decide +kernel
theorem dX8_primesOf_1 : decode cX8_primesOf 1 = .ok (.istore_n 3, 1) := by decide +kernel
theorem dX8_primesOf_2 : decode cX8_primesOf 2 = .ok (.iconst 0, 1) := by decide +kernel
theorem dX8_primesOf_3 : decode cX8_primesOf 3 = .ok (.istore 4, 2) := by decide +kernel
theorem dX8_primesOf_5 : decode cX8_primesOf 5 = .ok (.iload 4, 2) := by decide +kernel
theorem dX8_primesOf_7 : decode cX8_primesOf 7 = .ok (.aload_n 0, 1) := by decide +kernel
theorem dX8_primesOf_8 : decode cX8_primesOf 8 = .ok (.getfield 13, 3) := by decide +kernel
theorem dX8_primesOf_11 : decode cX8_primesOf 11 = .ok (.if_icmp .ge 27, 3) := by decide +kernel
theorem dX8_primesOf_14 : decode cX8_primesOf 14 = .ok (.iload_n 3, 1) := by decide +kernel
theorem dX8_primesOf_15 : decode cX8_primesOf 15 = .ok (.aload_n 0, 1) := by decide +kernel
theorem dX8_primesOf_16 : decode cX8_primesOf 16 = .ok (.lload_n 1, 1) := by decide +kernel
theorem dX8_primesOf_17 : decode cX8_primesOf 17 = .ok (.iload 4, 2) := by decide +kernel
theorem dX8_primesOf_19 : decode cX8_primesOf 19 = .ok (.invokevirtual 147, 3) := by decide +kernel
theorem dX8_primesOf_22 : decode cX8_primesOf 22 = .ok (.ifCond .eq 7, 3) := by decide +kernel
theorem dX8_primesOf_25 : decode cX8_primesOf 25 = .ok (.iconst 1, 1) := by decide +kernel
theorem dX8_primesOf_26 : decode cX8_primesOf 26 = .ok (.goto 4, 3) := by decide +kernel
theorem dX8_primesOf_29 : decode cX8_primesOf 29 = .ok (.iconst 0, 1) := by decide +kernel
theorem dX8_primesOf_30 : decode cX8_primesOf 30 = .ok (.iadd, 1) := by decide +kernel
theorem dX8_primesOf_31 : decode cX8_primesOf 31 = .ok (.istore_n 3, 1) := by decide +kernel
theorem dX8_primesOf_32 : decode cX8_primesOf 32 = .ok (.iinc 4 1, 3) := by decide +kernel
theorem dX8_primesOf_35 : decode cX8_primesOf 35 = .ok (.goto (-30), 3) := by decide +kernel
theorem dX8_primesOf_38 : decode cX8_primesOf 38 = .ok (.iload_n 3, 1) := by decide +kernel
theorem dX8_primesOf_39 : decode cX8_primesOf 39 = .ok (.ireturn, 1) := by decide +kernel
theorem dX8_primeOf_0 : decode cX8_primeOf 0 = .ok (.iconst 0, 1) := by decide +kernel
theorem dX8_primeOf_1 : decode cX8_primeOf 1 = .ok (.istore 4, 2) := by decide +kernel
theorem dX8_primeOf_3 : decode cX8_primeOf 3 = .ok (.iconst 0, 1) := by decide +kernel
theorem dX8_primeOf_4 : decode cX8_primeOf 4 = .ok (.istore 5, 2) := by decide +kernel
theorem dX8_primeOf_6 : decode cX8_primeOf 6 = .ok (.iload 5, 2) := by decide +kernel
theorem dX8_primeOf_8 : decode cX8_primeOf 8 = .ok (.aload_n 0, 1) := by decide +kernel
theorem dX8_primeOf_9 : decode cX8_primeOf 9 = .ok (.getfield 13, 3) := by decide +kernel
theorem dX8_primeOf_12 : decode cX8_primeOf 12 = .ok (.if_icmp .ge 34, 3) := by decide +kernel
theorem dX8_primeOf_15 : decode cX8_primeOf 15 = .ok (.aload_n 0, 1) := by decide +kernel
theorem dX8_primeOf_16 : decode cX8_primeOf 16 = .ok (.lload_n 1, 1) := by decide +kernel
theorem dX8_primeOf_17 : decode cX8_primeOf 17 = .ok (.iload 5, 2) := by decide +kernel
theorem dX8_primeOf_19 : decode cX8_primeOf 19 = .ok (.invokevirtual 147, 3) := by decide +kernel
theorem dX8_primeOf_22 : decode cX8_primeOf 22 = .ok (.ifCond .ne 6, 3) := by decide +kernel
theorem dX8_primeOf_25 : decode cX8_primeOf 25 = .ok (.goto 15, 3) := by decide +kernel
theorem dX8_primeOf_28 : decode cX8_primeOf 28 = .ok (.iload 4, 2) := by decide +kernel
theorem dX8_primeOf_30 : decode cX8_primeOf 30 = .ok (.iload_n 3, 1) := by decide +kernel
theorem dX8_primeOf_31 : decode cX8_primeOf 31 = .ok (.if_icmp .ne 6, 3) := by decide +kernel
theorem dX8_primeOf_34 : decode cX8_primeOf 34 = .ok (.iload 5, 2) := by decide +kernel
theorem dX8_primeOf_36 : decode cX8_primeOf 36 = .ok (.ireturn, 1) := by decide +kernel
theorem dX8_primeOf_37 : decode cX8_primeOf 37 = .ok (.iinc 4 1, 3) := by decide +kernel
theorem dX8_primeOf_40 : decode cX8_primeOf 40 = .ok (.iinc 5 1, 3) := by decide +kernel
theorem dX8_primeOf_43 : decode cX8_primeOf 43 = .ok (.goto (-37), 3) := by decide +kernel
theorem dX8_primeOf_46 : decode cX8_primeOf 46 = .ok (.iconst (-1), 1) := by decide +kernel
theorem dX8_primeOf_47 : decode cX8_primeOf 47 = .ok (.ireturn, 1) := by decide +kernel
theorem dX8_primeImplicants_0 : decode cX8_primeImplicants 0 = .ok (.aload_n 0, 1) := by decide +kernel
theorem dX8_primeImplicants_1 : decode cX8_primeImplicants 1 = .ok (.iload_n 1, 1) := by decide +kernel
theorem dX8_primeImplicants_2 : decode cX8_primeImplicants 2 = .ok (.invokevirtual 150, 3) := by decide +kernel
theorem dX8_primeImplicants_5 : decode cX8_primeImplicants 5 = .ok (.istore_n 2, 1) := by decide +kernel
theorem dX8_primeImplicants_6 : decode cX8_primeImplicants 6 = .ok (.iload_n 2, 1) := by decide +kernel
theorem dX8_primeImplicants_7 : decode cX8_primeImplicants 7 = .ok (.ifCond .eq 7, 3) := by decide +kernel
theorem dX8_primeImplicants_10 : decode cX8_primeImplicants 10 = .ok (.iload_n 2, 1) := by decide +kernel
theorem dX8_primeImplicants_11 : decode cX8_primeImplicants 11 = .ok (.goto 13, 3) := by decide +kernel
theorem dX8_primeImplicants_14 : decode cX8_primeImplicants 14 = .ok (.aload_n 0, 1) := by decide +kernel
theorem dX8_primeImplicants_15 : decode cX8_primeImplicants 15 = .ok (.aload_n 0, 1) := by decide +kernel
theorem dX8_primeImplicants_16 : decode cX8_primeImplicants 16 = .ok (.getfield 16, 3) := by decide +kernel
theorem dX8_primeImplicants_19 : decode cX8_primeImplicants 19 = .ok (.iload_n 1, 1) := by decide +kernel
theorem dX8_primeImplicants_20 : decode cX8_primeImplicants 20 = .ok (.laload, 1) := by decide +kernel
theorem dX8_primeImplicants_21 : decode cX8_primeImplicants 21 = .ok (.invokevirtual 153, 3) := by decide +kernel
theorem dX8_primeImplicants_24 : decode cX8_primeImplicants 24 = .ok (.ireturn, 1) := by decide +kernel
theorem dX8_primeImplicant_0 : decode cX8_primeImplicant 0 = .ok (.aload_n 0, 1) := by decide +kernel
theorem dX8_primeImplicant_1 : decode cX8_primeImplicant 1 = .ok (.iload_n 1, 1) := by decide +kernel
theorem dX8_primeImplicant_2 : decode cX8_primeImplicant 2 = .ok (.invokevirtual 150, 3) := by decide +kernel
theorem dX8_primeImplicant_5 : decode cX8_primeImplicant 5 = .ok (.istore_n 3, 1) := by decide +kernel
theorem dX8_primeImplicant_6 : decode cX8_primeImplicant 6 = .ok (.iload_n 3, 1) := by decide +kernel
theorem dX8_primeImplicant_7 : decode cX8_primeImplicant 7 = .ok (.ifCond .eq 7, 3) := by decide +kernel
theorem dX8_primeImplicant_10 : decode cX8_primeImplicant 10 = .ok (.iload_n 3, 1) := by decide +kernel
theorem dX8_primeImplicant_11 : decode cX8_primeImplicant 11 = .ok (.goto 14, 3) := by decide +kernel
theorem dX8_primeImplicant_14 : decode cX8_primeImplicant 14 = .ok (.aload_n 0, 1) := by decide +kernel
theorem dX8_primeImplicant_15 : decode cX8_primeImplicant 15 = .ok (.aload_n 0, 1) := by decide +kernel
theorem dX8_primeImplicant_16 : decode cX8_primeImplicant 16 = .ok (.getfield 16, 3) := by decide +kernel
theorem dX8_primeImplicant_19 : decode cX8_primeImplicant 19 = .ok (.iload_n 1, 1) := by decide +kernel
theorem dX8_primeImplicant_20 : decode cX8_primeImplicant 20 = .ok (.laload, 1) := by decide +kernel
theorem dX8_primeImplicant_21 : decode cX8_primeImplicant 21 = .ok (.iload_n 2, 1) := by decide +kernel
theorem dX8_primeImplicant_22 : decode cX8_primeImplicant 22 = .ok (.invokevirtual 156, 3) := by decide +kernel
theorem dX8_primeImplicant_25 : decode cX8_primeImplicant 25 = .ok (.ireturn, 1) := by decide +kernel
theorem dX8_graph_0 : decode cX8_graph 0 = .ok (.aload_n 0, 1) := by decide +kernel
theorem dX8_graph_1 : decode cX8_graph 1 = .ok (.aload_n 0, 1) := by decide +kernel
theorem dX8_graph_2 : decode cX8_graph 2 = .ok (.lload_n 1, 1) := by decide +kernel
theorem dX8_graph_3 : decode cX8_graph 3 = .ok (.invokevirtual 141, 3) := by decide +kernel
theorem dX8_graph_6 : decode cX8_graph 6 = .ok (.putfield 160, 3) := by decide +kernel
theorem dX8_graph_9 : decode cX8_graph 9 = .ok (.iconst 0, 1) := by decide +kernel
theorem dX8_graph_10 : decode cX8_graph 10 = .ok (.istore_n 3, 1) := by decide +kernel
theorem dX8_graph_11 : decode cX8_graph 11 = .ok (.iload_n 3, 1) := by decide +kernel
theorem dX8_graph_12 : decode cX8_graph 12 = .ok (.iconst 5, 1) := by decide +kernel
theorem dX8_graph_13 : decode cX8_graph 13 = .ok (.if_icmp .ge 16, 3) := by decide +kernel
theorem dX8_graph_16 : decode cX8_graph 16 = .ok (.aload_n 0, 1) := by decide +kernel
theorem dX8_graph_17 : decode cX8_graph 17 = .ok (.getfield 61, 3) := by decide +kernel
theorem dX8_graph_20 : decode cX8_graph 20 = .ok (.iload_n 3, 1) := by decide +kernel
theorem dX8_graph_21 : decode cX8_graph 21 = .ok (.iconst 0, 1) := by decide +kernel
theorem dX8_graph_22 : decode cX8_graph 22 = .ok (.iastore, 1) := by decide +kernel
theorem dX8_graph_23 : decode cX8_graph 23 = .ok (.iinc 3 1, 3) := by decide +kernel
theorem dX8_graph_26 : decode cX8_graph 26 = .ok (.goto (-15), 3) := by decide +kernel
theorem dX8_graph_29 : decode cX8_graph 29 = .ok (.iconst 0, 1) := by decide +kernel
theorem dX8_graph_30 : decode cX8_graph 30 = .ok (.istore_n 3, 1) := by decide +kernel
theorem dX8_graph_31 : decode cX8_graph 31 = .ok (.iload_n 3, 1) := by decide +kernel
theorem dX8_graph_32 : decode cX8_graph 32 = .ok (.aload_n 0, 1) := by decide +kernel
theorem dX8_graph_33 : decode cX8_graph 33 = .ok (.getfield 13, 3) := by decide +kernel
theorem dX8_graph_36 : decode cX8_graph 36 = .ok (.if_icmp .ge 71, 3) := by decide +kernel
theorem dX8_graph_39 : decode cX8_graph 39 = .ok (.aload_n 0, 1) := by decide +kernel
theorem dX8_graph_40 : decode cX8_graph 40 = .ok (.lload_n 1, 1) := by decide +kernel
theorem dX8_graph_41 : decode cX8_graph 41 = .ok (.iload_n 3, 1) := by decide +kernel
theorem dX8_graph_42 : decode cX8_graph 42 = .ok (.invokevirtual 147, 3) := by decide +kernel
theorem dX8_graph_45 : decode cX8_graph 45 = .ok (.ifCond .ne 6, 3) := by decide +kernel
theorem dX8_graph_48 : decode cX8_graph 48 = .ok (.goto 53, 3) := by decide +kernel
theorem dX8_graph_51 : decode cX8_graph 51 = .ok (.iconst 0, 1) := by decide +kernel
theorem dX8_graph_52 : decode cX8_graph 52 = .ok (.istore 4, 2) := by decide +kernel
theorem dX8_graph_54 : decode cX8_graph 54 = .ok (.iload 4, 2) := by decide +kernel
theorem dX8_graph_56 : decode cX8_graph 56 = .ok (.aload_n 0, 1) := by decide +kernel
theorem dX8_graph_57 : decode cX8_graph 57 = .ok (.getfield 7, 3) := by decide +kernel
theorem dX8_graph_60 : decode cX8_graph 60 = .ok (.if_icmp .ge 41, 3) := by decide +kernel
theorem dX8_graph_63 : decode cX8_graph 63 = .ok (.aload_n 0, 1) := by decide +kernel
theorem dX8_graph_64 : decode cX8_graph 64 = .ok (.getfield 61, 3) := by decide +kernel
theorem dX8_graph_67 : decode cX8_graph 67 = .ok (.iload 4, 2) := by decide +kernel
theorem dX8_graph_69 : decode cX8_graph 69 = .ok (.dup2, 1) := by decide +kernel
theorem dX8_graph_70 : decode cX8_graph 70 = .ok (.iaload, 1) := by decide +kernel
theorem dX8_graph_71 : decode cX8_graph 71 = .ok (.iload_n 3, 1) := by decide +kernel
theorem dX8_graph_72 : decode cX8_graph 72 = .ok (.iload 4, 2) := by decide +kernel
theorem dX8_graph_74 : decode cX8_graph 74 = .ok (.ishr, 1) := by decide +kernel
theorem dX8_graph_75 : decode cX8_graph 75 = .ok (.iconst 1, 1) := by decide +kernel
theorem dX8_graph_76 : decode cX8_graph 76 = .ok (.iand, 1) := by decide +kernel
theorem dX8_graph_77 : decode cX8_graph 77 = .ok (.iconst 1, 1) := by decide +kernel
theorem dX8_graph_78 : decode cX8_graph 78 = .ok (.if_icmp .ne 14, 3) := by decide +kernel
theorem dX8_graph_81 : decode cX8_graph 81 = .ok (.iload_n 3, 1) := by decide +kernel
theorem dX8_graph_82 : decode cX8_graph 82 = .ok (.iconst 1, 1) := by decide +kernel
theorem dX8_graph_83 : decode cX8_graph 83 = .ok (.iload 4, 2) := by decide +kernel
theorem dX8_graph_85 : decode cX8_graph 85 = .ok (.ishl, 1) := by decide +kernel
theorem dX8_graph_86 : decode cX8_graph 86 = .ok (.iconst (-1), 1) := by decide +kernel
theorem dX8_graph_87 : decode cX8_graph 87 = .ok (.ixor, 1) := by decide +kernel
theorem dX8_graph_88 : decode cX8_graph 88 = .ok (.iand, 1) := by decide +kernel
theorem dX8_graph_89 : decode cX8_graph 89 = .ok (.goto 4, 3) := by decide +kernel
theorem dX8_graph_92 : decode cX8_graph 92 = .ok (.iconst 0, 1) := by decide +kernel
theorem dX8_graph_93 : decode cX8_graph 93 = .ok (.ior, 1) := by decide +kernel
theorem dX8_graph_94 : decode cX8_graph 94 = .ok (.iastore, 1) := by decide +kernel
theorem dX8_graph_95 : decode cX8_graph 95 = .ok (.iinc 4 1, 3) := by decide +kernel
theorem dX8_graph_98 : decode cX8_graph 98 = .ok (.goto (-44), 3) := by decide +kernel
theorem dX8_graph_101 : decode cX8_graph 101 = .ok (.iinc 3 1, 3) := by decide +kernel
theorem dX8_graph_104 : decode cX8_graph 104 = .ok (.goto (-73), 3) := by decide +kernel
theorem dX8_graph_107 : decode cX8_graph 107 = .ok (.return_, 1) := by decide +kernel
theorem dX8_areNear_0 : decode cX8_areNear 0 = .ok (.aload_n 0, 1) := by decide +kernel
theorem dX8_areNear_1 : decode cX8_areNear 1 = .ok (.getfield 61, 3) := by decide +kernel
theorem dX8_areNear_4 : decode cX8_areNear 4 = .ok (.iload_n 1, 1) := by decide +kernel
theorem dX8_areNear_5 : decode cX8_areNear 5 = .ok (.iaload, 1) := by decide +kernel
theorem dX8_areNear_6 : decode cX8_areNear 6 = .ok (.iload_n 2, 1) := by decide +kernel
theorem dX8_areNear_7 : decode cX8_areNear 7 = .ok (.ishr, 1) := by decide +kernel
theorem dX8_areNear_8 : decode cX8_areNear 8 = .ok (.iconst 1, 1) := by decide +kernel
theorem dX8_areNear_9 : decode cX8_areNear 9 = .ok (.iand, 1) := by decide +kernel
theorem dX8_areNear_10 : decode cX8_areNear 10 = .ok (.iconst 1, 1) := by decide +kernel
theorem dX8_areNear_11 : decode cX8_areNear 11 = .ok (.if_icmp .ne 7, 3) := by decide +kernel
theorem dX8_areNear_14 : decode cX8_areNear 14 = .ok (.iconst 1, 1) := by decide +kernel
theorem dX8_areNear_15 : decode cX8_areNear 15 = .ok (.goto 4, 3) := by decide +kernel
theorem dX8_areNear_18 : decode cX8_areNear 18 = .ok (.iconst 0, 1) := by decide +kernel
theorem dX8_areNear_19 : decode cX8_areNear 19 = .ok (.ireturn, 1) := by decide +kernel
theorem dX8_neighbors_0 : decode cX8_neighbors 0 = .ok (.iload_n 1, 1) := by decide +kernel
theorem dX8_neighbors_1 : decode cX8_neighbors 1 = .ok (.invokestatic 118, 3) := by decide +kernel
theorem dX8_neighbors_4 : decode cX8_neighbors 4 = .ok (.ifCond .eq 11, 3) := by decide +kernel
theorem dX8_neighbors_7 : decode cX8_neighbors 7 = .ok (.aload_n 0, 1) := by decide +kernel
theorem dX8_neighbors_8 : decode cX8_neighbors 8 = .ok (.iload_n 2, 1) := by decide +kernel
theorem dX8_neighbors_9 : decode cX8_neighbors 9 = .ok (.invokevirtual 163, 3) := by decide +kernel
theorem dX8_neighbors_12 : decode cX8_neighbors 12 = .ok (.ifCond .ne 6, 3) := by decide +kernel
theorem dX8_neighbors_15 : decode cX8_neighbors 15 = .ok (.bipush (-2), 2) := by decide +kernel
theorem dX8_neighbors_17 : decode cX8_neighbors 17 = .ok (.ireturn, 1) := by decide +kernel
theorem dX8_neighbors_18 : decode cX8_neighbors 18 = .ok (.aload_n 0, 1) := by decide +kernel
theorem dX8_neighbors_19 : decode cX8_neighbors 19 = .ok (.iload_n 1, 1) := by decide +kernel
theorem dX8_neighbors_20 : decode cX8_neighbors 20 = .ok (.invokevirtual 150, 3) := by decide +kernel
theorem dX8_neighbors_23 : decode cX8_neighbors 23 = .ok (.istore_n 3, 1) := by decide +kernel
theorem dX8_neighbors_24 : decode cX8_neighbors 24 = .ok (.iload_n 3, 1) := by decide +kernel
theorem dX8_neighbors_25 : decode cX8_neighbors 25 = .ok (.ifCond .eq 5, 3) := by decide +kernel
theorem dX8_neighbors_28 : decode cX8_neighbors 28 = .ok (.iload_n 3, 1) := by decide +kernel
theorem dX8_neighbors_29 : decode cX8_neighbors 29 = .ok (.ireturn, 1) := by decide +kernel
theorem dX8_neighbors_30 : decode cX8_neighbors 30 = .ok (.aload_n 0, 1) := by decide +kernel
theorem dX8_neighbors_31 : decode cX8_neighbors 31 = .ok (.aload_n 0, 1) := by decide +kernel
theorem dX8_neighbors_32 : decode cX8_neighbors 32 = .ok (.getfield 16, 3) := by decide +kernel
theorem dX8_neighbors_35 : decode cX8_neighbors 35 = .ok (.iload_n 1, 1) := by decide +kernel
theorem dX8_neighbors_36 : decode cX8_neighbors 36 = .ok (.laload, 1) := by decide +kernel
theorem dX8_neighbors_37 : decode cX8_neighbors 37 = .ok (.invokevirtual 166, 3) := by decide +kernel
theorem dX8_neighbors_40 : decode cX8_neighbors 40 = .ok (.aload_n 0, 1) := by decide +kernel
theorem dX8_neighbors_41 : decode cX8_neighbors 41 = .ok (.getfield 61, 3) := by decide +kernel
theorem dX8_neighbors_44 : decode cX8_neighbors 44 = .ok (.iload_n 2, 1) := by decide +kernel
theorem dX8_neighbors_45 : decode cX8_neighbors 45 = .ok (.iaload, 1) := by decide +kernel
theorem dX8_neighbors_46 : decode cX8_neighbors 46 = .ok (.ireturn, 1) := by decide +kernel
theorem dX8_path_0 : decode cX8_path 0 = .ok (.iconst 0, 1) := by decide +kernel
theorem dX8_path_1 : decode cX8_path 1 = .ok (.istore_n 1, 1) := by decide +kernel
theorem dX8_path_2 : decode cX8_path 2 = .ok (.iload_n 1, 1) := by decide +kernel
theorem dX8_path_3 : decode cX8_path 3 = .ok (.sipush 625, 3) := by decide +kernel
theorem dX8_path_6 : decode cX8_path 6 = .ok (.if_icmp .ge 143, 3) := by decide +kernel
theorem dX8_path_9 : decode cX8_path 9 = .ok (.iload_n 1, 1) := by decide +kernel
theorem dX8_path_10 : decode cX8_path 10 = .ok (.bipush 125, 2) := by decide +kernel
theorem dX8_path_12 : decode cX8_path 12 = .ok (.idiv, 1) := by decide +kernel
theorem dX8_path_13 : decode cX8_path 13 = .ok (.istore_n 2, 1) := by decide +kernel
theorem dX8_path_14 : decode cX8_path 14 = .ok (.iload_n 1, 1) := by decide +kernel
theorem dX8_path_15 : decode cX8_path 15 = .ok (.bipush 25, 2) := by decide +kernel
theorem dX8_path_17 : decode cX8_path 17 = .ok (.idiv, 1) := by decide +kernel
theorem dX8_path_18 : decode cX8_path 18 = .ok (.iconst 5, 1) := by decide +kernel
theorem dX8_path_19 : decode cX8_path 19 = .ok (.irem, 1) := by decide +kernel
theorem dX8_path_20 : decode cX8_path 20 = .ok (.istore_n 3, 1) := by decide +kernel
theorem dX8_path_21 : decode cX8_path 21 = .ok (.iload_n 1, 1) := by decide +kernel
theorem dX8_path_22 : decode cX8_path 22 = .ok (.iconst 5, 1) := by decide +kernel
theorem dX8_path_23 : decode cX8_path 23 = .ok (.idiv, 1) := by decide +kernel
theorem dX8_path_24 : decode cX8_path 24 = .ok (.iconst 5, 1) := by decide +kernel
theorem dX8_path_25 : decode cX8_path 25 = .ok (.irem, 1) := by decide +kernel
theorem dX8_path_26 : decode cX8_path 26 = .ok (.istore 4, 2) := by decide +kernel
theorem dX8_path_28 : decode cX8_path 28 = .ok (.iload_n 1, 1) := by decide +kernel
theorem dX8_path_29 : decode cX8_path 29 = .ok (.iconst 5, 1) := by decide +kernel
theorem dX8_path_30 : decode cX8_path 30 = .ok (.irem, 1) := by decide +kernel
theorem dX8_path_31 : decode cX8_path 31 = .ok (.istore 5, 2) := by decide +kernel
theorem dX8_path_33 : decode cX8_path 33 = .ok (.iload_n 2, 1) := by decide +kernel
theorem dX8_path_34 : decode cX8_path 34 = .ok (.iload_n 3, 1) := by decide +kernel
theorem dX8_path_35 : decode cX8_path 35 = .ok (.if_icmp .eq 38, 3) := by decide +kernel
theorem dX8_path_38 : decode cX8_path 38 = .ok (.iload_n 2, 1) := by decide +kernel
theorem dX8_path_39 : decode cX8_path 39 = .ok (.iload 4, 2) := by decide +kernel
theorem dX8_path_41 : decode cX8_path 41 = .ok (.if_icmp .eq 32, 3) := by decide +kernel
theorem dX8_path_44 : decode cX8_path 44 = .ok (.iload_n 2, 1) := by decide +kernel
theorem dX8_path_45 : decode cX8_path 45 = .ok (.iload 5, 2) := by decide +kernel
theorem dX8_path_47 : decode cX8_path 47 = .ok (.if_icmp .eq 26, 3) := by decide +kernel
theorem dX8_path_50 : decode cX8_path 50 = .ok (.iload_n 3, 1) := by decide +kernel
theorem dX8_path_51 : decode cX8_path 51 = .ok (.iload 4, 2) := by decide +kernel
theorem dX8_path_53 : decode cX8_path 53 = .ok (.if_icmp .eq 20, 3) := by decide +kernel
theorem dX8_path_56 : decode cX8_path 56 = .ok (.iload_n 3, 1) := by decide +kernel
theorem dX8_path_57 : decode cX8_path 57 = .ok (.iload 5, 2) := by decide +kernel
theorem dX8_path_59 : decode cX8_path 59 = .ok (.if_icmp .eq 14, 3) := by decide +kernel
theorem dX8_path_62 : decode cX8_path 62 = .ok (.iload 4, 2) := by decide +kernel
theorem dX8_path_64 : decode cX8_path 64 = .ok (.iload 5, 2) := by decide +kernel
theorem dX8_path_66 : decode cX8_path 66 = .ok (.if_icmp .eq 7, 3) := by decide +kernel
theorem dX8_path_69 : decode cX8_path 69 = .ok (.iconst 1, 1) := by decide +kernel
theorem dX8_path_70 : decode cX8_path 70 = .ok (.goto 4, 3) := by decide +kernel
theorem dX8_path_73 : decode cX8_path 73 = .ok (.iconst 0, 1) := by decide +kernel
theorem dX8_path_74 : decode cX8_path 74 = .ok (.istore 6, 2) := by decide +kernel
theorem dX8_path_76 : decode cX8_path 76 = .ok (.iload 6, 2) := by decide +kernel
theorem dX8_path_78 : decode cX8_path 78 = .ok (.ifCond .eq 65, 3) := by decide +kernel
theorem dX8_path_81 : decode cX8_path 81 = .ok (.aload_n 0, 1) := by decide +kernel
theorem dX8_path_82 : decode cX8_path 82 = .ok (.iload_n 2, 1) := by decide +kernel
theorem dX8_path_83 : decode cX8_path 83 = .ok (.iload_n 3, 1) := by decide +kernel
theorem dX8_path_84 : decode cX8_path 84 = .ok (.invokevirtual 170, 3) := by decide +kernel
theorem dX8_path_87 : decode cX8_path 87 = .ok (.ifCond .eq 56, 3) := by decide +kernel
theorem dX8_path_90 : decode cX8_path 90 = .ok (.aload_n 0, 1) := by decide +kernel
theorem dX8_path_91 : decode cX8_path 91 = .ok (.iload_n 3, 1) := by decide +kernel
theorem dX8_path_92 : decode cX8_path 92 = .ok (.iload 4, 2) := by decide +kernel
theorem dX8_path_94 : decode cX8_path 94 = .ok (.invokevirtual 170, 3) := by decide +kernel
theorem dX8_path_97 : decode cX8_path 97 = .ok (.ifCond .eq 46, 3) := by decide +kernel
theorem dX8_path_100 : decode cX8_path 100 = .ok (.aload_n 0, 1) := by decide +kernel
theorem dX8_path_101 : decode cX8_path 101 = .ok (.iload 4, 2) := by decide +kernel
theorem dX8_path_103 : decode cX8_path 103 = .ok (.iload 5, 2) := by decide +kernel
theorem dX8_path_105 : decode cX8_path 105 = .ok (.invokevirtual 170, 3) := by decide +kernel
theorem dX8_path_108 : decode cX8_path 108 = .ok (.ifCond .eq 35, 3) := by decide +kernel
theorem dX8_path_111 : decode cX8_path 111 = .ok (.aload_n 0, 1) := by decide +kernel
theorem dX8_path_112 : decode cX8_path 112 = .ok (.iload_n 2, 1) := by decide +kernel
theorem dX8_path_113 : decode cX8_path 113 = .ok (.iload 4, 2) := by decide +kernel
theorem dX8_path_115 : decode cX8_path 115 = .ok (.invokevirtual 170, 3) := by decide +kernel
theorem dX8_path_118 : decode cX8_path 118 = .ok (.ifCond .ne 25, 3) := by decide +kernel
theorem dX8_path_121 : decode cX8_path 121 = .ok (.aload_n 0, 1) := by decide +kernel
theorem dX8_path_122 : decode cX8_path 122 = .ok (.iload_n 2, 1) := by decide +kernel
theorem dX8_path_123 : decode cX8_path 123 = .ok (.iload 5, 2) := by decide +kernel
theorem dX8_path_125 : decode cX8_path 125 = .ok (.invokevirtual 170, 3) := by decide +kernel
theorem dX8_path_128 : decode cX8_path 128 = .ok (.ifCond .ne 15, 3) := by decide +kernel
theorem dX8_path_131 : decode cX8_path 131 = .ok (.aload_n 0, 1) := by decide +kernel
theorem dX8_path_132 : decode cX8_path 132 = .ok (.iload_n 3, 1) := by decide +kernel
theorem dX8_path_133 : decode cX8_path 133 = .ok (.iload 5, 2) := by decide +kernel
theorem dX8_path_135 : decode cX8_path 135 = .ok (.invokevirtual 170, 3) := by decide +kernel
theorem dX8_path_138 : decode cX8_path 138 = .ok (.ifCond .ne 5, 3) := by decide +kernel
theorem dX8_path_141 : decode cX8_path 141 = .ok (.iload_n 1, 1) := by decide +kernel
theorem dX8_path_142 : decode cX8_path 142 = .ok (.ireturn, 1) := by decide +kernel
theorem dX8_path_143 : decode cX8_path 143 = .ok (.iinc 1 1, 3) := by decide +kernel
theorem dX8_path_146 : decode cX8_path 146 = .ok (.goto (-144), 3) := by decide +kernel
theorem dX8_path_149 : decode cX8_path 149 = .ok (.iconst (-1), 1) := by decide +kernel
theorem dX8_path_150 : decode cX8_path 150 = .ok (.ireturn, 1) := by decide +kernel
theorem dX8_inducedPath_0 : decode cX8_inducedPath 0 = .ok (.iload_n 1, 1) := by decide +kernel
theorem dX8_inducedPath_1 : decode cX8_inducedPath 1 = .ok (.invokestatic 118, 3) := by decide +kernel
theorem dX8_inducedPath_4 : decode cX8_inducedPath 4 = .ok (.ifCond .eq 15, 3) := by decide +kernel
theorem dX8_inducedPath_7 : decode cX8_inducedPath 7 = .ok (.iload_n 2, 1) := by decide +kernel
theorem dX8_inducedPath_8 : decode cX8_inducedPath 8 = .ok (.i2l, 1) := by decide +kernel
theorem dX8_inducedPath_9 : decode cX8_inducedPath 9 = .ok (.lconst 0, 1) := by decide +kernel
theorem dX8_inducedPath_10 : decode cX8_inducedPath 10 = .ok (.ldc2_w 174, 3) := by decide +kernel
theorem dX8_inducedPath_13 : decode cX8_inducedPath 13 = .ok (.invokestatic 87, 3) := by decide +kernel
theorem dX8_inducedPath_16 : decode cX8_inducedPath 16 = .ok (.ifCond .ne 6, 3) := by decide +kernel
theorem dX8_inducedPath_19 : decode cX8_inducedPath 19 = .ok (.bipush (-2), 2) := by decide +kernel
theorem dX8_inducedPath_21 : decode cX8_inducedPath 21 = .ok (.ireturn, 1) := by decide +kernel
theorem dX8_inducedPath_22 : decode cX8_inducedPath 22 = .ok (.aload_n 0, 1) := by decide +kernel
theorem dX8_inducedPath_23 : decode cX8_inducedPath 23 = .ok (.iload_n 1, 1) := by decide +kernel
theorem dX8_inducedPath_24 : decode cX8_inducedPath 24 = .ok (.invokevirtual 150, 3) := by decide +kernel
theorem dX8_inducedPath_27 : decode cX8_inducedPath 27 = .ok (.istore_n 3, 1) := by decide +kernel
theorem dX8_inducedPath_28 : decode cX8_inducedPath 28 = .ok (.iload_n 3, 1) := by decide +kernel
theorem dX8_inducedPath_29 : decode cX8_inducedPath 29 = .ok (.ifCond .eq 5, 3) := by decide +kernel
theorem dX8_inducedPath_32 : decode cX8_inducedPath 32 = .ok (.iload_n 3, 1) := by decide +kernel
theorem dX8_inducedPath_33 : decode cX8_inducedPath 33 = .ok (.ireturn, 1) := by decide +kernel
theorem dX8_inducedPath_34 : decode cX8_inducedPath 34 = .ok (.aload_n 0, 1) := by decide +kernel
theorem dX8_inducedPath_35 : decode cX8_inducedPath 35 = .ok (.aload_n 0, 1) := by decide +kernel
theorem dX8_inducedPath_36 : decode cX8_inducedPath 36 = .ok (.getfield 16, 3) := by decide +kernel
theorem dX8_inducedPath_39 : decode cX8_inducedPath 39 = .ok (.iload_n 1, 1) := by decide +kernel
theorem dX8_inducedPath_40 : decode cX8_inducedPath 40 = .ok (.laload, 1) := by decide +kernel
theorem dX8_inducedPath_41 : decode cX8_inducedPath 41 = .ok (.invokevirtual 166, 3) := by decide +kernel
theorem dX8_inducedPath_44 : decode cX8_inducedPath 44 = .ok (.aload_n 0, 1) := by decide +kernel
theorem dX8_inducedPath_45 : decode cX8_inducedPath 45 = .ok (.invokevirtual 176, 3) := by decide +kernel
theorem dX8_inducedPath_48 : decode cX8_inducedPath 48 = .ok (.istore 4, 2) := by decide +kernel
theorem dX8_inducedPath_50 : decode cX8_inducedPath 50 = .ok (.iload 4, 2) := by decide +kernel
theorem dX8_inducedPath_52 : decode cX8_inducedPath 52 = .ok (.iconst (-1), 1) := by decide +kernel
theorem dX8_inducedPath_53 : decode cX8_inducedPath 53 = .ok (.if_icmp .ne 7, 3) := by decide +kernel
theorem dX8_inducedPath_56 : decode cX8_inducedPath 56 = .ok (.iconst (-1), 1) := by decide +kernel
theorem dX8_inducedPath_57 : decode cX8_inducedPath 57 = .ok (.goto 48, 3) := by decide +kernel
theorem dX8_inducedPath_60 : decode cX8_inducedPath 60 = .ok (.iload_n 2, 1) := by decide +kernel
theorem dX8_inducedPath_61 : decode cX8_inducedPath 61 = .ok (.ifCond .ne 11, 3) := by decide +kernel
theorem dX8_inducedPath_64 : decode cX8_inducedPath 64 = .ok (.iload 4, 2) := by decide +kernel
theorem dX8_inducedPath_66 : decode cX8_inducedPath 66 = .ok (.bipush 125, 2) := by decide +kernel
theorem dX8_inducedPath_68 : decode cX8_inducedPath 68 = .ok (.idiv, 1) := by decide +kernel
theorem dX8_inducedPath_69 : decode cX8_inducedPath 69 = .ok (.goto 36, 3) := by decide +kernel
theorem dX8_inducedPath_72 : decode cX8_inducedPath 72 = .ok (.iload_n 2, 1) := by decide +kernel
theorem dX8_inducedPath_73 : decode cX8_inducedPath 73 = .ok (.iconst 1, 1) := by decide +kernel
theorem dX8_inducedPath_74 : decode cX8_inducedPath 74 = .ok (.if_icmp .ne 13, 3) := by decide +kernel
theorem dX8_inducedPath_77 : decode cX8_inducedPath 77 = .ok (.iload 4, 2) := by decide +kernel
theorem dX8_inducedPath_79 : decode cX8_inducedPath 79 = .ok (.bipush 25, 2) := by decide +kernel
theorem dX8_inducedPath_81 : decode cX8_inducedPath 81 = .ok (.idiv, 1) := by decide +kernel
theorem dX8_inducedPath_82 : decode cX8_inducedPath 82 = .ok (.iconst 5, 1) := by decide +kernel
theorem dX8_inducedPath_83 : decode cX8_inducedPath 83 = .ok (.irem, 1) := by decide +kernel
theorem dX8_inducedPath_84 : decode cX8_inducedPath 84 = .ok (.goto 21, 3) := by decide +kernel
theorem dX8_inducedPath_87 : decode cX8_inducedPath 87 = .ok (.iload_n 2, 1) := by decide +kernel
theorem dX8_inducedPath_88 : decode cX8_inducedPath 88 = .ok (.iconst 2, 1) := by decide +kernel
theorem dX8_inducedPath_89 : decode cX8_inducedPath 89 = .ok (.if_icmp .ne 12, 3) := by decide +kernel
theorem dX8_inducedPath_92 : decode cX8_inducedPath 92 = .ok (.iload 4, 2) := by decide +kernel
theorem dX8_inducedPath_94 : decode cX8_inducedPath 94 = .ok (.iconst 5, 1) := by decide +kernel
theorem dX8_inducedPath_95 : decode cX8_inducedPath 95 = .ok (.idiv, 1) := by decide +kernel
theorem dX8_inducedPath_96 : decode cX8_inducedPath 96 = .ok (.iconst 5, 1) := by decide +kernel
theorem dX8_inducedPath_97 : decode cX8_inducedPath 97 = .ok (.irem, 1) := by decide +kernel
theorem dX8_inducedPath_98 : decode cX8_inducedPath 98 = .ok (.goto 7, 3) := by decide +kernel
theorem dX8_inducedPath_101 : decode cX8_inducedPath 101 = .ok (.iload 4, 2) := by decide +kernel
theorem dX8_inducedPath_103 : decode cX8_inducedPath 103 = .ok (.iconst 5, 1) := by decide +kernel
theorem dX8_inducedPath_104 : decode cX8_inducedPath 104 = .ok (.irem, 1) := by decide +kernel
theorem dX8_inducedPath_105 : decode cX8_inducedPath 105 = .ok (.ireturn, 1) := by decide +kernel
theorem dX8_isClique_0 : decode cX8_isClique 0 = .ok (.iconst 0, 1) := by decide +kernel
theorem dX8_isClique_1 : decode cX8_isClique 1 = .ok (.istore_n 2, 1) := by decide +kernel
theorem dX8_isClique_2 : decode cX8_isClique 2 = .ok (.iload_n 2, 1) := by decide +kernel
theorem dX8_isClique_3 : decode cX8_isClique 3 = .ok (.aload_n 0, 1) := by decide +kernel
theorem dX8_isClique_4 : decode cX8_isClique 4 = .ok (.getfield 7, 3) := by decide +kernel
theorem dX8_isClique_7 : decode cX8_isClique 7 = .ok (.if_icmp .ge 39, 3) := by decide +kernel
theorem dX8_isClique_10 : decode cX8_isClique 10 = .ok (.iload_n 1, 1) := by decide +kernel
theorem dX8_isClique_11 : decode cX8_isClique 11 = .ok (.iload_n 2, 1) := by decide +kernel
theorem dX8_isClique_12 : decode cX8_isClique 12 = .ok (.ishr, 1) := by decide +kernel
theorem dX8_isClique_13 : decode cX8_isClique 13 = .ok (.iconst 1, 1) := by decide +kernel
theorem dX8_isClique_14 : decode cX8_isClique 14 = .ok (.iand, 1) := by decide +kernel
theorem dX8_isClique_15 : decode cX8_isClique 15 = .ok (.iconst 1, 1) := by decide +kernel
theorem dX8_isClique_16 : decode cX8_isClique 16 = .ok (.if_icmp .ne 24, 3) := by decide +kernel
theorem dX8_isClique_19 : decode cX8_isClique 19 = .ok (.iload_n 1, 1) := by decide +kernel
theorem dX8_isClique_20 : decode cX8_isClique 20 = .ok (.iconst 1, 1) := by decide +kernel
theorem dX8_isClique_21 : decode cX8_isClique 21 = .ok (.iload_n 2, 1) := by decide +kernel
theorem dX8_isClique_22 : decode cX8_isClique 22 = .ok (.ishl, 1) := by decide +kernel
theorem dX8_isClique_23 : decode cX8_isClique 23 = .ok (.iconst (-1), 1) := by decide +kernel
theorem dX8_isClique_24 : decode cX8_isClique 24 = .ok (.ixor, 1) := by decide +kernel
theorem dX8_isClique_25 : decode cX8_isClique 25 = .ok (.iand, 1) := by decide +kernel
theorem dX8_isClique_26 : decode cX8_isClique 26 = .ok (.aload_n 0, 1) := by decide +kernel
theorem dX8_isClique_27 : decode cX8_isClique 27 = .ok (.getfield 61, 3) := by decide +kernel
theorem dX8_isClique_30 : decode cX8_isClique 30 = .ok (.iload_n 2, 1) := by decide +kernel
theorem dX8_isClique_31 : decode cX8_isClique 31 = .ok (.iaload, 1) := by decide +kernel
theorem dX8_isClique_32 : decode cX8_isClique 32 = .ok (.iconst (-1), 1) := by decide +kernel
theorem dX8_isClique_33 : decode cX8_isClique 33 = .ok (.ixor, 1) := by decide +kernel
theorem dX8_isClique_34 : decode cX8_isClique 34 = .ok (.iand, 1) := by decide +kernel
theorem dX8_isClique_35 : decode cX8_isClique 35 = .ok (.ifCond .eq 5, 3) := by decide +kernel
theorem dX8_isClique_38 : decode cX8_isClique 38 = .ok (.iconst 0, 1) := by decide +kernel
theorem dX8_isClique_39 : decode cX8_isClique 39 = .ok (.ireturn, 1) := by decide +kernel
theorem dX8_isClique_40 : decode cX8_isClique 40 = .ok (.iinc 2 1, 3) := by decide +kernel
theorem dX8_isClique_43 : decode cX8_isClique 43 = .ok (.goto (-41), 3) := by decide +kernel
theorem dX8_isClique_46 : decode cX8_isClique 46 = .ok (.iconst 1, 1) := by decide +kernel
theorem dX8_isClique_47 : decode cX8_isClique 47 = .ok (.ireturn, 1) := by decide +kernel
theorem dX8_isMaximal_0 : decode cX8_isMaximal 0 = .ok (.iconst 0, 1) := by decide +kernel
theorem dX8_isMaximal_1 : decode cX8_isMaximal 1 = .ok (.istore_n 2, 1) := by decide +kernel
theorem dX8_isMaximal_2 : decode cX8_isMaximal 2 = .ok (.iload_n 2, 1) := by decide +kernel
theorem dX8_isMaximal_3 : decode cX8_isMaximal 3 = .ok (.aload_n 0, 1) := by decide +kernel
theorem dX8_isMaximal_4 : decode cX8_isMaximal 4 = .ok (.getfield 7, 3) := by decide +kernel
theorem dX8_isMaximal_7 : decode cX8_isMaximal 7 = .ok (.if_icmp .ge 43, 3) := by decide +kernel
theorem dX8_isMaximal_10 : decode cX8_isMaximal 10 = .ok (.aload_n 0, 1) := by decide +kernel
theorem dX8_isMaximal_11 : decode cX8_isMaximal 11 = .ok (.getfield 160, 3) := by decide +kernel
theorem dX8_isMaximal_14 : decode cX8_isMaximal 14 = .ok (.iload_n 2, 1) := by decide +kernel
theorem dX8_isMaximal_15 : decode cX8_isMaximal 15 = .ok (.ishr, 1) := by decide +kernel
theorem dX8_isMaximal_16 : decode cX8_isMaximal 16 = .ok (.iconst 1, 1) := by decide +kernel
theorem dX8_isMaximal_17 : decode cX8_isMaximal 17 = .ok (.iand, 1) := by decide +kernel
theorem dX8_isMaximal_18 : decode cX8_isMaximal 18 = .ok (.iconst 1, 1) := by decide +kernel
theorem dX8_isMaximal_19 : decode cX8_isMaximal 19 = .ok (.if_icmp .ne 25, 3) := by decide +kernel
theorem dX8_isMaximal_22 : decode cX8_isMaximal 22 = .ok (.iload_n 1, 1) := by decide +kernel
theorem dX8_isMaximal_23 : decode cX8_isMaximal 23 = .ok (.iload_n 2, 1) := by decide +kernel
theorem dX8_isMaximal_24 : decode cX8_isMaximal 24 = .ok (.ishr, 1) := by decide +kernel
theorem dX8_isMaximal_25 : decode cX8_isMaximal 25 = .ok (.iconst 1, 1) := by decide +kernel
theorem dX8_isMaximal_26 : decode cX8_isMaximal 26 = .ok (.iand, 1) := by decide +kernel
theorem dX8_isMaximal_27 : decode cX8_isMaximal 27 = .ok (.ifCond .ne 17, 3) := by decide +kernel
theorem dX8_isMaximal_30 : decode cX8_isMaximal 30 = .ok (.aload_n 0, 1) := by decide +kernel
theorem dX8_isMaximal_31 : decode cX8_isMaximal 31 = .ok (.iload_n 1, 1) := by decide +kernel
theorem dX8_isMaximal_32 : decode cX8_isMaximal 32 = .ok (.iconst 1, 1) := by decide +kernel
theorem dX8_isMaximal_33 : decode cX8_isMaximal 33 = .ok (.iload_n 2, 1) := by decide +kernel
theorem dX8_isMaximal_34 : decode cX8_isMaximal 34 = .ok (.ishl, 1) := by decide +kernel
theorem dX8_isMaximal_35 : decode cX8_isMaximal 35 = .ok (.ior, 1) := by decide +kernel
theorem dX8_isMaximal_36 : decode cX8_isMaximal 36 = .ok (.invokevirtual 179, 3) := by decide +kernel
theorem dX8_isMaximal_39 : decode cX8_isMaximal 39 = .ok (.ifCond .eq 5, 3) := by decide +kernel
theorem dX8_isMaximal_42 : decode cX8_isMaximal 42 = .ok (.iconst 0, 1) := by decide +kernel
theorem dX8_isMaximal_43 : decode cX8_isMaximal 43 = .ok (.ireturn, 1) := by decide +kernel
theorem dX8_isMaximal_44 : decode cX8_isMaximal 44 = .ok (.iinc 2 1, 3) := by decide +kernel
theorem dX8_isMaximal_47 : decode cX8_isMaximal 47 = .ok (.goto (-45), 3) := by decide +kernel
theorem dX8_isMaximal_50 : decode cX8_isMaximal 50 = .ok (.iconst 1, 1) := by decide +kernel
theorem dX8_isMaximal_51 : decode cX8_isMaximal 51 = .ok (.ireturn, 1) := by decide +kernel
theorem dX8_badCliqueOf_0 : decode cX8_badCliqueOf 0 = .ok (.iconst 1, 1) := by decide +kernel
theorem dX8_badCliqueOf_1 : decode cX8_badCliqueOf 1 = .ok (.istore_n 3, 1) := by decide +kernel
theorem dX8_badCliqueOf_2 : decode cX8_badCliqueOf 2 = .ok (.iload_n 3, 1) := by decide +kernel
theorem dX8_badCliqueOf_3 : decode cX8_badCliqueOf 3 = .ok (.aload_n 0, 1) := by decide +kernel
theorem dX8_badCliqueOf_4 : decode cX8_badCliqueOf 4 = .ok (.getfield 13, 3) := by decide +kernel
theorem dX8_badCliqueOf_7 : decode cX8_badCliqueOf 7 = .ok (.if_icmp .ge 47, 3) := by decide +kernel
theorem dX8_badCliqueOf_10 : decode cX8_badCliqueOf 10 = .ok (.iload_n 3, 1) := by decide +kernel
theorem dX8_badCliqueOf_11 : decode cX8_badCliqueOf 11 = .ok (.aload_n 0, 1) := by decide +kernel
theorem dX8_badCliqueOf_12 : decode cX8_badCliqueOf 12 = .ok (.getfield 160, 3) := by decide +kernel
theorem dX8_badCliqueOf_15 : decode cX8_badCliqueOf 15 = .ok (.iconst (-1), 1) := by decide +kernel
theorem dX8_badCliqueOf_16 : decode cX8_badCliqueOf 16 = .ok (.ixor, 1) := by decide +kernel
theorem dX8_badCliqueOf_17 : decode cX8_badCliqueOf 17 = .ok (.iand, 1) := by decide +kernel
theorem dX8_badCliqueOf_18 : decode cX8_badCliqueOf 18 = .ok (.ifCond .ne 30, 3) := by decide +kernel
theorem dX8_badCliqueOf_21 : decode cX8_badCliqueOf 21 = .ok (.aload_n 0, 1) := by decide +kernel
theorem dX8_badCliqueOf_22 : decode cX8_badCliqueOf 22 = .ok (.iload_n 3, 1) := by decide +kernel
theorem dX8_badCliqueOf_23 : decode cX8_badCliqueOf 23 = .ok (.invokevirtual 179, 3) := by decide +kernel
theorem dX8_badCliqueOf_26 : decode cX8_badCliqueOf 26 = .ok (.ifCond .eq 22, 3) := by decide +kernel
theorem dX8_badCliqueOf_29 : decode cX8_badCliqueOf 29 = .ok (.aload_n 0, 1) := by decide +kernel
theorem dX8_badCliqueOf_30 : decode cX8_badCliqueOf 30 = .ok (.iload_n 3, 1) := by decide +kernel
theorem dX8_badCliqueOf_31 : decode cX8_badCliqueOf 31 = .ok (.invokevirtual 182, 3) := by decide +kernel
theorem dX8_badCliqueOf_34 : decode cX8_badCliqueOf 34 = .ok (.ifCond .eq 14, 3) := by decide +kernel
theorem dX8_badCliqueOf_37 : decode cX8_badCliqueOf 37 = .ok (.aload_n 0, 1) := by decide +kernel
theorem dX8_badCliqueOf_38 : decode cX8_badCliqueOf 38 = .ok (.lload_n 1, 1) := by decide +kernel
theorem dX8_badCliqueOf_39 : decode cX8_badCliqueOf 39 = .ok (.iload_n 3, 1) := by decide +kernel
theorem dX8_badCliqueOf_40 : decode cX8_badCliqueOf 40 = .ok (.invokevirtual 147, 3) := by decide +kernel
theorem dX8_badCliqueOf_43 : decode cX8_badCliqueOf 43 = .ok (.ifCond .ne 5, 3) := by decide +kernel
theorem dX8_badCliqueOf_46 : decode cX8_badCliqueOf 46 = .ok (.iload_n 3, 1) := by decide +kernel
theorem dX8_badCliqueOf_47 : decode cX8_badCliqueOf 47 = .ok (.ireturn, 1) := by decide +kernel
theorem dX8_badCliqueOf_48 : decode cX8_badCliqueOf 48 = .ok (.iinc 3 1, 3) := by decide +kernel
theorem dX8_badCliqueOf_51 : decode cX8_badCliqueOf 51 = .ok (.goto (-49), 3) := by decide +kernel
theorem dX8_badCliqueOf_54 : decode cX8_badCliqueOf 54 = .ok (.iconst (-1), 1) := by decide +kernel
theorem dX8_badCliqueOf_55 : decode cX8_badCliqueOf 55 = .ok (.ireturn, 1) := by decide +kernel
theorem dX8_badClique_0 : decode cX8_badClique 0 = .ok (.aload_n 0, 1) := by decide +kernel
theorem dX8_badClique_1 : decode cX8_badClique 1 = .ok (.iload_n 1, 1) := by decide +kernel
theorem dX8_badClique_2 : decode cX8_badClique 2 = .ok (.invokevirtual 150, 3) := by decide +kernel
theorem dX8_badClique_5 : decode cX8_badClique 5 = .ok (.istore_n 2, 1) := by decide +kernel
theorem dX8_badClique_6 : decode cX8_badClique 6 = .ok (.iload_n 2, 1) := by decide +kernel
theorem dX8_badClique_7 : decode cX8_badClique 7 = .ok (.ifCond .eq 5, 3) := by decide +kernel
theorem dX8_badClique_10 : decode cX8_badClique 10 = .ok (.iload_n 2, 1) := by decide +kernel
theorem dX8_badClique_11 : decode cX8_badClique 11 = .ok (.ireturn, 1) := by decide +kernel
theorem dX8_badClique_12 : decode cX8_badClique 12 = .ok (.aload_n 0, 1) := by decide +kernel
theorem dX8_badClique_13 : decode cX8_badClique 13 = .ok (.aload_n 0, 1) := by decide +kernel
theorem dX8_badClique_14 : decode cX8_badClique 14 = .ok (.getfield 16, 3) := by decide +kernel
theorem dX8_badClique_17 : decode cX8_badClique 17 = .ok (.iload_n 1, 1) := by decide +kernel
theorem dX8_badClique_18 : decode cX8_badClique 18 = .ok (.laload, 1) := by decide +kernel
theorem dX8_badClique_19 : decode cX8_badClique 19 = .ok (.invokevirtual 166, 3) := by decide +kernel
theorem dX8_badClique_22 : decode cX8_badClique 22 = .ok (.aload_n 0, 1) := by decide +kernel
theorem dX8_badClique_23 : decode cX8_badClique 23 = .ok (.aload_n 0, 1) := by decide +kernel
theorem dX8_badClique_24 : decode cX8_badClique 24 = .ok (.getfield 16, 3) := by decide +kernel
theorem dX8_badClique_27 : decode cX8_badClique 27 = .ok (.iload_n 1, 1) := by decide +kernel
theorem dX8_badClique_28 : decode cX8_badClique 28 = .ok (.laload, 1) := by decide +kernel
theorem dX8_badClique_29 : decode cX8_badClique 29 = .ok (.invokevirtual 185, 3) := by decide +kernel
theorem dX8_badClique_32 : decode cX8_badClique 32 = .ok (.ireturn, 1) := by decide +kernel
theorem dX8_reasonOf_0 : decode cX8_reasonOf 0 = .ok (.aload_n 0, 1) := by decide +kernel
theorem dX8_reasonOf_1 : decode cX8_reasonOf 1 = .ok (.lload_n 1, 1) := by decide +kernel
theorem dX8_reasonOf_2 : decode cX8_reasonOf 2 = .ok (.invokevirtual 144, 3) := by decide +kernel
theorem dX8_reasonOf_5 : decode cX8_reasonOf 5 = .ok (.iconst (-1), 1) := by decide +kernel
theorem dX8_reasonOf_6 : decode cX8_reasonOf 6 = .ok (.if_icmp .eq 5, 3) := by decide +kernel
theorem dX8_reasonOf_9 : decode cX8_reasonOf 9 = .ok (.iconst 1, 1) := by decide +kernel
theorem dX8_reasonOf_10 : decode cX8_reasonOf 10 = .ok (.ireturn, 1) := by decide +kernel
theorem dX8_reasonOf_11 : decode cX8_reasonOf 11 = .ok (.aload_n 0, 1) := by decide +kernel
theorem dX8_reasonOf_12 : decode cX8_reasonOf 12 = .ok (.lload_n 1, 1) := by decide +kernel
theorem dX8_reasonOf_13 : decode cX8_reasonOf 13 = .ok (.invokevirtual 166, 3) := by decide +kernel
theorem dX8_reasonOf_16 : decode cX8_reasonOf 16 = .ok (.aload_n 0, 1) := by decide +kernel
theorem dX8_reasonOf_17 : decode cX8_reasonOf 17 = .ok (.invokevirtual 176, 3) := by decide +kernel
theorem dX8_reasonOf_20 : decode cX8_reasonOf 20 = .ok (.iconst (-1), 1) := by decide +kernel
theorem dX8_reasonOf_21 : decode cX8_reasonOf 21 = .ok (.if_icmp .eq 7, 3) := by decide +kernel
theorem dX8_reasonOf_24 : decode cX8_reasonOf 24 = .ok (.iconst 2, 1) := by decide +kernel
theorem dX8_reasonOf_25 : decode cX8_reasonOf 25 = .ok (.goto 17, 3) := by decide +kernel
theorem dX8_reasonOf_28 : decode cX8_reasonOf 28 = .ok (.aload_n 0, 1) := by decide +kernel
theorem dX8_reasonOf_29 : decode cX8_reasonOf 29 = .ok (.lload_n 1, 1) := by decide +kernel
theorem dX8_reasonOf_30 : decode cX8_reasonOf 30 = .ok (.invokevirtual 185, 3) := by decide +kernel
theorem dX8_reasonOf_33 : decode cX8_reasonOf 33 = .ok (.iconst (-1), 1) := by decide +kernel
theorem dX8_reasonOf_34 : decode cX8_reasonOf 34 = .ok (.if_icmp .eq 7, 3) := by decide +kernel
theorem dX8_reasonOf_37 : decode cX8_reasonOf 37 = .ok (.iconst 3, 1) := by decide +kernel
theorem dX8_reasonOf_38 : decode cX8_reasonOf 38 = .ok (.goto 4, 3) := by decide +kernel
theorem dX8_reasonOf_41 : decode cX8_reasonOf 41 = .ok (.iconst 0, 1) := by decide +kernel
theorem dX8_reasonOf_42 : decode cX8_reasonOf 42 = .ok (.ireturn, 1) := by decide +kernel
theorem dX8_reason_0 : decode cX8_reason 0 = .ok (.aload_n 0, 1) := by decide +kernel
theorem dX8_reason_1 : decode cX8_reason 1 = .ok (.iload_n 1, 1) := by decide +kernel
theorem dX8_reason_2 : decode cX8_reason 2 = .ok (.invokevirtual 137, 3) := by decide +kernel
theorem dX8_reason_5 : decode cX8_reason 5 = .ok (.ifCond .eq 11, 3) := by decide +kernel
theorem dX8_reason_8 : decode cX8_reason 8 = .ok (.aload_n 0, 1) := by decide +kernel
theorem dX8_reason_9 : decode cX8_reason 9 = .ok (.iload_n 1, 1) := by decide +kernel
theorem dX8_reason_10 : decode cX8_reason 10 = .ok (.invokevirtual 137, 3) := by decide +kernel
theorem dX8_reason_13 : decode cX8_reason 13 = .ok (.goto 13, 3) := by decide +kernel
theorem dX8_reason_16 : decode cX8_reason 16 = .ok (.aload_n 0, 1) := by decide +kernel
theorem dX8_reason_17 : decode cX8_reason 17 = .ok (.aload_n 0, 1) := by decide +kernel
theorem dX8_reason_18 : decode cX8_reason 18 = .ok (.getfield 16, 3) := by decide +kernel
theorem dX8_reason_21 : decode cX8_reason 21 = .ok (.iload_n 1, 1) := by decide +kernel
theorem dX8_reason_22 : decode cX8_reason 22 = .ok (.laload, 1) := by decide +kernel
theorem dX8_reason_23 : decode cX8_reason 23 = .ok (.invokevirtual 188, 3) := by decide +kernel
theorem dX8_reason_26 : decode cX8_reason 26 = .ok (.ireturn, 1) := by decide +kernel
theorem dX8_component_0 : decode cX8_component 0 = .ok (.iconst 1, 1) := by decide +kernel
theorem dX8_component_1 : decode cX8_component 1 = .ok (.iload_n 2, 1) := by decide +kernel
theorem dX8_component_2 : decode cX8_component 2 = .ok (.ishl, 1) := by decide +kernel
theorem dX8_component_3 : decode cX8_component 3 = .ok (.istore 4, 2) := by decide +kernel
theorem dX8_component_5 : decode cX8_component 5 = .ok (.iconst 0, 1) := by decide +kernel
theorem dX8_component_6 : decode cX8_component 6 = .ok (.istore 5, 2) := by decide +kernel
theorem dX8_component_8 : decode cX8_component 8 = .ok (.iload 5, 2) := by decide +kernel
theorem dX8_component_10 : decode cX8_component 10 = .ok (.aload_n 0, 1) := by decide +kernel
theorem dX8_component_11 : decode cX8_component 11 = .ok (.getfield 7, 3) := by decide +kernel
theorem dX8_component_14 : decode cX8_component 14 = .ok (.if_icmp .ge 70, 3) := by decide +kernel
theorem dX8_component_17 : decode cX8_component 17 = .ok (.iconst 0, 1) := by decide +kernel
theorem dX8_component_18 : decode cX8_component 18 = .ok (.istore 6, 2) := by decide +kernel
theorem dX8_component_20 : decode cX8_component 20 = .ok (.iload 6, 2) := by decide +kernel
theorem dX8_component_22 : decode cX8_component 22 = .ok (.aload_n 0, 1) := by decide +kernel
theorem dX8_component_23 : decode cX8_component 23 = .ok (.getfield 7, 3) := by decide +kernel
theorem dX8_component_26 : decode cX8_component 26 = .ok (.if_icmp .ge 52, 3) := by decide +kernel
theorem dX8_component_29 : decode cX8_component 29 = .ok (.iload 4, 2) := by decide +kernel
theorem dX8_component_31 : decode cX8_component 31 = .ok (.iload 6, 2) := by decide +kernel
theorem dX8_component_33 : decode cX8_component 33 = .ok (.ishr, 1) := by decide +kernel
theorem dX8_component_34 : decode cX8_component 34 = .ok (.iconst 1, 1) := by decide +kernel
theorem dX8_component_35 : decode cX8_component 35 = .ok (.iand, 1) := by decide +kernel
theorem dX8_component_36 : decode cX8_component 36 = .ok (.ifCond .ne 6, 3) := by decide +kernel
theorem dX8_component_39 : decode cX8_component 39 = .ok (.goto 33, 3) := by decide +kernel
theorem dX8_component_42 : decode cX8_component 42 = .ok (.iload 4, 2) := by decide +kernel
theorem dX8_component_44 : decode cX8_component 44 = .ok (.iload_n 1, 1) := by decide +kernel
theorem dX8_component_45 : decode cX8_component 45 = .ok (.iload_n 3, 1) := by decide +kernel
theorem dX8_component_46 : decode cX8_component 46 = .ok (.ifCond .eq 15, 3) := by decide +kernel
theorem dX8_component_49 : decode cX8_component 49 = .ok (.aload_n 0, 1) := by decide +kernel
theorem dX8_component_50 : decode cX8_component 50 = .ok (.getfield 61, 3) := by decide +kernel
theorem dX8_component_53 : decode cX8_component 53 = .ok (.iload 6, 2) := by decide +kernel
theorem dX8_component_55 : decode cX8_component 55 = .ok (.iaload, 1) := by decide +kernel
theorem dX8_component_56 : decode cX8_component 56 = .ok (.iconst (-1), 1) := by decide +kernel
theorem dX8_component_57 : decode cX8_component 57 = .ok (.ixor, 1) := by decide +kernel
theorem dX8_component_58 : decode cX8_component 58 = .ok (.goto 10, 3) := by decide +kernel
theorem dX8_component_61 : decode cX8_component 61 = .ok (.aload_n 0, 1) := by decide +kernel
theorem dX8_component_62 : decode cX8_component 62 = .ok (.getfield 61, 3) := by decide +kernel
theorem dX8_component_65 : decode cX8_component 65 = .ok (.iload 6, 2) := by decide +kernel
theorem dX8_component_67 : decode cX8_component 67 = .ok (.iaload, 1) := by decide +kernel
theorem dX8_component_68 : decode cX8_component 68 = .ok (.iand, 1) := by decide +kernel
theorem dX8_component_69 : decode cX8_component 69 = .ok (.ior, 1) := by decide +kernel
theorem dX8_component_70 : decode cX8_component 70 = .ok (.istore 4, 2) := by decide +kernel
theorem dX8_component_72 : decode cX8_component 72 = .ok (.iinc 6 1, 3) := by decide +kernel
theorem dX8_component_75 : decode cX8_component 75 = .ok (.goto (-55), 3) := by decide +kernel
theorem dX8_component_78 : decode cX8_component 78 = .ok (.iinc 5 1, 3) := by decide +kernel
theorem dX8_component_81 : decode cX8_component 81 = .ok (.goto (-73), 3) := by decide +kernel
theorem dX8_component_84 : decode cX8_component 84 = .ok (.iload 4, 2) := by decide +kernel
theorem dX8_component_86 : decode cX8_component 86 = .ok (.ireturn, 1) := by decide +kernel
theorem dX8_lowest_0 : decode cX8_lowest 0 = .ok (.iconst 0, 1) := by decide +kernel
theorem dX8_lowest_1 : decode cX8_lowest 1 = .ok (.istore_n 1, 1) := by decide +kernel
theorem dX8_lowest_2 : decode cX8_lowest 2 = .ok (.iload_n 0, 1) := by decide +kernel
theorem dX8_lowest_3 : decode cX8_lowest 3 = .ok (.iload_n 1, 1) := by decide +kernel
theorem dX8_lowest_4 : decode cX8_lowest 4 = .ok (.ishr, 1) := by decide +kernel
theorem dX8_lowest_5 : decode cX8_lowest 5 = .ok (.iconst 1, 1) := by decide +kernel
theorem dX8_lowest_6 : decode cX8_lowest 6 = .ok (.iand, 1) := by decide +kernel
theorem dX8_lowest_7 : decode cX8_lowest 7 = .ok (.ifCond .ne 9, 3) := by decide +kernel
theorem dX8_lowest_10 : decode cX8_lowest 10 = .ok (.iinc 1 1, 3) := by decide +kernel
theorem dX8_lowest_13 : decode cX8_lowest 13 = .ok (.goto (-11), 3) := by decide +kernel
theorem dX8_lowest_16 : decode cX8_lowest 16 = .ok (.iload_n 1, 1) := by decide +kernel
theorem dX8_lowest_17 : decode cX8_lowest 17 = .ok (.ireturn, 1) := by decide +kernel
theorem dX8_grow_0 : decode cX8_grow 0 = .ok (.aload_n 0, 1) := by decide +kernel
theorem dX8_grow_1 : decode cX8_grow 1 = .ok (.getfield 191, 3) := by decide +kernel
theorem dX8_grow_4 : decode cX8_grow 4 = .ok (.istore_n 3, 1) := by decide +kernel
theorem dX8_grow_5 : decode cX8_grow 5 = .ok (.aload_n 0, 1) := by decide +kernel
theorem dX8_grow_6 : decode cX8_grow 6 = .ok (.getfield 67, 3) := by decide +kernel
theorem dX8_grow_9 : decode cX8_grow 9 = .ok (.iload_n 3, 1) := by decide +kernel
theorem dX8_grow_10 : decode cX8_grow 10 = .ok (.iload_n 2, 1) := by decide +kernel
theorem dX8_grow_11 : decode cX8_grow 11 = .ok (.iastore, 1) := by decide +kernel
theorem dX8_grow_12 : decode cX8_grow 12 = .ok (.aload_n 0, 1) := by decide +kernel
theorem dX8_grow_13 : decode cX8_grow 13 = .ok (.dup, 1) := by decide +kernel
theorem dX8_grow_14 : decode cX8_grow 14 = .ok (.getfield 191, 3) := by decide +kernel
theorem dX8_grow_17 : decode cX8_grow 17 = .ok (.iconst 1, 1) := by decide +kernel
theorem dX8_grow_18 : decode cX8_grow 18 = .ok (.iadd, 1) := by decide +kernel
theorem dX8_grow_19 : decode cX8_grow 19 = .ok (.putfield 191, 3) := by decide +kernel
theorem dX8_grow_22 : decode cX8_grow 22 = .ok (.iload_n 1, 1) := by decide +kernel
theorem dX8_grow_23 : decode cX8_grow 23 = .ok (.invokestatic 194, 3) := by decide +kernel
theorem dX8_grow_26 : decode cX8_grow 26 = .ok (.iconst 1, 1) := by decide +kernel
theorem dX8_grow_27 : decode cX8_grow 27 = .ok (.if_icmp .ne 14, 3) := by decide +kernel
theorem dX8_grow_30 : decode cX8_grow 30 = .ok (.aload_n 0, 1) := by decide +kernel
theorem dX8_grow_31 : decode cX8_grow 31 = .ok (.getfield 64, 3) := by decide +kernel
theorem dX8_grow_34 : decode cX8_grow 34 = .ok (.iload_n 3, 1) := by decide +kernel
theorem dX8_grow_35 : decode cX8_grow 35 = .ok (.iload_n 1, 1) := by decide +kernel
theorem dX8_grow_36 : decode cX8_grow 36 = .ok (.invokestatic 197, 3) := by decide +kernel
theorem dX8_grow_39 : decode cX8_grow 39 = .ok (.iastore, 1) := by decide +kernel
theorem dX8_grow_40 : decode cX8_grow 40 = .ok (.return_, 1) := by decide +kernel
theorem dX8_grow_41 : decode cX8_grow 41 = .ok (.aload_n 0, 1) := by decide +kernel
theorem dX8_grow_42 : decode cX8_grow 42 = .ok (.iload_n 1, 1) := by decide +kernel
theorem dX8_grow_43 : decode cX8_grow 43 = .ok (.iload_n 1, 1) := by decide +kernel
theorem dX8_grow_44 : decode cX8_grow 44 = .ok (.invokestatic 197, 3) := by decide +kernel
theorem dX8_grow_47 : decode cX8_grow 47 = .ok (.iconst 0, 1) := by decide +kernel
theorem dX8_grow_48 : decode cX8_grow 48 = .ok (.invokevirtual 200, 3) := by decide +kernel
theorem dX8_grow_51 : decode cX8_grow 51 = .ok (.iload_n 1, 1) := by decide +kernel
theorem dX8_grow_52 : decode cX8_grow 52 = .ok (.if_icmp .ne 7, 3) := by decide +kernel
theorem dX8_grow_55 : decode cX8_grow 55 = .ok (.iconst 1, 1) := by decide +kernel
theorem dX8_grow_56 : decode cX8_grow 56 = .ok (.goto 4, 3) := by decide +kernel
theorem dX8_grow_59 : decode cX8_grow 59 = .ok (.iconst 0, 1) := by decide +kernel
theorem dX8_grow_60 : decode cX8_grow 60 = .ok (.istore 4, 2) := by decide +kernel
theorem dX8_grow_62 : decode cX8_grow 62 = .ok (.aload_n 0, 1) := by decide +kernel
theorem dX8_grow_63 : decode cX8_grow 63 = .ok (.getfield 64, 3) := by decide +kernel
theorem dX8_grow_66 : decode cX8_grow 66 = .ok (.iload_n 3, 1) := by decide +kernel
theorem dX8_grow_67 : decode cX8_grow 67 = .ok (.iload 4, 2) := by decide +kernel
theorem dX8_grow_69 : decode cX8_grow 69 = .ok (.ifCond .eq 8, 3) := by decide +kernel
theorem dX8_grow_72 : decode cX8_grow 72 = .ok (.bipush 10, 2) := by decide +kernel
theorem dX8_grow_74 : decode cX8_grow 74 = .ok (.goto 5, 3) := by decide +kernel
theorem dX8_grow_77 : decode cX8_grow 77 = .ok (.bipush 11, 2) := by decide +kernel
theorem dX8_grow_79 : decode cX8_grow 79 = .ok (.iastore, 1) := by decide +kernel
theorem dX8_grow_80 : decode cX8_grow 80 = .ok (.iload_n 1, 1) := by decide +kernel
theorem dX8_grow_81 : decode cX8_grow 81 = .ok (.istore 5, 2) := by decide +kernel
theorem dX8_grow_83 : decode cX8_grow 83 = .ok (.iload 5, 2) := by decide +kernel
theorem dX8_grow_85 : decode cX8_grow 85 = .ok (.ifCond .eq 36, 3) := by decide +kernel
theorem dX8_grow_88 : decode cX8_grow 88 = .ok (.aload_n 0, 1) := by decide +kernel
theorem dX8_grow_89 : decode cX8_grow 89 = .ok (.iload_n 1, 1) := by decide +kernel
theorem dX8_grow_90 : decode cX8_grow 90 = .ok (.iload 5, 2) := by decide +kernel
theorem dX8_grow_92 : decode cX8_grow 92 = .ok (.invokestatic 197, 3) := by decide +kernel
theorem dX8_grow_95 : decode cX8_grow 95 = .ok (.iload 4, 2) := by decide +kernel
theorem dX8_grow_97 : decode cX8_grow 97 = .ok (.invokevirtual 200, 3) := by decide +kernel
theorem dX8_grow_100 : decode cX8_grow 100 = .ok (.istore 6, 2) := by decide +kernel
theorem dX8_grow_102 : decode cX8_grow 102 = .ok (.aload_n 0, 1) := by decide +kernel
theorem dX8_grow_103 : decode cX8_grow 103 = .ok (.iload 6, 2) := by decide +kernel
theorem dX8_grow_105 : decode cX8_grow 105 = .ok (.iload_n 3, 1) := by decide +kernel
theorem dX8_grow_106 : decode cX8_grow 106 = .ok (.invokevirtual 204, 3) := by decide +kernel
theorem dX8_grow_109 : decode cX8_grow 109 = .ok (.iload 5, 2) := by decide +kernel
theorem dX8_grow_111 : decode cX8_grow 111 = .ok (.iload 6, 2) := by decide +kernel
theorem dX8_grow_113 : decode cX8_grow 113 = .ok (.iconst (-1), 1) := by decide +kernel
theorem dX8_grow_114 : decode cX8_grow 114 = .ok (.ixor, 1) := by decide +kernel
theorem dX8_grow_115 : decode cX8_grow 115 = .ok (.iand, 1) := by decide +kernel
theorem dX8_grow_116 : decode cX8_grow 116 = .ok (.istore 5, 2) := by decide +kernel
theorem dX8_grow_118 : decode cX8_grow 118 = .ok (.goto (-35), 3) := by decide +kernel
theorem dX8_grow_121 : decode cX8_grow 121 = .ok (.return_, 1) := by decide +kernel
theorem dX8_tree_0 : decode cX8_tree 0 = .ok (.aload_n 0, 1) := by decide +kernel
theorem dX8_tree_1 : decode cX8_tree 1 = .ok (.iload_n 1, 1) := by decide +kernel
theorem dX8_tree_2 : decode cX8_tree 2 = .ok (.invokevirtual 137, 3) := by decide +kernel
theorem dX8_tree_5 : decode cX8_tree 5 = .ok (.ifCond .eq 9, 3) := by decide +kernel
theorem dX8_tree_8 : decode cX8_tree 8 = .ok (.aload_n 0, 1) := by decide +kernel
theorem dX8_tree_9 : decode cX8_tree 9 = .ok (.iload_n 1, 1) := by decide +kernel
theorem dX8_tree_10 : decode cX8_tree 10 = .ok (.invokevirtual 137, 3) := by decide +kernel
theorem dX8_tree_13 : decode cX8_tree 13 = .ok (.ireturn, 1) := by decide +kernel
theorem dX8_tree_14 : decode cX8_tree 14 = .ok (.aload_n 0, 1) := by decide +kernel
theorem dX8_tree_15 : decode cX8_tree 15 = .ok (.aload_n 0, 1) := by decide +kernel
theorem dX8_tree_16 : decode cX8_tree 16 = .ok (.getfield 16, 3) := by decide +kernel
theorem dX8_tree_19 : decode cX8_tree 19 = .ok (.iload_n 1, 1) := by decide +kernel
theorem dX8_tree_20 : decode cX8_tree 20 = .ok (.laload, 1) := by decide +kernel
theorem dX8_tree_21 : decode cX8_tree 21 = .ok (.invokevirtual 188, 3) := by decide +kernel
theorem dX8_tree_24 : decode cX8_tree 24 = .ok (.ifCond .eq 6, 3) := by decide +kernel
theorem dX8_tree_27 : decode cX8_tree 27 = .ok (.bipush (-5), 2) := by decide +kernel
theorem dX8_tree_29 : decode cX8_tree 29 = .ok (.ireturn, 1) := by decide +kernel
theorem dX8_tree_30 : decode cX8_tree 30 = .ok (.aload_n 0, 1) := by decide +kernel
theorem dX8_tree_31 : decode cX8_tree 31 = .ok (.iconst 0, 1) := by decide +kernel
theorem dX8_tree_32 : decode cX8_tree 32 = .ok (.putfield 191, 3) := by decide +kernel
theorem dX8_tree_35 : decode cX8_tree 35 = .ok (.aload_n 0, 1) := by decide +kernel
theorem dX8_tree_36 : decode cX8_tree 36 = .ok (.aload_n 0, 1) := by decide +kernel
theorem dX8_tree_37 : decode cX8_tree 37 = .ok (.getfield 16, 3) := by decide +kernel
theorem dX8_tree_40 : decode cX8_tree 40 = .ok (.iload_n 1, 1) := by decide +kernel
theorem dX8_tree_41 : decode cX8_tree 41 = .ok (.laload, 1) := by decide +kernel
theorem dX8_tree_42 : decode cX8_tree 42 = .ok (.invokevirtual 166, 3) := by decide +kernel
theorem dX8_tree_45 : decode cX8_tree 45 = .ok (.aload_n 0, 1) := by decide +kernel
theorem dX8_tree_46 : decode cX8_tree 46 = .ok (.getfield 160, 3) := by decide +kernel
theorem dX8_tree_49 : decode cX8_tree 49 = .ok (.ifCond .eq 12, 3) := by decide +kernel
theorem dX8_tree_52 : decode cX8_tree 52 = .ok (.aload_n 0, 1) := by decide +kernel
theorem dX8_tree_53 : decode cX8_tree 53 = .ok (.aload_n 0, 1) := by decide +kernel
theorem dX8_tree_54 : decode cX8_tree 54 = .ok (.getfield 160, 3) := by decide +kernel
theorem dX8_tree_57 : decode cX8_tree 57 = .ok (.iconst (-1), 1) := by decide +kernel
theorem dX8_tree_58 : decode cX8_tree 58 = .ok (.invokevirtual 204, 3) := by decide +kernel
theorem dX8_tree_61 : decode cX8_tree 61 = .ok (.iconst 0, 1) := by decide +kernel
theorem dX8_tree_62 : decode cX8_tree 62 = .ok (.ireturn, 1) := by decide +kernel
theorem dX8_nodes_0 : decode cX8_nodes 0 = .ok (.aload_n 0, 1) := by decide +kernel
theorem dX8_nodes_1 : decode cX8_nodes 1 = .ok (.iload_n 1, 1) := by decide +kernel
theorem dX8_nodes_2 : decode cX8_nodes 2 = .ok (.invokevirtual 208, 3) := by decide +kernel
theorem dX8_nodes_5 : decode cX8_nodes 5 = .ok (.istore_n 2, 1) := by decide +kernel
theorem dX8_nodes_6 : decode cX8_nodes 6 = .ok (.iload_n 2, 1) := by decide +kernel
theorem dX8_nodes_7 : decode cX8_nodes 7 = .ok (.ifCond .eq 7, 3) := by decide +kernel
theorem dX8_nodes_10 : decode cX8_nodes 10 = .ok (.iload_n 2, 1) := by decide +kernel
theorem dX8_nodes_11 : decode cX8_nodes 11 = .ok (.goto 7, 3) := by decide +kernel
theorem dX8_nodes_14 : decode cX8_nodes 14 = .ok (.aload_n 0, 1) := by decide +kernel
theorem dX8_nodes_15 : decode cX8_nodes 15 = .ok (.getfield 191, 3) := by decide +kernel
theorem dX8_nodes_18 : decode cX8_nodes 18 = .ok (.ireturn, 1) := by decide +kernel
theorem dX8_isNode_0 : decode cX8_isNode 0 = .ok (.iload_n 1, 1) := by decide +kernel
theorem dX8_isNode_1 : decode cX8_isNode 1 = .ok (.i2l, 1) := by decide +kernel
theorem dX8_isNode_2 : decode cX8_isNode 2 = .ok (.lconst 0, 1) := by decide +kernel
theorem dX8_isNode_3 : decode cX8_isNode 3 = .ok (.aload_n 0, 1) := by decide +kernel
theorem dX8_isNode_4 : decode cX8_isNode 4 = .ok (.getfield 191, 3) := by decide +kernel
theorem dX8_isNode_7 : decode cX8_isNode 7 = .ok (.iconst 1, 1) := by decide +kernel
theorem dX8_isNode_8 : decode cX8_isNode 8 = .ok (.isub, 1) := by decide +kernel
theorem dX8_isNode_9 : decode cX8_isNode 9 = .ok (.i2l, 1) := by decide +kernel
theorem dX8_isNode_10 : decode cX8_isNode 10 = .ok (.invokestatic 87, 3) := by decide +kernel
theorem dX8_isNode_13 : decode cX8_isNode 13 = .ok (.ireturn, 1) := by decide +kernel
theorem dX8_nodeType_0 : decode cX8_nodeType 0 = .ok (.aload_n 0, 1) := by decide +kernel
theorem dX8_nodeType_1 : decode cX8_nodeType 1 = .ok (.iload_n 1, 1) := by decide +kernel
theorem dX8_nodeType_2 : decode cX8_nodeType 2 = .ok (.invokevirtual 208, 3) := by decide +kernel
theorem dX8_nodeType_5 : decode cX8_nodeType 5 = .ok (.istore_n 3, 1) := by decide +kernel
theorem dX8_nodeType_6 : decode cX8_nodeType 6 = .ok (.iload_n 3, 1) := by decide +kernel
theorem dX8_nodeType_7 : decode cX8_nodeType 7 = .ok (.ifCond .eq 7, 3) := by decide +kernel
theorem dX8_nodeType_10 : decode cX8_nodeType 10 = .ok (.iload_n 3, 1) := by decide +kernel
theorem dX8_nodeType_11 : decode cX8_nodeType 11 = .ok (.goto 21, 3) := by decide +kernel
theorem dX8_nodeType_14 : decode cX8_nodeType 14 = .ok (.aload_n 0, 1) := by decide +kernel
theorem dX8_nodeType_15 : decode cX8_nodeType 15 = .ok (.iload_n 2, 1) := by decide +kernel
theorem dX8_nodeType_16 : decode cX8_nodeType 16 = .ok (.invokevirtual 211, 3) := by decide +kernel
theorem dX8_nodeType_19 : decode cX8_nodeType 19 = .ok (.ifCond .eq 12, 3) := by decide +kernel
theorem dX8_nodeType_22 : decode cX8_nodeType 22 = .ok (.aload_n 0, 1) := by decide +kernel
theorem dX8_nodeType_23 : decode cX8_nodeType 23 = .ok (.getfield 64, 3) := by decide +kernel
theorem dX8_nodeType_26 : decode cX8_nodeType 26 = .ok (.iload_n 2, 1) := by decide +kernel
theorem dX8_nodeType_27 : decode cX8_nodeType 27 = .ok (.iaload, 1) := by decide +kernel
theorem dX8_nodeType_28 : decode cX8_nodeType 28 = .ok (.goto 4, 3) := by decide +kernel
theorem dX8_nodeType_31 : decode cX8_nodeType 31 = .ok (.iconst (-1), 1) := by decide +kernel
theorem dX8_nodeType_32 : decode cX8_nodeType 32 = .ok (.ireturn, 1) := by decide +kernel
theorem dX8_parent_0 : decode cX8_parent 0 = .ok (.aload_n 0, 1) := by decide +kernel
theorem dX8_parent_1 : decode cX8_parent 1 = .ok (.iload_n 1, 1) := by decide +kernel
theorem dX8_parent_2 : decode cX8_parent 2 = .ok (.invokevirtual 208, 3) := by decide +kernel
theorem dX8_parent_5 : decode cX8_parent 5 = .ok (.istore_n 3, 1) := by decide +kernel
theorem dX8_parent_6 : decode cX8_parent 6 = .ok (.iload_n 3, 1) := by decide +kernel
theorem dX8_parent_7 : decode cX8_parent 7 = .ok (.ifCond .eq 7, 3) := by decide +kernel
theorem dX8_parent_10 : decode cX8_parent 10 = .ok (.iload_n 3, 1) := by decide +kernel
theorem dX8_parent_11 : decode cX8_parent 11 = .ok (.goto 21, 3) := by decide +kernel
theorem dX8_parent_14 : decode cX8_parent 14 = .ok (.aload_n 0, 1) := by decide +kernel
theorem dX8_parent_15 : decode cX8_parent 15 = .ok (.iload_n 2, 1) := by decide +kernel
theorem dX8_parent_16 : decode cX8_parent 16 = .ok (.invokevirtual 211, 3) := by decide +kernel
theorem dX8_parent_19 : decode cX8_parent 19 = .ok (.ifCond .eq 12, 3) := by decide +kernel
theorem dX8_parent_22 : decode cX8_parent 22 = .ok (.aload_n 0, 1) := by decide +kernel
theorem dX8_parent_23 : decode cX8_parent 23 = .ok (.getfield 67, 3) := by decide +kernel
theorem dX8_parent_26 : decode cX8_parent 26 = .ok (.iload_n 2, 1) := by decide +kernel
theorem dX8_parent_27 : decode cX8_parent 27 = .ok (.iaload, 1) := by decide +kernel
theorem dX8_parent_28 : decode cX8_parent 28 = .ok (.goto 4, 3) := by decide +kernel
theorem dX8_parent_31 : decode cX8_parent 31 = .ok (.iconst (-1), 1) := by decide +kernel
theorem dX8_parent_32 : decode cX8_parent 32 = .ok (.ireturn, 1) := by decide +kernel
theorem dX8_depth_0 : decode cX8_depth 0 = .ok (.iload_n 1, 1) := by decide +kernel
theorem dX8_depth_1 : decode cX8_depth 1 = .ok (.invokestatic 118, 3) := by decide +kernel
theorem dX8_depth_4 : decode cX8_depth 4 = .ok (.ifCond .eq 11, 3) := by decide +kernel
theorem dX8_depth_7 : decode cX8_depth 7 = .ok (.aload_n 0, 1) := by decide +kernel
theorem dX8_depth_8 : decode cX8_depth 8 = .ok (.iload_n 2, 1) := by decide +kernel
theorem dX8_depth_9 : decode cX8_depth 9 = .ok (.invokevirtual 163, 3) := by decide +kernel
theorem dX8_depth_12 : decode cX8_depth 12 = .ok (.ifCond .ne 6, 3) := by decide +kernel
theorem dX8_depth_15 : decode cX8_depth 15 = .ok (.bipush (-2), 2) := by decide +kernel
theorem dX8_depth_17 : decode cX8_depth 17 = .ok (.ireturn, 1) := by decide +kernel
theorem dX8_depth_18 : decode cX8_depth 18 = .ok (.aload_n 0, 1) := by decide +kernel
theorem dX8_depth_19 : decode cX8_depth 19 = .ok (.iload_n 1, 1) := by decide +kernel
theorem dX8_depth_20 : decode cX8_depth 20 = .ok (.invokevirtual 208, 3) := by decide +kernel
theorem dX8_depth_23 : decode cX8_depth 23 = .ok (.istore_n 3, 1) := by decide +kernel
theorem dX8_depth_24 : decode cX8_depth 24 = .ok (.iload_n 3, 1) := by decide +kernel
theorem dX8_depth_25 : decode cX8_depth 25 = .ok (.ifCond .eq 5, 3) := by decide +kernel
theorem dX8_depth_28 : decode cX8_depth 28 = .ok (.iload_n 3, 1) := by decide +kernel
theorem dX8_depth_29 : decode cX8_depth 29 = .ok (.ireturn, 1) := by decide +kernel
theorem dX8_depth_30 : decode cX8_depth 30 = .ok (.iconst 0, 1) := by decide +kernel
theorem dX8_depth_31 : decode cX8_depth 31 = .ok (.istore 4, 2) := by decide +kernel
theorem dX8_depth_33 : decode cX8_depth 33 = .ok (.iload 4, 2) := by decide +kernel
theorem dX8_depth_35 : decode cX8_depth 35 = .ok (.aload_n 0, 1) := by decide +kernel
theorem dX8_depth_36 : decode cX8_depth 36 = .ok (.getfield 191, 3) := by decide +kernel
theorem dX8_depth_39 : decode cX8_depth 39 = .ok (.if_icmp .ge 54, 3) := by decide +kernel
theorem dX8_depth_42 : decode cX8_depth 42 = .ok (.aload_n 0, 1) := by decide +kernel
theorem dX8_depth_43 : decode cX8_depth 43 = .ok (.getfield 64, 3) := by decide +kernel
theorem dX8_depth_46 : decode cX8_depth 46 = .ok (.iload 4, 2) := by decide +kernel
theorem dX8_depth_48 : decode cX8_depth 48 = .ok (.iaload, 1) := by decide +kernel
theorem dX8_depth_49 : decode cX8_depth 49 = .ok (.iload_n 2, 1) := by decide +kernel
theorem dX8_depth_50 : decode cX8_depth 50 = .ok (.if_icmp .eq 6, 3) := by decide +kernel
theorem dX8_depth_53 : decode cX8_depth 53 = .ok (.goto 34, 3) := by decide +kernel
theorem dX8_depth_56 : decode cX8_depth 56 = .ok (.iconst 0, 1) := by decide +kernel
theorem dX8_depth_57 : decode cX8_depth 57 = .ok (.istore 5, 2) := by decide +kernel
theorem dX8_depth_59 : decode cX8_depth 59 = .ok (.iload 4, 2) := by decide +kernel
theorem dX8_depth_61 : decode cX8_depth 61 = .ok (.istore 6, 2) := by decide +kernel
theorem dX8_depth_63 : decode cX8_depth 63 = .ok (.iload 6, 2) := by decide +kernel
theorem dX8_depth_65 : decode cX8_depth 65 = .ok (.iconst (-1), 1) := by decide +kernel
theorem dX8_depth_66 : decode cX8_depth 66 = .ok (.if_icmp .eq 18, 3) := by decide +kernel
theorem dX8_depth_69 : decode cX8_depth 69 = .ok (.iinc 5 1, 3) := by decide +kernel
theorem dX8_depth_72 : decode cX8_depth 72 = .ok (.aload_n 0, 1) := by decide +kernel
theorem dX8_depth_73 : decode cX8_depth 73 = .ok (.getfield 67, 3) := by decide +kernel
theorem dX8_depth_76 : decode cX8_depth 76 = .ok (.iload 6, 2) := by decide +kernel
theorem dX8_depth_78 : decode cX8_depth 78 = .ok (.iaload, 1) := by decide +kernel
theorem dX8_depth_79 : decode cX8_depth 79 = .ok (.istore 6, 2) := by decide +kernel
theorem dX8_depth_81 : decode cX8_depth 81 = .ok (.goto (-18), 3) := by decide +kernel
theorem dX8_depth_84 : decode cX8_depth 84 = .ok (.iload 5, 2) := by decide +kernel
theorem dX8_depth_86 : decode cX8_depth 86 = .ok (.ireturn, 1) := by decide +kernel
theorem dX8_depth_87 : decode cX8_depth 87 = .ok (.iinc 4 1, 3) := by decide +kernel
theorem dX8_depth_90 : decode cX8_depth 90 = .ok (.goto (-57), 3) := by decide +kernel
theorem dX8_depth_93 : decode cX8_depth 93 = .ok (.iconst (-1), 1) := by decide +kernel
theorem dX8_depth_94 : decode cX8_depth 94 = .ok (.ireturn, 1) := by decide +kernel
theorem dX8_put_0 : decode cX8_put 0 = .ok (.aload_n 0, 1) := by decide +kernel
theorem dX8_put_1 : decode cX8_put 1 = .ok (.getfield 40, 3) := by decide +kernel
theorem dX8_put_4 : decode cX8_put 4 = .ok (.aload_n 0, 1) := by decide +kernel
theorem dX8_put_5 : decode cX8_put 5 = .ok (.getfield 214, 3) := by decide +kernel
theorem dX8_put_8 : decode cX8_put 8 = .ok (.iload_n 1, 1) := by decide +kernel
theorem dX8_put_9 : decode cX8_put 9 = .ok (.iastore, 1) := by decide +kernel
theorem dX8_put_10 : decode cX8_put 10 = .ok (.aload_n 0, 1) := by decide +kernel
theorem dX8_put_11 : decode cX8_put 11 = .ok (.dup, 1) := by decide +kernel
theorem dX8_put_12 : decode cX8_put 12 = .ok (.getfield 214, 3) := by decide +kernel
theorem dX8_put_15 : decode cX8_put 15 = .ok (.iconst 1, 1) := by decide +kernel
theorem dX8_put_16 : decode cX8_put 16 = .ok (.iadd, 1) := by decide +kernel
theorem dX8_put_17 : decode cX8_put 17 = .ok (.putfield 214, 3) := by decide +kernel
theorem dX8_put_20 : decode cX8_put 20 = .ok (.return_, 1) := by decide +kernel
theorem dX8_write_0 : decode cX8_write 0 = .ok (.aload_n 0, 1) := by decide +kernel
theorem dX8_write_1 : decode cX8_write 1 = .ok (.getfield 64, 3) := by decide +kernel
theorem dX8_write_4 : decode cX8_write 4 = .ok (.iload_n 1, 1) := by decide +kernel
theorem dX8_write_5 : decode cX8_write 5 = .ok (.iaload, 1) := by decide +kernel
theorem dX8_write_6 : decode cX8_write 6 = .ok (.bipush 10, 2) := by decide +kernel
theorem dX8_write_8 : decode cX8_write 8 = .ok (.if_icmp .ge 17, 3) := by decide +kernel
theorem dX8_write_11 : decode cX8_write 11 = .ok (.aload_n 0, 1) := by decide +kernel
theorem dX8_write_12 : decode cX8_write 12 = .ok (.bipush 97, 2) := by decide +kernel
theorem dX8_write_14 : decode cX8_write 14 = .ok (.aload_n 0, 1) := by decide +kernel
theorem dX8_write_15 : decode cX8_write 15 = .ok (.getfield 64, 3) := by decide +kernel
theorem dX8_write_18 : decode cX8_write 18 = .ok (.iload_n 1, 1) := by decide +kernel
theorem dX8_write_19 : decode cX8_write 19 = .ok (.iaload, 1) := by decide +kernel
theorem dX8_write_20 : decode cX8_write 20 = .ok (.iadd, 1) := by decide +kernel
theorem dX8_write_21 : decode cX8_write 21 = .ok (.invokevirtual 217, 3) := by decide +kernel
theorem dX8_write_24 : decode cX8_write 24 = .ok (.return_, 1) := by decide +kernel
theorem dX8_write_25 : decode cX8_write 25 = .ok (.iconst 1, 1) := by decide +kernel
theorem dX8_write_26 : decode cX8_write 26 = .ok (.istore_n 2, 1) := by decide +kernel
theorem dX8_write_27 : decode cX8_write 27 = .ok (.iload_n 1, 1) := by decide +kernel
theorem dX8_write_28 : decode cX8_write 28 = .ok (.iconst 1, 1) := by decide +kernel
theorem dX8_write_29 : decode cX8_write 29 = .ok (.iadd, 1) := by decide +kernel
theorem dX8_write_30 : decode cX8_write 30 = .ok (.istore_n 3, 1) := by decide +kernel
theorem dX8_write_31 : decode cX8_write 31 = .ok (.iload_n 3, 1) := by decide +kernel
theorem dX8_write_32 : decode cX8_write 32 = .ok (.aload_n 0, 1) := by decide +kernel
theorem dX8_write_33 : decode cX8_write 33 = .ok (.getfield 191, 3) := by decide +kernel
theorem dX8_write_36 : decode cX8_write 36 = .ok (.if_icmp .ge 106, 3) := by decide +kernel
theorem dX8_write_39 : decode cX8_write 39 = .ok (.aload_n 0, 1) := by decide +kernel
theorem dX8_write_40 : decode cX8_write 40 = .ok (.getfield 67, 3) := by decide +kernel
theorem dX8_write_43 : decode cX8_write 43 = .ok (.iload_n 3, 1) := by decide +kernel
theorem dX8_write_44 : decode cX8_write 44 = .ok (.iaload, 1) := by decide +kernel
theorem dX8_write_45 : decode cX8_write 45 = .ok (.iload_n 1, 1) := by decide +kernel
theorem dX8_write_46 : decode cX8_write 46 = .ok (.if_icmp .eq 6, 3) := by decide +kernel
theorem dX8_write_49 : decode cX8_write 49 = .ok (.goto 87, 3) := by decide +kernel
theorem dX8_write_52 : decode cX8_write 52 = .ok (.iload_n 2, 1) := by decide +kernel
theorem dX8_write_53 : decode cX8_write 53 = .ok (.ifCond .ne 25, 3) := by decide +kernel
theorem dX8_write_56 : decode cX8_write 56 = .ok (.aload_n 0, 1) := by decide +kernel
theorem dX8_write_57 : decode cX8_write 57 = .ok (.aload_n 0, 1) := by decide +kernel
theorem dX8_write_58 : decode cX8_write 58 = .ok (.getfield 64, 3) := by decide +kernel
theorem dX8_write_61 : decode cX8_write 61 = .ok (.iload_n 1, 1) := by decide +kernel
theorem dX8_write_62 : decode cX8_write 62 = .ok (.iaload, 1) := by decide +kernel
theorem dX8_write_63 : decode cX8_write 63 = .ok (.bipush 10, 2) := by decide +kernel
theorem dX8_write_65 : decode cX8_write 65 = .ok (.if_icmp .ne 8, 3) := by decide +kernel
theorem dX8_write_68 : decode cX8_write 68 = .ok (.bipush 42, 2) := by decide +kernel
theorem dX8_write_70 : decode cX8_write 70 = .ok (.goto 5, 3) := by decide +kernel
theorem dX8_write_73 : decode cX8_write 73 = .ok (.bipush 43, 2) := by decide +kernel
theorem dX8_write_75 : decode cX8_write 75 = .ok (.invokevirtual 217, 3) := by decide +kernel
theorem dX8_write_78 : decode cX8_write 78 = .ok (.iconst 0, 1) := by decide +kernel
theorem dX8_write_79 : decode cX8_write 79 = .ok (.istore_n 2, 1) := by decide +kernel
theorem dX8_write_80 : decode cX8_write 80 = .ok (.aload_n 0, 1) := by decide +kernel
theorem dX8_write_81 : decode cX8_write 81 = .ok (.getfield 64, 3) := by decide +kernel
theorem dX8_write_84 : decode cX8_write 84 = .ok (.iload_n 1, 1) := by decide +kernel
theorem dX8_write_85 : decode cX8_write 85 = .ok (.iaload, 1) := by decide +kernel
theorem dX8_write_86 : decode cX8_write 86 = .ok (.bipush 10, 2) := by decide +kernel
theorem dX8_write_88 : decode cX8_write 88 = .ok (.if_icmp .ne 18, 3) := by decide +kernel
theorem dX8_write_91 : decode cX8_write 91 = .ok (.aload_n 0, 1) := by decide +kernel
theorem dX8_write_92 : decode cX8_write 92 = .ok (.getfield 64, 3) := by decide +kernel
theorem dX8_write_95 : decode cX8_write 95 = .ok (.iload_n 3, 1) := by decide +kernel
theorem dX8_write_96 : decode cX8_write 96 = .ok (.iaload, 1) := by decide +kernel
theorem dX8_write_97 : decode cX8_write 97 = .ok (.bipush 11, 2) := by decide +kernel
theorem dX8_write_99 : decode cX8_write 99 = .ok (.if_icmp .ne 7, 3) := by decide +kernel
theorem dX8_write_102 : decode cX8_write 102 = .ok (.iconst 1, 1) := by decide +kernel
theorem dX8_write_103 : decode cX8_write 103 = .ok (.goto 4, 3) := by decide +kernel
theorem dX8_write_106 : decode cX8_write 106 = .ok (.iconst 0, 1) := by decide +kernel
theorem dX8_write_107 : decode cX8_write 107 = .ok (.istore 4, 2) := by decide +kernel
theorem dX8_write_109 : decode cX8_write 109 = .ok (.iload 4, 2) := by decide +kernel
theorem dX8_write_111 : decode cX8_write 111 = .ok (.ifCond .eq 9, 3) := by decide +kernel
theorem dX8_write_114 : decode cX8_write 114 = .ok (.aload_n 0, 1) := by decide +kernel
theorem dX8_write_115 : decode cX8_write 115 = .ok (.bipush 40, 2) := by decide +kernel
theorem dX8_write_117 : decode cX8_write 117 = .ok (.invokevirtual 217, 3) := by decide +kernel
theorem dX8_write_120 : decode cX8_write 120 = .ok (.aload_n 0, 1) := by decide +kernel
theorem dX8_write_121 : decode cX8_write 121 = .ok (.iload_n 3, 1) := by decide +kernel
theorem dX8_write_122 : decode cX8_write 122 = .ok (.invokevirtual 220, 3) := by decide +kernel
theorem dX8_write_125 : decode cX8_write 125 = .ok (.iload 4, 2) := by decide +kernel
theorem dX8_write_127 : decode cX8_write 127 = .ok (.ifCond .eq 9, 3) := by decide +kernel
theorem dX8_write_130 : decode cX8_write 130 = .ok (.aload_n 0, 1) := by decide +kernel
theorem dX8_write_131 : decode cX8_write 131 = .ok (.bipush 41, 2) := by decide +kernel
theorem dX8_write_133 : decode cX8_write 133 = .ok (.invokevirtual 217, 3) := by decide +kernel
theorem dX8_write_136 : decode cX8_write 136 = .ok (.iinc 3 1, 3) := by decide +kernel
theorem dX8_write_139 : decode cX8_write 139 = .ok (.goto (-108), 3) := by decide +kernel
theorem dX8_write_142 : decode cX8_write 142 = .ok (.return_, 1) := by decide +kernel
theorem dX8_writeFormula_0 : decode cX8_writeFormula 0 = .ok (.aload_n 0, 1) := by decide +kernel
theorem dX8_writeFormula_1 : decode cX8_writeFormula 1 = .ok (.iload_n 1, 1) := by decide +kernel
theorem dX8_writeFormula_2 : decode cX8_writeFormula 2 = .ok (.invokevirtual 208, 3) := by decide +kernel
theorem dX8_writeFormula_5 : decode cX8_writeFormula 5 = .ok (.istore_n 2, 1) := by decide +kernel
theorem dX8_writeFormula_6 : decode cX8_writeFormula 6 = .ok (.iload_n 2, 1) := by decide +kernel
theorem dX8_writeFormula_7 : decode cX8_writeFormula 7 = .ok (.ifCond .eq 5, 3) := by decide +kernel
theorem dX8_writeFormula_10 : decode cX8_writeFormula 10 = .ok (.iload_n 2, 1) := by decide +kernel
theorem dX8_writeFormula_11 : decode cX8_writeFormula 11 = .ok (.ireturn, 1) := by decide +kernel
theorem dX8_writeFormula_12 : decode cX8_writeFormula 12 = .ok (.aload_n 0, 1) := by decide +kernel
theorem dX8_writeFormula_13 : decode cX8_writeFormula 13 = .ok (.iconst 0, 1) := by decide +kernel
theorem dX8_writeFormula_14 : decode cX8_writeFormula 14 = .ok (.putfield 214, 3) := by decide +kernel
theorem dX8_writeFormula_17 : decode cX8_writeFormula 17 = .ok (.aload_n 0, 1) := by decide +kernel
theorem dX8_writeFormula_18 : decode cX8_writeFormula 18 = .ok (.getfield 191, 3) := by decide +kernel
theorem dX8_writeFormula_21 : decode cX8_writeFormula 21 = .ok (.ifCond .ne 30, 3) := by decide +kernel
theorem dX8_writeFormula_24 : decode cX8_writeFormula 24 = .ok (.aload_n 0, 1) := by decide +kernel
theorem dX8_writeFormula_25 : decode cX8_writeFormula 25 = .ok (.aload_n 0, 1) := by decide +kernel
theorem dX8_writeFormula_26 : decode cX8_writeFormula 26 = .ok (.getfield 16, 3) := by decide +kernel
theorem dX8_writeFormula_29 : decode cX8_writeFormula 29 = .ok (.iload_n 1, 1) := by decide +kernel
theorem dX8_writeFormula_30 : decode cX8_writeFormula 30 = .ok (.laload, 1) := by decide +kernel
theorem dX8_writeFormula_31 : decode cX8_writeFormula 31 = .ok (.iconst 0, 1) := by decide +kernel
theorem dX8_writeFormula_32 : decode cX8_writeFormula 32 = .ok (.invokestatic 91, 3) := by decide +kernel
theorem dX8_writeFormula_35 : decode cX8_writeFormula 35 = .ok (.ifCond .eq 8, 3) := by decide +kernel
theorem dX8_writeFormula_38 : decode cX8_writeFormula 38 = .ok (.bipush 49, 2) := by decide +kernel
theorem dX8_writeFormula_40 : decode cX8_writeFormula 40 = .ok (.goto 5, 3) := by decide +kernel
theorem dX8_writeFormula_43 : decode cX8_writeFormula 43 = .ok (.bipush 48, 2) := by decide +kernel
theorem dX8_writeFormula_45 : decode cX8_writeFormula 45 = .ok (.invokevirtual 217, 3) := by decide +kernel
theorem dX8_writeFormula_48 : decode cX8_writeFormula 48 = .ok (.goto 8, 3) := by decide +kernel
theorem dX8_writeFormula_51 : decode cX8_writeFormula 51 = .ok (.aload_n 0, 1) := by decide +kernel
theorem dX8_writeFormula_52 : decode cX8_writeFormula 52 = .ok (.iconst 0, 1) := by decide +kernel
theorem dX8_writeFormula_53 : decode cX8_writeFormula 53 = .ok (.invokevirtual 220, 3) := by decide +kernel
theorem dX8_writeFormula_56 : decode cX8_writeFormula 56 = .ok (.aload_n 0, 1) := by decide +kernel
theorem dX8_writeFormula_57 : decode cX8_writeFormula 57 = .ok (.getfield 214, 3) := by decide +kernel
theorem dX8_writeFormula_60 : decode cX8_writeFormula 60 = .ok (.ireturn, 1) := by decide +kernel
theorem dX8_output_0 : decode cX8_output 0 = .ok (.iload_n 1, 1) := by decide +kernel
theorem dX8_output_1 : decode cX8_output 1 = .ok (.i2l, 1) := by decide +kernel
theorem dX8_output_2 : decode cX8_output 2 = .ok (.lconst 0, 1) := by decide +kernel
theorem dX8_output_3 : decode cX8_output 3 = .ok (.aload_n 0, 1) := by decide +kernel
theorem dX8_output_4 : decode cX8_output 4 = .ok (.getfield 214, 3) := by decide +kernel
theorem dX8_output_7 : decode cX8_output 7 = .ok (.iconst 1, 1) := by decide +kernel
theorem dX8_output_8 : decode cX8_output 8 = .ok (.isub, 1) := by decide +kernel
theorem dX8_output_9 : decode cX8_output 9 = .ok (.i2l, 1) := by decide +kernel
theorem dX8_output_10 : decode cX8_output 10 = .ok (.invokestatic 87, 3) := by decide +kernel
theorem dX8_output_13 : decode cX8_output 13 = .ok (.ifCond .eq 12, 3) := by decide +kernel
theorem dX8_output_16 : decode cX8_output 16 = .ok (.aload_n 0, 1) := by decide +kernel
theorem dX8_output_17 : decode cX8_output 17 = .ok (.getfield 40, 3) := by decide +kernel
theorem dX8_output_20 : decode cX8_output 20 = .ok (.iload_n 1, 1) := by decide +kernel
theorem dX8_output_21 : decode cX8_output 21 = .ok (.iaload, 1) := by decide +kernel
theorem dX8_output_22 : decode cX8_output 22 = .ok (.goto 4, 3) := by decide +kernel
theorem dX8_output_25 : decode cX8_output 25 = .ok (.iconst (-1), 1) := by decide +kernel
theorem dX8_output_26 : decode cX8_output 26 = .ok (.ireturn, 1) := by decide +kernel
theorem dX8_feed_0 : decode cX8_feed 0 = .ok (.iload_n 1, 1) := by decide +kernel
theorem dX8_feed_1 : decode cX8_feed 1 = .ok (.i2l, 1) := by decide +kernel
theorem dX8_feed_2 : decode cX8_feed 2 = .ok (.lconst 1, 1) := by decide +kernel
theorem dX8_feed_3 : decode cX8_feed 3 = .ok (.ldc2_w 223, 3) := by decide +kernel
theorem dX8_feed_6 : decode cX8_feed 6 = .ok (.invokestatic 87, 3) := by decide +kernel
theorem dX8_feed_9 : decode cX8_feed 9 = .ok (.ifCond .ne 6, 3) := by decide +kernel
theorem dX8_feed_12 : decode cX8_feed 12 = .ok (.bipush (-2), 2) := by decide +kernel
theorem dX8_feed_14 : decode cX8_feed 14 = .ok (.ireturn, 1) := by decide +kernel
theorem dX8_feed_15 : decode cX8_feed 15 = .ok (.aload_n 0, 1) := by decide +kernel
theorem dX8_feed_16 : decode cX8_feed 16 = .ok (.getfield 225, 3) := by decide +kernel
theorem dX8_feed_19 : decode cX8_feed 19 = .ok (.bipush 80, 2) := by decide +kernel
theorem dX8_feed_21 : decode cX8_feed 21 = .ok (.if_icmp .ne 6, 3) := by decide +kernel
theorem dX8_feed_24 : decode cX8_feed 24 = .ok (.bipush (-6), 2) := by decide +kernel
theorem dX8_feed_26 : decode cX8_feed 26 = .ok (.ireturn, 1) := by decide +kernel
theorem dX8_feed_27 : decode cX8_feed 27 = .ok (.aload_n 0, 1) := by decide +kernel
theorem dX8_feed_28 : decode cX8_feed 28 = .ok (.getfield 37, 3) := by decide +kernel
theorem dX8_feed_31 : decode cX8_feed 31 = .ok (.aload_n 0, 1) := by decide +kernel
theorem dX8_feed_32 : decode cX8_feed 32 = .ok (.getfield 225, 3) := by decide +kernel
theorem dX8_feed_35 : decode cX8_feed 35 = .ok (.iload_n 1, 1) := by decide +kernel
theorem dX8_feed_36 : decode cX8_feed 36 = .ok (.iastore, 1) := by decide +kernel
theorem dX8_feed_37 : decode cX8_feed 37 = .ok (.aload_n 0, 1) := by decide +kernel
theorem dX8_feed_38 : decode cX8_feed 38 = .ok (.dup, 1) := by decide +kernel
theorem dX8_feed_39 : decode cX8_feed 39 = .ok (.getfield 225, 3) := by decide +kernel
theorem dX8_feed_42 : decode cX8_feed 42 = .ok (.iconst 1, 1) := by decide +kernel
theorem dX8_feed_43 : decode cX8_feed 43 = .ok (.iadd, 1) := by decide +kernel
theorem dX8_feed_44 : decode cX8_feed 44 = .ok (.putfield 225, 3) := by decide +kernel
theorem dX8_feed_47 : decode cX8_feed 47 = .ok (.aload_n 0, 1) := by decide +kernel
theorem dX8_feed_48 : decode cX8_feed 48 = .ok (.getfield 225, 3) := by decide +kernel
theorem dX8_feed_51 : decode cX8_feed 51 = .ok (.ireturn, 1) := by decide +kernel
theorem dX8_here_0 : decode cX8_here 0 = .ok (.aload_n 0, 1) := by decide +kernel
theorem dX8_here_1 : decode cX8_here 1 = .ok (.getfield 228, 3) := by decide +kernel
theorem dX8_here_4 : decode cX8_here 4 = .ok (.aload_n 0, 1) := by decide +kernel
theorem dX8_here_5 : decode cX8_here 5 = .ok (.getfield 225, 3) := by decide +kernel
theorem dX8_here_8 : decode cX8_here 8 = .ok (.if_icmp .ge 15, 3) := by decide +kernel
theorem dX8_here_11 : decode cX8_here 11 = .ok (.aload_n 0, 1) := by decide +kernel
theorem dX8_here_12 : decode cX8_here 12 = .ok (.getfield 37, 3) := by decide +kernel
theorem dX8_here_15 : decode cX8_here 15 = .ok (.aload_n 0, 1) := by decide +kernel
theorem dX8_here_16 : decode cX8_here 16 = .ok (.getfield 228, 3) := by decide +kernel
theorem dX8_here_19 : decode cX8_here 19 = .ok (.iaload, 1) := by decide +kernel
theorem dX8_here_20 : decode cX8_here 20 = .ok (.goto 4, 3) := by decide +kernel
theorem dX8_here_23 : decode cX8_here 23 = .ok (.iconst (-1), 1) := by decide +kernel
theorem dX8_here_24 : decode cX8_here 24 = .ok (.ireturn, 1) := by decide +kernel
theorem dX8_fail_0 : decode cX8_fail 0 = .ok (.aload_n 0, 1) := by decide +kernel
theorem dX8_fail_1 : decode cX8_fail 1 = .ok (.getfield 231, 3) := by decide +kernel
theorem dX8_fail_4 : decode cX8_fail 4 = .ok (.iconst (-1), 1) := by decide +kernel
theorem dX8_fail_5 : decode cX8_fail 5 = .ok (.if_icmp .ne 11, 3) := by decide +kernel
theorem dX8_fail_8 : decode cX8_fail 8 = .ok (.aload_n 0, 1) := by decide +kernel
theorem dX8_fail_9 : decode cX8_fail 9 = .ok (.aload_n 0, 1) := by decide +kernel
theorem dX8_fail_10 : decode cX8_fail 10 = .ok (.getfield 228, 3) := by decide +kernel
theorem dX8_fail_13 : decode cX8_fail 13 = .ok (.putfield 231, 3) := by decide +kernel
theorem dX8_fail_16 : decode cX8_fail 16 = .ok (.return_, 1) := by decide +kernel
theorem dX8_all_0 : decode cX8_all 0 = .ok (.lconst 1, 1) := by decide +kernel
theorem dX8_all_1 : decode cX8_all 1 = .ok (.aload_n 0, 1) := by decide +kernel
theorem dX8_all_2 : decode cX8_all 2 = .ok (.getfield 13, 3) := by decide +kernel
theorem dX8_all_5 : decode cX8_all 5 = .ok (.lshl, 1) := by decide +kernel
theorem dX8_all_6 : decode cX8_all 6 = .ok (.lconst 1, 1) := by decide +kernel
theorem dX8_all_7 : decode cX8_all 7 = .ok (.lsub, 1) := by decide +kernel
theorem dX8_all_8 : decode cX8_all 8 = .ok (.lreturn, 1) := by decide +kernel
theorem dX8_variable_0 : decode cX8_variable 0 = .ok (.lconst 0, 1) := by decide +kernel
theorem dX8_variable_1 : decode cX8_variable 1 = .ok (.lstore_n 2, 1) := by decide +kernel
theorem dX8_variable_2 : decode cX8_variable 2 = .ok (.iconst 0, 1) := by decide +kernel
theorem dX8_variable_3 : decode cX8_variable 3 = .ok (.istore 4, 2) := by decide +kernel
theorem dX8_variable_5 : decode cX8_variable 5 = .ok (.iload 4, 2) := by decide +kernel
theorem dX8_variable_7 : decode cX8_variable 7 = .ok (.aload_n 0, 1) := by decide +kernel
theorem dX8_variable_8 : decode cX8_variable 8 = .ok (.getfield 13, 3) := by decide +kernel
theorem dX8_variable_11 : decode cX8_variable 11 = .ok (.if_icmp .ge 30, 3) := by decide +kernel
theorem dX8_variable_14 : decode cX8_variable 14 = .ok (.lload_n 2, 1) := by decide +kernel
theorem dX8_variable_15 : decode cX8_variable 15 = .ok (.iload 4, 2) := by decide +kernel
theorem dX8_variable_17 : decode cX8_variable 17 = .ok (.iload_n 1, 1) := by decide +kernel
theorem dX8_variable_18 : decode cX8_variable 18 = .ok (.ishr, 1) := by decide +kernel
theorem dX8_variable_19 : decode cX8_variable 19 = .ok (.iconst 1, 1) := by decide +kernel
theorem dX8_variable_20 : decode cX8_variable 20 = .ok (.iand, 1) := by decide +kernel
theorem dX8_variable_21 : decode cX8_variable 21 = .ok (.iconst 1, 1) := by decide +kernel
theorem dX8_variable_22 : decode cX8_variable 22 = .ok (.if_icmp .ne 10, 3) := by decide +kernel
theorem dX8_variable_25 : decode cX8_variable 25 = .ok (.lconst 1, 1) := by decide +kernel
theorem dX8_variable_26 : decode cX8_variable 26 = .ok (.iload 4, 2) := by decide +kernel
theorem dX8_variable_28 : decode cX8_variable 28 = .ok (.lshl, 1) := by decide +kernel
theorem dX8_variable_29 : decode cX8_variable 29 = .ok (.goto 4, 3) := by decide +kernel
theorem dX8_variable_32 : decode cX8_variable 32 = .ok (.lconst 0, 1) := by decide +kernel
theorem dX8_variable_33 : decode cX8_variable 33 = .ok (.lor, 1) := by decide +kernel
theorem dX8_variable_34 : decode cX8_variable 34 = .ok (.lstore_n 2, 1) := by decide +kernel
theorem dX8_variable_35 : decode cX8_variable 35 = .ok (.iinc 4 1, 3) := by decide +kernel
theorem dX8_variable_38 : decode cX8_variable 38 = .ok (.goto (-33), 3) := by decide +kernel
theorem dX8_variable_41 : decode cX8_variable 41 = .ok (.lload_n 2, 1) := by decide +kernel
theorem dX8_variable_42 : decode cX8_variable 42 = .ok (.lreturn, 1) := by decide +kernel
theorem dX8_factor_0 : decode cX8_factor 0 = .ok (.aload_n 0, 1) := by decide +kernel
theorem dX8_factor_1 : decode cX8_factor 1 = .ok (.invokevirtual 234, 3) := by decide +kernel
theorem dX8_factor_4 : decode cX8_factor 4 = .ok (.istore_n 2, 1) := by decide +kernel
theorem dX8_factor_5 : decode cX8_factor 5 = .ok (.iload_n 2, 1) := by decide +kernel
theorem dX8_factor_6 : decode cX8_factor 6 = .ok (.i2l, 1) := by decide +kernel
theorem dX8_factor_7 : decode cX8_factor 7 = .ok (.ldc2_w 237, 3) := by decide +kernel
theorem dX8_factor_10 : decode cX8_factor 10 = .ok (.bipush 97, 2) := by decide +kernel
theorem dX8_factor_12 : decode cX8_factor 12 = .ok (.aload_n 0, 1) := by decide +kernel
theorem dX8_factor_13 : decode cX8_factor 13 = .ok (.getfield 7, 3) := by decide +kernel
theorem dX8_factor_16 : decode cX8_factor 16 = .ok (.iadd, 1) := by decide +kernel
theorem dX8_factor_17 : decode cX8_factor 17 = .ok (.iconst 1, 1) := by decide +kernel
theorem dX8_factor_18 : decode cX8_factor 18 = .ok (.isub, 1) := by decide +kernel
theorem dX8_factor_19 : decode cX8_factor 19 = .ok (.i2l, 1) := by decide +kernel
theorem dX8_factor_20 : decode cX8_factor 20 = .ok (.invokestatic 87, 3) := by decide +kernel
theorem dX8_factor_23 : decode cX8_factor 23 = .ok (.ifCond .eq 32, 3) := by decide +kernel
theorem dX8_factor_26 : decode cX8_factor 26 = .ok (.aload_n 0, 1) := by decide +kernel
theorem dX8_factor_27 : decode cX8_factor 27 = .ok (.dup, 1) := by decide +kernel
theorem dX8_factor_28 : decode cX8_factor 28 = .ok (.getfield 228, 3) := by decide +kernel
theorem dX8_factor_31 : decode cX8_factor 31 = .ok (.iconst 1, 1) := by decide +kernel
theorem dX8_factor_32 : decode cX8_factor 32 = .ok (.iadd, 1) := by decide +kernel
theorem dX8_factor_33 : decode cX8_factor 33 = .ok (.putfield 228, 3) := by decide +kernel
theorem dX8_factor_36 : decode cX8_factor 36 = .ok (.aload_n 0, 1) := by decide +kernel
theorem dX8_factor_37 : decode cX8_factor 37 = .ok (.dup, 1) := by decide +kernel
theorem dX8_factor_38 : decode cX8_factor 38 = .ok (.getfield 239, 3) := by decide +kernel
theorem dX8_factor_41 : decode cX8_factor 41 = .ok (.iconst 1, 1) := by decide +kernel
theorem dX8_factor_42 : decode cX8_factor 42 = .ok (.iadd, 1) := by decide +kernel
theorem dX8_factor_43 : decode cX8_factor 43 = .ok (.putfield 239, 3) := by decide +kernel
theorem dX8_factor_46 : decode cX8_factor 46 = .ok (.aload_n 0, 1) := by decide +kernel
theorem dX8_factor_47 : decode cX8_factor 47 = .ok (.iload_n 2, 1) := by decide +kernel
theorem dX8_factor_48 : decode cX8_factor 48 = .ok (.bipush 97, 2) := by decide +kernel
theorem dX8_factor_50 : decode cX8_factor 50 = .ok (.isub, 1) := by decide +kernel
theorem dX8_factor_51 : decode cX8_factor 51 = .ok (.invokevirtual 242, 3) := by decide +kernel
theorem dX8_factor_54 : decode cX8_factor 54 = .ok (.lreturn, 1) := by decide +kernel
theorem dX8_factor_55 : decode cX8_factor 55 = .ok (.iload_n 2, 1) := by decide +kernel
theorem dX8_factor_56 : decode cX8_factor 56 = .ok (.bipush 48, 2) := by decide +kernel
theorem dX8_factor_58 : decode cX8_factor 58 = .ok (.if_icmp .eq 9, 3) := by decide +kernel
theorem dX8_factor_61 : decode cX8_factor 61 = .ok (.iload_n 2, 1) := by decide +kernel
theorem dX8_factor_62 : decode cX8_factor 62 = .ok (.bipush 49, 2) := by decide +kernel
theorem dX8_factor_64 : decode cX8_factor 64 = .ok (.if_icmp .ne 28, 3) := by decide +kernel
theorem dX8_factor_67 : decode cX8_factor 67 = .ok (.aload_n 0, 1) := by decide +kernel
theorem dX8_factor_68 : decode cX8_factor 68 = .ok (.dup, 1) := by decide +kernel
theorem dX8_factor_69 : decode cX8_factor 69 = .ok (.getfield 228, 3) := by decide +kernel
theorem dX8_factor_72 : decode cX8_factor 72 = .ok (.iconst 1, 1) := by decide +kernel
theorem dX8_factor_73 : decode cX8_factor 73 = .ok (.iadd, 1) := by decide +kernel
theorem dX8_factor_74 : decode cX8_factor 74 = .ok (.putfield 228, 3) := by decide +kernel
theorem dX8_factor_77 : decode cX8_factor 77 = .ok (.iload_n 2, 1) := by decide +kernel
theorem dX8_factor_78 : decode cX8_factor 78 = .ok (.bipush 49, 2) := by decide +kernel
theorem dX8_factor_80 : decode cX8_factor 80 = .ok (.if_icmp .ne 10, 3) := by decide +kernel
theorem dX8_factor_83 : decode cX8_factor 83 = .ok (.aload_n 0, 1) := by decide +kernel
theorem dX8_factor_84 : decode cX8_factor 84 = .ok (.invokevirtual 246, 3) := by decide +kernel
theorem dX8_factor_87 : decode cX8_factor 87 = .ok (.goto 4, 3) := by decide +kernel
theorem dX8_factor_90 : decode cX8_factor 90 = .ok (.lconst 0, 1) := by decide +kernel
theorem dX8_factor_91 : decode cX8_factor 91 = .ok (.lreturn, 1) := by decide +kernel
theorem dX8_factor_92 : decode cX8_factor 92 = .ok (.iload_n 2, 1) := by decide +kernel
theorem dX8_factor_93 : decode cX8_factor 93 = .ok (.bipush 33, 2) := by decide +kernel
theorem dX8_factor_95 : decode cX8_factor 95 = .ok (.if_icmp .eq 9, 3) := by decide +kernel
theorem dX8_factor_98 : decode cX8_factor 98 = .ok (.iload_n 2, 1) := by decide +kernel
theorem dX8_factor_99 : decode cX8_factor 99 = .ok (.bipush 40, 2) := by decide +kernel
theorem dX8_factor_101 : decode cX8_factor 101 = .ok (.if_icmp .ne 9, 3) := by decide +kernel
theorem dX8_factor_104 : decode cX8_factor 104 = .ok (.iload_n 1, 1) := by decide +kernel
theorem dX8_factor_105 : decode cX8_factor 105 = .ok (.bipush 6, 2) := by decide +kernel
theorem dX8_factor_107 : decode cX8_factor 107 = .ok (.if_icmp .ne 9, 3) := by decide +kernel
theorem dX8_factor_110 : decode cX8_factor 110 = .ok (.aload_n 0, 1) := by decide +kernel
theorem dX8_factor_111 : decode cX8_factor 111 = .ok (.invokevirtual 250, 3) := by decide +kernel
theorem dX8_factor_114 : decode cX8_factor 114 = .ok (.lconst 0, 1) := by decide +kernel
theorem dX8_factor_115 : decode cX8_factor 115 = .ok (.lreturn, 1) := by decide +kernel
theorem dX8_factor_116 : decode cX8_factor 116 = .ok (.aload_n 0, 1) := by decide +kernel
theorem dX8_factor_117 : decode cX8_factor 117 = .ok (.dup, 1) := by decide +kernel
theorem dX8_factor_118 : decode cX8_factor 118 = .ok (.getfield 228, 3) := by decide +kernel
theorem dX8_factor_121 : decode cX8_factor 121 = .ok (.iconst 1, 1) := by decide +kernel
theorem dX8_factor_122 : decode cX8_factor 122 = .ok (.iadd, 1) := by decide +kernel
theorem dX8_factor_123 : decode cX8_factor 123 = .ok (.putfield 228, 3) := by decide +kernel
theorem dX8_factor_126 : decode cX8_factor 126 = .ok (.iload_n 2, 1) := by decide +kernel
theorem dX8_factor_127 : decode cX8_factor 127 = .ok (.bipush 33, 2) := by decide +kernel
theorem dX8_factor_129 : decode cX8_factor 129 = .ok (.if_icmp .ne 20, 3) := by decide +kernel
theorem dX8_factor_132 : decode cX8_factor 132 = .ok (.aload_n 0, 1) := by decide +kernel
theorem dX8_factor_133 : decode cX8_factor 133 = .ok (.invokevirtual 246, 3) := by decide +kernel
theorem dX8_factor_136 : decode cX8_factor 136 = .ok (.aload_n 0, 1) := by decide +kernel
theorem dX8_factor_137 : decode cX8_factor 137 = .ok (.iload_n 1, 1) := by decide +kernel
theorem dX8_factor_138 : decode cX8_factor 138 = .ok (.iconst 1, 1) := by decide +kernel
theorem dX8_factor_139 : decode cX8_factor 139 = .ok (.iadd, 1) := by decide +kernel
theorem dX8_factor_140 : decode cX8_factor 140 = .ok (.invokevirtual 253, 3) := by decide +kernel
theorem dX8_factor_143 : decode cX8_factor 143 = .ok (.ldc2_w 256, 3) := by decide +kernel
theorem dX8_factor_146 : decode cX8_factor 146 = .ok (.lxor, 1) := by decide +kernel
theorem dX8_factor_147 : decode cX8_factor 147 = .ok (.land, 1) := by decide +kernel
theorem dX8_factor_148 : decode cX8_factor 148 = .ok (.lreturn, 1) := by decide +kernel
theorem dX8_factor_149 : decode cX8_factor 149 = .ok (.aload_n 0, 1) := by decide +kernel
theorem dX8_factor_150 : decode cX8_factor 150 = .ok (.iload_n 1, 1) := by decide +kernel
theorem dX8_factor_151 : decode cX8_factor 151 = .ok (.iconst 1, 1) := by decide +kernel
theorem dX8_factor_152 : decode cX8_factor 152 = .ok (.iadd, 1) := by decide +kernel
theorem dX8_factor_153 : decode cX8_factor 153 = .ok (.invokevirtual 258, 3) := by decide +kernel
theorem dX8_factor_156 : decode cX8_factor 156 = .ok (.lstore_n 3, 1) := by decide +kernel
theorem dX8_factor_157 : decode cX8_factor 157 = .ok (.aload_n 0, 1) := by decide +kernel
theorem dX8_factor_158 : decode cX8_factor 158 = .ok (.getfield 231, 3) := by decide +kernel
theorem dX8_factor_161 : decode cX8_factor 161 = .ok (.iconst (-1), 1) := by decide +kernel
theorem dX8_factor_162 : decode cX8_factor 162 = .ok (.if_icmp .ne 12, 3) := by decide +kernel
theorem dX8_factor_165 : decode cX8_factor 165 = .ok (.aload_n 0, 1) := by decide +kernel
theorem dX8_factor_166 : decode cX8_factor 166 = .ok (.invokevirtual 234, 3) := by decide +kernel
theorem dX8_factor_169 : decode cX8_factor 169 = .ok (.bipush 41, 2) := by decide +kernel
theorem dX8_factor_171 : decode cX8_factor 171 = .ok (.if_icmp .eq 10, 3) := by decide +kernel
theorem dX8_factor_174 : decode cX8_factor 174 = .ok (.aload_n 0, 1) := by decide +kernel
theorem dX8_factor_175 : decode cX8_factor 175 = .ok (.invokevirtual 250, 3) := by decide +kernel
theorem dX8_factor_178 : decode cX8_factor 178 = .ok (.goto 13, 3) := by decide +kernel
theorem dX8_factor_181 : decode cX8_factor 181 = .ok (.aload_n 0, 1) := by decide +kernel
theorem dX8_factor_182 : decode cX8_factor 182 = .ok (.dup, 1) := by decide +kernel
theorem dX8_factor_183 : decode cX8_factor 183 = .ok (.getfield 228, 3) := by decide +kernel
theorem dX8_factor_186 : decode cX8_factor 186 = .ok (.iconst 1, 1) := by decide +kernel
theorem dX8_factor_187 : decode cX8_factor 187 = .ok (.iadd, 1) := by decide +kernel
theorem dX8_factor_188 : decode cX8_factor 188 = .ok (.putfield 228, 3) := by decide +kernel
theorem dX8_factor_191 : decode cX8_factor 191 = .ok (.lload_n 3, 1) := by decide +kernel
theorem dX8_factor_192 : decode cX8_factor 192 = .ok (.lreturn, 1) := by decide +kernel
theorem dX8_term_0 : decode cX8_term 0 = .ok (.aload_n 0, 1) := by decide +kernel
theorem dX8_term_1 : decode cX8_term 1 = .ok (.iload_n 1, 1) := by decide +kernel
theorem dX8_term_2 : decode cX8_term 2 = .ok (.invokevirtual 253, 3) := by decide +kernel
theorem dX8_term_5 : decode cX8_term 5 = .ok (.lstore_n 2, 1) := by decide +kernel
theorem dX8_term_6 : decode cX8_term 6 = .ok (.aload_n 0, 1) := by decide +kernel
theorem dX8_term_7 : decode cX8_term 7 = .ok (.getfield 231, 3) := by decide +kernel
theorem dX8_term_10 : decode cX8_term 10 = .ok (.iconst (-1), 1) := by decide +kernel
theorem dX8_term_11 : decode cX8_term 11 = .ok (.if_icmp .ne 33, 3) := by decide +kernel
theorem dX8_term_14 : decode cX8_term 14 = .ok (.aload_n 0, 1) := by decide +kernel
theorem dX8_term_15 : decode cX8_term 15 = .ok (.invokevirtual 234, 3) := by decide +kernel
theorem dX8_term_18 : decode cX8_term 18 = .ok (.bipush 42, 2) := by decide +kernel
theorem dX8_term_20 : decode cX8_term 20 = .ok (.if_icmp .ne 24, 3) := by decide +kernel
theorem dX8_term_23 : decode cX8_term 23 = .ok (.aload_n 0, 1) := by decide +kernel
theorem dX8_term_24 : decode cX8_term 24 = .ok (.dup, 1) := by decide +kernel
theorem dX8_term_25 : decode cX8_term 25 = .ok (.getfield 228, 3) := by decide +kernel
theorem dX8_term_28 : decode cX8_term 28 = .ok (.iconst 1, 1) := by decide +kernel
theorem dX8_term_29 : decode cX8_term 29 = .ok (.iadd, 1) := by decide +kernel
theorem dX8_term_30 : decode cX8_term 30 = .ok (.putfield 228, 3) := by decide +kernel
theorem dX8_term_33 : decode cX8_term 33 = .ok (.lload_n 2, 1) := by decide +kernel
theorem dX8_term_34 : decode cX8_term 34 = .ok (.aload_n 0, 1) := by decide +kernel
theorem dX8_term_35 : decode cX8_term 35 = .ok (.iload_n 1, 1) := by decide +kernel
theorem dX8_term_36 : decode cX8_term 36 = .ok (.invokevirtual 253, 3) := by decide +kernel
theorem dX8_term_39 : decode cX8_term 39 = .ok (.land, 1) := by decide +kernel
theorem dX8_term_40 : decode cX8_term 40 = .ok (.lstore_n 2, 1) := by decide +kernel
theorem dX8_term_41 : decode cX8_term 41 = .ok (.goto (-35), 3) := by decide +kernel
theorem dX8_term_44 : decode cX8_term 44 = .ok (.lload_n 2, 1) := by decide +kernel
theorem dX8_term_45 : decode cX8_term 45 = .ok (.lreturn, 1) := by decide +kernel
theorem dX8_formula_0 : decode cX8_formula 0 = .ok (.aload_n 0, 1) := by decide +kernel
theorem dX8_formula_1 : decode cX8_formula 1 = .ok (.iload_n 1, 1) := by decide +kernel
theorem dX8_formula_2 : decode cX8_formula 2 = .ok (.invokevirtual 261, 3) := by decide +kernel
theorem dX8_formula_5 : decode cX8_formula 5 = .ok (.lstore_n 2, 1) := by decide +kernel
theorem dX8_formula_6 : decode cX8_formula 6 = .ok (.aload_n 0, 1) := by decide +kernel
theorem dX8_formula_7 : decode cX8_formula 7 = .ok (.getfield 231, 3) := by decide +kernel
theorem dX8_formula_10 : decode cX8_formula 10 = .ok (.iconst (-1), 1) := by decide +kernel
theorem dX8_formula_11 : decode cX8_formula 11 = .ok (.if_icmp .ne 33, 3) := by decide +kernel
theorem dX8_formula_14 : decode cX8_formula 14 = .ok (.aload_n 0, 1) := by decide +kernel
theorem dX8_formula_15 : decode cX8_formula 15 = .ok (.invokevirtual 234, 3) := by decide +kernel
theorem dX8_formula_18 : decode cX8_formula 18 = .ok (.bipush 43, 2) := by decide +kernel
theorem dX8_formula_20 : decode cX8_formula 20 = .ok (.if_icmp .ne 24, 3) := by decide +kernel
theorem dX8_formula_23 : decode cX8_formula 23 = .ok (.aload_n 0, 1) := by decide +kernel
theorem dX8_formula_24 : decode cX8_formula 24 = .ok (.dup, 1) := by decide +kernel
theorem dX8_formula_25 : decode cX8_formula 25 = .ok (.getfield 228, 3) := by decide +kernel
theorem dX8_formula_28 : decode cX8_formula 28 = .ok (.iconst 1, 1) := by decide +kernel
theorem dX8_formula_29 : decode cX8_formula 29 = .ok (.iadd, 1) := by decide +kernel
theorem dX8_formula_30 : decode cX8_formula 30 = .ok (.putfield 228, 3) := by decide +kernel
theorem dX8_formula_33 : decode cX8_formula 33 = .ok (.lload_n 2, 1) := by decide +kernel
theorem dX8_formula_34 : decode cX8_formula 34 = .ok (.aload_n 0, 1) := by decide +kernel
theorem dX8_formula_35 : decode cX8_formula 35 = .ok (.iload_n 1, 1) := by decide +kernel
theorem dX8_formula_36 : decode cX8_formula 36 = .ok (.invokevirtual 261, 3) := by decide +kernel
theorem dX8_formula_39 : decode cX8_formula 39 = .ok (.lor, 1) := by decide +kernel
theorem dX8_formula_40 : decode cX8_formula 40 = .ok (.lstore_n 2, 1) := by decide +kernel
theorem dX8_formula_41 : decode cX8_formula 41 = .ok (.goto (-35), 3) := by decide +kernel
theorem dX8_formula_44 : decode cX8_formula 44 = .ok (.lload_n 2, 1) := by decide +kernel
theorem dX8_formula_45 : decode cX8_formula 45 = .ok (.lreturn, 1) := by decide +kernel
theorem dX8_parse_0 : decode cX8_parse 0 = .ok (.iload_n 1, 1) := by decide +kernel
theorem dX8_parse_1 : decode cX8_parse 1 = .ok (.invokestatic 118, 3) := by decide +kernel
theorem dX8_parse_4 : decode cX8_parse 4 = .ok (.ifCond .ne 6, 3) := by decide +kernel
theorem dX8_parse_7 : decode cX8_parse 7 = .ok (.bipush (-2), 2) := by decide +kernel
theorem dX8_parse_9 : decode cX8_parse 9 = .ok (.ireturn, 1) := by decide +kernel
theorem dX8_parse_10 : decode cX8_parse 10 = .ok (.aload_n 0, 1) := by decide +kernel
theorem dX8_parse_11 : decode cX8_parse 11 = .ok (.iconst 0, 1) := by decide +kernel
theorem dX8_parse_12 : decode cX8_parse 12 = .ok (.putfield 228, 3) := by decide +kernel
theorem dX8_parse_15 : decode cX8_parse 15 = .ok (.aload_n 0, 1) := by decide +kernel
theorem dX8_parse_16 : decode cX8_parse 16 = .ok (.iconst (-1), 1) := by decide +kernel
theorem dX8_parse_17 : decode cX8_parse 17 = .ok (.putfield 231, 3) := by decide +kernel
theorem dX8_parse_20 : decode cX8_parse 20 = .ok (.aload_n 0, 1) := by decide +kernel
theorem dX8_parse_21 : decode cX8_parse 21 = .ok (.iconst 0, 1) := by decide +kernel
theorem dX8_parse_22 : decode cX8_parse 22 = .ok (.putfield 239, 3) := by decide +kernel
theorem dX8_parse_25 : decode cX8_parse 25 = .ok (.aload_n 0, 1) := by decide +kernel
theorem dX8_parse_26 : decode cX8_parse 26 = .ok (.iconst 0, 1) := by decide +kernel
theorem dX8_parse_27 : decode cX8_parse 27 = .ok (.invokevirtual 258, 3) := by decide +kernel
theorem dX8_parse_30 : decode cX8_parse 30 = .ok (.lstore_n 2, 1) := by decide +kernel
theorem dX8_parse_31 : decode cX8_parse 31 = .ok (.aload_n 0, 1) := by decide +kernel
theorem dX8_parse_32 : decode cX8_parse 32 = .ok (.getfield 228, 3) := by decide +kernel
theorem dX8_parse_35 : decode cX8_parse 35 = .ok (.aload_n 0, 1) := by decide +kernel
theorem dX8_parse_36 : decode cX8_parse 36 = .ok (.getfield 225, 3) := by decide +kernel
theorem dX8_parse_39 : decode cX8_parse 39 = .ok (.if_icmp .ge 7, 3) := by decide +kernel
theorem dX8_parse_42 : decode cX8_parse 42 = .ok (.aload_n 0, 1) := by decide +kernel
theorem dX8_parse_43 : decode cX8_parse 43 = .ok (.invokevirtual 250, 3) := by decide +kernel
theorem dX8_parse_46 : decode cX8_parse 46 = .ok (.aload_n 0, 1) := by decide +kernel
theorem dX8_parse_47 : decode cX8_parse 47 = .ok (.iconst 0, 1) := by decide +kernel
theorem dX8_parse_48 : decode cX8_parse 48 = .ok (.putfield 225, 3) := by decide +kernel
theorem dX8_parse_51 : decode cX8_parse 51 = .ok (.aload_n 0, 1) := by decide +kernel
theorem dX8_parse_52 : decode cX8_parse 52 = .ok (.getfield 231, 3) := by decide +kernel
theorem dX8_parse_55 : decode cX8_parse 55 = .ok (.iconst (-1), 1) := by decide +kernel
theorem dX8_parse_56 : decode cX8_parse 56 = .ok (.if_icmp .eq 11, 3) := by decide +kernel
theorem dX8_parse_59 : decode cX8_parse 59 = .ok (.bipush (-100), 2) := by decide +kernel
theorem dX8_parse_61 : decode cX8_parse 61 = .ok (.aload_n 0, 1) := by decide +kernel
theorem dX8_parse_62 : decode cX8_parse 62 = .ok (.getfield 231, 3) := by decide +kernel
theorem dX8_parse_65 : decode cX8_parse 65 = .ok (.isub, 1) := by decide +kernel
theorem dX8_parse_66 : decode cX8_parse 66 = .ok (.ireturn, 1) := by decide +kernel
theorem dX8_parse_67 : decode cX8_parse 67 = .ok (.aload_n 0, 1) := by decide +kernel
theorem dX8_parse_68 : decode cX8_parse 68 = .ok (.iload_n 1, 1) := by decide +kernel
theorem dX8_parse_69 : decode cX8_parse 69 = .ok (.lload_n 2, 1) := by decide +kernel
theorem dX8_parse_70 : decode cX8_parse 70 = .ok (.invokevirtual 122, 3) := by decide +kernel
theorem dX8_parse_73 : decode cX8_parse 73 = .ok (.pop, 1) := by decide +kernel
theorem dX8_parse_74 : decode cX8_parse 74 = .ok (.aload_n 0, 1) := by decide +kernel
theorem dX8_parse_75 : decode cX8_parse 75 = .ok (.getfield 239, 3) := by decide +kernel
theorem dX8_parse_78 : decode cX8_parse 78 = .ok (.ireturn, 1) := by decide +kernel
theorem dX8_combine_0 : decode cX8_combine 0 = .ok (.iload_n 1, 1) := by decide +kernel
theorem dX8_combine_1 : decode cX8_combine 1 = .ok (.i2l, 1) := by decide +kernel
theorem dX8_combine_2 : decode cX8_combine 2 = .ok (.lconst 0, 1) := by decide +kernel
theorem dX8_combine_3 : decode cX8_combine 3 = .ok (.ldc2_w 264, 3) := by decide +kernel
theorem dX8_combine_6 : decode cX8_combine 6 = .ok (.invokestatic 87, 3) := by decide +kernel
theorem dX8_combine_9 : decode cX8_combine 9 = .ok (.ifCond .eq 25, 3) := by decide +kernel
theorem dX8_combine_12 : decode cX8_combine 12 = .ok (.iload_n 2, 1) := by decide +kernel
theorem dX8_combine_13 : decode cX8_combine 13 = .ok (.invokestatic 118, 3) := by decide +kernel
theorem dX8_combine_16 : decode cX8_combine 16 = .ok (.ifCond .eq 18, 3) := by decide +kernel
theorem dX8_combine_19 : decode cX8_combine 19 = .ok (.iload_n 3, 1) := by decide +kernel
theorem dX8_combine_20 : decode cX8_combine 20 = .ok (.invokestatic 118, 3) := by decide +kernel
theorem dX8_combine_23 : decode cX8_combine 23 = .ok (.ifCond .eq 11, 3) := by decide +kernel
theorem dX8_combine_26 : decode cX8_combine 26 = .ok (.iload 4, 2) := by decide +kernel
theorem dX8_combine_28 : decode cX8_combine 28 = .ok (.invokestatic 118, 3) := by decide +kernel
theorem dX8_combine_31 : decode cX8_combine 31 = .ok (.ifCond .ne 6, 3) := by decide +kernel
theorem dX8_combine_34 : decode cX8_combine 34 = .ok (.bipush (-2), 2) := by decide +kernel
theorem dX8_combine_36 : decode cX8_combine 36 = .ok (.ireturn, 1) := by decide +kernel
theorem dX8_combine_37 : decode cX8_combine 37 = .ok (.aload_n 0, 1) := by decide +kernel
theorem dX8_combine_38 : decode cX8_combine 38 = .ok (.getfield 20, 3) := by decide +kernel
theorem dX8_combine_41 : decode cX8_combine 41 = .ok (.iload_n 2, 1) := by decide +kernel
theorem dX8_combine_42 : decode cX8_combine 42 = .ok (.baload, 1) := by decide +kernel
theorem dX8_combine_43 : decode cX8_combine 43 = .ok (.ifCond .eq 12, 3) := by decide +kernel
theorem dX8_combine_46 : decode cX8_combine 46 = .ok (.aload_n 0, 1) := by decide +kernel
theorem dX8_combine_47 : decode cX8_combine 47 = .ok (.getfield 20, 3) := by decide +kernel
theorem dX8_combine_50 : decode cX8_combine 50 = .ok (.iload_n 3, 1) := by decide +kernel
theorem dX8_combine_51 : decode cX8_combine 51 = .ok (.baload, 1) := by decide +kernel
theorem dX8_combine_52 : decode cX8_combine 52 = .ok (.ifCond .ne 6, 3) := by decide +kernel
theorem dX8_combine_55 : decode cX8_combine 55 = .ok (.bipush (-3), 2) := by decide +kernel
theorem dX8_combine_57 : decode cX8_combine 57 = .ok (.ireturn, 1) := by decide +kernel
theorem dX8_combine_58 : decode cX8_combine 58 = .ok (.aload_n 0, 1) := by decide +kernel
theorem dX8_combine_59 : decode cX8_combine 59 = .ok (.getfield 16, 3) := by decide +kernel
theorem dX8_combine_62 : decode cX8_combine 62 = .ok (.iload_n 2, 1) := by decide +kernel
theorem dX8_combine_63 : decode cX8_combine 63 = .ok (.laload, 1) := by decide +kernel
theorem dX8_combine_64 : decode cX8_combine 64 = .ok (.lstore 5, 2) := by decide +kernel
theorem dX8_combine_66 : decode cX8_combine 66 = .ok (.aload_n 0, 1) := by decide +kernel
theorem dX8_combine_67 : decode cX8_combine 67 = .ok (.getfield 16, 3) := by decide +kernel
theorem dX8_combine_70 : decode cX8_combine 70 = .ok (.iload_n 3, 1) := by decide +kernel
theorem dX8_combine_71 : decode cX8_combine 71 = .ok (.laload, 1) := by decide +kernel
theorem dX8_combine_72 : decode cX8_combine 72 = .ok (.lstore 7, 2) := by decide +kernel
theorem dX8_combine_74 : decode cX8_combine 74 = .ok (.aload_n 0, 1) := by decide +kernel
theorem dX8_combine_75 : decode cX8_combine 75 = .ok (.iload 4, 2) := by decide +kernel
theorem dX8_combine_77 : decode cX8_combine 77 = .ok (.iload_n 1, 1) := by decide +kernel
theorem dX8_combine_78 : decode cX8_combine 78 = .ok (.ifCond .ne 11, 3) := by decide +kernel
theorem dX8_combine_81 : decode cX8_combine 81 = .ok (.lload 5, 2) := by decide +kernel
theorem dX8_combine_83 : decode cX8_combine 83 = .ok (.lload 7, 2) := by decide +kernel
theorem dX8_combine_85 : decode cX8_combine 85 = .ok (.land, 1) := by decide +kernel
theorem dX8_combine_86 : decode cX8_combine 86 = .ok (.goto 21, 3) := by decide +kernel
theorem dX8_combine_89 : decode cX8_combine 89 = .ok (.iload_n 1, 1) := by decide +kernel
theorem dX8_combine_90 : decode cX8_combine 90 = .ok (.iconst 1, 1) := by decide +kernel
theorem dX8_combine_91 : decode cX8_combine 91 = .ok (.if_icmp .ne 11, 3) := by decide +kernel
theorem dX8_combine_94 : decode cX8_combine 94 = .ok (.lload 5, 2) := by decide +kernel
theorem dX8_combine_96 : decode cX8_combine 96 = .ok (.lload 7, 2) := by decide +kernel
theorem dX8_combine_98 : decode cX8_combine 98 = .ok (.lor, 1) := by decide +kernel
theorem dX8_combine_99 : decode cX8_combine 99 = .ok (.goto 8, 3) := by decide +kernel
theorem dX8_combine_102 : decode cX8_combine 102 = .ok (.lload 5, 2) := by decide +kernel
theorem dX8_combine_104 : decode cX8_combine 104 = .ok (.lload 7, 2) := by decide +kernel
theorem dX8_combine_106 : decode cX8_combine 106 = .ok (.lxor, 1) := by decide +kernel
theorem dX8_combine_107 : decode cX8_combine 107 = .ok (.invokevirtual 122, 3) := by decide +kernel
theorem dX8_combine_110 : decode cX8_combine 110 = .ok (.ireturn, 1) := by decide +kernel
theorem dX8_dual_0 : decode cX8_dual 0 = .ok (.iload_n 1, 1) := by decide +kernel
theorem dX8_dual_1 : decode cX8_dual 1 = .ok (.invokestatic 118, 3) := by decide +kernel
theorem dX8_dual_4 : decode cX8_dual 4 = .ok (.ifCond .eq 10, 3) := by decide +kernel
theorem dX8_dual_7 : decode cX8_dual 7 = .ok (.iload_n 2, 1) := by decide +kernel
theorem dX8_dual_8 : decode cX8_dual 8 = .ok (.invokestatic 118, 3) := by decide +kernel
theorem dX8_dual_11 : decode cX8_dual 11 = .ok (.ifCond .ne 6, 3) := by decide +kernel
theorem dX8_dual_14 : decode cX8_dual 14 = .ok (.bipush (-2), 2) := by decide +kernel
theorem dX8_dual_16 : decode cX8_dual 16 = .ok (.ireturn, 1) := by decide +kernel
theorem dX8_dual_17 : decode cX8_dual 17 = .ok (.aload_n 0, 1) := by decide +kernel
theorem dX8_dual_18 : decode cX8_dual 18 = .ok (.getfield 20, 3) := by decide +kernel
theorem dX8_dual_21 : decode cX8_dual 21 = .ok (.iload_n 1, 1) := by decide +kernel
theorem dX8_dual_22 : decode cX8_dual 22 = .ok (.baload, 1) := by decide +kernel
theorem dX8_dual_23 : decode cX8_dual 23 = .ok (.ifCond .ne 6, 3) := by decide +kernel
theorem dX8_dual_26 : decode cX8_dual 26 = .ok (.bipush (-3), 2) := by decide +kernel
theorem dX8_dual_28 : decode cX8_dual 28 = .ok (.ireturn, 1) := by decide +kernel
theorem dX8_dual_29 : decode cX8_dual 29 = .ok (.lconst 0, 1) := by decide +kernel
theorem dX8_dual_30 : decode cX8_dual 30 = .ok (.lstore_n 3, 1) := by decide +kernel
theorem dX8_dual_31 : decode cX8_dual 31 = .ok (.iconst 0, 1) := by decide +kernel
theorem dX8_dual_32 : decode cX8_dual 32 = .ok (.istore 5, 2) := by decide +kernel
theorem dX8_dual_34 : decode cX8_dual 34 = .ok (.iload 5, 2) := by decide +kernel
theorem dX8_dual_36 : decode cX8_dual 36 = .ok (.aload_n 0, 1) := by decide +kernel
theorem dX8_dual_37 : decode cX8_dual 37 = .ok (.getfield 13, 3) := by decide +kernel
theorem dX8_dual_40 : decode cX8_dual 40 = .ok (.if_icmp .ge 41, 3) := by decide +kernel
theorem dX8_dual_43 : decode cX8_dual 43 = .ok (.lload_n 3, 1) := by decide +kernel
theorem dX8_dual_44 : decode cX8_dual 44 = .ok (.aload_n 0, 1) := by decide +kernel
theorem dX8_dual_45 : decode cX8_dual 45 = .ok (.getfield 16, 3) := by decide +kernel
theorem dX8_dual_48 : decode cX8_dual 48 = .ok (.iload_n 1, 1) := by decide +kernel
theorem dX8_dual_49 : decode cX8_dual 49 = .ok (.laload, 1) := by decide +kernel
theorem dX8_dual_50 : decode cX8_dual 50 = .ok (.aload_n 0, 1) := by decide +kernel
theorem dX8_dual_51 : decode cX8_dual 51 = .ok (.getfield 13, 3) := by decide +kernel
theorem dX8_dual_54 : decode cX8_dual 54 = .ok (.iconst 1, 1) := by decide +kernel
theorem dX8_dual_55 : decode cX8_dual 55 = .ok (.isub, 1) := by decide +kernel
theorem dX8_dual_56 : decode cX8_dual 56 = .ok (.iload 5, 2) := by decide +kernel
theorem dX8_dual_58 : decode cX8_dual 58 = .ok (.isub, 1) := by decide +kernel
theorem dX8_dual_59 : decode cX8_dual 59 = .ok (.invokestatic 91, 3) := by decide +kernel
theorem dX8_dual_62 : decode cX8_dual 62 = .ok (.ifCond .eq 7, 3) := by decide +kernel
theorem dX8_dual_65 : decode cX8_dual 65 = .ok (.lconst 0, 1) := by decide +kernel
theorem dX8_dual_66 : decode cX8_dual 66 = .ok (.goto 7, 3) := by decide +kernel
theorem dX8_dual_69 : decode cX8_dual 69 = .ok (.lconst 1, 1) := by decide +kernel
theorem dX8_dual_70 : decode cX8_dual 70 = .ok (.iload 5, 2) := by decide +kernel
theorem dX8_dual_72 : decode cX8_dual 72 = .ok (.lshl, 1) := by decide +kernel
theorem dX8_dual_73 : decode cX8_dual 73 = .ok (.lor, 1) := by decide +kernel
theorem dX8_dual_74 : decode cX8_dual 74 = .ok (.lstore_n 3, 1) := by decide +kernel
theorem dX8_dual_75 : decode cX8_dual 75 = .ok (.iinc 5 1, 3) := by decide +kernel
theorem dX8_dual_78 : decode cX8_dual 78 = .ok (.goto (-44), 3) := by decide +kernel
theorem dX8_dual_81 : decode cX8_dual 81 = .ok (.aload_n 0, 1) := by decide +kernel
theorem dX8_dual_82 : decode cX8_dual 82 = .ok (.iload_n 2, 1) := by decide +kernel
theorem dX8_dual_83 : decode cX8_dual 83 = .ok (.lload_n 3, 1) := by decide +kernel
theorem dX8_dual_84 : decode cX8_dual 84 = .ok (.invokevirtual 122, 3) := by decide +kernel
theorem dX8_dual_87 : decode cX8_dual 87 = .ok (.ireturn, 1) := by decide +kernel
theorem dX8_cofactor_0 : decode cX8_cofactor 0 = .ok (.iload_n 1, 1) := by decide +kernel
theorem dX8_cofactor_1 : decode cX8_cofactor 1 = .ok (.invokestatic 118, 3) := by decide +kernel
theorem dX8_cofactor_4 : decode cX8_cofactor 4 = .ok (.ifCond .eq 29, 3) := by decide +kernel
theorem dX8_cofactor_7 : decode cX8_cofactor 7 = .ok (.aload_n 0, 1) := by decide +kernel
theorem dX8_cofactor_8 : decode cX8_cofactor 8 = .ok (.iload_n 2, 1) := by decide +kernel
theorem dX8_cofactor_9 : decode cX8_cofactor 9 = .ok (.invokevirtual 163, 3) := by decide +kernel
theorem dX8_cofactor_12 : decode cX8_cofactor 12 = .ok (.ifCond .eq 21, 3) := by decide +kernel
theorem dX8_cofactor_15 : decode cX8_cofactor 15 = .ok (.iload_n 3, 1) := by decide +kernel
theorem dX8_cofactor_16 : decode cX8_cofactor 16 = .ok (.i2l, 1) := by decide +kernel
theorem dX8_cofactor_17 : decode cX8_cofactor 17 = .ok (.lconst 0, 1) := by decide +kernel
theorem dX8_cofactor_18 : decode cX8_cofactor 18 = .ok (.lconst 1, 1) := by decide +kernel
theorem dX8_cofactor_19 : decode cX8_cofactor 19 = .ok (.invokestatic 87, 3) := by decide +kernel
theorem dX8_cofactor_22 : decode cX8_cofactor 22 = .ok (.ifCond .eq 11, 3) := by decide +kernel
theorem dX8_cofactor_25 : decode cX8_cofactor 25 = .ok (.iload 4, 2) := by decide +kernel
theorem dX8_cofactor_27 : decode cX8_cofactor 27 = .ok (.invokestatic 118, 3) := by decide +kernel
theorem dX8_cofactor_30 : decode cX8_cofactor 30 = .ok (.ifCond .ne 6, 3) := by decide +kernel
theorem dX8_cofactor_33 : decode cX8_cofactor 33 = .ok (.bipush (-2), 2) := by decide +kernel
theorem dX8_cofactor_35 : decode cX8_cofactor 35 = .ok (.ireturn, 1) := by decide +kernel
theorem dX8_cofactor_36 : decode cX8_cofactor 36 = .ok (.aload_n 0, 1) := by decide +kernel
theorem dX8_cofactor_37 : decode cX8_cofactor 37 = .ok (.getfield 20, 3) := by decide +kernel
theorem dX8_cofactor_40 : decode cX8_cofactor 40 = .ok (.iload_n 1, 1) := by decide +kernel
theorem dX8_cofactor_41 : decode cX8_cofactor 41 = .ok (.baload, 1) := by decide +kernel
theorem dX8_cofactor_42 : decode cX8_cofactor 42 = .ok (.ifCond .ne 6, 3) := by decide +kernel
theorem dX8_cofactor_45 : decode cX8_cofactor 45 = .ok (.bipush (-3), 2) := by decide +kernel
theorem dX8_cofactor_47 : decode cX8_cofactor 47 = .ok (.ireturn, 1) := by decide +kernel
theorem dX8_cofactor_48 : decode cX8_cofactor 48 = .ok (.lconst 0, 1) := by decide +kernel
theorem dX8_cofactor_49 : decode cX8_cofactor 49 = .ok (.lstore 5, 2) := by decide +kernel
theorem dX8_cofactor_51 : decode cX8_cofactor 51 = .ok (.iconst 0, 1) := by decide +kernel
theorem dX8_cofactor_52 : decode cX8_cofactor 52 = .ok (.istore 7, 2) := by decide +kernel
theorem dX8_cofactor_54 : decode cX8_cofactor 54 = .ok (.iload 7, 2) := by decide +kernel
theorem dX8_cofactor_56 : decode cX8_cofactor 56 = .ok (.aload_n 0, 1) := by decide +kernel
theorem dX8_cofactor_57 : decode cX8_cofactor 57 = .ok (.getfield 13, 3) := by decide +kernel
theorem dX8_cofactor_60 : decode cX8_cofactor 60 = .ok (.if_icmp .ge 46, 3) := by decide +kernel
theorem dX8_cofactor_63 : decode cX8_cofactor 63 = .ok (.lload 5, 2) := by decide +kernel
theorem dX8_cofactor_65 : decode cX8_cofactor 65 = .ok (.aload_n 0, 1) := by decide +kernel
theorem dX8_cofactor_66 : decode cX8_cofactor 66 = .ok (.getfield 16, 3) := by decide +kernel
theorem dX8_cofactor_69 : decode cX8_cofactor 69 = .ok (.iload_n 1, 1) := by decide +kernel
theorem dX8_cofactor_70 : decode cX8_cofactor 70 = .ok (.laload, 1) := by decide +kernel
theorem dX8_cofactor_71 : decode cX8_cofactor 71 = .ok (.iload 7, 2) := by decide +kernel
theorem dX8_cofactor_73 : decode cX8_cofactor 73 = .ok (.iconst 1, 1) := by decide +kernel
theorem dX8_cofactor_74 : decode cX8_cofactor 74 = .ok (.iload_n 2, 1) := by decide +kernel
theorem dX8_cofactor_75 : decode cX8_cofactor 75 = .ok (.ishl, 1) := by decide +kernel
theorem dX8_cofactor_76 : decode cX8_cofactor 76 = .ok (.iconst (-1), 1) := by decide +kernel
theorem dX8_cofactor_77 : decode cX8_cofactor 77 = .ok (.ixor, 1) := by decide +kernel
theorem dX8_cofactor_78 : decode cX8_cofactor 78 = .ok (.iand, 1) := by decide +kernel
theorem dX8_cofactor_79 : decode cX8_cofactor 79 = .ok (.iload_n 3, 1) := by decide +kernel
theorem dX8_cofactor_80 : decode cX8_cofactor 80 = .ok (.iload_n 2, 1) := by decide +kernel
theorem dX8_cofactor_81 : decode cX8_cofactor 81 = .ok (.ishl, 1) := by decide +kernel
theorem dX8_cofactor_82 : decode cX8_cofactor 82 = .ok (.ior, 1) := by decide +kernel
theorem dX8_cofactor_83 : decode cX8_cofactor 83 = .ok (.invokestatic 91, 3) := by decide +kernel
theorem dX8_cofactor_86 : decode cX8_cofactor 86 = .ok (.ifCond .eq 10, 3) := by decide +kernel
theorem dX8_cofactor_89 : decode cX8_cofactor 89 = .ok (.lconst 1, 1) := by decide +kernel
theorem dX8_cofactor_90 : decode cX8_cofactor 90 = .ok (.iload 7, 2) := by decide +kernel
theorem dX8_cofactor_92 : decode cX8_cofactor 92 = .ok (.lshl, 1) := by decide +kernel
theorem dX8_cofactor_93 : decode cX8_cofactor 93 = .ok (.goto 4, 3) := by decide +kernel
theorem dX8_cofactor_96 : decode cX8_cofactor 96 = .ok (.lconst 0, 1) := by decide +kernel
theorem dX8_cofactor_97 : decode cX8_cofactor 97 = .ok (.lor, 1) := by decide +kernel
theorem dX8_cofactor_98 : decode cX8_cofactor 98 = .ok (.lstore 5, 2) := by decide +kernel
theorem dX8_cofactor_100 : decode cX8_cofactor 100 = .ok (.iinc 7 1, 3) := by decide +kernel
theorem dX8_cofactor_103 : decode cX8_cofactor 103 = .ok (.goto (-49), 3) := by decide +kernel
theorem dX8_cofactor_106 : decode cX8_cofactor 106 = .ok (.aload_n 0, 1) := by decide +kernel
theorem dX8_cofactor_107 : decode cX8_cofactor 107 = .ok (.iload 4, 2) := by decide +kernel
theorem dX8_cofactor_109 : decode cX8_cofactor 109 = .ok (.lload 5, 2) := by decide +kernel
theorem dX8_cofactor_111 : decode cX8_cofactor 111 = .ok (.invokevirtual 122, 3) := by decide +kernel
theorem dX8_cofactor_114 : decode cX8_cofactor 114 = .ok (.ireturn, 1) := by decide +kernel
theorem dX8_substitute_0 : decode cX8_substitute 0 = .ok (.iload_n 1, 1) := by decide +kernel
theorem dX8_substitute_1 : decode cX8_substitute 1 = .ok (.invokestatic 118, 3) := by decide +kernel
theorem dX8_substitute_4 : decode cX8_substitute 4 = .ok (.ifCond .eq 26, 3) := by decide +kernel
theorem dX8_substitute_7 : decode cX8_substitute 7 = .ok (.aload_n 0, 1) := by decide +kernel
theorem dX8_substitute_8 : decode cX8_substitute 8 = .ok (.iload_n 2, 1) := by decide +kernel
theorem dX8_substitute_9 : decode cX8_substitute 9 = .ok (.invokevirtual 163, 3) := by decide +kernel
theorem dX8_substitute_12 : decode cX8_substitute 12 = .ok (.ifCond .eq 18, 3) := by decide +kernel
theorem dX8_substitute_15 : decode cX8_substitute 15 = .ok (.iload_n 3, 1) := by decide +kernel
theorem dX8_substitute_16 : decode cX8_substitute 16 = .ok (.invokestatic 118, 3) := by decide +kernel
theorem dX8_substitute_19 : decode cX8_substitute 19 = .ok (.ifCond .eq 11, 3) := by decide +kernel
theorem dX8_substitute_22 : decode cX8_substitute 22 = .ok (.iload 4, 2) := by decide +kernel
theorem dX8_substitute_24 : decode cX8_substitute 24 = .ok (.invokestatic 118, 3) := by decide +kernel
theorem dX8_substitute_27 : decode cX8_substitute 27 = .ok (.ifCond .ne 6, 3) := by decide +kernel
theorem dX8_substitute_30 : decode cX8_substitute 30 = .ok (.bipush (-2), 2) := by decide +kernel
theorem dX8_substitute_32 : decode cX8_substitute 32 = .ok (.ireturn, 1) := by decide +kernel
theorem dX8_substitute_33 : decode cX8_substitute 33 = .ok (.aload_n 0, 1) := by decide +kernel
theorem dX8_substitute_34 : decode cX8_substitute 34 = .ok (.getfield 20, 3) := by decide +kernel
theorem dX8_substitute_37 : decode cX8_substitute 37 = .ok (.iload_n 1, 1) := by decide +kernel
theorem dX8_substitute_38 : decode cX8_substitute 38 = .ok (.baload, 1) := by decide +kernel
theorem dX8_substitute_39 : decode cX8_substitute 39 = .ok (.ifCond .eq 12, 3) := by decide +kernel
theorem dX8_substitute_42 : decode cX8_substitute 42 = .ok (.aload_n 0, 1) := by decide +kernel
theorem dX8_substitute_43 : decode cX8_substitute 43 = .ok (.getfield 20, 3) := by decide +kernel
theorem dX8_substitute_46 : decode cX8_substitute 46 = .ok (.iload_n 3, 1) := by decide +kernel
theorem dX8_substitute_47 : decode cX8_substitute 47 = .ok (.baload, 1) := by decide +kernel
theorem dX8_substitute_48 : decode cX8_substitute 48 = .ok (.ifCond .ne 6, 3) := by decide +kernel
theorem dX8_substitute_51 : decode cX8_substitute 51 = .ok (.bipush (-3), 2) := by decide +kernel
theorem dX8_substitute_53 : decode cX8_substitute 53 = .ok (.ireturn, 1) := by decide +kernel
theorem dX8_substitute_54 : decode cX8_substitute 54 = .ok (.lconst 0, 1) := by decide +kernel
theorem dX8_substitute_55 : decode cX8_substitute 55 = .ok (.lstore 5, 2) := by decide +kernel
theorem dX8_substitute_57 : decode cX8_substitute 57 = .ok (.iconst 0, 1) := by decide +kernel
theorem dX8_substitute_58 : decode cX8_substitute 58 = .ok (.istore 7, 2) := by decide +kernel
theorem dX8_substitute_60 : decode cX8_substitute 60 = .ok (.iload 7, 2) := by decide +kernel
theorem dX8_substitute_62 : decode cX8_substitute 62 = .ok (.aload_n 0, 1) := by decide +kernel
theorem dX8_substitute_63 : decode cX8_substitute 63 = .ok (.getfield 13, 3) := by decide +kernel
theorem dX8_substitute_66 : decode cX8_substitute 66 = .ok (.if_icmp .ge 68, 3) := by decide +kernel
theorem dX8_substitute_69 : decode cX8_substitute 69 = .ok (.iload 7, 2) := by decide +kernel
theorem dX8_substitute_71 : decode cX8_substitute 71 = .ok (.iconst 1, 1) := by decide +kernel
theorem dX8_substitute_72 : decode cX8_substitute 72 = .ok (.iload_n 2, 1) := by decide +kernel
theorem dX8_substitute_73 : decode cX8_substitute 73 = .ok (.ishl, 1) := by decide +kernel
theorem dX8_substitute_74 : decode cX8_substitute 74 = .ok (.iconst (-1), 1) := by decide +kernel
theorem dX8_substitute_75 : decode cX8_substitute 75 = .ok (.ixor, 1) := by decide +kernel
theorem dX8_substitute_76 : decode cX8_substitute 76 = .ok (.iand, 1) := by decide +kernel
theorem dX8_substitute_77 : decode cX8_substitute 77 = .ok (.aload_n 0, 1) := by decide +kernel
theorem dX8_substitute_78 : decode cX8_substitute 78 = .ok (.getfield 16, 3) := by decide +kernel
theorem dX8_substitute_81 : decode cX8_substitute 81 = .ok (.iload_n 3, 1) := by decide +kernel
theorem dX8_substitute_82 : decode cX8_substitute 82 = .ok (.laload, 1) := by decide +kernel
theorem dX8_substitute_83 : decode cX8_substitute 83 = .ok (.iload 7, 2) := by decide +kernel
theorem dX8_substitute_85 : decode cX8_substitute 85 = .ok (.invokestatic 91, 3) := by decide +kernel
theorem dX8_substitute_88 : decode cX8_substitute 88 = .ok (.ifCond .eq 9, 3) := by decide +kernel
theorem dX8_substitute_91 : decode cX8_substitute 91 = .ok (.iconst 1, 1) := by decide +kernel
theorem dX8_substitute_92 : decode cX8_substitute 92 = .ok (.iload_n 2, 1) := by decide +kernel
theorem dX8_substitute_93 : decode cX8_substitute 93 = .ok (.ishl, 1) := by decide +kernel
theorem dX8_substitute_94 : decode cX8_substitute 94 = .ok (.goto 4, 3) := by decide +kernel
theorem dX8_substitute_97 : decode cX8_substitute 97 = .ok (.iconst 0, 1) := by decide +kernel
theorem dX8_substitute_98 : decode cX8_substitute 98 = .ok (.ior, 1) := by decide +kernel
theorem dX8_substitute_99 : decode cX8_substitute 99 = .ok (.istore 8, 2) := by decide +kernel
theorem dX8_substitute_101 : decode cX8_substitute 101 = .ok (.lload 5, 2) := by decide +kernel
theorem dX8_substitute_103 : decode cX8_substitute 103 = .ok (.aload_n 0, 1) := by decide +kernel
theorem dX8_substitute_104 : decode cX8_substitute 104 = .ok (.getfield 16, 3) := by decide +kernel
theorem dX8_substitute_107 : decode cX8_substitute 107 = .ok (.iload_n 1, 1) := by decide +kernel
theorem dX8_substitute_108 : decode cX8_substitute 108 = .ok (.laload, 1) := by decide +kernel
theorem dX8_substitute_109 : decode cX8_substitute 109 = .ok (.iload 8, 2) := by decide +kernel
theorem dX8_substitute_111 : decode cX8_substitute 111 = .ok (.invokestatic 91, 3) := by decide +kernel
theorem dX8_substitute_114 : decode cX8_substitute 114 = .ok (.ifCond .eq 10, 3) := by decide +kernel
theorem dX8_substitute_117 : decode cX8_substitute 117 = .ok (.lconst 1, 1) := by decide +kernel
theorem dX8_substitute_118 : decode cX8_substitute 118 = .ok (.iload 7, 2) := by decide +kernel
theorem dX8_substitute_120 : decode cX8_substitute 120 = .ok (.lshl, 1) := by decide +kernel
theorem dX8_substitute_121 : decode cX8_substitute 121 = .ok (.goto 4, 3) := by decide +kernel
theorem dX8_substitute_124 : decode cX8_substitute 124 = .ok (.lconst 0, 1) := by decide +kernel
theorem dX8_substitute_125 : decode cX8_substitute 125 = .ok (.lor, 1) := by decide +kernel
theorem dX8_substitute_126 : decode cX8_substitute 126 = .ok (.lstore 5, 2) := by decide +kernel
theorem dX8_substitute_128 : decode cX8_substitute 128 = .ok (.iinc 7 1, 3) := by decide +kernel
theorem dX8_substitute_131 : decode cX8_substitute 131 = .ok (.goto (-71), 3) := by decide +kernel
theorem dX8_substitute_134 : decode cX8_substitute 134 = .ok (.aload_n 0, 1) := by decide +kernel
theorem dX8_substitute_135 : decode cX8_substitute 135 = .ok (.iload 4, 2) := by decide +kernel
theorem dX8_substitute_137 : decode cX8_substitute 137 = .ok (.lload 5, 2) := by decide +kernel
theorem dX8_substitute_139 : decode cX8_substitute 139 = .ok (.invokevirtual 122, 3) := by decide +kernel
theorem dX8_substitute_142 : decode cX8_substitute 142 = .ok (.ireturn, 1) := by decide +kernel
theorem dX8_exchange_0 : decode cX8_exchange 0 = .ok (.iload_n 1, 1) := by decide +kernel
theorem dX8_exchange_1 : decode cX8_exchange 1 = .ok (.invokestatic 118, 3) := by decide +kernel
theorem dX8_exchange_4 : decode cX8_exchange 4 = .ok (.ifCond .eq 27, 3) := by decide +kernel
theorem dX8_exchange_7 : decode cX8_exchange 7 = .ok (.aload_n 0, 1) := by decide +kernel
theorem dX8_exchange_8 : decode cX8_exchange 8 = .ok (.iload_n 2, 1) := by decide +kernel
theorem dX8_exchange_9 : decode cX8_exchange 9 = .ok (.invokevirtual 163, 3) := by decide +kernel
theorem dX8_exchange_12 : decode cX8_exchange 12 = .ok (.ifCond .eq 19, 3) := by decide +kernel
theorem dX8_exchange_15 : decode cX8_exchange 15 = .ok (.aload_n 0, 1) := by decide +kernel
theorem dX8_exchange_16 : decode cX8_exchange 16 = .ok (.iload_n 3, 1) := by decide +kernel
theorem dX8_exchange_17 : decode cX8_exchange 17 = .ok (.invokevirtual 163, 3) := by decide +kernel
theorem dX8_exchange_20 : decode cX8_exchange 20 = .ok (.ifCond .eq 11, 3) := by decide +kernel
theorem dX8_exchange_23 : decode cX8_exchange 23 = .ok (.iload 4, 2) := by decide +kernel
theorem dX8_exchange_25 : decode cX8_exchange 25 = .ok (.invokestatic 118, 3) := by decide +kernel
theorem dX8_exchange_28 : decode cX8_exchange 28 = .ok (.ifCond .ne 6, 3) := by decide +kernel
theorem dX8_exchange_31 : decode cX8_exchange 31 = .ok (.bipush (-2), 2) := by decide +kernel
theorem dX8_exchange_33 : decode cX8_exchange 33 = .ok (.ireturn, 1) := by decide +kernel
theorem dX8_exchange_34 : decode cX8_exchange 34 = .ok (.aload_n 0, 1) := by decide +kernel
theorem dX8_exchange_35 : decode cX8_exchange 35 = .ok (.getfield 20, 3) := by decide +kernel
theorem dX8_exchange_38 : decode cX8_exchange 38 = .ok (.iload_n 1, 1) := by decide +kernel
theorem dX8_exchange_39 : decode cX8_exchange 39 = .ok (.baload, 1) := by decide +kernel
theorem dX8_exchange_40 : decode cX8_exchange 40 = .ok (.ifCond .ne 6, 3) := by decide +kernel
theorem dX8_exchange_43 : decode cX8_exchange 43 = .ok (.bipush (-3), 2) := by decide +kernel
theorem dX8_exchange_45 : decode cX8_exchange 45 = .ok (.ireturn, 1) := by decide +kernel
theorem dX8_exchange_46 : decode cX8_exchange 46 = .ok (.lconst 0, 1) := by decide +kernel
theorem dX8_exchange_47 : decode cX8_exchange 47 = .ok (.lstore 5, 2) := by decide +kernel
theorem dX8_exchange_49 : decode cX8_exchange 49 = .ok (.iconst 0, 1) := by decide +kernel
theorem dX8_exchange_50 : decode cX8_exchange 50 = .ok (.istore 7, 2) := by decide +kernel
theorem dX8_exchange_52 : decode cX8_exchange 52 = .ok (.iload 7, 2) := by decide +kernel
theorem dX8_exchange_54 : decode cX8_exchange 54 = .ok (.aload_n 0, 1) := by decide +kernel
theorem dX8_exchange_55 : decode cX8_exchange 55 = .ok (.getfield 13, 3) := by decide +kernel
theorem dX8_exchange_58 : decode cX8_exchange 58 = .ok (.if_icmp .ge 70, 3) := by decide +kernel
theorem dX8_exchange_61 : decode cX8_exchange 61 = .ok (.iload 7, 2) := by decide +kernel
theorem dX8_exchange_63 : decode cX8_exchange 63 = .ok (.iconst 1, 1) := by decide +kernel
theorem dX8_exchange_64 : decode cX8_exchange 64 = .ok (.iload_n 2, 1) := by decide +kernel
theorem dX8_exchange_65 : decode cX8_exchange 65 = .ok (.ishl, 1) := by decide +kernel
theorem dX8_exchange_66 : decode cX8_exchange 66 = .ok (.iconst (-1), 1) := by decide +kernel
theorem dX8_exchange_67 : decode cX8_exchange 67 = .ok (.ixor, 1) := by decide +kernel
theorem dX8_exchange_68 : decode cX8_exchange 68 = .ok (.iand, 1) := by decide +kernel
theorem dX8_exchange_69 : decode cX8_exchange 69 = .ok (.iconst 1, 1) := by decide +kernel
theorem dX8_exchange_70 : decode cX8_exchange 70 = .ok (.iload_n 3, 1) := by decide +kernel
theorem dX8_exchange_71 : decode cX8_exchange 71 = .ok (.ishl, 1) := by decide +kernel
theorem dX8_exchange_72 : decode cX8_exchange 72 = .ok (.iconst (-1), 1) := by decide +kernel
theorem dX8_exchange_73 : decode cX8_exchange 73 = .ok (.ixor, 1) := by decide +kernel
theorem dX8_exchange_74 : decode cX8_exchange 74 = .ok (.iand, 1) := by decide +kernel
theorem dX8_exchange_75 : decode cX8_exchange 75 = .ok (.iload 7, 2) := by decide +kernel
theorem dX8_exchange_77 : decode cX8_exchange 77 = .ok (.iload_n 2, 1) := by decide +kernel
theorem dX8_exchange_78 : decode cX8_exchange 78 = .ok (.ishr, 1) := by decide +kernel
theorem dX8_exchange_79 : decode cX8_exchange 79 = .ok (.iconst 1, 1) := by decide +kernel
theorem dX8_exchange_80 : decode cX8_exchange 80 = .ok (.iand, 1) := by decide +kernel
theorem dX8_exchange_81 : decode cX8_exchange 81 = .ok (.iload_n 3, 1) := by decide +kernel
theorem dX8_exchange_82 : decode cX8_exchange 82 = .ok (.ishl, 1) := by decide +kernel
theorem dX8_exchange_83 : decode cX8_exchange 83 = .ok (.ior, 1) := by decide +kernel
theorem dX8_exchange_84 : decode cX8_exchange 84 = .ok (.iload 7, 2) := by decide +kernel
theorem dX8_exchange_86 : decode cX8_exchange 86 = .ok (.iload_n 3, 1) := by decide +kernel
theorem dX8_exchange_87 : decode cX8_exchange 87 = .ok (.ishr, 1) := by decide +kernel
theorem dX8_exchange_88 : decode cX8_exchange 88 = .ok (.iconst 1, 1) := by decide +kernel
theorem dX8_exchange_89 : decode cX8_exchange 89 = .ok (.iand, 1) := by decide +kernel
theorem dX8_exchange_90 : decode cX8_exchange 90 = .ok (.iload_n 2, 1) := by decide +kernel
theorem dX8_exchange_91 : decode cX8_exchange 91 = .ok (.ishl, 1) := by decide +kernel
theorem dX8_exchange_92 : decode cX8_exchange 92 = .ok (.ior, 1) := by decide +kernel
theorem dX8_exchange_93 : decode cX8_exchange 93 = .ok (.istore 8, 2) := by decide +kernel
theorem dX8_exchange_95 : decode cX8_exchange 95 = .ok (.lload 5, 2) := by decide +kernel
theorem dX8_exchange_97 : decode cX8_exchange 97 = .ok (.aload_n 0, 1) := by decide +kernel
theorem dX8_exchange_98 : decode cX8_exchange 98 = .ok (.getfield 16, 3) := by decide +kernel
theorem dX8_exchange_101 : decode cX8_exchange 101 = .ok (.iload_n 1, 1) := by decide +kernel
theorem dX8_exchange_102 : decode cX8_exchange 102 = .ok (.laload, 1) := by decide +kernel
theorem dX8_exchange_103 : decode cX8_exchange 103 = .ok (.iload 8, 2) := by decide +kernel
theorem dX8_exchange_105 : decode cX8_exchange 105 = .ok (.invokestatic 91, 3) := by decide +kernel
theorem dX8_exchange_108 : decode cX8_exchange 108 = .ok (.ifCond .eq 10, 3) := by decide +kernel
theorem dX8_exchange_111 : decode cX8_exchange 111 = .ok (.lconst 1, 1) := by decide +kernel
theorem dX8_exchange_112 : decode cX8_exchange 112 = .ok (.iload 7, 2) := by decide +kernel
theorem dX8_exchange_114 : decode cX8_exchange 114 = .ok (.lshl, 1) := by decide +kernel
theorem dX8_exchange_115 : decode cX8_exchange 115 = .ok (.goto 4, 3) := by decide +kernel
theorem dX8_exchange_118 : decode cX8_exchange 118 = .ok (.lconst 0, 1) := by decide +kernel
theorem dX8_exchange_119 : decode cX8_exchange 119 = .ok (.lor, 1) := by decide +kernel
theorem dX8_exchange_120 : decode cX8_exchange 120 = .ok (.lstore 5, 2) := by decide +kernel
theorem dX8_exchange_122 : decode cX8_exchange 122 = .ok (.iinc 7 1, 3) := by decide +kernel
theorem dX8_exchange_125 : decode cX8_exchange 125 = .ok (.goto (-73), 3) := by decide +kernel
theorem dX8_exchange_128 : decode cX8_exchange 128 = .ok (.aload_n 0, 1) := by decide +kernel
theorem dX8_exchange_129 : decode cX8_exchange 129 = .ok (.iload 4, 2) := by decide +kernel
theorem dX8_exchange_131 : decode cX8_exchange 131 = .ok (.lload 5, 2) := by decide +kernel
theorem dX8_exchange_133 : decode cX8_exchange 133 = .ok (.invokevirtual 122, 3) := by decide +kernel
theorem dX8_exchange_136 : decode cX8_exchange 136 = .ok (.ireturn, 1) := by decide +kernel
theorem dX8_randomOf_0 : decode cX8_randomOf 0 = .ok (.iload_n 1, 1) := by decide +kernel
theorem dX8_randomOf_1 : decode cX8_randomOf 1 = .ok (.istore_n 3, 1) := by decide +kernel
theorem dX8_randomOf_2 : decode cX8_randomOf 2 = .ok (.lconst 0, 1) := by decide +kernel
theorem dX8_randomOf_3 : decode cX8_randomOf 3 = .ok (.lstore 4, 2) := by decide +kernel
theorem dX8_randomOf_5 : decode cX8_randomOf 5 = .ok (.iconst 0, 1) := by decide +kernel
theorem dX8_randomOf_6 : decode cX8_randomOf 6 = .ok (.istore 6, 2) := by decide +kernel
theorem dX8_randomOf_8 : decode cX8_randomOf 8 = .ok (.iload 6, 2) := by decide +kernel
theorem dX8_randomOf_10 : decode cX8_randomOf 10 = .ok (.iload_n 2, 1) := by decide +kernel
theorem dX8_randomOf_11 : decode cX8_randomOf 11 = .ok (.if_icmp .ge 71, 3) := by decide +kernel
theorem dX8_randomOf_14 : decode cX8_randomOf 14 = .ok (.iload_n 3, 1) := by decide +kernel
theorem dX8_randomOf_15 : decode cX8_randomOf 15 = .ok (.ldc_w 266, 3) := by decide +kernel
theorem dX8_randomOf_18 : decode cX8_randomOf 18 = .ok (.imul, 1) := by decide +kernel
theorem dX8_randomOf_19 : decode cX8_randomOf 19 = .ok (.sipush 12345, 3) := by decide +kernel
theorem dX8_randomOf_22 : decode cX8_randomOf 22 = .ok (.iadd, 1) := by decide +kernel
theorem dX8_randomOf_23 : decode cX8_randomOf 23 = .ok (.istore_n 3, 1) := by decide +kernel
theorem dX8_randomOf_24 : decode cX8_randomOf 24 = .ok (.iload_n 3, 1) := by decide +kernel
theorem dX8_randomOf_25 : decode cX8_randomOf 25 = .ok (.bipush 16, 2) := by decide +kernel
theorem dX8_randomOf_27 : decode cX8_randomOf 27 = .ok (.iushr, 1) := by decide +kernel
theorem dX8_randomOf_28 : decode cX8_randomOf 28 = .ok (.aload_n 0, 1) := by decide +kernel
theorem dX8_randomOf_29 : decode cX8_randomOf 29 = .ok (.getfield 13, 3) := by decide +kernel
theorem dX8_randomOf_32 : decode cX8_randomOf 32 = .ok (.irem, 1) := by decide +kernel
theorem dX8_randomOf_33 : decode cX8_randomOf 33 = .ok (.istore 7, 2) := by decide +kernel
theorem dX8_randomOf_35 : decode cX8_randomOf 35 = .ok (.iconst 0, 1) := by decide +kernel
theorem dX8_randomOf_36 : decode cX8_randomOf 36 = .ok (.istore 8, 2) := by decide +kernel
theorem dX8_randomOf_38 : decode cX8_randomOf 38 = .ok (.iload 8, 2) := by decide +kernel
theorem dX8_randomOf_40 : decode cX8_randomOf 40 = .ok (.aload_n 0, 1) := by decide +kernel
theorem dX8_randomOf_41 : decode cX8_randomOf 41 = .ok (.getfield 13, 3) := by decide +kernel
theorem dX8_randomOf_44 : decode cX8_randomOf 44 = .ok (.if_icmp .ge 32, 3) := by decide +kernel
theorem dX8_randomOf_47 : decode cX8_randomOf 47 = .ok (.lload 4, 2) := by decide +kernel
theorem dX8_randomOf_49 : decode cX8_randomOf 49 = .ok (.iload 8, 2) := by decide +kernel
theorem dX8_randomOf_51 : decode cX8_randomOf 51 = .ok (.iload 7, 2) := by decide +kernel
theorem dX8_randomOf_53 : decode cX8_randomOf 53 = .ok (.iand, 1) := by decide +kernel
theorem dX8_randomOf_54 : decode cX8_randomOf 54 = .ok (.iload 7, 2) := by decide +kernel
theorem dX8_randomOf_56 : decode cX8_randomOf 56 = .ok (.if_icmp .ne 10, 3) := by decide +kernel
theorem dX8_randomOf_59 : decode cX8_randomOf 59 = .ok (.lconst 1, 1) := by decide +kernel
theorem dX8_randomOf_60 : decode cX8_randomOf 60 = .ok (.iload 8, 2) := by decide +kernel
theorem dX8_randomOf_62 : decode cX8_randomOf 62 = .ok (.lshl, 1) := by decide +kernel
theorem dX8_randomOf_63 : decode cX8_randomOf 63 = .ok (.goto 4, 3) := by decide +kernel
theorem dX8_randomOf_66 : decode cX8_randomOf 66 = .ok (.lconst 0, 1) := by decide +kernel
theorem dX8_randomOf_67 : decode cX8_randomOf 67 = .ok (.lor, 1) := by decide +kernel
theorem dX8_randomOf_68 : decode cX8_randomOf 68 = .ok (.lstore 4, 2) := by decide +kernel
theorem dX8_randomOf_70 : decode cX8_randomOf 70 = .ok (.iinc 8 1, 3) := by decide +kernel
theorem dX8_randomOf_73 : decode cX8_randomOf 73 = .ok (.goto (-35), 3) := by decide +kernel
theorem dX8_randomOf_76 : decode cX8_randomOf 76 = .ok (.iinc 6 1, 3) := by decide +kernel
theorem dX8_randomOf_79 : decode cX8_randomOf 79 = .ok (.goto (-71), 3) := by decide +kernel
theorem dX8_randomOf_82 : decode cX8_randomOf 82 = .ok (.lload 4, 2) := by decide +kernel
theorem dX8_randomOf_84 : decode cX8_randomOf 84 = .ok (.lreturn, 1) := by decide +kernel
theorem dX8_random_0 : decode cX8_random 0 = .ok (.iload_n 2, 1) := by decide +kernel
theorem dX8_random_1 : decode cX8_random 1 = .ok (.i2l, 1) := by decide +kernel
theorem dX8_random_2 : decode cX8_random 2 = .ok (.lconst 0, 1) := by decide +kernel
theorem dX8_random_3 : decode cX8_random 3 = .ok (.ldc2_w 267, 3) := by decide +kernel
theorem dX8_random_6 : decode cX8_random 6 = .ok (.invokestatic 87, 3) := by decide +kernel
theorem dX8_random_9 : decode cX8_random 9 = .ok (.ifCond .eq 10, 3) := by decide +kernel
theorem dX8_random_12 : decode cX8_random 12 = .ok (.iload_n 3, 1) := by decide +kernel
theorem dX8_random_13 : decode cX8_random 13 = .ok (.invokestatic 118, 3) := by decide +kernel
theorem dX8_random_16 : decode cX8_random 16 = .ok (.ifCond .ne 6, 3) := by decide +kernel
theorem dX8_random_19 : decode cX8_random 19 = .ok (.bipush (-2), 2) := by decide +kernel
theorem dX8_random_21 : decode cX8_random 21 = .ok (.ireturn, 1) := by decide +kernel
theorem dX8_random_22 : decode cX8_random 22 = .ok (.aload_n 0, 1) := by decide +kernel
theorem dX8_random_23 : decode cX8_random 23 = .ok (.iload_n 3, 1) := by decide +kernel
theorem dX8_random_24 : decode cX8_random 24 = .ok (.aload_n 0, 1) := by decide +kernel
theorem dX8_random_25 : decode cX8_random 25 = .ok (.iload_n 1, 1) := by decide +kernel
theorem dX8_random_26 : decode cX8_random 26 = .ok (.iload_n 2, 1) := by decide +kernel
theorem dX8_random_27 : decode cX8_random 27 = .ok (.invokevirtual 269, 3) := by decide +kernel
theorem dX8_random_30 : decode cX8_random 30 = .ok (.invokevirtual 122, 3) := by decide +kernel
theorem dX8_random_33 : decode cX8_random 33 = .ok (.ireturn, 1) := by decide +kernel
theorem dX8_readOnceTrials_0 : decode cX8_readOnceTrials 0 = .ok (.iload_n 2, 1) := by decide +kernel
theorem dX8_readOnceTrials_1 : decode cX8_readOnceTrials 1 = .ok (.i2l, 1) := by decide +kernel
theorem dX8_readOnceTrials_2 : decode cX8_readOnceTrials 2 = .ok (.lconst 0, 1) := by decide +kernel
theorem dX8_readOnceTrials_3 : decode cX8_readOnceTrials 3 = .ok (.ldc2_w 267, 3) := by decide +kernel
theorem dX8_readOnceTrials_6 : decode cX8_readOnceTrials 6 = .ok (.invokestatic 87, 3) := by decide +kernel
theorem dX8_readOnceTrials_9 : decode cX8_readOnceTrials 9 = .ok (.ifCond .eq 15, 3) := by decide +kernel
theorem dX8_readOnceTrials_12 : decode cX8_readOnceTrials 12 = .ok (.iload_n 3, 1) := by decide +kernel
theorem dX8_readOnceTrials_13 : decode cX8_readOnceTrials 13 = .ok (.i2l, 1) := by decide +kernel
theorem dX8_readOnceTrials_14 : decode cX8_readOnceTrials 14 = .ok (.lconst 1, 1) := by decide +kernel
theorem dX8_readOnceTrials_15 : decode cX8_readOnceTrials 15 = .ok (.ldc2_w 273, 3) := by decide +kernel
theorem dX8_readOnceTrials_18 : decode cX8_readOnceTrials 18 = .ok (.invokestatic 87, 3) := by decide +kernel
theorem dX8_readOnceTrials_21 : decode cX8_readOnceTrials 21 = .ok (.ifCond .ne 6, 3) := by decide +kernel
theorem dX8_readOnceTrials_24 : decode cX8_readOnceTrials 24 = .ok (.bipush (-2), 2) := by decide +kernel
theorem dX8_readOnceTrials_26 : decode cX8_readOnceTrials 26 = .ok (.ireturn, 1) := by decide +kernel
theorem dX8_readOnceTrials_27 : decode cX8_readOnceTrials 27 = .ok (.iconst 0, 1) := by decide +kernel
theorem dX8_readOnceTrials_28 : decode cX8_readOnceTrials 28 = .ok (.istore 4, 2) := by decide +kernel
theorem dX8_readOnceTrials_30 : decode cX8_readOnceTrials 30 = .ok (.iconst 0, 1) := by decide +kernel
theorem dX8_readOnceTrials_31 : decode cX8_readOnceTrials 31 = .ok (.istore 5, 2) := by decide +kernel
theorem dX8_readOnceTrials_33 : decode cX8_readOnceTrials 33 = .ok (.iload 5, 2) := by decide +kernel
theorem dX8_readOnceTrials_35 : decode cX8_readOnceTrials 35 = .ok (.iload_n 3, 1) := by decide +kernel
theorem dX8_readOnceTrials_36 : decode cX8_readOnceTrials 36 = .ok (.if_icmp .ge 35, 3) := by decide +kernel
theorem dX8_readOnceTrials_39 : decode cX8_readOnceTrials 39 = .ok (.iload 4, 2) := by decide +kernel
theorem dX8_readOnceTrials_41 : decode cX8_readOnceTrials 41 = .ok (.aload_n 0, 1) := by decide +kernel
theorem dX8_readOnceTrials_42 : decode cX8_readOnceTrials 42 = .ok (.aload_n 0, 1) := by decide +kernel
theorem dX8_readOnceTrials_43 : decode cX8_readOnceTrials 43 = .ok (.iload_n 1, 1) := by decide +kernel
theorem dX8_readOnceTrials_44 : decode cX8_readOnceTrials 44 = .ok (.iload 5, 2) := by decide +kernel
theorem dX8_readOnceTrials_46 : decode cX8_readOnceTrials 46 = .ok (.iadd, 1) := by decide +kernel
theorem dX8_readOnceTrials_47 : decode cX8_readOnceTrials 47 = .ok (.iload_n 2, 1) := by decide +kernel
theorem dX8_readOnceTrials_48 : decode cX8_readOnceTrials 48 = .ok (.invokevirtual 269, 3) := by decide +kernel
theorem dX8_readOnceTrials_51 : decode cX8_readOnceTrials 51 = .ok (.invokevirtual 188, 3) := by decide +kernel
theorem dX8_readOnceTrials_54 : decode cX8_readOnceTrials 54 = .ok (.ifCond .ne 7, 3) := by decide +kernel
theorem dX8_readOnceTrials_57 : decode cX8_readOnceTrials 57 = .ok (.iconst 1, 1) := by decide +kernel
theorem dX8_readOnceTrials_58 : decode cX8_readOnceTrials 58 = .ok (.goto 4, 3) := by decide +kernel
theorem dX8_readOnceTrials_61 : decode cX8_readOnceTrials 61 = .ok (.iconst 0, 1) := by decide +kernel
theorem dX8_readOnceTrials_62 : decode cX8_readOnceTrials 62 = .ok (.iadd, 1) := by decide +kernel
theorem dX8_readOnceTrials_63 : decode cX8_readOnceTrials 63 = .ok (.istore 4, 2) := by decide +kernel
theorem dX8_readOnceTrials_65 : decode cX8_readOnceTrials 65 = .ok (.iinc 5 1, 3) := by decide +kernel
theorem dX8_readOnceTrials_68 : decode cX8_readOnceTrials 68 = .ok (.goto (-35), 3) := by decide +kernel
theorem dX8_readOnceTrials_71 : decode cX8_readOnceTrials 71 = .ok (.iload 4, 2) := by decide +kernel
theorem dX8_readOnceTrials_73 : decode cX8_readOnceTrials 73 = .ok (.ireturn, 1) := by decide +kernel
theorem dX8_make_0 : decode cX8_make 0 = .ok (.aload_n 0, 1) := by decide +kernel
theorem dX8_make_1 : decode cX8_make 1 = .ok (.getfield 73, 3) := by decide +kernel
theorem dX8_make_4 : decode cX8_make 4 = .ok (.aload_n 0, 1) := by decide +kernel
theorem dX8_make_5 : decode cX8_make 5 = .ok (.getfield 275, 3) := by decide +kernel
theorem dX8_make_8 : decode cX8_make 8 = .ok (.lload_n 3, 1) := by decide +kernel
theorem dX8_make_9 : decode cX8_make 9 = .ok (.lastore, 1) := by decide +kernel
theorem dX8_make_10 : decode cX8_make 10 = .ok (.aload_n 0, 1) := by decide +kernel
theorem dX8_make_11 : decode cX8_make 11 = .ok (.getfield 76, 3) := by decide +kernel
theorem dX8_make_14 : decode cX8_make 14 = .ok (.aload_n 0, 1) := by decide +kernel
theorem dX8_make_15 : decode cX8_make 15 = .ok (.getfield 275, 3) := by decide +kernel
theorem dX8_make_18 : decode cX8_make 18 = .ok (.iload_n 1, 1) := by decide +kernel
theorem dX8_make_19 : decode cX8_make 19 = .ok (.iastore, 1) := by decide +kernel
theorem dX8_make_20 : decode cX8_make 20 = .ok (.aload_n 0, 1) := by decide +kernel
theorem dX8_make_21 : decode cX8_make 21 = .ok (.getfield 79, 3) := by decide +kernel
theorem dX8_make_24 : decode cX8_make 24 = .ok (.aload_n 0, 1) := by decide +kernel
theorem dX8_make_25 : decode cX8_make 25 = .ok (.getfield 275, 3) := by decide +kernel
theorem dX8_make_28 : decode cX8_make 28 = .ok (.iload_n 2, 1) := by decide +kernel
theorem dX8_make_29 : decode cX8_make 29 = .ok (.iastore, 1) := by decide +kernel
theorem dX8_make_30 : decode cX8_make 30 = .ok (.aload_n 0, 1) := by decide +kernel
theorem dX8_make_31 : decode cX8_make 31 = .ok (.dup, 1) := by decide +kernel
theorem dX8_make_32 : decode cX8_make 32 = .ok (.getfield 275, 3) := by decide +kernel
theorem dX8_make_35 : decode cX8_make 35 = .ok (.iconst 1, 1) := by decide +kernel
theorem dX8_make_36 : decode cX8_make 36 = .ok (.iadd, 1) := by decide +kernel
theorem dX8_make_37 : decode cX8_make 37 = .ok (.putfield 275, 3) := by decide +kernel
theorem dX8_make_40 : decode cX8_make 40 = .ok (.return_, 1) := by decide +kernel
theorem dX8_join_0 : decode cX8_join 0 = .ok (.iconst 1, 1) := by decide +kernel
theorem dX8_join_1 : decode cX8_join 1 = .ok (.iload_n 1, 1) := by decide +kernel
theorem dX8_join_2 : decode cX8_join 2 = .ok (.invokestatic 197, 3) := by decide +kernel
theorem dX8_join_5 : decode cX8_join 5 = .ok (.ishl, 1) := by decide +kernel
theorem dX8_join_6 : decode cX8_join 6 = .ok (.istore 4, 2) := by decide +kernel
theorem dX8_join_8 : decode cX8_join 8 = .ok (.iconst 0, 1) := by decide +kernel
theorem dX8_join_9 : decode cX8_join 9 = .ok (.istore 5, 2) := by decide +kernel
theorem dX8_join_11 : decode cX8_join 11 = .ok (.iload 5, 2) := by decide +kernel
theorem dX8_join_13 : decode cX8_join 13 = .ok (.iload_n 3, 1) := by decide +kernel
theorem dX8_join_14 : decode cX8_join 14 = .ok (.if_icmp .ge 141, 3) := by decide +kernel
theorem dX8_join_17 : decode cX8_join 17 = .ok (.aload_n 0, 1) := by decide +kernel
theorem dX8_join_18 : decode cX8_join 18 = .ok (.getfield 76, 3) := by decide +kernel
theorem dX8_join_21 : decode cX8_join 21 = .ok (.iload 5, 2) := by decide +kernel
theorem dX8_join_23 : decode cX8_join 23 = .ok (.iaload, 1) := by decide +kernel
theorem dX8_join_24 : decode cX8_join 24 = .ok (.iload 4, 2) := by decide +kernel
theorem dX8_join_26 : decode cX8_join 26 = .ok (.iand, 1) := by decide +kernel
theorem dX8_join_27 : decode cX8_join 27 = .ok (.ifCond .eq 122, 3) := by decide +kernel
theorem dX8_join_30 : decode cX8_join 30 = .ok (.aload_n 0, 1) := by decide +kernel
theorem dX8_join_31 : decode cX8_join 31 = .ok (.getfield 76, 3) := by decide +kernel
theorem dX8_join_34 : decode cX8_join 34 = .ok (.iload 5, 2) := by decide +kernel
theorem dX8_join_36 : decode cX8_join 36 = .ok (.iaload, 1) := by decide +kernel
theorem dX8_join_37 : decode cX8_join 37 = .ok (.iload_n 1, 1) := by decide +kernel
theorem dX8_join_38 : decode cX8_join 38 = .ok (.iconst (-1), 1) := by decide +kernel
theorem dX8_join_39 : decode cX8_join 39 = .ok (.ixor, 1) := by decide +kernel
theorem dX8_join_40 : decode cX8_join 40 = .ok (.iand, 1) := by decide +kernel
theorem dX8_join_41 : decode cX8_join 41 = .ok (.ifCond .ne 108, 3) := by decide +kernel
theorem dX8_join_44 : decode cX8_join 44 = .ok (.aload_n 0, 1) := by decide +kernel
theorem dX8_join_45 : decode cX8_join 45 = .ok (.getfield 76, 3) := by decide +kernel
theorem dX8_join_48 : decode cX8_join 48 = .ok (.iload 5, 2) := by decide +kernel
theorem dX8_join_50 : decode cX8_join 50 = .ok (.iaload, 1) := by decide +kernel
theorem dX8_join_51 : decode cX8_join 51 = .ok (.iload_n 1, 1) := by decide +kernel
theorem dX8_join_52 : decode cX8_join 52 = .ok (.if_icmp .eq 97, 3) := by decide +kernel
theorem dX8_join_55 : decode cX8_join 55 = .ok (.aload_n 0, 1) := by decide +kernel
theorem dX8_join_56 : decode cX8_join 56 = .ok (.getfield 79, 3) := by decide +kernel
theorem dX8_join_59 : decode cX8_join 59 = .ok (.iload 5, 2) := by decide +kernel
theorem dX8_join_61 : decode cX8_join 61 = .ok (.iaload, 1) := by decide +kernel
theorem dX8_join_62 : decode cX8_join 62 = .ok (.iload_n 2, 1) := by decide +kernel
theorem dX8_join_63 : decode cX8_join 63 = .ok (.if_icmp .ne 6, 3) := by decide +kernel
theorem dX8_join_66 : decode cX8_join 66 = .ok (.goto 83, 3) := by decide +kernel
theorem dX8_join_69 : decode cX8_join 69 = .ok (.iconst 0, 1) := by decide +kernel
theorem dX8_join_70 : decode cX8_join 70 = .ok (.istore 6, 2) := by decide +kernel
theorem dX8_join_72 : decode cX8_join 72 = .ok (.iload 6, 2) := by decide +kernel
theorem dX8_join_74 : decode cX8_join 74 = .ok (.iload_n 3, 1) := by decide +kernel
theorem dX8_join_75 : decode cX8_join 75 = .ok (.if_icmp .ge 74, 3) := by decide +kernel
theorem dX8_join_78 : decode cX8_join 78 = .ok (.aload_n 0, 1) := by decide +kernel
theorem dX8_join_79 : decode cX8_join 79 = .ok (.getfield 76, 3) := by decide +kernel
theorem dX8_join_82 : decode cX8_join 82 = .ok (.iload 6, 2) := by decide +kernel
theorem dX8_join_84 : decode cX8_join 84 = .ok (.iaload, 1) := by decide +kernel
theorem dX8_join_85 : decode cX8_join 85 = .ok (.iload_n 1, 1) := by decide +kernel
theorem dX8_join_86 : decode cX8_join 86 = .ok (.aload_n 0, 1) := by decide +kernel
theorem dX8_join_87 : decode cX8_join 87 = .ok (.getfield 76, 3) := by decide +kernel
theorem dX8_join_90 : decode cX8_join 90 = .ok (.iload 5, 2) := by decide +kernel
theorem dX8_join_92 : decode cX8_join 92 = .ok (.iaload, 1) := by decide +kernel
theorem dX8_join_93 : decode cX8_join 93 = .ok (.iconst (-1), 1) := by decide +kernel
theorem dX8_join_94 : decode cX8_join 94 = .ok (.ixor, 1) := by decide +kernel
theorem dX8_join_95 : decode cX8_join 95 = .ok (.iand, 1) := by decide +kernel
theorem dX8_join_96 : decode cX8_join 96 = .ok (.if_icmp .ne 47, 3) := by decide +kernel
theorem dX8_join_99 : decode cX8_join 99 = .ok (.aload_n 0, 1) := by decide +kernel
theorem dX8_join_100 : decode cX8_join 100 = .ok (.iload_n 1, 1) := by decide +kernel
theorem dX8_join_101 : decode cX8_join 101 = .ok (.iload_n 2, 1) := by decide +kernel
theorem dX8_join_102 : decode cX8_join 102 = .ok (.iload_n 2, 1) := by decide +kernel
theorem dX8_join_103 : decode cX8_join 103 = .ok (.iconst 1, 1) := by decide +kernel
theorem dX8_join_104 : decode cX8_join 104 = .ok (.if_icmp .ne 21, 3) := by decide +kernel
theorem dX8_join_107 : decode cX8_join 107 = .ok (.aload_n 0, 1) := by decide +kernel
theorem dX8_join_108 : decode cX8_join 108 = .ok (.getfield 73, 3) := by decide +kernel
theorem dX8_join_111 : decode cX8_join 111 = .ok (.iload 5, 2) := by decide +kernel
theorem dX8_join_113 : decode cX8_join 113 = .ok (.laload, 1) := by decide +kernel
theorem dX8_join_114 : decode cX8_join 114 = .ok (.aload_n 0, 1) := by decide +kernel
theorem dX8_join_115 : decode cX8_join 115 = .ok (.getfield 73, 3) := by decide +kernel
theorem dX8_join_118 : decode cX8_join 118 = .ok (.iload 6, 2) := by decide +kernel
theorem dX8_join_120 : decode cX8_join 120 = .ok (.laload, 1) := by decide +kernel
theorem dX8_join_121 : decode cX8_join 121 = .ok (.land, 1) := by decide +kernel
theorem dX8_join_122 : decode cX8_join 122 = .ok (.goto 18, 3) := by decide +kernel
theorem dX8_join_125 : decode cX8_join 125 = .ok (.aload_n 0, 1) := by decide +kernel
theorem dX8_join_126 : decode cX8_join 126 = .ok (.getfield 73, 3) := by decide +kernel
theorem dX8_join_129 : decode cX8_join 129 = .ok (.iload 5, 2) := by decide +kernel
theorem dX8_join_131 : decode cX8_join 131 = .ok (.laload, 1) := by decide +kernel
theorem dX8_join_132 : decode cX8_join 132 = .ok (.aload_n 0, 1) := by decide +kernel
theorem dX8_join_133 : decode cX8_join 133 = .ok (.getfield 73, 3) := by decide +kernel
theorem dX8_join_136 : decode cX8_join 136 = .ok (.iload 6, 2) := by decide +kernel
theorem dX8_join_138 : decode cX8_join 138 = .ok (.laload, 1) := by decide +kernel
theorem dX8_join_139 : decode cX8_join 139 = .ok (.lor, 1) := by decide +kernel
theorem dX8_join_140 : decode cX8_join 140 = .ok (.invokevirtual 278, 3) := by decide +kernel
theorem dX8_join_143 : decode cX8_join 143 = .ok (.iinc 6 1, 3) := by decide +kernel
theorem dX8_join_146 : decode cX8_join 146 = .ok (.goto (-74), 3) := by decide +kernel
theorem dX8_join_149 : decode cX8_join 149 = .ok (.iinc 5 1, 3) := by decide +kernel
theorem dX8_join_152 : decode cX8_join 152 = .ok (.goto (-141), 3) := by decide +kernel
theorem dX8_join_155 : decode cX8_join 155 = .ok (.return_, 1) := by decide +kernel
theorem dX8_listFunctions_0 : decode cX8_listFunctions 0 = .ok (.aload_n 0, 1) := by decide +kernel
theorem dX8_listFunctions_1 : decode cX8_listFunctions 1 = .ok (.iconst 0, 1) := by decide +kernel
theorem dX8_listFunctions_2 : decode cX8_listFunctions 2 = .ok (.putfield 275, 3) := by decide +kernel
theorem dX8_listFunctions_5 : decode cX8_listFunctions 5 = .ok (.iconst 0, 1) := by decide +kernel
theorem dX8_listFunctions_6 : decode cX8_listFunctions 6 = .ok (.istore_n 1, 1) := by decide +kernel
theorem dX8_listFunctions_7 : decode cX8_listFunctions 7 = .ok (.iload_n 1, 1) := by decide +kernel
theorem dX8_listFunctions_8 : decode cX8_listFunctions 8 = .ok (.aload_n 0, 1) := by decide +kernel
theorem dX8_listFunctions_9 : decode cX8_listFunctions 9 = .ok (.getfield 7, 3) := by decide +kernel
theorem dX8_listFunctions_12 : decode cX8_listFunctions 12 = .ok (.if_icmp .ge 22, 3) := by decide +kernel
theorem dX8_listFunctions_15 : decode cX8_listFunctions 15 = .ok (.aload_n 0, 1) := by decide +kernel
theorem dX8_listFunctions_16 : decode cX8_listFunctions 16 = .ok (.iconst 1, 1) := by decide +kernel
theorem dX8_listFunctions_17 : decode cX8_listFunctions 17 = .ok (.iload_n 1, 1) := by decide +kernel
theorem dX8_listFunctions_18 : decode cX8_listFunctions 18 = .ok (.ishl, 1) := by decide +kernel
theorem dX8_listFunctions_19 : decode cX8_listFunctions 19 = .ok (.iconst 0, 1) := by decide +kernel
theorem dX8_listFunctions_20 : decode cX8_listFunctions 20 = .ok (.aload_n 0, 1) := by decide +kernel
theorem dX8_listFunctions_21 : decode cX8_listFunctions 21 = .ok (.iload_n 1, 1) := by decide +kernel
theorem dX8_listFunctions_22 : decode cX8_listFunctions 22 = .ok (.invokevirtual 242, 3) := by decide +kernel
theorem dX8_listFunctions_25 : decode cX8_listFunctions 25 = .ok (.invokevirtual 278, 3) := by decide +kernel
theorem dX8_listFunctions_28 : decode cX8_listFunctions 28 = .ok (.iinc 1 1, 3) := by decide +kernel
theorem dX8_listFunctions_31 : decode cX8_listFunctions 31 = .ok (.goto (-24), 3) := by decide +kernel
theorem dX8_listFunctions_34 : decode cX8_listFunctions 34 = .ok (.iconst 2, 1) := by decide +kernel
theorem dX8_listFunctions_35 : decode cX8_listFunctions 35 = .ok (.istore_n 1, 1) := by decide +kernel
theorem dX8_listFunctions_36 : decode cX8_listFunctions 36 = .ok (.iload_n 1, 1) := by decide +kernel
theorem dX8_listFunctions_37 : decode cX8_listFunctions 37 = .ok (.aload_n 0, 1) := by decide +kernel
theorem dX8_listFunctions_38 : decode cX8_listFunctions 38 = .ok (.getfield 7, 3) := by decide +kernel
theorem dX8_listFunctions_41 : decode cX8_listFunctions 41 = .ok (.if_icmp .gt 55, 3) := by decide +kernel
theorem dX8_listFunctions_44 : decode cX8_listFunctions 44 = .ok (.aload_n 0, 1) := by decide +kernel
theorem dX8_listFunctions_45 : decode cX8_listFunctions 45 = .ok (.getfield 275, 3) := by decide +kernel
theorem dX8_listFunctions_48 : decode cX8_listFunctions 48 = .ok (.istore_n 2, 1) := by decide +kernel
theorem dX8_listFunctions_49 : decode cX8_listFunctions 49 = .ok (.iconst 1, 1) := by decide +kernel
theorem dX8_listFunctions_50 : decode cX8_listFunctions 50 = .ok (.istore_n 3, 1) := by decide +kernel
theorem dX8_listFunctions_51 : decode cX8_listFunctions 51 = .ok (.iload_n 3, 1) := by decide +kernel
theorem dX8_listFunctions_52 : decode cX8_listFunctions 52 = .ok (.aload_n 0, 1) := by decide +kernel
theorem dX8_listFunctions_53 : decode cX8_listFunctions 53 = .ok (.getfield 13, 3) := by decide +kernel
theorem dX8_listFunctions_56 : decode cX8_listFunctions 56 = .ok (.if_icmp .ge 34, 3) := by decide +kernel
theorem dX8_listFunctions_59 : decode cX8_listFunctions 59 = .ok (.iload_n 3, 1) := by decide +kernel
theorem dX8_listFunctions_60 : decode cX8_listFunctions 60 = .ok (.invokestatic 194, 3) := by decide +kernel
theorem dX8_listFunctions_63 : decode cX8_listFunctions 63 = .ok (.iload_n 1, 1) := by decide +kernel
theorem dX8_listFunctions_64 : decode cX8_listFunctions 64 = .ok (.if_icmp .eq 6, 3) := by decide +kernel
theorem dX8_listFunctions_67 : decode cX8_listFunctions 67 = .ok (.goto 17, 3) := by decide +kernel
theorem dX8_listFunctions_70 : decode cX8_listFunctions 70 = .ok (.aload_n 0, 1) := by decide +kernel
theorem dX8_listFunctions_71 : decode cX8_listFunctions 71 = .ok (.iload_n 3, 1) := by decide +kernel
theorem dX8_listFunctions_72 : decode cX8_listFunctions 72 = .ok (.iconst 1, 1) := by decide +kernel
theorem dX8_listFunctions_73 : decode cX8_listFunctions 73 = .ok (.iload_n 2, 1) := by decide +kernel
theorem dX8_listFunctions_74 : decode cX8_listFunctions 74 = .ok (.invokevirtual 282, 3) := by decide +kernel
theorem dX8_listFunctions_77 : decode cX8_listFunctions 77 = .ok (.aload_n 0, 1) := by decide +kernel
theorem dX8_listFunctions_78 : decode cX8_listFunctions 78 = .ok (.iload_n 3, 1) := by decide +kernel
theorem dX8_listFunctions_79 : decode cX8_listFunctions 79 = .ok (.iconst 2, 1) := by decide +kernel
theorem dX8_listFunctions_80 : decode cX8_listFunctions 80 = .ok (.iload_n 2, 1) := by decide +kernel
theorem dX8_listFunctions_81 : decode cX8_listFunctions 81 = .ok (.invokevirtual 282, 3) := by decide +kernel
theorem dX8_listFunctions_84 : decode cX8_listFunctions 84 = .ok (.iinc 3 1, 3) := by decide +kernel
theorem dX8_listFunctions_87 : decode cX8_listFunctions 87 = .ok (.goto (-36), 3) := by decide +kernel
theorem dX8_listFunctions_90 : decode cX8_listFunctions 90 = .ok (.iinc 1 1, 3) := by decide +kernel
theorem dX8_listFunctions_93 : decode cX8_listFunctions 93 = .ok (.goto (-57), 3) := by decide +kernel
theorem dX8_listFunctions_96 : decode cX8_listFunctions 96 = .ok (.aload_n 0, 1) := by decide +kernel
theorem dX8_listFunctions_97 : decode cX8_listFunctions 97 = .ok (.iconst 0, 1) := by decide +kernel
theorem dX8_listFunctions_98 : decode cX8_listFunctions 98 = .ok (.putfield 286, 3) := by decide +kernel
theorem dX8_listFunctions_101 : decode cX8_listFunctions 101 = .ok (.aload_n 0, 1) := by decide +kernel
theorem dX8_listFunctions_102 : decode cX8_listFunctions 102 = .ok (.lconst 0, 1) := by decide +kernel
theorem dX8_listFunctions_103 : decode cX8_listFunctions 103 = .ok (.invokevirtual 289, 3) := by decide +kernel
theorem dX8_listFunctions_106 : decode cX8_listFunctions 106 = .ok (.aload_n 0, 1) := by decide +kernel
theorem dX8_listFunctions_107 : decode cX8_listFunctions 107 = .ok (.aload_n 0, 1) := by decide +kernel
theorem dX8_listFunctions_108 : decode cX8_listFunctions 108 = .ok (.invokevirtual 246, 3) := by decide +kernel
theorem dX8_listFunctions_111 : decode cX8_listFunctions 111 = .ok (.invokevirtual 289, 3) := by decide +kernel
theorem dX8_listFunctions_114 : decode cX8_listFunctions 114 = .ok (.iconst 0, 1) := by decide +kernel
theorem dX8_listFunctions_115 : decode cX8_listFunctions 115 = .ok (.istore_n 1, 1) := by decide +kernel
theorem dX8_listFunctions_116 : decode cX8_listFunctions 116 = .ok (.iload_n 1, 1) := by decide +kernel
theorem dX8_listFunctions_117 : decode cX8_listFunctions 117 = .ok (.aload_n 0, 1) := by decide +kernel
theorem dX8_listFunctions_118 : decode cX8_listFunctions 118 = .ok (.getfield 275, 3) := by decide +kernel
theorem dX8_listFunctions_121 : decode cX8_listFunctions 121 = .ok (.if_icmp .ge 19, 3) := by decide +kernel
theorem dX8_listFunctions_124 : decode cX8_listFunctions 124 = .ok (.aload_n 0, 1) := by decide +kernel
theorem dX8_listFunctions_125 : decode cX8_listFunctions 125 = .ok (.aload_n 0, 1) := by decide +kernel
theorem dX8_listFunctions_126 : decode cX8_listFunctions 126 = .ok (.getfield 73, 3) := by decide +kernel
theorem dX8_listFunctions_129 : decode cX8_listFunctions 129 = .ok (.iload_n 1, 1) := by decide +kernel
theorem dX8_listFunctions_130 : decode cX8_listFunctions 130 = .ok (.laload, 1) := by decide +kernel
theorem dX8_listFunctions_131 : decode cX8_listFunctions 131 = .ok (.invokevirtual 289, 3) := by decide +kernel
theorem dX8_listFunctions_134 : decode cX8_listFunctions 134 = .ok (.iinc 1 1, 3) := by decide +kernel
theorem dX8_listFunctions_137 : decode cX8_listFunctions 137 = .ok (.goto (-21), 3) := by decide +kernel
theorem dX8_listFunctions_140 : decode cX8_listFunctions 140 = .ok (.return_, 1) := by decide +kernel
theorem dX8_insert_0 : decode cX8_insert 0 = .ok (.aload_n 0, 1) := by decide +kernel
theorem dX8_insert_1 : decode cX8_insert 1 = .ok (.getfield 286, 3) := by decide +kernel
theorem dX8_insert_4 : decode cX8_insert 4 = .ok (.istore_n 3, 1) := by decide +kernel
theorem dX8_insert_5 : decode cX8_insert 5 = .ok (.iload_n 3, 1) := by decide +kernel
theorem dX8_insert_6 : decode cX8_insert 6 = .ok (.ifCond .le 36, 3) := by decide +kernel
theorem dX8_insert_9 : decode cX8_insert 9 = .ok (.aload_n 0, 1) := by decide +kernel
theorem dX8_insert_10 : decode cX8_insert 10 = .ok (.getfield 70, 3) := by decide +kernel
theorem dX8_insert_13 : decode cX8_insert 13 = .ok (.iload_n 3, 1) := by decide +kernel
theorem dX8_insert_14 : decode cX8_insert 14 = .ok (.iconst 1, 1) := by decide +kernel
theorem dX8_insert_15 : decode cX8_insert 15 = .ok (.isub, 1) := by decide +kernel
theorem dX8_insert_16 : decode cX8_insert 16 = .ok (.laload, 1) := by decide +kernel
theorem dX8_insert_17 : decode cX8_insert 17 = .ok (.lload_n 1, 1) := by decide +kernel
theorem dX8_insert_18 : decode cX8_insert 18 = .ok (.lcmp, 1) := by decide +kernel
theorem dX8_insert_19 : decode cX8_insert 19 = .ok (.ifCond .le 23, 3) := by decide +kernel
theorem dX8_insert_22 : decode cX8_insert 22 = .ok (.aload_n 0, 1) := by decide +kernel
theorem dX8_insert_23 : decode cX8_insert 23 = .ok (.getfield 70, 3) := by decide +kernel
theorem dX8_insert_26 : decode cX8_insert 26 = .ok (.iload_n 3, 1) := by decide +kernel
theorem dX8_insert_27 : decode cX8_insert 27 = .ok (.aload_n 0, 1) := by decide +kernel
theorem dX8_insert_28 : decode cX8_insert 28 = .ok (.getfield 70, 3) := by decide +kernel
theorem dX8_insert_31 : decode cX8_insert 31 = .ok (.iload_n 3, 1) := by decide +kernel
theorem dX8_insert_32 : decode cX8_insert 32 = .ok (.iconst 1, 1) := by decide +kernel
theorem dX8_insert_33 : decode cX8_insert 33 = .ok (.isub, 1) := by decide +kernel
theorem dX8_insert_34 : decode cX8_insert 34 = .ok (.laload, 1) := by decide +kernel
theorem dX8_insert_35 : decode cX8_insert 35 = .ok (.lastore, 1) := by decide +kernel
theorem dX8_insert_36 : decode cX8_insert 36 = .ok (.iinc 3 (-1), 3) := by decide +kernel
theorem dX8_insert_39 : decode cX8_insert 39 = .ok (.goto (-34), 3) := by decide +kernel
theorem dX8_insert_42 : decode cX8_insert 42 = .ok (.aload_n 0, 1) := by decide +kernel
theorem dX8_insert_43 : decode cX8_insert 43 = .ok (.getfield 70, 3) := by decide +kernel
theorem dX8_insert_46 : decode cX8_insert 46 = .ok (.iload_n 3, 1) := by decide +kernel
theorem dX8_insert_47 : decode cX8_insert 47 = .ok (.lload_n 1, 1) := by decide +kernel
theorem dX8_insert_48 : decode cX8_insert 48 = .ok (.lastore, 1) := by decide +kernel
theorem dX8_insert_49 : decode cX8_insert 49 = .ok (.aload_n 0, 1) := by decide +kernel
theorem dX8_insert_50 : decode cX8_insert 50 = .ok (.dup, 1) := by decide +kernel
theorem dX8_insert_51 : decode cX8_insert 51 = .ok (.getfield 286, 3) := by decide +kernel
theorem dX8_insert_54 : decode cX8_insert 54 = .ok (.iconst 1, 1) := by decide +kernel
theorem dX8_insert_55 : decode cX8_insert 55 = .ok (.iadd, 1) := by decide +kernel
theorem dX8_insert_56 : decode cX8_insert 56 = .ok (.putfield 286, 3) := by decide +kernel
theorem dX8_insert_59 : decode cX8_insert 59 = .ok (.return_, 1) := by decide +kernel
theorem dX8_addSample_0 : decode cX8_addSample 0 = .ok (.aload_n 0, 1) := by decide +kernel
theorem dX8_addSample_1 : decode cX8_addSample 1 = .ok (.iload_n 1, 1) := by decide +kernel
theorem dX8_addSample_2 : decode cX8_addSample 2 = .ok (.invokevirtual 134, 3) := by decide +kernel
theorem dX8_addSample_5 : decode cX8_addSample 5 = .ok (.ifCond .eq 13, 3) := by decide +kernel
theorem dX8_addSample_8 : decode cX8_addSample 8 = .ok (.iload_n 2, 1) := by decide +kernel
theorem dX8_addSample_9 : decode cX8_addSample 9 = .ok (.i2l, 1) := by decide +kernel
theorem dX8_addSample_10 : decode cX8_addSample 10 = .ok (.lconst 0, 1) := by decide +kernel
theorem dX8_addSample_11 : decode cX8_addSample 11 = .ok (.lconst 1, 1) := by decide +kernel
theorem dX8_addSample_12 : decode cX8_addSample 12 = .ok (.invokestatic 87, 3) := by decide +kernel
theorem dX8_addSample_15 : decode cX8_addSample 15 = .ok (.ifCond .ne 6, 3) := by decide +kernel
theorem dX8_addSample_18 : decode cX8_addSample 18 = .ok (.bipush (-2), 2) := by decide +kernel
theorem dX8_addSample_20 : decode cX8_addSample 20 = .ok (.ireturn, 1) := by decide +kernel
theorem dX8_addSample_21 : decode cX8_addSample 21 = .ok (.aload_n 0, 1) := by decide +kernel
theorem dX8_addSample_22 : decode cX8_addSample 22 = .ok (.dup, 1) := by decide +kernel
theorem dX8_addSample_23 : decode cX8_addSample 23 = .ok (.getfield 108, 3) := by decide +kernel
theorem dX8_addSample_26 : decode cX8_addSample 26 = .ok (.lconst 1, 1) := by decide +kernel
theorem dX8_addSample_27 : decode cX8_addSample 27 = .ok (.iload_n 1, 1) := by decide +kernel
theorem dX8_addSample_28 : decode cX8_addSample 28 = .ok (.lshl, 1) := by decide +kernel
theorem dX8_addSample_29 : decode cX8_addSample 29 = .ok (.lor, 1) := by decide +kernel
theorem dX8_addSample_30 : decode cX8_addSample 30 = .ok (.putfield 108, 3) := by decide +kernel
theorem dX8_addSample_33 : decode cX8_addSample 33 = .ok (.aload_n 0, 1) := by decide +kernel
theorem dX8_addSample_34 : decode cX8_addSample 34 = .ok (.aload_n 0, 1) := by decide +kernel
theorem dX8_addSample_35 : decode cX8_addSample 35 = .ok (.getfield 112, 3) := by decide +kernel
theorem dX8_addSample_38 : decode cX8_addSample 38 = .ok (.lconst 1, 1) := by decide +kernel
theorem dX8_addSample_39 : decode cX8_addSample 39 = .ok (.iload_n 1, 1) := by decide +kernel
theorem dX8_addSample_40 : decode cX8_addSample 40 = .ok (.lshl, 1) := by decide +kernel
theorem dX8_addSample_41 : decode cX8_addSample 41 = .ok (.ldc2_w 256, 3) := by decide +kernel
theorem dX8_addSample_44 : decode cX8_addSample 44 = .ok (.lxor, 1) := by decide +kernel
theorem dX8_addSample_45 : decode cX8_addSample 45 = .ok (.land, 1) := by decide +kernel
theorem dX8_addSample_46 : decode cX8_addSample 46 = .ok (.iload_n 2, 1) := by decide +kernel
theorem dX8_addSample_47 : decode cX8_addSample 47 = .ok (.i2l, 1) := by decide +kernel
theorem dX8_addSample_48 : decode cX8_addSample 48 = .ok (.iload_n 1, 1) := by decide +kernel
theorem dX8_addSample_49 : decode cX8_addSample 49 = .ok (.lshl, 1) := by decide +kernel
theorem dX8_addSample_50 : decode cX8_addSample 50 = .ok (.lor, 1) := by decide +kernel
theorem dX8_addSample_51 : decode cX8_addSample 51 = .ok (.putfield 112, 3) := by decide +kernel
theorem dX8_addSample_54 : decode cX8_addSample 54 = .ok (.aload_n 0, 1) := by decide +kernel
theorem dX8_addSample_55 : decode cX8_addSample 55 = .ok (.aload_n 0, 1) := by decide +kernel
theorem dX8_addSample_56 : decode cX8_addSample 56 = .ok (.getfield 108, 3) := by decide +kernel
theorem dX8_addSample_59 : decode cX8_addSample 59 = .ok (.invokevirtual 102, 3) := by decide +kernel
theorem dX8_addSample_62 : decode cX8_addSample 62 = .ok (.ireturn, 1) := by decide +kernel
theorem dX8_removeSample_0 : decode cX8_removeSample 0 = .ok (.aload_n 0, 1) := by decide +kernel
theorem dX8_removeSample_1 : decode cX8_removeSample 1 = .ok (.iload_n 1, 1) := by decide +kernel
theorem dX8_removeSample_2 : decode cX8_removeSample 2 = .ok (.invokevirtual 134, 3) := by decide +kernel
theorem dX8_removeSample_5 : decode cX8_removeSample 5 = .ok (.ifCond .ne 6, 3) := by decide +kernel
theorem dX8_removeSample_8 : decode cX8_removeSample 8 = .ok (.bipush (-2), 2) := by decide +kernel
theorem dX8_removeSample_10 : decode cX8_removeSample 10 = .ok (.ireturn, 1) := by decide +kernel
theorem dX8_removeSample_11 : decode cX8_removeSample 11 = .ok (.aload_n 0, 1) := by decide +kernel
theorem dX8_removeSample_12 : decode cX8_removeSample 12 = .ok (.getfield 108, 3) := by decide +kernel
theorem dX8_removeSample_15 : decode cX8_removeSample 15 = .ok (.iload_n 1, 1) := by decide +kernel
theorem dX8_removeSample_16 : decode cX8_removeSample 16 = .ok (.invokestatic 91, 3) := by decide +kernel
theorem dX8_removeSample_19 : decode cX8_removeSample 19 = .ok (.ifCond .ne 5, 3) := by decide +kernel
theorem dX8_removeSample_22 : decode cX8_removeSample 22 = .ok (.iconst (-1), 1) := by decide +kernel
theorem dX8_removeSample_23 : decode cX8_removeSample 23 = .ok (.ireturn, 1) := by decide +kernel
theorem dX8_removeSample_24 : decode cX8_removeSample 24 = .ok (.aload_n 0, 1) := by decide +kernel
theorem dX8_removeSample_25 : decode cX8_removeSample 25 = .ok (.dup, 1) := by decide +kernel
theorem dX8_removeSample_26 : decode cX8_removeSample 26 = .ok (.getfield 108, 3) := by decide +kernel
theorem dX8_removeSample_29 : decode cX8_removeSample 29 = .ok (.lconst 1, 1) := by decide +kernel
theorem dX8_removeSample_30 : decode cX8_removeSample 30 = .ok (.iload_n 1, 1) := by decide +kernel
theorem dX8_removeSample_31 : decode cX8_removeSample 31 = .ok (.lshl, 1) := by decide +kernel
theorem dX8_removeSample_32 : decode cX8_removeSample 32 = .ok (.ldc2_w 256, 3) := by decide +kernel
theorem dX8_removeSample_35 : decode cX8_removeSample 35 = .ok (.lxor, 1) := by decide +kernel
theorem dX8_removeSample_36 : decode cX8_removeSample 36 = .ok (.land, 1) := by decide +kernel
theorem dX8_removeSample_37 : decode cX8_removeSample 37 = .ok (.putfield 108, 3) := by decide +kernel
theorem dX8_removeSample_40 : decode cX8_removeSample 40 = .ok (.aload_n 0, 1) := by decide +kernel
theorem dX8_removeSample_41 : decode cX8_removeSample 41 = .ok (.dup, 1) := by decide +kernel
theorem dX8_removeSample_42 : decode cX8_removeSample 42 = .ok (.getfield 112, 3) := by decide +kernel
theorem dX8_removeSample_45 : decode cX8_removeSample 45 = .ok (.lconst 1, 1) := by decide +kernel
theorem dX8_removeSample_46 : decode cX8_removeSample 46 = .ok (.iload_n 1, 1) := by decide +kernel
theorem dX8_removeSample_47 : decode cX8_removeSample 47 = .ok (.lshl, 1) := by decide +kernel
theorem dX8_removeSample_48 : decode cX8_removeSample 48 = .ok (.ldc2_w 256, 3) := by decide +kernel
theorem dX8_removeSample_51 : decode cX8_removeSample 51 = .ok (.lxor, 1) := by decide +kernel
theorem dX8_removeSample_52 : decode cX8_removeSample 52 = .ok (.land, 1) := by decide +kernel
theorem dX8_removeSample_53 : decode cX8_removeSample 53 = .ok (.putfield 112, 3) := by decide +kernel
theorem dX8_removeSample_56 : decode cX8_removeSample 56 = .ok (.aload_n 0, 1) := by decide +kernel
theorem dX8_removeSample_57 : decode cX8_removeSample 57 = .ok (.aload_n 0, 1) := by decide +kernel
theorem dX8_removeSample_58 : decode cX8_removeSample 58 = .ok (.getfield 108, 3) := by decide +kernel
theorem dX8_removeSample_61 : decode cX8_removeSample 61 = .ok (.invokevirtual 102, 3) := by decide +kernel
theorem dX8_removeSample_64 : decode cX8_removeSample 64 = .ok (.ireturn, 1) := by decide +kernel
theorem dX8_agrees_0 : decode cX8_agrees 0 = .ok (.lload_n 1, 1) := by decide +kernel
theorem dX8_agrees_1 : decode cX8_agrees 1 = .ok (.aload_n 0, 1) := by decide +kernel
theorem dX8_agrees_2 : decode cX8_agrees 2 = .ok (.getfield 108, 3) := by decide +kernel
theorem dX8_agrees_5 : decode cX8_agrees 5 = .ok (.land, 1) := by decide +kernel
theorem dX8_agrees_6 : decode cX8_agrees 6 = .ok (.aload_n 0, 1) := by decide +kernel
theorem dX8_agrees_7 : decode cX8_agrees 7 = .ok (.getfield 112, 3) := by decide +kernel
theorem dX8_agrees_10 : decode cX8_agrees 10 = .ok (.lcmp, 1) := by decide +kernel
theorem dX8_agrees_11 : decode cX8_agrees 11 = .ok (.ifCond .ne 7, 3) := by decide +kernel
theorem dX8_agrees_14 : decode cX8_agrees 14 = .ok (.iconst 1, 1) := by decide +kernel
theorem dX8_agrees_15 : decode cX8_agrees 15 = .ok (.goto 4, 3) := by decide +kernel
theorem dX8_agrees_18 : decode cX8_agrees 18 = .ok (.iconst 0, 1) := by decide +kernel
theorem dX8_agrees_19 : decode cX8_agrees 19 = .ok (.ireturn, 1) := by decide +kernel
theorem dX8_extensions_0 : decode cX8_extensions 0 = .ok (.iconst 0, 1) := by decide +kernel
theorem dX8_extensions_1 : decode cX8_extensions 1 = .ok (.istore_n 1, 1) := by decide +kernel
theorem dX8_extensions_2 : decode cX8_extensions 2 = .ok (.iconst 0, 1) := by decide +kernel
theorem dX8_extensions_3 : decode cX8_extensions 3 = .ok (.istore_n 2, 1) := by decide +kernel
theorem dX8_extensions_4 : decode cX8_extensions 4 = .ok (.iload_n 2, 1) := by decide +kernel
theorem dX8_extensions_5 : decode cX8_extensions 5 = .ok (.aload_n 0, 1) := by decide +kernel
theorem dX8_extensions_6 : decode cX8_extensions 6 = .ok (.getfield 286, 3) := by decide +kernel
theorem dX8_extensions_9 : decode cX8_extensions 9 = .ok (.if_icmp .ge 30, 3) := by decide +kernel
theorem dX8_extensions_12 : decode cX8_extensions 12 = .ok (.iload_n 1, 1) := by decide +kernel
theorem dX8_extensions_13 : decode cX8_extensions 13 = .ok (.aload_n 0, 1) := by decide +kernel
theorem dX8_extensions_14 : decode cX8_extensions 14 = .ok (.aload_n 0, 1) := by decide +kernel
theorem dX8_extensions_15 : decode cX8_extensions 15 = .ok (.getfield 70, 3) := by decide +kernel
theorem dX8_extensions_18 : decode cX8_extensions 18 = .ok (.iload_n 2, 1) := by decide +kernel
theorem dX8_extensions_19 : decode cX8_extensions 19 = .ok (.laload, 1) := by decide +kernel
theorem dX8_extensions_20 : decode cX8_extensions 20 = .ok (.invokevirtual 292, 3) := by decide +kernel
theorem dX8_extensions_23 : decode cX8_extensions 23 = .ok (.ifCond .eq 7, 3) := by decide +kernel
theorem dX8_extensions_26 : decode cX8_extensions 26 = .ok (.iconst 1, 1) := by decide +kernel
theorem dX8_extensions_27 : decode cX8_extensions 27 = .ok (.goto 4, 3) := by decide +kernel
theorem dX8_extensions_30 : decode cX8_extensions 30 = .ok (.iconst 0, 1) := by decide +kernel
theorem dX8_extensions_31 : decode cX8_extensions 31 = .ok (.iadd, 1) := by decide +kernel
theorem dX8_extensions_32 : decode cX8_extensions 32 = .ok (.istore_n 1, 1) := by decide +kernel
theorem dX8_extensions_33 : decode cX8_extensions 33 = .ok (.iinc 2 1, 3) := by decide +kernel
theorem dX8_extensions_36 : decode cX8_extensions 36 = .ok (.goto (-32), 3) := by decide +kernel
theorem dX8_extensions_39 : decode cX8_extensions 39 = .ok (.iload_n 1, 1) := by decide +kernel
theorem dX8_extensions_40 : decode cX8_extensions 40 = .ok (.ireturn, 1) := by decide +kernel
theorem dX8_extension_0 : decode cX8_extension 0 = .ok (.iconst 0, 1) := by decide +kernel
theorem dX8_extension_1 : decode cX8_extension 1 = .ok (.istore_n 2, 1) := by decide +kernel
theorem dX8_extension_2 : decode cX8_extension 2 = .ok (.iconst 0, 1) := by decide +kernel
theorem dX8_extension_3 : decode cX8_extension 3 = .ok (.istore_n 3, 1) := by decide +kernel
theorem dX8_extension_4 : decode cX8_extension 4 = .ok (.iload_n 3, 1) := by decide +kernel
theorem dX8_extension_5 : decode cX8_extension 5 = .ok (.aload_n 0, 1) := by decide +kernel
theorem dX8_extension_6 : decode cX8_extension 6 = .ok (.getfield 286, 3) := by decide +kernel
theorem dX8_extension_9 : decode cX8_extension 9 = .ok (.if_icmp .ge 40, 3) := by decide +kernel
theorem dX8_extension_12 : decode cX8_extension 12 = .ok (.aload_n 0, 1) := by decide +kernel
theorem dX8_extension_13 : decode cX8_extension 13 = .ok (.aload_n 0, 1) := by decide +kernel
theorem dX8_extension_14 : decode cX8_extension 14 = .ok (.getfield 70, 3) := by decide +kernel
theorem dX8_extension_17 : decode cX8_extension 17 = .ok (.iload_n 3, 1) := by decide +kernel
theorem dX8_extension_18 : decode cX8_extension 18 = .ok (.laload, 1) := by decide +kernel
theorem dX8_extension_19 : decode cX8_extension 19 = .ok (.invokevirtual 292, 3) := by decide +kernel
theorem dX8_extension_22 : decode cX8_extension 22 = .ok (.ifCond .ne 6, 3) := by decide +kernel
theorem dX8_extension_25 : decode cX8_extension 25 = .ok (.goto 18, 3) := by decide +kernel
theorem dX8_extension_28 : decode cX8_extension 28 = .ok (.iload_n 2, 1) := by decide +kernel
theorem dX8_extension_29 : decode cX8_extension 29 = .ok (.iload_n 1, 1) := by decide +kernel
theorem dX8_extension_30 : decode cX8_extension 30 = .ok (.if_icmp .ne 10, 3) := by decide +kernel
theorem dX8_extension_33 : decode cX8_extension 33 = .ok (.aload_n 0, 1) := by decide +kernel
theorem dX8_extension_34 : decode cX8_extension 34 = .ok (.getfield 70, 3) := by decide +kernel
theorem dX8_extension_37 : decode cX8_extension 37 = .ok (.iload_n 3, 1) := by decide +kernel
theorem dX8_extension_38 : decode cX8_extension 38 = .ok (.laload, 1) := by decide +kernel
theorem dX8_extension_39 : decode cX8_extension 39 = .ok (.lreturn, 1) := by decide +kernel
theorem dX8_extension_40 : decode cX8_extension 40 = .ok (.iinc 2 1, 3) := by decide +kernel
theorem dX8_extension_43 : decode cX8_extension 43 = .ok (.iinc 3 1, 3) := by decide +kernel
theorem dX8_extension_46 : decode cX8_extension 46 = .ok (.goto (-42), 3) := by decide +kernel
theorem dX8_extension_49 : decode cX8_extension 49 = .ok (.ldc2_w 256, 3) := by decide +kernel
theorem dX8_extension_52 : decode cX8_extension 52 = .ok (.lreturn, 1) := by decide +kernel
theorem dX8_simplestExtension_0 : decode cX8_simplestExtension 0 = .ok (.iconst (-1), 1) := by decide +kernel
theorem dX8_simplestExtension_1 : decode cX8_simplestExtension 1 = .ok (.istore_n 1, 1) := by decide +kernel
theorem dX8_simplestExtension_2 : decode cX8_simplestExtension 2 = .ok (.iconst 0, 1) := by decide +kernel
theorem dX8_simplestExtension_3 : decode cX8_simplestExtension 3 = .ok (.istore_n 2, 1) := by decide +kernel
theorem dX8_simplestExtension_4 : decode cX8_simplestExtension 4 = .ok (.iload_n 2, 1) := by decide +kernel
theorem dX8_simplestExtension_5 : decode cX8_simplestExtension 5 = .ok (.aload_n 0, 1) := by decide +kernel
theorem dX8_simplestExtension_6 : decode cX8_simplestExtension 6 = .ok (.getfield 286, 3) := by decide +kernel
theorem dX8_simplestExtension_9 : decode cX8_simplestExtension 9 = .ok (.if_icmp .ge 61, 3) := by decide +kernel
theorem dX8_simplestExtension_12 : decode cX8_simplestExtension 12 = .ok (.aload_n 0, 1) := by decide +kernel
theorem dX8_simplestExtension_13 : decode cX8_simplestExtension 13 = .ok (.aload_n 0, 1) := by decide +kernel
theorem dX8_simplestExtension_14 : decode cX8_simplestExtension 14 = .ok (.getfield 70, 3) := by decide +kernel
theorem dX8_simplestExtension_17 : decode cX8_simplestExtension 17 = .ok (.iload_n 2, 1) := by decide +kernel
theorem dX8_simplestExtension_18 : decode cX8_simplestExtension 18 = .ok (.laload, 1) := by decide +kernel
theorem dX8_simplestExtension_19 : decode cX8_simplestExtension 19 = .ok (.invokevirtual 292, 3) := by decide +kernel
theorem dX8_simplestExtension_22 : decode cX8_simplestExtension 22 = .ok (.ifCond .ne 6, 3) := by decide +kernel
theorem dX8_simplestExtension_25 : decode cX8_simplestExtension 25 = .ok (.goto 39, 3) := by decide +kernel
theorem dX8_simplestExtension_28 : decode cX8_simplestExtension 28 = .ok (.iload_n 1, 1) := by decide +kernel
theorem dX8_simplestExtension_29 : decode cX8_simplestExtension 29 = .ok (.iconst (-1), 1) := by decide +kernel
theorem dX8_simplestExtension_30 : decode cX8_simplestExtension 30 = .ok (.if_icmp .eq 32, 3) := by decide +kernel
theorem dX8_simplestExtension_33 : decode cX8_simplestExtension 33 = .ok (.aload_n 0, 1) := by decide +kernel
theorem dX8_simplestExtension_34 : decode cX8_simplestExtension 34 = .ok (.aload_n 0, 1) := by decide +kernel
theorem dX8_simplestExtension_35 : decode cX8_simplestExtension 35 = .ok (.getfield 70, 3) := by decide +kernel
theorem dX8_simplestExtension_38 : decode cX8_simplestExtension 38 = .ok (.iload_n 2, 1) := by decide +kernel
theorem dX8_simplestExtension_39 : decode cX8_simplestExtension 39 = .ok (.laload, 1) := by decide +kernel
theorem dX8_simplestExtension_40 : decode cX8_simplestExtension 40 = .ok (.invokevirtual 141, 3) := by decide +kernel
theorem dX8_simplestExtension_43 : decode cX8_simplestExtension 43 = .ok (.invokestatic 194, 3) := by decide +kernel
theorem dX8_simplestExtension_46 : decode cX8_simplestExtension 46 = .ok (.aload_n 0, 1) := by decide +kernel
theorem dX8_simplestExtension_47 : decode cX8_simplestExtension 47 = .ok (.aload_n 0, 1) := by decide +kernel
theorem dX8_simplestExtension_48 : decode cX8_simplestExtension 48 = .ok (.getfield 70, 3) := by decide +kernel
theorem dX8_simplestExtension_51 : decode cX8_simplestExtension 51 = .ok (.iload_n 1, 1) := by decide +kernel
theorem dX8_simplestExtension_52 : decode cX8_simplestExtension 52 = .ok (.laload, 1) := by decide +kernel
theorem dX8_simplestExtension_53 : decode cX8_simplestExtension 53 = .ok (.invokevirtual 141, 3) := by decide +kernel
theorem dX8_simplestExtension_56 : decode cX8_simplestExtension 56 = .ok (.invokestatic 194, 3) := by decide +kernel
theorem dX8_simplestExtension_59 : decode cX8_simplestExtension 59 = .ok (.if_icmp .ge 5, 3) := by decide +kernel
theorem dX8_simplestExtension_62 : decode cX8_simplestExtension 62 = .ok (.iload_n 2, 1) := by decide +kernel
theorem dX8_simplestExtension_63 : decode cX8_simplestExtension 63 = .ok (.istore_n 1, 1) := by decide +kernel
theorem dX8_simplestExtension_64 : decode cX8_simplestExtension 64 = .ok (.iinc 2 1, 3) := by decide +kernel
theorem dX8_simplestExtension_67 : decode cX8_simplestExtension 67 = .ok (.goto (-63), 3) := by decide +kernel
theorem dX8_simplestExtension_70 : decode cX8_simplestExtension 70 = .ok (.iload_n 1, 1) := by decide +kernel
theorem dX8_simplestExtension_71 : decode cX8_simplestExtension 71 = .ok (.iconst (-1), 1) := by decide +kernel
theorem dX8_simplestExtension_72 : decode cX8_simplestExtension 72 = .ok (.if_icmp .ne 9, 3) := by decide +kernel
theorem dX8_simplestExtension_75 : decode cX8_simplestExtension 75 = .ok (.ldc2_w 256, 3) := by decide +kernel
theorem dX8_simplestExtension_78 : decode cX8_simplestExtension 78 = .ok (.goto 9, 3) := by decide +kernel
theorem dX8_simplestExtension_81 : decode cX8_simplestExtension 81 = .ok (.aload_n 0, 1) := by decide +kernel
theorem dX8_simplestExtension_82 : decode cX8_simplestExtension 82 = .ok (.getfield 70, 3) := by decide +kernel
theorem dX8_simplestExtension_85 : decode cX8_simplestExtension 85 = .ok (.iload_n 1, 1) := by decide +kernel
theorem dX8_simplestExtension_86 : decode cX8_simplestExtension 86 = .ok (.laload, 1) := by decide +kernel
theorem dX8_simplestExtension_87 : decode cX8_simplestExtension 87 = .ok (.lreturn, 1) := by decide +kernel
theorem dX8_readOnceCount_0 : decode cX8_readOnceCount 0 = .ok (.iload_n 1, 1) := by decide +kernel
theorem dX8_readOnceCount_1 : decode cX8_readOnceCount 1 = .ok (.i2l, 1) := by decide +kernel
theorem dX8_readOnceCount_2 : decode cX8_readOnceCount 2 = .ok (.lconst 0, 1) := by decide +kernel
theorem dX8_readOnceCount_3 : decode cX8_readOnceCount 3 = .ok (.aload_n 0, 1) := by decide +kernel
theorem dX8_readOnceCount_4 : decode cX8_readOnceCount 4 = .ok (.getfield 7, 3) := by decide +kernel
theorem dX8_readOnceCount_7 : decode cX8_readOnceCount 7 = .ok (.i2l, 1) := by decide +kernel
theorem dX8_readOnceCount_8 : decode cX8_readOnceCount 8 = .ok (.invokestatic 87, 3) := by decide +kernel
theorem dX8_readOnceCount_11 : decode cX8_readOnceCount 11 = .ok (.ifCond .ne 6, 3) := by decide +kernel
theorem dX8_readOnceCount_14 : decode cX8_readOnceCount 14 = .ok (.bipush (-2), 2) := by decide +kernel
theorem dX8_readOnceCount_16 : decode cX8_readOnceCount 16 = .ok (.ireturn, 1) := by decide +kernel
theorem dX8_readOnceCount_17 : decode cX8_readOnceCount 17 = .ok (.iconst 0, 1) := by decide +kernel
theorem dX8_readOnceCount_18 : decode cX8_readOnceCount 18 = .ok (.istore_n 2, 1) := by decide +kernel
theorem dX8_readOnceCount_19 : decode cX8_readOnceCount 19 = .ok (.iconst 0, 1) := by decide +kernel
theorem dX8_readOnceCount_20 : decode cX8_readOnceCount 20 = .ok (.istore_n 3, 1) := by decide +kernel
theorem dX8_readOnceCount_21 : decode cX8_readOnceCount 21 = .ok (.iload_n 3, 1) := by decide +kernel
theorem dX8_readOnceCount_22 : decode cX8_readOnceCount 22 = .ok (.aload_n 0, 1) := by decide +kernel
theorem dX8_readOnceCount_23 : decode cX8_readOnceCount 23 = .ok (.getfield 286, 3) := by decide +kernel
theorem dX8_readOnceCount_26 : decode cX8_readOnceCount 26 = .ok (.if_icmp .ge 34, 3) := by decide +kernel
theorem dX8_readOnceCount_29 : decode cX8_readOnceCount 29 = .ok (.iload_n 2, 1) := by decide +kernel
theorem dX8_readOnceCount_30 : decode cX8_readOnceCount 30 = .ok (.aload_n 0, 1) := by decide +kernel
theorem dX8_readOnceCount_31 : decode cX8_readOnceCount 31 = .ok (.aload_n 0, 1) := by decide +kernel
theorem dX8_readOnceCount_32 : decode cX8_readOnceCount 32 = .ok (.getfield 70, 3) := by decide +kernel
theorem dX8_readOnceCount_35 : decode cX8_readOnceCount 35 = .ok (.iload_n 3, 1) := by decide +kernel
theorem dX8_readOnceCount_36 : decode cX8_readOnceCount 36 = .ok (.laload, 1) := by decide +kernel
theorem dX8_readOnceCount_37 : decode cX8_readOnceCount 37 = .ok (.invokevirtual 141, 3) := by decide +kernel
theorem dX8_readOnceCount_40 : decode cX8_readOnceCount 40 = .ok (.invokestatic 194, 3) := by decide +kernel
theorem dX8_readOnceCount_43 : decode cX8_readOnceCount 43 = .ok (.iload_n 1, 1) := by decide +kernel
theorem dX8_readOnceCount_44 : decode cX8_readOnceCount 44 = .ok (.if_icmp .ne 7, 3) := by decide +kernel
theorem dX8_readOnceCount_47 : decode cX8_readOnceCount 47 = .ok (.iconst 1, 1) := by decide +kernel
theorem dX8_readOnceCount_48 : decode cX8_readOnceCount 48 = .ok (.goto 4, 3) := by decide +kernel
theorem dX8_readOnceCount_51 : decode cX8_readOnceCount 51 = .ok (.iconst 0, 1) := by decide +kernel
theorem dX8_readOnceCount_52 : decode cX8_readOnceCount 52 = .ok (.iadd, 1) := by decide +kernel
theorem dX8_readOnceCount_53 : decode cX8_readOnceCount 53 = .ok (.istore_n 2, 1) := by decide +kernel
theorem dX8_readOnceCount_54 : decode cX8_readOnceCount 54 = .ok (.iinc 3 1, 3) := by decide +kernel
theorem dX8_readOnceCount_57 : decode cX8_readOnceCount 57 = .ok (.goto (-36), 3) := by decide +kernel
theorem dX8_readOnceCount_60 : decode cX8_readOnceCount 60 = .ok (.iload_n 2, 1) := by decide +kernel
theorem dX8_readOnceCount_61 : decode cX8_readOnceCount 61 = .ok (.ireturn, 1) := by decide +kernel
theorem dX8_addStep_0 : decode cX8_addStep 0 = .ok (.iload_n 1, 1) := by decide +kernel
theorem dX8_addStep_1 : decode cX8_addStep 1 = .ok (.i2l, 1) := by decide +kernel
theorem dX8_addStep_2 : decode cX8_addStep 2 = .ok (.lconst 0, 1) := by decide +kernel
theorem dX8_addStep_3 : decode cX8_addStep 3 = .ok (.ldc2_w 106, 3) := by decide +kernel
theorem dX8_addStep_6 : decode cX8_addStep 6 = .ok (.invokestatic 87, 3) := by decide +kernel
theorem dX8_addStep_9 : decode cX8_addStep 9 = .ok (.ifCond .ne 6, 3) := by decide +kernel
theorem dX8_addStep_12 : decode cX8_addStep 12 = .ok (.bipush (-2), 2) := by decide +kernel
theorem dX8_addStep_14 : decode cX8_addStep 14 = .ok (.ireturn, 1) := by decide +kernel
theorem dX8_addStep_15 : decode cX8_addStep 15 = .ok (.aload_n 0, 1) := by decide +kernel
theorem dX8_addStep_16 : decode cX8_addStep 16 = .ok (.getfield 115, 3) := by decide +kernel
theorem dX8_addStep_19 : decode cX8_addStep 19 = .ok (.bipush 8, 2) := by decide +kernel
theorem dX8_addStep_21 : decode cX8_addStep 21 = .ok (.if_icmp .ne 6, 3) := by decide +kernel
theorem dX8_addStep_24 : decode cX8_addStep 24 = .ok (.bipush (-6), 2) := by decide +kernel
theorem dX8_addStep_26 : decode cX8_addStep 26 = .ok (.ireturn, 1) := by decide +kernel
theorem dX8_addStep_27 : decode cX8_addStep 27 = .ok (.aload_n 0, 1) := by decide +kernel
theorem dX8_addStep_28 : decode cX8_addStep 28 = .ok (.getfield 34, 3) := by decide +kernel
theorem dX8_addStep_31 : decode cX8_addStep 31 = .ok (.iconst 4, 1) := by decide +kernel
theorem dX8_addStep_32 : decode cX8_addStep 32 = .ok (.aload_n 0, 1) := by decide +kernel
theorem dX8_addStep_33 : decode cX8_addStep 33 = .ok (.getfield 115, 3) := by decide +kernel
theorem dX8_addStep_36 : decode cX8_addStep 36 = .ok (.imul, 1) := by decide +kernel
theorem dX8_addStep_37 : decode cX8_addStep 37 = .ok (.iload_n 1, 1) := by decide +kernel
theorem dX8_addStep_38 : decode cX8_addStep 38 = .ok (.iastore, 1) := by decide +kernel
theorem dX8_addStep_39 : decode cX8_addStep 39 = .ok (.aload_n 0, 1) := by decide +kernel
theorem dX8_addStep_40 : decode cX8_addStep 40 = .ok (.getfield 34, 3) := by decide +kernel
theorem dX8_addStep_43 : decode cX8_addStep 43 = .ok (.iconst 4, 1) := by decide +kernel
theorem dX8_addStep_44 : decode cX8_addStep 44 = .ok (.aload_n 0, 1) := by decide +kernel
theorem dX8_addStep_45 : decode cX8_addStep 45 = .ok (.getfield 115, 3) := by decide +kernel
theorem dX8_addStep_48 : decode cX8_addStep 48 = .ok (.imul, 1) := by decide +kernel
theorem dX8_addStep_49 : decode cX8_addStep 49 = .ok (.iconst 1, 1) := by decide +kernel
theorem dX8_addStep_50 : decode cX8_addStep 50 = .ok (.iadd, 1) := by decide +kernel
theorem dX8_addStep_51 : decode cX8_addStep 51 = .ok (.iload_n 2, 1) := by decide +kernel
theorem dX8_addStep_52 : decode cX8_addStep 52 = .ok (.iastore, 1) := by decide +kernel
theorem dX8_addStep_53 : decode cX8_addStep 53 = .ok (.aload_n 0, 1) := by decide +kernel
theorem dX8_addStep_54 : decode cX8_addStep 54 = .ok (.getfield 34, 3) := by decide +kernel
theorem dX8_addStep_57 : decode cX8_addStep 57 = .ok (.iconst 4, 1) := by decide +kernel
theorem dX8_addStep_58 : decode cX8_addStep 58 = .ok (.aload_n 0, 1) := by decide +kernel
theorem dX8_addStep_59 : decode cX8_addStep 59 = .ok (.getfield 115, 3) := by decide +kernel
theorem dX8_addStep_62 : decode cX8_addStep 62 = .ok (.imul, 1) := by decide +kernel
theorem dX8_addStep_63 : decode cX8_addStep 63 = .ok (.iconst 2, 1) := by decide +kernel
theorem dX8_addStep_64 : decode cX8_addStep 64 = .ok (.iadd, 1) := by decide +kernel
theorem dX8_addStep_65 : decode cX8_addStep 65 = .ok (.iload_n 3, 1) := by decide +kernel
theorem dX8_addStep_66 : decode cX8_addStep 66 = .ok (.iastore, 1) := by decide +kernel
theorem dX8_addStep_67 : decode cX8_addStep 67 = .ok (.aload_n 0, 1) := by decide +kernel
theorem dX8_addStep_68 : decode cX8_addStep 68 = .ok (.getfield 34, 3) := by decide +kernel
theorem dX8_addStep_71 : decode cX8_addStep 71 = .ok (.iconst 4, 1) := by decide +kernel
theorem dX8_addStep_72 : decode cX8_addStep 72 = .ok (.aload_n 0, 1) := by decide +kernel
theorem dX8_addStep_73 : decode cX8_addStep 73 = .ok (.getfield 115, 3) := by decide +kernel
theorem dX8_addStep_76 : decode cX8_addStep 76 = .ok (.imul, 1) := by decide +kernel
theorem dX8_addStep_77 : decode cX8_addStep 77 = .ok (.iconst 3, 1) := by decide +kernel
theorem dX8_addStep_78 : decode cX8_addStep 78 = .ok (.iadd, 1) := by decide +kernel
theorem dX8_addStep_79 : decode cX8_addStep 79 = .ok (.iload 4, 2) := by decide +kernel
theorem dX8_addStep_81 : decode cX8_addStep 81 = .ok (.iastore, 1) := by decide +kernel
theorem dX8_addStep_82 : decode cX8_addStep 82 = .ok (.aload_n 0, 1) := by decide +kernel
theorem dX8_addStep_83 : decode cX8_addStep 83 = .ok (.dup, 1) := by decide +kernel
theorem dX8_addStep_84 : decode cX8_addStep 84 = .ok (.getfield 115, 3) := by decide +kernel
theorem dX8_addStep_87 : decode cX8_addStep 87 = .ok (.iconst 1, 1) := by decide +kernel
theorem dX8_addStep_88 : decode cX8_addStep 88 = .ok (.iadd, 1) := by decide +kernel
theorem dX8_addStep_89 : decode cX8_addStep 89 = .ok (.putfield 115, 3) := by decide +kernel
theorem dX8_addStep_92 : decode cX8_addStep 92 = .ok (.aload_n 0, 1) := by decide +kernel
theorem dX8_addStep_93 : decode cX8_addStep 93 = .ok (.getfield 115, 3) := by decide +kernel
theorem dX8_addStep_96 : decode cX8_addStep 96 = .ok (.ireturn, 1) := by decide +kernel
theorem dX8_clearSteps_0 : decode cX8_clearSteps 0 = .ok (.aload_n 0, 1) := by decide +kernel
theorem dX8_clearSteps_1 : decode cX8_clearSteps 1 = .ok (.getfield 115, 3) := by decide +kernel
theorem dX8_clearSteps_4 : decode cX8_clearSteps 4 = .ok (.istore_n 1, 1) := by decide +kernel
theorem dX8_clearSteps_5 : decode cX8_clearSteps 5 = .ok (.aload_n 0, 1) := by decide +kernel
theorem dX8_clearSteps_6 : decode cX8_clearSteps 6 = .ok (.iconst 0, 1) := by decide +kernel
theorem dX8_clearSteps_7 : decode cX8_clearSteps 7 = .ok (.putfield 115, 3) := by decide +kernel
theorem dX8_clearSteps_10 : decode cX8_clearSteps 10 = .ok (.iload_n 1, 1) := by decide +kernel
theorem dX8_clearSteps_11 : decode cX8_clearSteps 11 = .ok (.ireturn, 1) := by decide +kernel
theorem dX8_execute_0 : decode cX8_execute 0 = .ok (.aload_n 0, 1) := by decide +kernel
theorem dX8_execute_1 : decode cX8_execute 1 = .ok (.getfield 34, 3) := by decide +kernel
theorem dX8_execute_4 : decode cX8_execute 4 = .ok (.iload_n 1, 1) := by decide +kernel
theorem dX8_execute_5 : decode cX8_execute 5 = .ok (.iaload, 1) := by decide +kernel
theorem dX8_execute_6 : decode cX8_execute 6 = .ok (.istore_n 2, 1) := by decide +kernel
theorem dX8_execute_7 : decode cX8_execute 7 = .ok (.iload_n 2, 1) := by decide +kernel
theorem dX8_execute_8 : decode cX8_execute 8 = .ok (.iconst 3, 1) := by decide +kernel
theorem dX8_execute_9 : decode cX8_execute 9 = .ok (.if_icmp .ge 33, 3) := by decide +kernel
theorem dX8_execute_12 : decode cX8_execute 12 = .ok (.aload_n 0, 1) := by decide +kernel
theorem dX8_execute_13 : decode cX8_execute 13 = .ok (.iload_n 2, 1) := by decide +kernel
theorem dX8_execute_14 : decode cX8_execute 14 = .ok (.aload_n 0, 1) := by decide +kernel
theorem dX8_execute_15 : decode cX8_execute 15 = .ok (.getfield 34, 3) := by decide +kernel
theorem dX8_execute_18 : decode cX8_execute 18 = .ok (.iload_n 1, 1) := by decide +kernel
theorem dX8_execute_19 : decode cX8_execute 19 = .ok (.iconst 1, 1) := by decide +kernel
theorem dX8_execute_20 : decode cX8_execute 20 = .ok (.iadd, 1) := by decide +kernel
theorem dX8_execute_21 : decode cX8_execute 21 = .ok (.iaload, 1) := by decide +kernel
theorem dX8_execute_22 : decode cX8_execute 22 = .ok (.aload_n 0, 1) := by decide +kernel
theorem dX8_execute_23 : decode cX8_execute 23 = .ok (.getfield 34, 3) := by decide +kernel
theorem dX8_execute_26 : decode cX8_execute 26 = .ok (.iload_n 1, 1) := by decide +kernel
theorem dX8_execute_27 : decode cX8_execute 27 = .ok (.iconst 2, 1) := by decide +kernel
theorem dX8_execute_28 : decode cX8_execute 28 = .ok (.iadd, 1) := by decide +kernel
theorem dX8_execute_29 : decode cX8_execute 29 = .ok (.iaload, 1) := by decide +kernel
theorem dX8_execute_30 : decode cX8_execute 30 = .ok (.aload_n 0, 1) := by decide +kernel
theorem dX8_execute_31 : decode cX8_execute 31 = .ok (.getfield 34, 3) := by decide +kernel
theorem dX8_execute_34 : decode cX8_execute 34 = .ok (.iload_n 1, 1) := by decide +kernel
theorem dX8_execute_35 : decode cX8_execute 35 = .ok (.iconst 3, 1) := by decide +kernel
theorem dX8_execute_36 : decode cX8_execute 36 = .ok (.iadd, 1) := by decide +kernel
theorem dX8_execute_37 : decode cX8_execute 37 = .ok (.iaload, 1) := by decide +kernel
theorem dX8_execute_38 : decode cX8_execute 38 = .ok (.invokevirtual 296, 3) := by decide +kernel
theorem dX8_execute_41 : decode cX8_execute 41 = .ok (.ireturn, 1) := by decide +kernel
theorem dX8_execute_42 : decode cX8_execute 42 = .ok (.iload_n 2, 1) := by decide +kernel
theorem dX8_execute_43 : decode cX8_execute 43 = .ok (.iconst 3, 1) := by decide +kernel
theorem dX8_execute_44 : decode cX8_execute 44 = .ok (.if_icmp .ne 24, 3) := by decide +kernel
theorem dX8_execute_47 : decode cX8_execute 47 = .ok (.aload_n 0, 1) := by decide +kernel
theorem dX8_execute_48 : decode cX8_execute 48 = .ok (.aload_n 0, 1) := by decide +kernel
theorem dX8_execute_49 : decode cX8_execute 49 = .ok (.getfield 34, 3) := by decide +kernel
theorem dX8_execute_52 : decode cX8_execute 52 = .ok (.iload_n 1, 1) := by decide +kernel
theorem dX8_execute_53 : decode cX8_execute 53 = .ok (.iconst 1, 1) := by decide +kernel
theorem dX8_execute_54 : decode cX8_execute 54 = .ok (.iadd, 1) := by decide +kernel
theorem dX8_execute_55 : decode cX8_execute 55 = .ok (.iaload, 1) := by decide +kernel
theorem dX8_execute_56 : decode cX8_execute 56 = .ok (.aload_n 0, 1) := by decide +kernel
theorem dX8_execute_57 : decode cX8_execute 57 = .ok (.getfield 34, 3) := by decide +kernel
theorem dX8_execute_60 : decode cX8_execute 60 = .ok (.iload_n 1, 1) := by decide +kernel
theorem dX8_execute_61 : decode cX8_execute 61 = .ok (.iconst 3, 1) := by decide +kernel
theorem dX8_execute_62 : decode cX8_execute 62 = .ok (.iadd, 1) := by decide +kernel
theorem dX8_execute_63 : decode cX8_execute 63 = .ok (.iaload, 1) := by decide +kernel
theorem dX8_execute_64 : decode cX8_execute 64 = .ok (.invokevirtual 300, 3) := by decide +kernel
theorem dX8_execute_67 : decode cX8_execute 67 = .ok (.ireturn, 1) := by decide +kernel
theorem dX8_execute_68 : decode cX8_execute 68 = .ok (.aload_n 0, 1) := by decide +kernel
theorem dX8_execute_69 : decode cX8_execute 69 = .ok (.aload_n 0, 1) := by decide +kernel
theorem dX8_execute_70 : decode cX8_execute 70 = .ok (.getfield 34, 3) := by decide +kernel
theorem dX8_execute_73 : decode cX8_execute 73 = .ok (.iload_n 1, 1) := by decide +kernel
theorem dX8_execute_74 : decode cX8_execute 74 = .ok (.iconst 1, 1) := by decide +kernel
theorem dX8_execute_75 : decode cX8_execute 75 = .ok (.iadd, 1) := by decide +kernel
theorem dX8_execute_76 : decode cX8_execute 76 = .ok (.iaload, 1) := by decide +kernel
theorem dX8_execute_77 : decode cX8_execute 77 = .ok (.aload_n 0, 1) := by decide +kernel
theorem dX8_execute_78 : decode cX8_execute 78 = .ok (.getfield 34, 3) := by decide +kernel
theorem dX8_execute_81 : decode cX8_execute 81 = .ok (.iload_n 1, 1) := by decide +kernel
theorem dX8_execute_82 : decode cX8_execute 82 = .ok (.iconst 2, 1) := by decide +kernel
theorem dX8_execute_83 : decode cX8_execute 83 = .ok (.iadd, 1) := by decide +kernel
theorem dX8_execute_84 : decode cX8_execute 84 = .ok (.iaload, 1) := by decide +kernel
theorem dX8_execute_85 : decode cX8_execute 85 = .ok (.iload_n 2, 1) := by decide +kernel
theorem dX8_execute_86 : decode cX8_execute 86 = .ok (.iconst 4, 1) := by decide +kernel
theorem dX8_execute_87 : decode cX8_execute 87 = .ok (.isub, 1) := by decide +kernel
theorem dX8_execute_88 : decode cX8_execute 88 = .ok (.aload_n 0, 1) := by decide +kernel
theorem dX8_execute_89 : decode cX8_execute 89 = .ok (.getfield 34, 3) := by decide +kernel
theorem dX8_execute_92 : decode cX8_execute 92 = .ok (.iload_n 1, 1) := by decide +kernel
theorem dX8_execute_93 : decode cX8_execute 93 = .ok (.iconst 3, 1) := by decide +kernel
theorem dX8_execute_94 : decode cX8_execute 94 = .ok (.iadd, 1) := by decide +kernel
theorem dX8_execute_95 : decode cX8_execute 95 = .ok (.iaload, 1) := by decide +kernel
theorem dX8_execute_96 : decode cX8_execute 96 = .ok (.invokevirtual 304, 3) := by decide +kernel
theorem dX8_execute_99 : decode cX8_execute 99 = .ok (.ireturn, 1) := by decide +kernel
theorem dX8_runSteps_0 : decode cX8_runSteps 0 = .ok (.iconst 0, 1) := by decide +kernel
theorem dX8_runSteps_1 : decode cX8_runSteps 1 = .ok (.istore_n 1, 1) := by decide +kernel
theorem dX8_runSteps_2 : decode cX8_runSteps 2 = .ok (.iconst 0, 1) := by decide +kernel
theorem dX8_runSteps_3 : decode cX8_runSteps 3 = .ok (.istore_n 2, 1) := by decide +kernel
theorem dX8_runSteps_4 : decode cX8_runSteps 4 = .ok (.iload_n 2, 1) := by decide +kernel
theorem dX8_runSteps_5 : decode cX8_runSteps 5 = .ok (.aload_n 0, 1) := by decide +kernel
theorem dX8_runSteps_6 : decode cX8_runSteps 6 = .ok (.getfield 115, 3) := by decide +kernel
theorem dX8_runSteps_9 : decode cX8_runSteps 9 = .ok (.if_icmp .ge 27, 3) := by decide +kernel
theorem dX8_runSteps_12 : decode cX8_runSteps 12 = .ok (.iload_n 1, 1) := by decide +kernel
theorem dX8_runSteps_13 : decode cX8_runSteps 13 = .ok (.aload_n 0, 1) := by decide +kernel
theorem dX8_runSteps_14 : decode cX8_runSteps 14 = .ok (.iconst 4, 1) := by decide +kernel
theorem dX8_runSteps_15 : decode cX8_runSteps 15 = .ok (.iload_n 2, 1) := by decide +kernel
theorem dX8_runSteps_16 : decode cX8_runSteps 16 = .ok (.imul, 1) := by decide +kernel
theorem dX8_runSteps_17 : decode cX8_runSteps 17 = .ok (.invokevirtual 307, 3) := by decide +kernel
theorem dX8_runSteps_20 : decode cX8_runSteps 20 = .ok (.ifCond .lt 7, 3) := by decide +kernel
theorem dX8_runSteps_23 : decode cX8_runSteps 23 = .ok (.iconst 1, 1) := by decide +kernel
theorem dX8_runSteps_24 : decode cX8_runSteps 24 = .ok (.goto 4, 3) := by decide +kernel
theorem dX8_runSteps_27 : decode cX8_runSteps 27 = .ok (.iconst 0, 1) := by decide +kernel
theorem dX8_runSteps_28 : decode cX8_runSteps 28 = .ok (.iadd, 1) := by decide +kernel
theorem dX8_runSteps_29 : decode cX8_runSteps 29 = .ok (.istore_n 1, 1) := by decide +kernel
theorem dX8_runSteps_30 : decode cX8_runSteps 30 = .ok (.iinc 2 1, 3) := by decide +kernel
theorem dX8_runSteps_33 : decode cX8_runSteps 33 = .ok (.goto (-29), 3) := by decide +kernel
theorem dX8_runSteps_36 : decode cX8_runSteps 36 = .ok (.iload_n 1, 1) := by decide +kernel
theorem dX8_runSteps_37 : decode cX8_runSteps 37 = .ok (.ireturn, 1) := by decide +kernel
theorem dX8_undo_0 : decode cX8_undo 0 = .ok (.aload_n 0, 1) := by decide +kernel
theorem dX8_undo_1 : decode cX8_undo 1 = .ok (.getfield 95, 3) := by decide +kernel
theorem dX8_undo_4 : decode cX8_undo 4 = .ok (.ifCond .ne 6, 3) := by decide +kernel
theorem dX8_undo_7 : decode cX8_undo 7 = .ok (.bipush (-7), 2) := by decide +kernel
theorem dX8_undo_9 : decode cX8_undo 9 = .ok (.ireturn, 1) := by decide +kernel
theorem dX8_undo_10 : decode cX8_undo 10 = .ok (.aload_n 0, 1) := by decide +kernel
theorem dX8_undo_11 : decode cX8_undo 11 = .ok (.dup, 1) := by decide +kernel
theorem dX8_undo_12 : decode cX8_undo 12 = .ok (.getfield 95, 3) := by decide +kernel
theorem dX8_undo_15 : decode cX8_undo 15 = .ok (.iconst 1, 1) := by decide +kernel
theorem dX8_undo_16 : decode cX8_undo 16 = .ok (.isub, 1) := by decide +kernel
theorem dX8_undo_17 : decode cX8_undo 17 = .ok (.putfield 95, 3) := by decide +kernel
theorem dX8_undo_20 : decode cX8_undo 20 = .ok (.aload_n 0, 1) := by decide +kernel
theorem dX8_undo_21 : decode cX8_undo 21 = .ok (.getfield 24, 3) := by decide +kernel
theorem dX8_undo_24 : decode cX8_undo 24 = .ok (.aload_n 0, 1) := by decide +kernel
theorem dX8_undo_25 : decode cX8_undo 25 = .ok (.getfield 95, 3) := by decide +kernel
theorem dX8_undo_28 : decode cX8_undo 28 = .ok (.iaload, 1) := by decide +kernel
theorem dX8_undo_29 : decode cX8_undo 29 = .ok (.istore_n 1, 1) := by decide +kernel
theorem dX8_undo_30 : decode cX8_undo 30 = .ok (.aload_n 0, 1) := by decide +kernel
theorem dX8_undo_31 : decode cX8_undo 31 = .ok (.getfield 16, 3) := by decide +kernel
theorem dX8_undo_34 : decode cX8_undo 34 = .ok (.iload_n 1, 1) := by decide +kernel
theorem dX8_undo_35 : decode cX8_undo 35 = .ok (.aload_n 0, 1) := by decide +kernel
theorem dX8_undo_36 : decode cX8_undo 36 = .ok (.getfield 28, 3) := by decide +kernel
theorem dX8_undo_39 : decode cX8_undo 39 = .ok (.aload_n 0, 1) := by decide +kernel
theorem dX8_undo_40 : decode cX8_undo 40 = .ok (.getfield 95, 3) := by decide +kernel
theorem dX8_undo_43 : decode cX8_undo 43 = .ok (.laload, 1) := by decide +kernel
theorem dX8_undo_44 : decode cX8_undo 44 = .ok (.lastore, 1) := by decide +kernel
theorem dX8_undo_45 : decode cX8_undo 45 = .ok (.aload_n 0, 1) := by decide +kernel
theorem dX8_undo_46 : decode cX8_undo 46 = .ok (.getfield 20, 3) := by decide +kernel
theorem dX8_undo_49 : decode cX8_undo 49 = .ok (.iload_n 1, 1) := by decide +kernel
theorem dX8_undo_50 : decode cX8_undo 50 = .ok (.aload_n 0, 1) := by decide +kernel
theorem dX8_undo_51 : decode cX8_undo 51 = .ok (.getfield 31, 3) := by decide +kernel
theorem dX8_undo_54 : decode cX8_undo 54 = .ok (.aload_n 0, 1) := by decide +kernel
theorem dX8_undo_55 : decode cX8_undo 55 = .ok (.getfield 95, 3) := by decide +kernel
theorem dX8_undo_58 : decode cX8_undo 58 = .ok (.baload, 1) := by decide +kernel
theorem dX8_undo_59 : decode cX8_undo 59 = .ok (.bastore, 1) := by decide +kernel
theorem dX8_undo_60 : decode cX8_undo 60 = .ok (.iload_n 1, 1) := by decide +kernel
theorem dX8_undo_61 : decode cX8_undo 61 = .ok (.ireturn, 1) := by decide +kernel
theorem dX8_save_0 : decode cX8_save 0 = .ok (.aload_n 0, 1) := by decide +kernel
theorem dX8_save_1 : decode cX8_save 1 = .ok (.aload_n 0, 1) := by decide +kernel
theorem dX8_save_2 : decode cX8_save 2 = .ok (.getfield 7, 3) := by decide +kernel
theorem dX8_save_5 : decode cX8_save 5 = .ok (.putfield 49, 3) := by decide +kernel
theorem dX8_save_8 : decode cX8_save 8 = .ok (.aload_n 0, 1) := by decide +kernel
theorem dX8_save_9 : decode cX8_save 9 = .ok (.aload_n 0, 1) := by decide +kernel
theorem dX8_save_10 : decode cX8_save 10 = .ok (.getfield 115, 3) := by decide +kernel
theorem dX8_save_13 : decode cX8_save 13 = .ok (.putfield 310, 3) := by decide +kernel
theorem dX8_save_16 : decode cX8_save 16 = .ok (.aload_n 0, 1) := by decide +kernel
theorem dX8_save_17 : decode cX8_save 17 = .ok (.aload_n 0, 1) := by decide +kernel
theorem dX8_save_18 : decode cX8_save 18 = .ok (.getfield 108, 3) := by decide +kernel
theorem dX8_save_21 : decode cX8_save 21 = .ok (.putfield 313, 3) := by decide +kernel
theorem dX8_save_24 : decode cX8_save 24 = .ok (.aload_n 0, 1) := by decide +kernel
theorem dX8_save_25 : decode cX8_save 25 = .ok (.aload_n 0, 1) := by decide +kernel
theorem dX8_save_26 : decode cX8_save 26 = .ok (.getfield 112, 3) := by decide +kernel
theorem dX8_save_29 : decode cX8_save 29 = .ok (.putfield 316, 3) := by decide +kernel
theorem dX8_save_32 : decode cX8_save 32 = .ok (.iconst 0, 1) := by decide +kernel
theorem dX8_save_33 : decode cX8_save 33 = .ok (.istore_n 1, 1) := by decide +kernel
theorem dX8_save_34 : decode cX8_save 34 = .ok (.iload_n 1, 1) := by decide +kernel
theorem dX8_save_35 : decode cX8_save 35 = .ok (.bipush 8, 2) := by decide +kernel
theorem dX8_save_37 : decode cX8_save 37 = .ok (.if_icmp .ge 33, 3) := by decide +kernel
theorem dX8_save_40 : decode cX8_save 40 = .ok (.aload_n 0, 1) := by decide +kernel
theorem dX8_save_41 : decode cX8_save 41 = .ok (.getfield 52, 3) := by decide +kernel
theorem dX8_save_44 : decode cX8_save 44 = .ok (.iload_n 1, 1) := by decide +kernel
theorem dX8_save_45 : decode cX8_save 45 = .ok (.aload_n 0, 1) := by decide +kernel
theorem dX8_save_46 : decode cX8_save 46 = .ok (.getfield 16, 3) := by decide +kernel
theorem dX8_save_49 : decode cX8_save 49 = .ok (.iload_n 1, 1) := by decide +kernel
theorem dX8_save_50 : decode cX8_save 50 = .ok (.laload, 1) := by decide +kernel
theorem dX8_save_51 : decode cX8_save 51 = .ok (.lastore, 1) := by decide +kernel
theorem dX8_save_52 : decode cX8_save 52 = .ok (.aload_n 0, 1) := by decide +kernel
theorem dX8_save_53 : decode cX8_save 53 = .ok (.getfield 55, 3) := by decide +kernel
theorem dX8_save_56 : decode cX8_save 56 = .ok (.iload_n 1, 1) := by decide +kernel
theorem dX8_save_57 : decode cX8_save 57 = .ok (.aload_n 0, 1) := by decide +kernel
theorem dX8_save_58 : decode cX8_save 58 = .ok (.getfield 20, 3) := by decide +kernel
theorem dX8_save_61 : decode cX8_save 61 = .ok (.iload_n 1, 1) := by decide +kernel
theorem dX8_save_62 : decode cX8_save 62 = .ok (.baload, 1) := by decide +kernel
theorem dX8_save_63 : decode cX8_save 63 = .ok (.bastore, 1) := by decide +kernel
theorem dX8_save_64 : decode cX8_save 64 = .ok (.iinc 1 1, 3) := by decide +kernel
theorem dX8_save_67 : decode cX8_save 67 = .ok (.goto (-33), 3) := by decide +kernel
theorem dX8_save_70 : decode cX8_save 70 = .ok (.iconst 0, 1) := by decide +kernel
theorem dX8_save_71 : decode cX8_save 71 = .ok (.istore_n 1, 1) := by decide +kernel
theorem dX8_save_72 : decode cX8_save 72 = .ok (.iload_n 1, 1) := by decide +kernel
theorem dX8_save_73 : decode cX8_save 73 = .ok (.bipush 32, 2) := by decide +kernel
theorem dX8_save_75 : decode cX8_save 75 = .ok (.if_icmp .ge 21, 3) := by decide +kernel
theorem dX8_save_78 : decode cX8_save 78 = .ok (.aload_n 0, 1) := by decide +kernel
theorem dX8_save_79 : decode cX8_save 79 = .ok (.getfield 58, 3) := by decide +kernel
theorem dX8_save_82 : decode cX8_save 82 = .ok (.iload_n 1, 1) := by decide +kernel
theorem dX8_save_83 : decode cX8_save 83 = .ok (.aload_n 0, 1) := by decide +kernel
theorem dX8_save_84 : decode cX8_save 84 = .ok (.getfield 34, 3) := by decide +kernel
theorem dX8_save_87 : decode cX8_save 87 = .ok (.iload_n 1, 1) := by decide +kernel
theorem dX8_save_88 : decode cX8_save 88 = .ok (.iaload, 1) := by decide +kernel
theorem dX8_save_89 : decode cX8_save 89 = .ok (.iastore, 1) := by decide +kernel
theorem dX8_save_90 : decode cX8_save 90 = .ok (.iinc 1 1, 3) := by decide +kernel
theorem dX8_save_93 : decode cX8_save 93 = .ok (.goto (-21), 3) := by decide +kernel
theorem dX8_save_96 : decode cX8_save 96 = .ok (.aload_n 0, 1) := by decide +kernel
theorem dX8_save_97 : decode cX8_save 97 = .ok (.invokevirtual 130, 3) := by decide +kernel
theorem dX8_save_100 : decode cX8_save 100 = .ok (.ireturn, 1) := by decide +kernel
theorem dX8_restore_0 : decode cX8_restore 0 = .ok (.aload_n 0, 1) := by decide +kernel
theorem dX8_restore_1 : decode cX8_restore 1 = .ok (.getfield 49, 3) := by decide +kernel
theorem dX8_restore_4 : decode cX8_restore 4 = .ok (.iconst (-1), 1) := by decide +kernel
theorem dX8_restore_5 : decode cX8_restore 5 = .ok (.if_icmp .ne 6, 3) := by decide +kernel
theorem dX8_restore_8 : decode cX8_restore 8 = .ok (.bipush (-7), 2) := by decide +kernel
theorem dX8_restore_10 : decode cX8_restore 10 = .ok (.ireturn, 1) := by decide +kernel
theorem dX8_restore_11 : decode cX8_restore 11 = .ok (.aload_n 0, 1) := by decide +kernel
theorem dX8_restore_12 : decode cX8_restore 12 = .ok (.getfield 49, 3) := by decide +kernel
theorem dX8_restore_15 : decode cX8_restore 15 = .ok (.aload_n 0, 1) := by decide +kernel
theorem dX8_restore_16 : decode cX8_restore 16 = .ok (.getfield 7, 3) := by decide +kernel
theorem dX8_restore_19 : decode cX8_restore 19 = .ok (.if_icmp .eq 12, 3) := by decide +kernel
theorem dX8_restore_22 : decode cX8_restore 22 = .ok (.aload_n 0, 1) := by decide +kernel
theorem dX8_restore_23 : decode cX8_restore 23 = .ok (.aload_n 0, 1) := by decide +kernel
theorem dX8_restore_24 : decode cX8_restore 24 = .ok (.getfield 49, 3) := by decide +kernel
theorem dX8_restore_27 : decode cX8_restore 27 = .ok (.invokevirtual 319, 3) := by decide +kernel
theorem dX8_restore_30 : decode cX8_restore 30 = .ok (.pop, 1) := by decide +kernel
theorem dX8_restore_31 : decode cX8_restore 31 = .ok (.aload_n 0, 1) := by decide +kernel
theorem dX8_restore_32 : decode cX8_restore 32 = .ok (.iconst 0, 1) := by decide +kernel
theorem dX8_restore_33 : decode cX8_restore 33 = .ok (.putfield 95, 3) := by decide +kernel
theorem dX8_restore_36 : decode cX8_restore 36 = .ok (.aload_n 0, 1) := by decide +kernel
theorem dX8_restore_37 : decode cX8_restore 37 = .ok (.aload_n 0, 1) := by decide +kernel
theorem dX8_restore_38 : decode cX8_restore 38 = .ok (.getfield 310, 3) := by decide +kernel
theorem dX8_restore_41 : decode cX8_restore 41 = .ok (.putfield 115, 3) := by decide +kernel
theorem dX8_restore_44 : decode cX8_restore 44 = .ok (.aload_n 0, 1) := by decide +kernel
theorem dX8_restore_45 : decode cX8_restore 45 = .ok (.aload_n 0, 1) := by decide +kernel
theorem dX8_restore_46 : decode cX8_restore 46 = .ok (.getfield 313, 3) := by decide +kernel
theorem dX8_restore_49 : decode cX8_restore 49 = .ok (.putfield 108, 3) := by decide +kernel
theorem dX8_restore_52 : decode cX8_restore 52 = .ok (.aload_n 0, 1) := by decide +kernel
theorem dX8_restore_53 : decode cX8_restore 53 = .ok (.aload_n 0, 1) := by decide +kernel
theorem dX8_restore_54 : decode cX8_restore 54 = .ok (.getfield 316, 3) := by decide +kernel
theorem dX8_restore_57 : decode cX8_restore 57 = .ok (.putfield 112, 3) := by decide +kernel
theorem dX8_restore_60 : decode cX8_restore 60 = .ok (.iconst 0, 1) := by decide +kernel
theorem dX8_restore_61 : decode cX8_restore 61 = .ok (.istore_n 1, 1) := by decide +kernel
theorem dX8_restore_62 : decode cX8_restore 62 = .ok (.iload_n 1, 1) := by decide +kernel
theorem dX8_restore_63 : decode cX8_restore 63 = .ok (.bipush 8, 2) := by decide +kernel
theorem dX8_restore_65 : decode cX8_restore 65 = .ok (.if_icmp .ge 33, 3) := by decide +kernel
theorem dX8_restore_68 : decode cX8_restore 68 = .ok (.aload_n 0, 1) := by decide +kernel
theorem dX8_restore_69 : decode cX8_restore 69 = .ok (.getfield 16, 3) := by decide +kernel
theorem dX8_restore_72 : decode cX8_restore 72 = .ok (.iload_n 1, 1) := by decide +kernel
theorem dX8_restore_73 : decode cX8_restore 73 = .ok (.aload_n 0, 1) := by decide +kernel
theorem dX8_restore_74 : decode cX8_restore 74 = .ok (.getfield 52, 3) := by decide +kernel
theorem dX8_restore_77 : decode cX8_restore 77 = .ok (.iload_n 1, 1) := by decide +kernel
theorem dX8_restore_78 : decode cX8_restore 78 = .ok (.laload, 1) := by decide +kernel
theorem dX8_restore_79 : decode cX8_restore 79 = .ok (.lastore, 1) := by decide +kernel
theorem dX8_restore_80 : decode cX8_restore 80 = .ok (.aload_n 0, 1) := by decide +kernel
theorem dX8_restore_81 : decode cX8_restore 81 = .ok (.getfield 20, 3) := by decide +kernel
theorem dX8_restore_84 : decode cX8_restore 84 = .ok (.iload_n 1, 1) := by decide +kernel
theorem dX8_restore_85 : decode cX8_restore 85 = .ok (.aload_n 0, 1) := by decide +kernel
theorem dX8_restore_86 : decode cX8_restore 86 = .ok (.getfield 55, 3) := by decide +kernel
theorem dX8_restore_89 : decode cX8_restore 89 = .ok (.iload_n 1, 1) := by decide +kernel
theorem dX8_restore_90 : decode cX8_restore 90 = .ok (.baload, 1) := by decide +kernel
theorem dX8_restore_91 : decode cX8_restore 91 = .ok (.bastore, 1) := by decide +kernel
theorem dX8_restore_92 : decode cX8_restore 92 = .ok (.iinc 1 1, 3) := by decide +kernel
theorem dX8_restore_95 : decode cX8_restore 95 = .ok (.goto (-33), 3) := by decide +kernel
theorem dX8_restore_98 : decode cX8_restore 98 = .ok (.iconst 0, 1) := by decide +kernel
theorem dX8_restore_99 : decode cX8_restore 99 = .ok (.istore_n 1, 1) := by decide +kernel
theorem dX8_restore_100 : decode cX8_restore 100 = .ok (.iload_n 1, 1) := by decide +kernel
theorem dX8_restore_101 : decode cX8_restore 101 = .ok (.bipush 32, 2) := by decide +kernel
theorem dX8_restore_103 : decode cX8_restore 103 = .ok (.if_icmp .ge 21, 3) := by decide +kernel
theorem dX8_restore_106 : decode cX8_restore 106 = .ok (.aload_n 0, 1) := by decide +kernel
theorem dX8_restore_107 : decode cX8_restore 107 = .ok (.getfield 34, 3) := by decide +kernel
theorem dX8_restore_110 : decode cX8_restore 110 = .ok (.iload_n 1, 1) := by decide +kernel
theorem dX8_restore_111 : decode cX8_restore 111 = .ok (.aload_n 0, 1) := by decide +kernel
theorem dX8_restore_112 : decode cX8_restore 112 = .ok (.getfield 58, 3) := by decide +kernel
theorem dX8_restore_115 : decode cX8_restore 115 = .ok (.iload_n 1, 1) := by decide +kernel
theorem dX8_restore_116 : decode cX8_restore 116 = .ok (.iaload, 1) := by decide +kernel
theorem dX8_restore_117 : decode cX8_restore 117 = .ok (.iastore, 1) := by decide +kernel
theorem dX8_restore_118 : decode cX8_restore 118 = .ok (.iinc 1 1, 3) := by decide +kernel
theorem dX8_restore_121 : decode cX8_restore 121 = .ok (.goto (-21), 3) := by decide +kernel
theorem dX8_restore_124 : decode cX8_restore 124 = .ok (.aload_n 0, 1) := by decide +kernel
theorem dX8_restore_125 : decode cX8_restore 125 = .ok (.invokevirtual 130, 3) := by decide +kernel
theorem dX8_restore_128 : decode cX8_restore 128 = .ok (.ireturn, 1) := by decide +kernel
theorem dX8_isArray_0 : decode cX8_isArray 0 = .ok (.iload_n 0, 1) := by decide +kernel
theorem dX8_isArray_1 : decode cX8_isArray 1 = .ok (.i2l, 1) := by decide +kernel
theorem dX8_isArray_2 : decode cX8_isArray 2 = .ok (.lconst 0, 1) := by decide +kernel
theorem dX8_isArray_3 : decode cX8_isArray 3 = .ok (.ldc2_w 174, 3) := by decide +kernel
theorem dX8_isArray_6 : decode cX8_isArray 6 = .ok (.invokestatic 87, 3) := by decide +kernel
theorem dX8_isArray_9 : decode cX8_isArray 9 = .ok (.ireturn, 1) := by decide +kernel
theorem dX8_createArray_0 : decode cX8_createArray 0 = .ok (.iload_n 1, 1) := by decide +kernel
theorem dX8_createArray_1 : decode cX8_createArray 1 = .ok (.invokestatic 322, 3) := by decide +kernel
theorem dX8_createArray_4 : decode cX8_createArray 4 = .ok (.ifCond .eq 9, 3) := by decide +kernel
theorem dX8_createArray_7 : decode cX8_createArray 7 = .ok (.iload_n 2, 1) := by decide +kernel
theorem dX8_createArray_8 : decode cX8_createArray 8 = .ok (.bipush 16, 2) := by decide +kernel
theorem dX8_createArray_10 : decode cX8_createArray 10 = .ok (.if_icmp .le 6, 3) := by decide +kernel
theorem dX8_createArray_13 : decode cX8_createArray 13 = .ok (.bipush (-2), 2) := by decide +kernel
theorem dX8_createArray_15 : decode cX8_createArray 15 = .ok (.ireturn, 1) := by decide +kernel
theorem dX8_createArray_16 : decode cX8_createArray 16 = .ok (.iload_n 2, 1) := by decide +kernel
theorem dX8_createArray_17 : decode cX8_createArray 17 = .ok (.ifCond .ge 6, 3) := by decide +kernel
theorem dX8_createArray_20 : decode cX8_createArray 20 = .ok (.bipush (-14), 2) := by decide +kernel
theorem dX8_createArray_22 : decode cX8_createArray 22 = .ok (.ireturn, 1) := by decide +kernel
theorem dX8_createArray_23 : decode cX8_createArray 23 = .ok (.aload_n 0, 1) := by decide +kernel
theorem dX8_createArray_24 : decode cX8_createArray 24 = .ok (.getfield 43, 3) := by decide +kernel
theorem dX8_createArray_27 : decode cX8_createArray 27 = .ok (.iload_n 1, 1) := by decide +kernel
theorem dX8_createArray_28 : decode cX8_createArray 28 = .ok (.iload_n 2, 1) := by decide +kernel
theorem dX8_createArray_29 : decode cX8_createArray 29 = .ok (.iastore, 1) := by decide +kernel
theorem dX8_createArray_30 : decode cX8_createArray 30 = .ok (.iconst 0, 1) := by decide +kernel
theorem dX8_createArray_31 : decode cX8_createArray 31 = .ok (.istore_n 3, 1) := by decide +kernel
theorem dX8_createArray_32 : decode cX8_createArray 32 = .ok (.iload_n 3, 1) := by decide +kernel
theorem dX8_createArray_33 : decode cX8_createArray 33 = .ok (.bipush 16, 2) := by decide +kernel
theorem dX8_createArray_35 : decode cX8_createArray 35 = .ok (.if_icmp .ge 21, 3) := by decide +kernel
theorem dX8_createArray_38 : decode cX8_createArray 38 = .ok (.aload_n 0, 1) := by decide +kernel
theorem dX8_createArray_39 : decode cX8_createArray 39 = .ok (.getfield 46, 3) := by decide +kernel
theorem dX8_createArray_42 : decode cX8_createArray 42 = .ok (.bipush 16, 2) := by decide +kernel
theorem dX8_createArray_44 : decode cX8_createArray 44 = .ok (.iload_n 1, 1) := by decide +kernel
theorem dX8_createArray_45 : decode cX8_createArray 45 = .ok (.imul, 1) := by decide +kernel
theorem dX8_createArray_46 : decode cX8_createArray 46 = .ok (.iload_n 3, 1) := by decide +kernel
theorem dX8_createArray_47 : decode cX8_createArray 47 = .ok (.iadd, 1) := by decide +kernel
theorem dX8_createArray_48 : decode cX8_createArray 48 = .ok (.iconst 0, 1) := by decide +kernel
theorem dX8_createArray_49 : decode cX8_createArray 49 = .ok (.iastore, 1) := by decide +kernel
theorem dX8_createArray_50 : decode cX8_createArray 50 = .ok (.iinc 3 1, 3) := by decide +kernel
theorem dX8_createArray_53 : decode cX8_createArray 53 = .ok (.goto (-21), 3) := by decide +kernel
theorem dX8_createArray_56 : decode cX8_createArray 56 = .ok (.iconst 1, 1) := by decide +kernel
theorem dX8_createArray_57 : decode cX8_createArray 57 = .ok (.ireturn, 1) := by decide +kernel
theorem dX8_setElement_0 : decode cX8_setElement 0 = .ok (.iload_n 1, 1) := by decide +kernel
theorem dX8_setElement_1 : decode cX8_setElement 1 = .ok (.invokestatic 322, 3) := by decide +kernel
theorem dX8_setElement_4 : decode cX8_setElement 4 = .ok (.ifCond .ne 6, 3) := by decide +kernel
theorem dX8_setElement_7 : decode cX8_setElement 7 = .ok (.bipush (-2), 2) := by decide +kernel
theorem dX8_setElement_9 : decode cX8_setElement 9 = .ok (.ireturn, 1) := by decide +kernel
theorem dX8_setElement_10 : decode cX8_setElement 10 = .ok (.aload_n 0, 1) := by decide +kernel
theorem dX8_setElement_11 : decode cX8_setElement 11 = .ok (.getfield 43, 3) := by decide +kernel
theorem dX8_setElement_14 : decode cX8_setElement 14 = .ok (.iload_n 1, 1) := by decide +kernel
theorem dX8_setElement_15 : decode cX8_setElement 15 = .ok (.iaload, 1) := by decide +kernel
theorem dX8_setElement_16 : decode cX8_setElement 16 = .ok (.iconst (-1), 1) := by decide +kernel
theorem dX8_setElement_17 : decode cX8_setElement 17 = .ok (.if_icmp .ne 6, 3) := by decide +kernel
theorem dX8_setElement_20 : decode cX8_setElement 20 = .ok (.bipush (-11), 2) := by decide +kernel
theorem dX8_setElement_22 : decode cX8_setElement 22 = .ok (.ireturn, 1) := by decide +kernel
theorem dX8_setElement_23 : decode cX8_setElement 23 = .ok (.iload_n 2, 1) := by decide +kernel
theorem dX8_setElement_24 : decode cX8_setElement 24 = .ok (.i2l, 1) := by decide +kernel
theorem dX8_setElement_25 : decode cX8_setElement 25 = .ok (.lconst 0, 1) := by decide +kernel
theorem dX8_setElement_26 : decode cX8_setElement 26 = .ok (.aload_n 0, 1) := by decide +kernel
theorem dX8_setElement_27 : decode cX8_setElement 27 = .ok (.getfield 43, 3) := by decide +kernel
theorem dX8_setElement_30 : decode cX8_setElement 30 = .ok (.iload_n 1, 1) := by decide +kernel
theorem dX8_setElement_31 : decode cX8_setElement 31 = .ok (.iaload, 1) := by decide +kernel
theorem dX8_setElement_32 : decode cX8_setElement 32 = .ok (.iconst 1, 1) := by decide +kernel
theorem dX8_setElement_33 : decode cX8_setElement 33 = .ok (.isub, 1) := by decide +kernel
theorem dX8_setElement_34 : decode cX8_setElement 34 = .ok (.i2l, 1) := by decide +kernel
theorem dX8_setElement_35 : decode cX8_setElement 35 = .ok (.invokestatic 87, 3) := by decide +kernel
theorem dX8_setElement_38 : decode cX8_setElement 38 = .ok (.ifCond .ne 6, 3) := by decide +kernel
theorem dX8_setElement_41 : decode cX8_setElement 41 = .ok (.bipush (-13), 2) := by decide +kernel
theorem dX8_setElement_43 : decode cX8_setElement 43 = .ok (.ireturn, 1) := by decide +kernel
theorem dX8_setElement_44 : decode cX8_setElement 44 = .ok (.aload_n 0, 1) := by decide +kernel
theorem dX8_setElement_45 : decode cX8_setElement 45 = .ok (.getfield 46, 3) := by decide +kernel
theorem dX8_setElement_48 : decode cX8_setElement 48 = .ok (.bipush 16, 2) := by decide +kernel
theorem dX8_setElement_50 : decode cX8_setElement 50 = .ok (.iload_n 1, 1) := by decide +kernel
theorem dX8_setElement_51 : decode cX8_setElement 51 = .ok (.imul, 1) := by decide +kernel
theorem dX8_setElement_52 : decode cX8_setElement 52 = .ok (.iload_n 2, 1) := by decide +kernel
theorem dX8_setElement_53 : decode cX8_setElement 53 = .ok (.iadd, 1) := by decide +kernel
theorem dX8_setElement_54 : decode cX8_setElement 54 = .ok (.iload_n 3, 1) := by decide +kernel
theorem dX8_setElement_55 : decode cX8_setElement 55 = .ok (.iastore, 1) := by decide +kernel
theorem dX8_setElement_56 : decode cX8_setElement 56 = .ok (.iconst 1, 1) := by decide +kernel
theorem dX8_setElement_57 : decode cX8_setElement 57 = .ok (.ireturn, 1) := by decide +kernel
theorem dX8_element_0 : decode cX8_element 0 = .ok (.iload_n 1, 1) := by decide +kernel
theorem dX8_element_1 : decode cX8_element 1 = .ok (.invokestatic 322, 3) := by decide +kernel
theorem dX8_element_4 : decode cX8_element 4 = .ok (.ifCond .eq 36, 3) := by decide +kernel
theorem dX8_element_7 : decode cX8_element 7 = .ok (.iload_n 2, 1) := by decide +kernel
theorem dX8_element_8 : decode cX8_element 8 = .ok (.i2l, 1) := by decide +kernel
theorem dX8_element_9 : decode cX8_element 9 = .ok (.lconst 0, 1) := by decide +kernel
theorem dX8_element_10 : decode cX8_element 10 = .ok (.aload_n 0, 1) := by decide +kernel
theorem dX8_element_11 : decode cX8_element 11 = .ok (.getfield 43, 3) := by decide +kernel
theorem dX8_element_14 : decode cX8_element 14 = .ok (.iload_n 1, 1) := by decide +kernel
theorem dX8_element_15 : decode cX8_element 15 = .ok (.iaload, 1) := by decide +kernel
theorem dX8_element_16 : decode cX8_element 16 = .ok (.iconst 1, 1) := by decide +kernel
theorem dX8_element_17 : decode cX8_element 17 = .ok (.isub, 1) := by decide +kernel
theorem dX8_element_18 : decode cX8_element 18 = .ok (.i2l, 1) := by decide +kernel
theorem dX8_element_19 : decode cX8_element 19 = .ok (.invokestatic 87, 3) := by decide +kernel
theorem dX8_element_22 : decode cX8_element 22 = .ok (.ifCond .eq 18, 3) := by decide +kernel
theorem dX8_element_25 : decode cX8_element 25 = .ok (.aload_n 0, 1) := by decide +kernel
theorem dX8_element_26 : decode cX8_element 26 = .ok (.getfield 46, 3) := by decide +kernel
theorem dX8_element_29 : decode cX8_element 29 = .ok (.bipush 16, 2) := by decide +kernel
theorem dX8_element_31 : decode cX8_element 31 = .ok (.iload_n 1, 1) := by decide +kernel
theorem dX8_element_32 : decode cX8_element 32 = .ok (.imul, 1) := by decide +kernel
theorem dX8_element_33 : decode cX8_element 33 = .ok (.iload_n 2, 1) := by decide +kernel
theorem dX8_element_34 : decode cX8_element 34 = .ok (.iadd, 1) := by decide +kernel
theorem dX8_element_35 : decode cX8_element 35 = .ok (.iaload, 1) := by decide +kernel
theorem dX8_element_36 : decode cX8_element 36 = .ok (.i2l, 1) := by decide +kernel
theorem dX8_element_37 : decode cX8_element 37 = .ok (.goto 6, 3) := by decide +kernel
theorem dX8_element_40 : decode cX8_element 40 = .ok (.ldc2_w 327, 3) := by decide +kernel
theorem dX8_element_43 : decode cX8_element 43 = .ok (.lreturn, 1) := by decide +kernel
theorem dX8_compare_0 : decode cX8_compare 0 = .ok (.iload_n 1, 1) := by decide +kernel
theorem dX8_compare_1 : decode cX8_compare 1 = .ok (.invokestatic 322, 3) := by decide +kernel
theorem dX8_compare_4 : decode cX8_compare 4 = .ok (.ifCond .eq 10, 3) := by decide +kernel
theorem dX8_compare_7 : decode cX8_compare 7 = .ok (.iload_n 2, 1) := by decide +kernel
theorem dX8_compare_8 : decode cX8_compare 8 = .ok (.invokestatic 118, 3) := by decide +kernel
theorem dX8_compare_11 : decode cX8_compare 11 = .ok (.ifCond .ne 6, 3) := by decide +kernel
theorem dX8_compare_14 : decode cX8_compare 14 = .ok (.bipush (-2), 2) := by decide +kernel
theorem dX8_compare_16 : decode cX8_compare 16 = .ok (.ireturn, 1) := by decide +kernel
theorem dX8_compare_17 : decode cX8_compare 17 = .ok (.aload_n 0, 1) := by decide +kernel
theorem dX8_compare_18 : decode cX8_compare 18 = .ok (.iload_n 2, 1) := by decide +kernel
theorem dX8_compare_19 : decode cX8_compare 19 = .ok (.invokevirtual 150, 3) := by decide +kernel
theorem dX8_compare_22 : decode cX8_compare 22 = .ok (.istore_n 3, 1) := by decide +kernel
theorem dX8_compare_23 : decode cX8_compare 23 = .ok (.iload_n 3, 1) := by decide +kernel
theorem dX8_compare_24 : decode cX8_compare 24 = .ok (.ifCond .eq 5, 3) := by decide +kernel
theorem dX8_compare_27 : decode cX8_compare 27 = .ok (.iload_n 3, 1) := by decide +kernel
theorem dX8_compare_28 : decode cX8_compare 28 = .ok (.ireturn, 1) := by decide +kernel
theorem dX8_compare_29 : decode cX8_compare 29 = .ok (.aload_n 0, 1) := by decide +kernel
theorem dX8_compare_30 : decode cX8_compare 30 = .ok (.getfield 43, 3) := by decide +kernel
theorem dX8_compare_33 : decode cX8_compare 33 = .ok (.iload_n 1, 1) := by decide +kernel
theorem dX8_compare_34 : decode cX8_compare 34 = .ok (.iaload, 1) := by decide +kernel
theorem dX8_compare_35 : decode cX8_compare 35 = .ok (.iconst (-1), 1) := by decide +kernel
theorem dX8_compare_36 : decode cX8_compare 36 = .ok (.if_icmp .ne 6, 3) := by decide +kernel
theorem dX8_compare_39 : decode cX8_compare 39 = .ok (.bipush (-11), 2) := by decide +kernel
theorem dX8_compare_41 : decode cX8_compare 41 = .ok (.ireturn, 1) := by decide +kernel
theorem dX8_compare_42 : decode cX8_compare 42 = .ok (.iconst 0, 1) := by decide +kernel
theorem dX8_compare_43 : decode cX8_compare 43 = .ok (.istore 4, 2) := by decide +kernel
theorem dX8_compare_45 : decode cX8_compare 45 = .ok (.iload 4, 2) := by decide +kernel
theorem dX8_compare_47 : decode cX8_compare 47 = .ok (.aload_n 0, 1) := by decide +kernel
theorem dX8_compare_48 : decode cX8_compare 48 = .ok (.getfield 43, 3) := by decide +kernel
theorem dX8_compare_51 : decode cX8_compare 51 = .ok (.iload_n 1, 1) := by decide +kernel
theorem dX8_compare_52 : decode cX8_compare 52 = .ok (.iaload, 1) := by decide +kernel
theorem dX8_compare_53 : decode cX8_compare 53 = .ok (.if_icmp .ge 39, 3) := by decide +kernel
theorem dX8_compare_56 : decode cX8_compare 56 = .ok (.aload_n 0, 1) := by decide +kernel
theorem dX8_compare_57 : decode cX8_compare 57 = .ok (.getfield 46, 3) := by decide +kernel
theorem dX8_compare_60 : decode cX8_compare 60 = .ok (.bipush 16, 2) := by decide +kernel
theorem dX8_compare_62 : decode cX8_compare 62 = .ok (.iload_n 1, 1) := by decide +kernel
theorem dX8_compare_63 : decode cX8_compare 63 = .ok (.imul, 1) := by decide +kernel
theorem dX8_compare_64 : decode cX8_compare 64 = .ok (.iload 4, 2) := by decide +kernel
theorem dX8_compare_66 : decode cX8_compare 66 = .ok (.iadd, 1) := by decide +kernel
theorem dX8_compare_67 : decode cX8_compare 67 = .ok (.iaload, 1) := by decide +kernel
theorem dX8_compare_68 : decode cX8_compare 68 = .ok (.aload_n 0, 1) := by decide +kernel
theorem dX8_compare_69 : decode cX8_compare 69 = .ok (.aload_n 0, 1) := by decide +kernel
theorem dX8_compare_70 : decode cX8_compare 70 = .ok (.getfield 16, 3) := by decide +kernel
theorem dX8_compare_73 : decode cX8_compare 73 = .ok (.iload_n 2, 1) := by decide +kernel
theorem dX8_compare_74 : decode cX8_compare 74 = .ok (.laload, 1) := by decide +kernel
theorem dX8_compare_75 : decode cX8_compare 75 = .ok (.iload 4, 2) := by decide +kernel
theorem dX8_compare_77 : decode cX8_compare 77 = .ok (.invokevirtual 156, 3) := by decide +kernel
theorem dX8_compare_80 : decode cX8_compare 80 = .ok (.if_icmp .eq 6, 3) := by decide +kernel
theorem dX8_compare_83 : decode cX8_compare 83 = .ok (.iload 4, 2) := by decide +kernel
theorem dX8_compare_85 : decode cX8_compare 85 = .ok (.ireturn, 1) := by decide +kernel
theorem dX8_compare_86 : decode cX8_compare 86 = .ok (.iinc 4 1, 3) := by decide +kernel
theorem dX8_compare_89 : decode cX8_compare 89 = .ok (.goto (-44), 3) := by decide +kernel
theorem dX8_compare_92 : decode cX8_compare 92 = .ok (.iconst (-1), 1) := by decide +kernel
theorem dX8_compare_93 : decode cX8_compare 93 = .ok (.ireturn, 1) := by decide +kernel
theorem dX8_usedSlots_0 : decode cX8_usedSlots 0 = .ok (.iconst 0, 1) := by decide +kernel
theorem dX8_usedSlots_1 : decode cX8_usedSlots 1 = .ok (.istore_n 1, 1) := by decide +kernel
theorem dX8_usedSlots_2 : decode cX8_usedSlots 2 = .ok (.iconst 0, 1) := by decide +kernel
theorem dX8_usedSlots_3 : decode cX8_usedSlots 3 = .ok (.istore_n 2, 1) := by decide +kernel
theorem dX8_usedSlots_4 : decode cX8_usedSlots 4 = .ok (.iload_n 2, 1) := by decide +kernel
theorem dX8_usedSlots_5 : decode cX8_usedSlots 5 = .ok (.bipush 8, 2) := by decide +kernel
theorem dX8_usedSlots_7 : decode cX8_usedSlots 7 = .ok (.if_icmp .ge 26, 3) := by decide +kernel
theorem dX8_usedSlots_10 : decode cX8_usedSlots 10 = .ok (.iload_n 1, 1) := by decide +kernel
theorem dX8_usedSlots_11 : decode cX8_usedSlots 11 = .ok (.aload_n 0, 1) := by decide +kernel
theorem dX8_usedSlots_12 : decode cX8_usedSlots 12 = .ok (.getfield 20, 3) := by decide +kernel
theorem dX8_usedSlots_15 : decode cX8_usedSlots 15 = .ok (.iload_n 2, 1) := by decide +kernel
theorem dX8_usedSlots_16 : decode cX8_usedSlots 16 = .ok (.baload, 1) := by decide +kernel
theorem dX8_usedSlots_17 : decode cX8_usedSlots 17 = .ok (.ifCond .eq 7, 3) := by decide +kernel
theorem dX8_usedSlots_20 : decode cX8_usedSlots 20 = .ok (.iconst 1, 1) := by decide +kernel
theorem dX8_usedSlots_21 : decode cX8_usedSlots 21 = .ok (.goto 4, 3) := by decide +kernel
theorem dX8_usedSlots_24 : decode cX8_usedSlots 24 = .ok (.iconst 0, 1) := by decide +kernel
theorem dX8_usedSlots_25 : decode cX8_usedSlots 25 = .ok (.iadd, 1) := by decide +kernel
theorem dX8_usedSlots_26 : decode cX8_usedSlots 26 = .ok (.istore_n 1, 1) := by decide +kernel
theorem dX8_usedSlots_27 : decode cX8_usedSlots 27 = .ok (.iinc 2 1, 3) := by decide +kernel
theorem dX8_usedSlots_30 : decode cX8_usedSlots 30 = .ok (.goto (-26), 3) := by decide +kernel
theorem dX8_usedSlots_33 : decode cX8_usedSlots 33 = .ok (.iload_n 1, 1) := by decide +kernel
theorem dX8_usedSlots_34 : decode cX8_usedSlots 34 = .ok (.ireturn, 1) := by decide +kernel
theorem dX8_undoable_0 : decode cX8_undoable 0 = .ok (.aload_n 0, 1) := by decide +kernel
theorem dX8_undoable_1 : decode cX8_undoable 1 = .ok (.getfield 95, 3) := by decide +kernel
theorem dX8_undoable_4 : decode cX8_undoable 4 = .ok (.ireturn, 1) := by decide +kernel
