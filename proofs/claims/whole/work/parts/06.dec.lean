theorem dX12_init_0 : decode cX12_init 0 = .ok (.aload_n 0, 1) := by decide +kernel
theorem dX12_init_1 : decode cX12_init 1 = .ok (.invokespecial 1, 3) := by decide +kernel
theorem dX12_init_4 : decode cX12_init 4 = .ok (.aload_n 0, 1) := by decide +kernel
theorem dX12_init_5 : decode cX12_init 5 = .ok (.bipush 10, 2) := by decide +kernel
theorem dX12_init_7 : decode cX12_init 7 = .ok (.newarray .char, 2) := by decide +kernel
theorem dX12_init_9 : decode cX12_init 9 = .ok (.putfield 7, 3) := by decide +kernel
theorem dX12_init_12 : decode cX12_init 12 = .ok (.aload_n 0, 1) := by decide +kernel
theorem dX12_init_13 : decode cX12_init 13 = .ok (.bipush 10, 2) := by decide +kernel
theorem dX12_init_15 : decode cX12_init 15 = .ok (.newarray .int, 2) := by decide +kernel
theorem dX12_init_17 : decode cX12_init 17 = .ok (.putfield 13, 3) := by decide +kernel
theorem dX12_init_20 : decode cX12_init 20 = .ok (.aload_n 0, 1) := by decide +kernel
theorem dX12_init_21 : decode cX12_init 21 = .ok (.bipush 10, 2) := by decide +kernel
theorem dX12_init_23 : decode cX12_init 23 = .ok (.newarray .int, 2) := by decide +kernel
theorem dX12_init_25 : decode cX12_init 25 = .ok (.putfield 17, 3) := by decide +kernel
theorem dX12_init_28 : decode cX12_init 28 = .ok (.aload_n 0, 1) := by decide +kernel
theorem dX12_init_29 : decode cX12_init 29 = .ok (.bipush 10, 2) := by decide +kernel
theorem dX12_init_31 : decode cX12_init 31 = .ok (.newarray .int, 2) := by decide +kernel
theorem dX12_init_33 : decode cX12_init 33 = .ok (.putfield 20, 3) := by decide +kernel
theorem dX12_init_36 : decode cX12_init 36 = .ok (.aload_n 0, 1) := by decide +kernel
theorem dX12_init_37 : decode cX12_init 37 = .ok (.bipush 12, 2) := by decide +kernel
theorem dX12_init_39 : decode cX12_init 39 = .ok (.newarray .boolean, 2) := by decide +kernel
theorem dX12_init_41 : decode cX12_init 41 = .ok (.putfield 23, 3) := by decide +kernel
theorem dX12_init_44 : decode cX12_init 44 = .ok (.aload_n 0, 1) := by decide +kernel
theorem dX12_init_45 : decode cX12_init 45 = .ok (.bipush 12, 2) := by decide +kernel
theorem dX12_init_47 : decode cX12_init 47 = .ok (.newarray .int, 2) := by decide +kernel
theorem dX12_init_49 : decode cX12_init 49 = .ok (.putfield 27, 3) := by decide +kernel
theorem dX12_init_52 : decode cX12_init 52 = .ok (.aload_n 0, 1) := by decide +kernel
theorem dX12_init_53 : decode cX12_init 53 = .ok (.bipush 12, 2) := by decide +kernel
theorem dX12_init_55 : decode cX12_init 55 = .ok (.newarray .int, 2) := by decide +kernel
theorem dX12_init_57 : decode cX12_init 57 = .ok (.putfield 30, 3) := by decide +kernel
theorem dX12_init_60 : decode cX12_init 60 = .ok (.aload_n 0, 1) := by decide +kernel
theorem dX12_init_61 : decode cX12_init 61 = .ok (.bipush 12, 2) := by decide +kernel
theorem dX12_init_63 : decode cX12_init 63 = .ok (.newarray .int, 2) := by decide +kernel
theorem dX12_init_65 : decode cX12_init 65 = .ok (.putfield 33, 3) := by decide +kernel
theorem dX12_init_68 : decode cX12_init 68 = .ok (.aload_n 0, 1) := by decide +kernel
theorem dX12_init_69 : decode cX12_init 69 = .ok (.bipush 12, 2) := by decide +kernel
theorem dX12_init_71 : decode cX12_init 71 = .ok (.newarray .int, 2) := by decide +kernel
theorem dX12_init_73 : decode cX12_init 73 = .ok (.putfield 36, 3) := by decide +kernel
theorem dX12_init_76 : decode cX12_init 76 = .ok (.aload_n 0, 1) := by decide +kernel
theorem dX12_init_77 : decode cX12_init 77 = .ok (.sipush 300, 3) := by decide +kernel
theorem dX12_init_80 : decode cX12_init 80 = .ok (.newarray .char, 2) := by decide +kernel
theorem dX12_init_82 : decode cX12_init 82 = .ok (.putfield 39, 3) := by decide +kernel
theorem dX12_init_85 : decode cX12_init 85 = .ok (.aload_n 0, 1) := by decide +kernel
theorem dX12_init_86 : decode cX12_init 86 = .ok (.sipush 160, 3) := by decide +kernel
theorem dX12_init_89 : decode cX12_init 89 = .ok (.newarray .int, 2) := by decide +kernel
theorem dX12_init_91 : decode cX12_init 91 = .ok (.putfield 42, 3) := by decide +kernel
theorem dX12_init_94 : decode cX12_init 94 = .ok (.aload_n 0, 1) := by decide +kernel
theorem dX12_init_95 : decode cX12_init 95 = .ok (.sipush 160, 3) := by decide +kernel
theorem dX12_init_98 : decode cX12_init 98 = .ok (.newarray .int, 2) := by decide +kernel
theorem dX12_init_100 : decode cX12_init 100 = .ok (.putfield 45, 3) := by decide +kernel
theorem dX12_init_103 : decode cX12_init 103 = .ok (.aload_n 0, 1) := by decide +kernel
theorem dX12_init_104 : decode cX12_init 104 = .ok (.bipush 20, 2) := by decide +kernel
theorem dX12_init_106 : decode cX12_init 106 = .ok (.newarray .int, 2) := by decide +kernel
theorem dX12_init_108 : decode cX12_init 108 = .ok (.putfield 48, 3) := by decide +kernel
theorem dX12_init_111 : decode cX12_init 111 = .ok (.aload_n 0, 1) := by decide +kernel
theorem dX12_init_112 : decode cX12_init 112 = .ok (.bipush 20, 2) := by decide +kernel
theorem dX12_init_114 : decode cX12_init 114 = .ok (.newarray .char, 2) := by decide +kernel
theorem dX12_init_116 : decode cX12_init 116 = .ok (.putfield 51, 3) := by decide +kernel
theorem dX12_init_119 : decode cX12_init 119 = .ok (.aload_n 0, 1) := by decide +kernel
theorem dX12_init_120 : decode cX12_init 120 = .ok (.bipush 20, 2) := by decide +kernel
theorem dX12_init_122 : decode cX12_init 122 = .ok (.newarray .int, 2) := by decide +kernel
theorem dX12_init_124 : decode cX12_init 124 = .ok (.putfield 54, 3) := by decide +kernel
theorem dX12_init_127 : decode cX12_init 127 = .ok (.aload_n 0, 1) := by decide +kernel
theorem dX12_init_128 : decode cX12_init 128 = .ok (.bipush 100, 2) := by decide +kernel
theorem dX12_init_130 : decode cX12_init 130 = .ok (.newarray .int, 2) := by decide +kernel
theorem dX12_init_132 : decode cX12_init 132 = .ok (.putfield 57, 3) := by decide +kernel
theorem dX12_init_135 : decode cX12_init 135 = .ok (.aload_n 0, 1) := by decide +kernel
theorem dX12_init_136 : decode cX12_init 136 = .ok (.sipush 800, 3) := by decide +kernel
theorem dX12_init_139 : decode cX12_init 139 = .ok (.newarray .char, 2) := by decide +kernel
theorem dX12_init_141 : decode cX12_init 141 = .ok (.putfield 60, 3) := by decide +kernel
theorem dX12_init_144 : decode cX12_init 144 = .ok (.aload_n 0, 1) := by decide +kernel
theorem dX12_init_145 : decode cX12_init 145 = .ok (.bipush 20, 2) := by decide +kernel
theorem dX12_init_147 : decode cX12_init 147 = .ok (.newarray .char, 2) := by decide +kernel
theorem dX12_init_149 : decode cX12_init 149 = .ok (.putfield 63, 3) := by decide +kernel
theorem dX12_init_152 : decode cX12_init 152 = .ok (.aload_n 0, 1) := by decide +kernel
theorem dX12_init_153 : decode cX12_init 153 = .ok (.bipush 20, 2) := by decide +kernel
theorem dX12_init_155 : decode cX12_init 155 = .ok (.newarray .int, 2) := by decide +kernel
theorem dX12_init_157 : decode cX12_init 157 = .ok (.putfield 66, 3) := by decide +kernel
theorem dX12_init_160 : decode cX12_init 160 = .ok (.aload_n 0, 1) := by decide +kernel
theorem dX12_init_161 : decode cX12_init 161 = .ok (.bipush 100, 2) := by decide +kernel
theorem dX12_init_163 : decode cX12_init 163 = .ok (.newarray .int, 2) := by decide +kernel
theorem dX12_init_165 : decode cX12_init 165 = .ok (.putfield 69, 3) := by decide +kernel
theorem dX12_init_168 : decode cX12_init 168 = .ok (.aload_n 0, 1) := by decide +kernel
theorem dX12_init_169 : decode cX12_init 169 = .ok (.sipush 800, 3) := by decide +kernel
theorem dX12_init_172 : decode cX12_init 172 = .ok (.newarray .char, 2) := by decide +kernel
theorem dX12_init_174 : decode cX12_init 174 = .ok (.putfield 72, 3) := by decide +kernel
theorem dX12_init_177 : decode cX12_init 177 = .ok (.aload_n 0, 1) := by decide +kernel
theorem dX12_init_178 : decode cX12_init 178 = .ok (.bipush 20, 2) := by decide +kernel
theorem dX12_init_180 : decode cX12_init 180 = .ok (.newarray .int, 2) := by decide +kernel
theorem dX12_init_182 : decode cX12_init 182 = .ok (.putfield 75, 3) := by decide +kernel
theorem dX12_init_185 : decode cX12_init 185 = .ok (.aload_n 0, 1) := by decide +kernel
theorem dX12_init_186 : decode cX12_init 186 = .ok (.bipush 20, 2) := by decide +kernel
theorem dX12_init_188 : decode cX12_init 188 = .ok (.newarray .int, 2) := by decide +kernel
theorem dX12_init_190 : decode cX12_init 190 = .ok (.putfield 78, 3) := by decide +kernel
theorem dX12_init_193 : decode cX12_init 193 = .ok (.aload_n 0, 1) := by decide +kernel
theorem dX12_init_194 : decode cX12_init 194 = .ok (.sipush 19019, 3) := by decide +kernel
theorem dX12_init_197 : decode cX12_init 197 = .ok (.newarray .boolean, 2) := by decide +kernel
theorem dX12_init_199 : decode cX12_init 199 = .ok (.putfield 81, 3) := by decide +kernel
theorem dX12_init_202 : decode cX12_init 202 = .ok (.aload_n 0, 1) := by decide +kernel
theorem dX12_init_203 : decode cX12_init 203 = .ok (.bipush 64, 2) := by decide +kernel
theorem dX12_init_205 : decode cX12_init 205 = .ok (.newarray .int, 2) := by decide +kernel
theorem dX12_init_207 : decode cX12_init 207 = .ok (.putfield 84, 3) := by decide +kernel
theorem dX12_init_210 : decode cX12_init 210 = .ok (.aload_n 0, 1) := by decide +kernel
theorem dX12_init_211 : decode cX12_init 211 = .ok (.bipush 10, 2) := by decide +kernel
theorem dX12_init_213 : decode cX12_init 213 = .ok (.newarray .int, 2) := by decide +kernel
theorem dX12_init_215 : decode cX12_init 215 = .ok (.putfield 87, 3) := by decide +kernel
theorem dX12_init_218 : decode cX12_init 218 = .ok (.aload_n 0, 1) := by decide +kernel
theorem dX12_init_219 : decode cX12_init 219 = .ok (.bipush 10, 2) := by decide +kernel
theorem dX12_init_221 : decode cX12_init 221 = .ok (.newarray .char, 2) := by decide +kernel
theorem dX12_init_223 : decode cX12_init 223 = .ok (.putfield 90, 3) := by decide +kernel
theorem dX12_init_226 : decode cX12_init 226 = .ok (.aload_n 0, 1) := by decide +kernel
theorem dX12_init_227 : decode cX12_init 227 = .ok (.bipush 10, 2) := by decide +kernel
theorem dX12_init_229 : decode cX12_init 229 = .ok (.newarray .int, 2) := by decide +kernel
theorem dX12_init_231 : decode cX12_init 231 = .ok (.putfield 93, 3) := by decide +kernel
theorem dX12_init_234 : decode cX12_init 234 = .ok (.aload_n 0, 1) := by decide +kernel
theorem dX12_init_235 : decode cX12_init 235 = .ok (.bipush 50, 2) := by decide +kernel
theorem dX12_init_237 : decode cX12_init 237 = .ok (.newarray .int, 2) := by decide +kernel
theorem dX12_init_239 : decode cX12_init 239 = .ok (.putfield 96, 3) := by decide +kernel
theorem dX12_init_242 : decode cX12_init 242 = .ok (.aload_n 0, 1) := by decide +kernel
theorem dX12_init_243 : decode cX12_init 243 = .ok (.bipush 10, 2) := by decide +kernel
theorem dX12_init_245 : decode cX12_init 245 = .ok (.newarray .int, 2) := by decide +kernel
theorem dX12_init_247 : decode cX12_init 247 = .ok (.putfield 99, 3) := by decide +kernel
theorem dX12_init_250 : decode cX12_init 250 = .ok (.aload_n 0, 1) := by decide +kernel
theorem dX12_init_251 : decode cX12_init 251 = .ok (.bipush 10, 2) := by decide +kernel
theorem dX12_init_253 : decode cX12_init 253 = .ok (.newarray .char, 2) := by decide +kernel
theorem dX12_init_255 : decode cX12_init 255 = .ok (.putfield 102, 3) := by decide +kernel
theorem dX12_init_258 : decode cX12_init 258 = .ok (.aload_n 0, 1) := by decide +kernel
theorem dX12_init_259 : decode cX12_init 259 = .ok (.sipush 300, 3) := by decide +kernel
theorem dX12_init_262 : decode cX12_init 262 = .ok (.newarray .char, 2) := by decide +kernel
theorem dX12_init_264 : decode cX12_init 264 = .ok (.putfield 105, 3) := by decide +kernel
theorem dX12_init_267 : decode cX12_init 267 = .ok (.aload_n 0, 1) := by decide +kernel
theorem dX12_init_268 : decode cX12_init 268 = .ok (.sipush 300, 3) := by decide +kernel
theorem dX12_init_271 : decode cX12_init 271 = .ok (.newarray .char, 2) := by decide +kernel
theorem dX12_init_273 : decode cX12_init 273 = .ok (.putfield 108, 3) := by decide +kernel
theorem dX12_init_276 : decode cX12_init 276 = .ok (.return_, 1) := by decide +kernel
theorem dX12_thrown_0 : decode cX12_thrown 0 = .ok (.aload_n 0, 1) := by decide +kernel
theorem dX12_thrown_1 : decode cX12_thrown 1 = .ok (.getfield 111, 3) := by decide +kernel
theorem dX12_thrown_4 : decode cX12_thrown 4 = .ok (.ireturn, 1) := by decide +kernel
theorem dX12_in_0 : decode cX12_in 0 = .ok (.iload_n 0, 1) := by decide +kernel
theorem dX12_in_1 : decode cX12_in 1 = .ok (.iload_n 1, 1) := by decide +kernel
theorem dX12_in_2 : decode cX12_in 2 = .ok (.if_icmp .lt 12, 3) := by decide +kernel
theorem dX12_in_5 : decode cX12_in 5 = .ok (.iload_n 0, 1) := by decide +kernel
theorem dX12_in_6 : decode cX12_in 6 = .ok (.iload_n 2, 1) := by decide +kernel
theorem dX12_in_7 : decode cX12_in 7 = .ok (.if_icmp .gt 7, 3) := by decide +kernel
theorem dX12_in_10 : decode cX12_in 10 = .ok (.iconst 1, 1) := by decide +kernel
theorem dX12_in_11 : decode cX12_in 11 = .ok (.goto 4, 3) := by decide +kernel
theorem dX12_in_14 : decode cX12_in 14 = .ok (.iconst 0, 1) := by decide +kernel
theorem dX12_in_15 : decode cX12_in 15 = .ok (.ireturn, 1) := by decide +kernel
theorem dX12_isFine_0 : decode cX12_isFine 0 = .ok (.aload_n 0, 1) := by decide +kernel
theorem dX12_isFine_1 : decode cX12_isFine 1 = .ok (.iload_n 1, 1) := by decide +kernel
theorem dX12_isFine_2 : decode cX12_isFine 2 = .ok (.putfield 111, 3) := by decide +kernel
theorem dX12_isFine_5 : decode cX12_isFine 5 = .ok (.iload_n 1, 1) := by decide +kernel
theorem dX12_isFine_6 : decode cX12_isFine 6 = .ok (.ifCond .ne 7, 3) := by decide +kernel
theorem dX12_isFine_9 : decode cX12_isFine 9 = .ok (.iconst 1, 1) := by decide +kernel
theorem dX12_isFine_10 : decode cX12_isFine 10 = .ok (.goto 4, 3) := by decide +kernel
theorem dX12_isFine_13 : decode cX12_isFine 13 = .ok (.iconst 0, 1) := by decide +kernel
theorem dX12_isFine_14 : decode cX12_isFine 14 = .ok (.ireturn, 1) := by decide +kernel
theorem dX12_isTag_0 : decode cX12_isTag 0 = .ok (.iload_n 0, 1) := by decide +kernel
theorem dX12_isTag_1 : decode cX12_isTag 1 = .ok (.bipush 65, 2) := by decide +kernel
theorem dX12_isTag_3 : decode cX12_isTag 3 = .ok (.bipush 90, 2) := by decide +kernel
theorem dX12_isTag_5 : decode cX12_isTag 5 = .ok (.invokestatic 115, 3) := by decide +kernel
theorem dX12_isTag_8 : decode cX12_isTag 8 = .ok (.ifCond .eq 19, 3) := by decide +kernel
theorem dX12_isTag_11 : decode cX12_isTag 11 = .ok (.iload_n 0, 1) := by decide +kernel
theorem dX12_isTag_12 : decode cX12_isTag 12 = .ok (.bipush 72, 2) := by decide +kernel
theorem dX12_isTag_14 : decode cX12_isTag 14 = .ok (.if_icmp .eq 13, 3) := by decide +kernel
theorem dX12_isTag_17 : decode cX12_isTag 17 = .ok (.iload_n 0, 1) := by decide +kernel
theorem dX12_isTag_18 : decode cX12_isTag 18 = .ok (.bipush 84, 2) := by decide +kernel
theorem dX12_isTag_20 : decode cX12_isTag 20 = .ok (.if_icmp .eq 7, 3) := by decide +kernel
theorem dX12_isTag_23 : decode cX12_isTag 23 = .ok (.iconst 1, 1) := by decide +kernel
theorem dX12_isTag_24 : decode cX12_isTag 24 = .ok (.goto 4, 3) := by decide +kernel
theorem dX12_isTag_27 : decode cX12_isTag 27 = .ok (.iconst 0, 1) := by decide +kernel
theorem dX12_isTag_28 : decode cX12_isTag 28 = .ok (.ireturn, 1) := by decide +kernel
theorem dX12_addItem_0 : decode cX12_addItem 0 = .ok (.iload_n 1, 1) := by decide +kernel
theorem dX12_addItem_1 : decode cX12_addItem 1 = .ok (.invokestatic 119, 3) := by decide +kernel
theorem dX12_addItem_4 : decode cX12_addItem 4 = .ok (.ifCond .eq 32, 3) := by decide +kernel
theorem dX12_addItem_7 : decode cX12_addItem 7 = .ok (.iload_n 2, 1) := by decide +kernel
theorem dX12_addItem_8 : decode cX12_addItem 8 = .ok (.iconst 0, 1) := by decide +kernel
theorem dX12_addItem_9 : decode cX12_addItem 9 = .ok (.bipush 9, 2) := by decide +kernel
theorem dX12_addItem_11 : decode cX12_addItem 11 = .ok (.invokestatic 115, 3) := by decide +kernel
theorem dX12_addItem_14 : decode cX12_addItem 14 = .ok (.ifCond .eq 22, 3) := by decide +kernel
theorem dX12_addItem_17 : decode cX12_addItem 17 = .ok (.iload_n 3, 1) := by decide +kernel
theorem dX12_addItem_18 : decode cX12_addItem 18 = .ok (.iconst 1, 1) := by decide +kernel
theorem dX12_addItem_19 : decode cX12_addItem 19 = .ok (.bipush 9, 2) := by decide +kernel
theorem dX12_addItem_21 : decode cX12_addItem 21 = .ok (.invokestatic 115, 3) := by decide +kernel
theorem dX12_addItem_24 : decode cX12_addItem 24 = .ok (.ifCond .eq 12, 3) := by decide +kernel
theorem dX12_addItem_27 : decode cX12_addItem 27 = .ok (.iload_n 3, 1) := by decide +kernel
theorem dX12_addItem_28 : decode cX12_addItem 28 = .ok (.iload_n 2, 1) := by decide +kernel
theorem dX12_addItem_29 : decode cX12_addItem 29 = .ok (.if_icmp .lt 7, 3) := by decide +kernel
theorem dX12_addItem_32 : decode cX12_addItem 32 = .ok (.iconst 1, 1) := by decide +kernel
theorem dX12_addItem_33 : decode cX12_addItem 33 = .ok (.goto 4, 3) := by decide +kernel
theorem dX12_addItem_36 : decode cX12_addItem 36 = .ok (.iconst 0, 1) := by decide +kernel
theorem dX12_addItem_37 : decode cX12_addItem 37 = .ok (.istore 4, 2) := by decide +kernel
theorem dX12_addItem_39 : decode cX12_addItem 39 = .ok (.aload_n 0, 1) := by decide +kernel
theorem dX12_addItem_40 : decode cX12_addItem 40 = .ok (.iload 4, 2) := by decide +kernel
theorem dX12_addItem_42 : decode cX12_addItem 42 = .ok (.ifCond .ne 7, 3) := by decide +kernel
theorem dX12_addItem_45 : decode cX12_addItem 45 = .ok (.iconst 1, 1) := by decide +kernel
theorem dX12_addItem_46 : decode cX12_addItem 46 = .ok (.goto 17, 3) := by decide +kernel
theorem dX12_addItem_49 : decode cX12_addItem 49 = .ok (.aload_n 0, 1) := by decide +kernel
theorem dX12_addItem_50 : decode cX12_addItem 50 = .ok (.getfield 123, 3) := by decide +kernel
theorem dX12_addItem_53 : decode cX12_addItem 53 = .ok (.bipush 10, 2) := by decide +kernel
theorem dX12_addItem_55 : decode cX12_addItem 55 = .ok (.if_icmp .ne 7, 3) := by decide +kernel
theorem dX12_addItem_58 : decode cX12_addItem 58 = .ok (.iconst 2, 1) := by decide +kernel
theorem dX12_addItem_59 : decode cX12_addItem 59 = .ok (.goto 4, 3) := by decide +kernel
theorem dX12_addItem_62 : decode cX12_addItem 62 = .ok (.iconst 0, 1) := by decide +kernel
theorem dX12_addItem_63 : decode cX12_addItem 63 = .ok (.invokevirtual 126, 3) := by decide +kernel
theorem dX12_addItem_66 : decode cX12_addItem 66 = .ok (.ifCond .ne 5, 3) := by decide +kernel
theorem dX12_addItem_69 : decode cX12_addItem 69 = .ok (.iconst 0, 1) := by decide +kernel
theorem dX12_addItem_70 : decode cX12_addItem 70 = .ok (.ireturn, 1) := by decide +kernel
theorem dX12_addItem_71 : decode cX12_addItem 71 = .ok (.aload_n 0, 1) := by decide +kernel
theorem dX12_addItem_72 : decode cX12_addItem 72 = .ok (.getfield 130, 3) := by decide +kernel
theorem dX12_addItem_75 : decode cX12_addItem 75 = .ok (.ifCond .ne 46, 3) := by decide +kernel
theorem dX12_addItem_78 : decode cX12_addItem 78 = .ok (.aload_n 0, 1) := by decide +kernel
theorem dX12_addItem_79 : decode cX12_addItem 79 = .ok (.getfield 23, 3) := by decide +kernel
theorem dX12_addItem_82 : decode cX12_addItem 82 = .ok (.aload_n 0, 1) := by decide +kernel
theorem dX12_addItem_83 : decode cX12_addItem 83 = .ok (.getfield 134, 3) := by decide +kernel
theorem dX12_addItem_86 : decode cX12_addItem 86 = .ok (.iconst 0, 1) := by decide +kernel
theorem dX12_addItem_87 : decode cX12_addItem 87 = .ok (.bastore, 1) := by decide +kernel
theorem dX12_addItem_88 : decode cX12_addItem 88 = .ok (.aload_n 0, 1) := by decide +kernel
theorem dX12_addItem_89 : decode cX12_addItem 89 = .ok (.getfield 27, 3) := by decide +kernel
theorem dX12_addItem_92 : decode cX12_addItem 92 = .ok (.aload_n 0, 1) := by decide +kernel
theorem dX12_addItem_93 : decode cX12_addItem 93 = .ok (.getfield 134, 3) := by decide +kernel
theorem dX12_addItem_96 : decode cX12_addItem 96 = .ok (.aload_n 0, 1) := by decide +kernel
theorem dX12_addItem_97 : decode cX12_addItem 97 = .ok (.getfield 123, 3) := by decide +kernel
theorem dX12_addItem_100 : decode cX12_addItem 100 = .ok (.iastore, 1) := by decide +kernel
theorem dX12_addItem_101 : decode cX12_addItem 101 = .ok (.aload_n 0, 1) := by decide +kernel
theorem dX12_addItem_102 : decode cX12_addItem 102 = .ok (.getfield 33, 3) := by decide +kernel
theorem dX12_addItem_105 : decode cX12_addItem 105 = .ok (.aload_n 0, 1) := by decide +kernel
theorem dX12_addItem_106 : decode cX12_addItem 106 = .ok (.getfield 134, 3) := by decide +kernel
theorem dX12_addItem_109 : decode cX12_addItem 109 = .ok (.iload_n 2, 1) := by decide +kernel
theorem dX12_addItem_110 : decode cX12_addItem 110 = .ok (.iastore, 1) := by decide +kernel
theorem dX12_addItem_111 : decode cX12_addItem 111 = .ok (.aload_n 0, 1) := by decide +kernel
theorem dX12_addItem_112 : decode cX12_addItem 112 = .ok (.dup, 1) := by decide +kernel
theorem dX12_addItem_113 : decode cX12_addItem 113 = .ok (.getfield 134, 3) := by decide +kernel
theorem dX12_addItem_116 : decode cX12_addItem 116 = .ok (.iconst 1, 1) := by decide +kernel
theorem dX12_addItem_117 : decode cX12_addItem 117 = .ok (.iadd, 1) := by decide +kernel
theorem dX12_addItem_118 : decode cX12_addItem 118 = .ok (.putfield 134, 3) := by decide +kernel
theorem dX12_addItem_121 : decode cX12_addItem 121 = .ok (.aload_n 0, 1) := by decide +kernel
theorem dX12_addItem_122 : decode cX12_addItem 122 = .ok (.getfield 7, 3) := by decide +kernel
theorem dX12_addItem_125 : decode cX12_addItem 125 = .ok (.aload_n 0, 1) := by decide +kernel
theorem dX12_addItem_126 : decode cX12_addItem 126 = .ok (.getfield 123, 3) := by decide +kernel
theorem dX12_addItem_129 : decode cX12_addItem 129 = .ok (.iload_n 1, 1) := by decide +kernel
theorem dX12_addItem_130 : decode cX12_addItem 130 = .ok (.castore, 1) := by decide +kernel
theorem dX12_addItem_131 : decode cX12_addItem 131 = .ok (.aload_n 0, 1) := by decide +kernel
theorem dX12_addItem_132 : decode cX12_addItem 132 = .ok (.getfield 13, 3) := by decide +kernel
theorem dX12_addItem_135 : decode cX12_addItem 135 = .ok (.aload_n 0, 1) := by decide +kernel
theorem dX12_addItem_136 : decode cX12_addItem 136 = .ok (.getfield 123, 3) := by decide +kernel
theorem dX12_addItem_139 : decode cX12_addItem 139 = .ok (.iload_n 2, 1) := by decide +kernel
theorem dX12_addItem_140 : decode cX12_addItem 140 = .ok (.iastore, 1) := by decide +kernel
theorem dX12_addItem_141 : decode cX12_addItem 141 = .ok (.aload_n 0, 1) := by decide +kernel
theorem dX12_addItem_142 : decode cX12_addItem 142 = .ok (.getfield 17, 3) := by decide +kernel
theorem dX12_addItem_145 : decode cX12_addItem 145 = .ok (.aload_n 0, 1) := by decide +kernel
theorem dX12_addItem_146 : decode cX12_addItem 146 = .ok (.getfield 123, 3) := by decide +kernel
theorem dX12_addItem_149 : decode cX12_addItem 149 = .ok (.iload_n 3, 1) := by decide +kernel
theorem dX12_addItem_150 : decode cX12_addItem 150 = .ok (.iastore, 1) := by decide +kernel
theorem dX12_addItem_151 : decode cX12_addItem 151 = .ok (.aload_n 0, 1) := by decide +kernel
theorem dX12_addItem_152 : decode cX12_addItem 152 = .ok (.getfield 20, 3) := by decide +kernel
theorem dX12_addItem_155 : decode cX12_addItem 155 = .ok (.aload_n 0, 1) := by decide +kernel
theorem dX12_addItem_156 : decode cX12_addItem 156 = .ok (.getfield 123, 3) := by decide +kernel
theorem dX12_addItem_159 : decode cX12_addItem 159 = .ok (.aload_n 0, 1) := by decide +kernel
theorem dX12_addItem_160 : decode cX12_addItem 160 = .ok (.getfield 134, 3) := by decide +kernel
theorem dX12_addItem_163 : decode cX12_addItem 163 = .ok (.iconst 1, 1) := by decide +kernel
theorem dX12_addItem_164 : decode cX12_addItem 164 = .ok (.isub, 1) := by decide +kernel
theorem dX12_addItem_165 : decode cX12_addItem 165 = .ok (.iastore, 1) := by decide +kernel
theorem dX12_addItem_166 : decode cX12_addItem 166 = .ok (.aload_n 0, 1) := by decide +kernel
theorem dX12_addItem_167 : decode cX12_addItem 167 = .ok (.getfield 30, 3) := by decide +kernel
theorem dX12_addItem_170 : decode cX12_addItem 170 = .ok (.aload_n 0, 1) := by decide +kernel
theorem dX12_addItem_171 : decode cX12_addItem 171 = .ok (.getfield 134, 3) := by decide +kernel
theorem dX12_addItem_174 : decode cX12_addItem 174 = .ok (.iconst 1, 1) := by decide +kernel
theorem dX12_addItem_175 : decode cX12_addItem 175 = .ok (.isub, 1) := by decide +kernel
theorem dX12_addItem_176 : decode cX12_addItem 176 = .ok (.aload_n 0, 1) := by decide +kernel
theorem dX12_addItem_177 : decode cX12_addItem 177 = .ok (.getfield 123, 3) := by decide +kernel
theorem dX12_addItem_180 : decode cX12_addItem 180 = .ok (.iastore, 1) := by decide +kernel
theorem dX12_addItem_181 : decode cX12_addItem 181 = .ok (.aload_n 0, 1) := by decide +kernel
theorem dX12_addItem_182 : decode cX12_addItem 182 = .ok (.dup, 1) := by decide +kernel
theorem dX12_addItem_183 : decode cX12_addItem 183 = .ok (.getfield 123, 3) := by decide +kernel
theorem dX12_addItem_186 : decode cX12_addItem 186 = .ok (.iconst 1, 1) := by decide +kernel
theorem dX12_addItem_187 : decode cX12_addItem 187 = .ok (.iadd, 1) := by decide +kernel
theorem dX12_addItem_188 : decode cX12_addItem 188 = .ok (.putfield 123, 3) := by decide +kernel
theorem dX12_addItem_191 : decode cX12_addItem 191 = .ok (.aload_n 0, 1) := by decide +kernel
theorem dX12_addItem_192 : decode cX12_addItem 192 = .ok (.getfield 123, 3) := by decide +kernel
theorem dX12_addItem_195 : decode cX12_addItem 195 = .ok (.iconst 1, 1) := by decide +kernel
theorem dX12_addItem_196 : decode cX12_addItem 196 = .ok (.isub, 1) := by decide +kernel
theorem dX12_addItem_197 : decode cX12_addItem 197 = .ok (.ireturn, 1) := by decide +kernel
theorem dX12_openLoop_0 : decode cX12_openLoop 0 = .ok (.iload_n 1, 1) := by decide +kernel
theorem dX12_openLoop_1 : decode cX12_openLoop 1 = .ok (.iconst 0, 1) := by decide +kernel
theorem dX12_openLoop_2 : decode cX12_openLoop 2 = .ok (.bipush 9, 2) := by decide +kernel
theorem dX12_openLoop_4 : decode cX12_openLoop 4 = .ok (.invokestatic 115, 3) := by decide +kernel
theorem dX12_openLoop_7 : decode cX12_openLoop 7 = .ok (.ifCond .eq 22, 3) := by decide +kernel
theorem dX12_openLoop_10 : decode cX12_openLoop 10 = .ok (.iload_n 2, 1) := by decide +kernel
theorem dX12_openLoop_11 : decode cX12_openLoop 11 = .ok (.iconst 1, 1) := by decide +kernel
theorem dX12_openLoop_12 : decode cX12_openLoop 12 = .ok (.bipush 9, 2) := by decide +kernel
theorem dX12_openLoop_14 : decode cX12_openLoop 14 = .ok (.invokestatic 115, 3) := by decide +kernel
theorem dX12_openLoop_17 : decode cX12_openLoop 17 = .ok (.ifCond .eq 12, 3) := by decide +kernel
theorem dX12_openLoop_20 : decode cX12_openLoop 20 = .ok (.iload_n 2, 1) := by decide +kernel
theorem dX12_openLoop_21 : decode cX12_openLoop 21 = .ok (.iload_n 1, 1) := by decide +kernel
theorem dX12_openLoop_22 : decode cX12_openLoop 22 = .ok (.if_icmp .lt 7, 3) := by decide +kernel
theorem dX12_openLoop_25 : decode cX12_openLoop 25 = .ok (.iconst 1, 1) := by decide +kernel
theorem dX12_openLoop_26 : decode cX12_openLoop 26 = .ok (.goto 4, 3) := by decide +kernel
theorem dX12_openLoop_29 : decode cX12_openLoop 29 = .ok (.iconst 0, 1) := by decide +kernel
theorem dX12_openLoop_30 : decode cX12_openLoop 30 = .ok (.istore_n 3, 1) := by decide +kernel
theorem dX12_openLoop_31 : decode cX12_openLoop 31 = .ok (.aload_n 0, 1) := by decide +kernel
theorem dX12_openLoop_32 : decode cX12_openLoop 32 = .ok (.iload_n 3, 1) := by decide +kernel
theorem dX12_openLoop_33 : decode cX12_openLoop 33 = .ok (.ifCond .ne 7, 3) := by decide +kernel
theorem dX12_openLoop_36 : decode cX12_openLoop 36 = .ok (.iconst 1, 1) := by decide +kernel
theorem dX12_openLoop_37 : decode cX12_openLoop 37 = .ok (.goto 15, 3) := by decide +kernel
theorem dX12_openLoop_40 : decode cX12_openLoop 40 = .ok (.aload_n 0, 1) := by decide +kernel
theorem dX12_openLoop_41 : decode cX12_openLoop 41 = .ok (.getfield 130, 3) := by decide +kernel
theorem dX12_openLoop_44 : decode cX12_openLoop 44 = .ok (.ifCond .eq 7, 3) := by decide +kernel
theorem dX12_openLoop_47 : decode cX12_openLoop 47 = .ok (.iconst 2, 1) := by decide +kernel
theorem dX12_openLoop_48 : decode cX12_openLoop 48 = .ok (.goto 4, 3) := by decide +kernel
theorem dX12_openLoop_51 : decode cX12_openLoop 51 = .ok (.iconst 0, 1) := by decide +kernel
theorem dX12_openLoop_52 : decode cX12_openLoop 52 = .ok (.invokevirtual 126, 3) := by decide +kernel
theorem dX12_openLoop_55 : decode cX12_openLoop 55 = .ok (.ifCond .ne 4, 3) := by decide +kernel
theorem dX12_openLoop_58 : decode cX12_openLoop 58 = .ok (.return_, 1) := by decide +kernel
theorem dX12_openLoop_59 : decode cX12_openLoop 59 = .ok (.aload_n 0, 1) := by decide +kernel
theorem dX12_openLoop_60 : decode cX12_openLoop 60 = .ok (.getfield 23, 3) := by decide +kernel
theorem dX12_openLoop_63 : decode cX12_openLoop 63 = .ok (.aload_n 0, 1) := by decide +kernel
theorem dX12_openLoop_64 : decode cX12_openLoop 64 = .ok (.getfield 134, 3) := by decide +kernel
theorem dX12_openLoop_67 : decode cX12_openLoop 67 = .ok (.iconst 1, 1) := by decide +kernel
theorem dX12_openLoop_68 : decode cX12_openLoop 68 = .ok (.bastore, 1) := by decide +kernel
theorem dX12_openLoop_69 : decode cX12_openLoop 69 = .ok (.aload_n 0, 1) := by decide +kernel
theorem dX12_openLoop_70 : decode cX12_openLoop 70 = .ok (.getfield 27, 3) := by decide +kernel
theorem dX12_openLoop_73 : decode cX12_openLoop 73 = .ok (.aload_n 0, 1) := by decide +kernel
theorem dX12_openLoop_74 : decode cX12_openLoop 74 = .ok (.getfield 134, 3) := by decide +kernel
theorem dX12_openLoop_77 : decode cX12_openLoop 77 = .ok (.aload_n 0, 1) := by decide +kernel
theorem dX12_openLoop_78 : decode cX12_openLoop 78 = .ok (.getfield 123, 3) := by decide +kernel
theorem dX12_openLoop_81 : decode cX12_openLoop 81 = .ok (.iastore, 1) := by decide +kernel
theorem dX12_openLoop_82 : decode cX12_openLoop 82 = .ok (.aload_n 0, 1) := by decide +kernel
theorem dX12_openLoop_83 : decode cX12_openLoop 83 = .ok (.getfield 30, 3) := by decide +kernel
theorem dX12_openLoop_86 : decode cX12_openLoop 86 = .ok (.aload_n 0, 1) := by decide +kernel
theorem dX12_openLoop_87 : decode cX12_openLoop 87 = .ok (.getfield 134, 3) := by decide +kernel
theorem dX12_openLoop_90 : decode cX12_openLoop 90 = .ok (.aload_n 0, 1) := by decide +kernel
theorem dX12_openLoop_91 : decode cX12_openLoop 91 = .ok (.getfield 123, 3) := by decide +kernel
theorem dX12_openLoop_94 : decode cX12_openLoop 94 = .ok (.iconst 1, 1) := by decide +kernel
theorem dX12_openLoop_95 : decode cX12_openLoop 95 = .ok (.isub, 1) := by decide +kernel
theorem dX12_openLoop_96 : decode cX12_openLoop 96 = .ok (.iastore, 1) := by decide +kernel
theorem dX12_openLoop_97 : decode cX12_openLoop 97 = .ok (.aload_n 0, 1) := by decide +kernel
theorem dX12_openLoop_98 : decode cX12_openLoop 98 = .ok (.getfield 33, 3) := by decide +kernel
theorem dX12_openLoop_101 : decode cX12_openLoop 101 = .ok (.aload_n 0, 1) := by decide +kernel
theorem dX12_openLoop_102 : decode cX12_openLoop 102 = .ok (.getfield 134, 3) := by decide +kernel
theorem dX12_openLoop_105 : decode cX12_openLoop 105 = .ok (.iload_n 1, 1) := by decide +kernel
theorem dX12_openLoop_106 : decode cX12_openLoop 106 = .ok (.iastore, 1) := by decide +kernel
theorem dX12_openLoop_107 : decode cX12_openLoop 107 = .ok (.aload_n 0, 1) := by decide +kernel
theorem dX12_openLoop_108 : decode cX12_openLoop 108 = .ok (.getfield 36, 3) := by decide +kernel
theorem dX12_openLoop_111 : decode cX12_openLoop 111 = .ok (.aload_n 0, 1) := by decide +kernel
theorem dX12_openLoop_112 : decode cX12_openLoop 112 = .ok (.getfield 134, 3) := by decide +kernel
theorem dX12_openLoop_115 : decode cX12_openLoop 115 = .ok (.iload_n 2, 1) := by decide +kernel
theorem dX12_openLoop_116 : decode cX12_openLoop 116 = .ok (.iastore, 1) := by decide +kernel
theorem dX12_openLoop_117 : decode cX12_openLoop 117 = .ok (.aload_n 0, 1) := by decide +kernel
theorem dX12_openLoop_118 : decode cX12_openLoop 118 = .ok (.dup, 1) := by decide +kernel
theorem dX12_openLoop_119 : decode cX12_openLoop 119 = .ok (.getfield 134, 3) := by decide +kernel
theorem dX12_openLoop_122 : decode cX12_openLoop 122 = .ok (.iconst 1, 1) := by decide +kernel
theorem dX12_openLoop_123 : decode cX12_openLoop 123 = .ok (.iadd, 1) := by decide +kernel
theorem dX12_openLoop_124 : decode cX12_openLoop 124 = .ok (.putfield 134, 3) := by decide +kernel
theorem dX12_openLoop_127 : decode cX12_openLoop 127 = .ok (.aload_n 0, 1) := by decide +kernel
theorem dX12_openLoop_128 : decode cX12_openLoop 128 = .ok (.iconst 1, 1) := by decide +kernel
theorem dX12_openLoop_129 : decode cX12_openLoop 129 = .ok (.putfield 130, 3) := by decide +kernel
theorem dX12_openLoop_132 : decode cX12_openLoop 132 = .ok (.return_, 1) := by decide +kernel
theorem dX12_closeLoop_0 : decode cX12_closeLoop 0 = .ok (.aload_n 0, 1) := by decide +kernel
theorem dX12_closeLoop_1 : decode cX12_closeLoop 1 = .ok (.getfield 134, 3) := by decide +kernel
theorem dX12_closeLoop_4 : decode cX12_closeLoop 4 = .ok (.ifCond .ne 7, 3) := by decide +kernel
theorem dX12_closeLoop_7 : decode cX12_closeLoop 7 = .ok (.iconst 0, 1) := by decide +kernel
theorem dX12_closeLoop_8 : decode cX12_closeLoop 8 = .ok (.goto 28, 3) := by decide +kernel
theorem dX12_closeLoop_11 : decode cX12_closeLoop 11 = .ok (.aload_n 0, 1) := by decide +kernel
theorem dX12_closeLoop_12 : decode cX12_closeLoop 12 = .ok (.getfield 30, 3) := by decide +kernel
theorem dX12_closeLoop_15 : decode cX12_closeLoop 15 = .ok (.aload_n 0, 1) := by decide +kernel
theorem dX12_closeLoop_16 : decode cX12_closeLoop 16 = .ok (.getfield 134, 3) := by decide +kernel
theorem dX12_closeLoop_19 : decode cX12_closeLoop 19 = .ok (.iconst 1, 1) := by decide +kernel
theorem dX12_closeLoop_20 : decode cX12_closeLoop 20 = .ok (.isub, 1) := by decide +kernel
theorem dX12_closeLoop_21 : decode cX12_closeLoop 21 = .ok (.iaload, 1) := by decide +kernel
theorem dX12_closeLoop_22 : decode cX12_closeLoop 22 = .ok (.aload_n 0, 1) := by decide +kernel
theorem dX12_closeLoop_23 : decode cX12_closeLoop 23 = .ok (.getfield 27, 3) := by decide +kernel
theorem dX12_closeLoop_26 : decode cX12_closeLoop 26 = .ok (.aload_n 0, 1) := by decide +kernel
theorem dX12_closeLoop_27 : decode cX12_closeLoop 27 = .ok (.getfield 134, 3) := by decide +kernel
theorem dX12_closeLoop_30 : decode cX12_closeLoop 30 = .ok (.iconst 1, 1) := by decide +kernel
theorem dX12_closeLoop_31 : decode cX12_closeLoop 31 = .ok (.isub, 1) := by decide +kernel
theorem dX12_closeLoop_32 : decode cX12_closeLoop 32 = .ok (.iaload, 1) := by decide +kernel
theorem dX12_closeLoop_33 : decode cX12_closeLoop 33 = .ok (.isub, 1) := by decide +kernel
theorem dX12_closeLoop_34 : decode cX12_closeLoop 34 = .ok (.iconst 1, 1) := by decide +kernel
theorem dX12_closeLoop_35 : decode cX12_closeLoop 35 = .ok (.iadd, 1) := by decide +kernel
theorem dX12_closeLoop_36 : decode cX12_closeLoop 36 = .ok (.istore_n 1, 1) := by decide +kernel
theorem dX12_closeLoop_37 : decode cX12_closeLoop 37 = .ok (.aload_n 0, 1) := by decide +kernel
theorem dX12_closeLoop_38 : decode cX12_closeLoop 38 = .ok (.aload_n 0, 1) := by decide +kernel
theorem dX12_closeLoop_39 : decode cX12_closeLoop 39 = .ok (.getfield 130, 3) := by decide +kernel
theorem dX12_closeLoop_42 : decode cX12_closeLoop 42 = .ok (.ifCond .eq 7, 3) := by decide +kernel
theorem dX12_closeLoop_45 : decode cX12_closeLoop 45 = .ok (.iload_n 1, 1) := by decide +kernel
theorem dX12_closeLoop_46 : decode cX12_closeLoop 46 = .ok (.ifCond .ne 7, 3) := by decide +kernel
theorem dX12_closeLoop_49 : decode cX12_closeLoop 49 = .ok (.iconst 1, 1) := by decide +kernel
theorem dX12_closeLoop_50 : decode cX12_closeLoop 50 = .ok (.goto 4, 3) := by decide +kernel
theorem dX12_closeLoop_53 : decode cX12_closeLoop 53 = .ok (.iconst 0, 1) := by decide +kernel
theorem dX12_closeLoop_54 : decode cX12_closeLoop 54 = .ok (.invokevirtual 126, 3) := by decide +kernel
theorem dX12_closeLoop_57 : decode cX12_closeLoop 57 = .ok (.ifCond .ne 5, 3) := by decide +kernel
theorem dX12_closeLoop_60 : decode cX12_closeLoop 60 = .ok (.iconst 0, 1) := by decide +kernel
theorem dX12_closeLoop_61 : decode cX12_closeLoop 61 = .ok (.ireturn, 1) := by decide +kernel
theorem dX12_closeLoop_62 : decode cX12_closeLoop 62 = .ok (.aload_n 0, 1) := by decide +kernel
theorem dX12_closeLoop_63 : decode cX12_closeLoop 63 = .ok (.iconst 0, 1) := by decide +kernel
theorem dX12_closeLoop_64 : decode cX12_closeLoop 64 = .ok (.putfield 130, 3) := by decide +kernel
theorem dX12_closeLoop_67 : decode cX12_closeLoop 67 = .ok (.iload_n 1, 1) := by decide +kernel
theorem dX12_closeLoop_68 : decode cX12_closeLoop 68 = .ok (.ireturn, 1) := by decide +kernel
theorem dX12_clear_0 : decode cX12_clear 0 = .ok (.aload_n 0, 1) := by decide +kernel
theorem dX12_clear_1 : decode cX12_clear 1 = .ok (.iconst 0, 1) := by decide +kernel
theorem dX12_clear_2 : decode cX12_clear 2 = .ok (.putfield 111, 3) := by decide +kernel
theorem dX12_clear_5 : decode cX12_clear 5 = .ok (.aload_n 0, 1) := by decide +kernel
theorem dX12_clear_6 : decode cX12_clear 6 = .ok (.iconst 0, 1) := by decide +kernel
theorem dX12_clear_7 : decode cX12_clear 7 = .ok (.putfield 123, 3) := by decide +kernel
theorem dX12_clear_10 : decode cX12_clear 10 = .ok (.aload_n 0, 1) := by decide +kernel
theorem dX12_clear_11 : decode cX12_clear 11 = .ok (.iconst 0, 1) := by decide +kernel
theorem dX12_clear_12 : decode cX12_clear 12 = .ok (.putfield 134, 3) := by decide +kernel
theorem dX12_clear_15 : decode cX12_clear 15 = .ok (.aload_n 0, 1) := by decide +kernel
theorem dX12_clear_16 : decode cX12_clear 16 = .ok (.iconst 0, 1) := by decide +kernel
theorem dX12_clear_17 : decode cX12_clear 17 = .ok (.putfield 130, 3) := by decide +kernel
theorem dX12_clear_20 : decode cX12_clear 20 = .ok (.aload_n 0, 1) := by decide +kernel
theorem dX12_clear_21 : decode cX12_clear 21 = .ok (.iconst 0, 1) := by decide +kernel
theorem dX12_clear_22 : decode cX12_clear 22 = .ok (.putfield 137, 3) := by decide +kernel
theorem dX12_clear_25 : decode cX12_clear 25 = .ok (.aload_n 0, 1) := by decide +kernel
theorem dX12_clear_26 : decode cX12_clear 26 = .ok (.iconst 0, 1) := by decide +kernel
theorem dX12_clear_27 : decode cX12_clear 27 = .ok (.putfield 140, 3) := by decide +kernel
theorem dX12_clear_30 : decode cX12_clear 30 = .ok (.return_, 1) := by decide +kernel
theorem dX12_items_0 : decode cX12_items 0 = .ok (.aload_n 0, 1) := by decide +kernel
theorem dX12_items_1 : decode cX12_items 1 = .ok (.iconst 0, 1) := by decide +kernel
theorem dX12_items_2 : decode cX12_items 2 = .ok (.putfield 111, 3) := by decide +kernel
theorem dX12_items_5 : decode cX12_items 5 = .ok (.aload_n 0, 1) := by decide +kernel
theorem dX12_items_6 : decode cX12_items 6 = .ok (.getfield 123, 3) := by decide +kernel
theorem dX12_items_9 : decode cX12_items 9 = .ok (.ireturn, 1) := by decide +kernel
theorem dX12_feed_0 : decode cX12_feed 0 = .ok (.aload_n 0, 1) := by decide +kernel
theorem dX12_feed_1 : decode cX12_feed 1 = .ok (.iload_n 1, 1) := by decide +kernel
theorem dX12_feed_2 : decode cX12_feed 2 = .ok (.bipush 32, 2) := by decide +kernel
theorem dX12_feed_4 : decode cX12_feed 4 = .ok (.bipush 126, 2) := by decide +kernel
theorem dX12_feed_6 : decode cX12_feed 6 = .ok (.invokestatic 115, 3) := by decide +kernel
theorem dX12_feed_9 : decode cX12_feed 9 = .ok (.ifCond .ne 7, 3) := by decide +kernel
theorem dX12_feed_12 : decode cX12_feed 12 = .ok (.iconst 1, 1) := by decide +kernel
theorem dX12_feed_13 : decode cX12_feed 13 = .ok (.goto 18, 3) := by decide +kernel
theorem dX12_feed_16 : decode cX12_feed 16 = .ok (.aload_n 0, 1) := by decide +kernel
theorem dX12_feed_17 : decode cX12_feed 17 = .ok (.getfield 143, 3) := by decide +kernel
theorem dX12_feed_20 : decode cX12_feed 20 = .ok (.sipush 300, 3) := by decide +kernel
theorem dX12_feed_23 : decode cX12_feed 23 = .ok (.if_icmp .ne 7, 3) := by decide +kernel
theorem dX12_feed_26 : decode cX12_feed 26 = .ok (.iconst 2, 1) := by decide +kernel
theorem dX12_feed_27 : decode cX12_feed 27 = .ok (.goto 4, 3) := by decide +kernel
theorem dX12_feed_30 : decode cX12_feed 30 = .ok (.iconst 0, 1) := by decide +kernel
theorem dX12_feed_31 : decode cX12_feed 31 = .ok (.invokevirtual 126, 3) := by decide +kernel
theorem dX12_feed_34 : decode cX12_feed 34 = .ok (.ifCond .ne 5, 3) := by decide +kernel
theorem dX12_feed_37 : decode cX12_feed 37 = .ok (.iconst 0, 1) := by decide +kernel
theorem dX12_feed_38 : decode cX12_feed 38 = .ok (.ireturn, 1) := by decide +kernel
theorem dX12_feed_39 : decode cX12_feed 39 = .ok (.aload_n 0, 1) := by decide +kernel
theorem dX12_feed_40 : decode cX12_feed 40 = .ok (.getfield 39, 3) := by decide +kernel
theorem dX12_feed_43 : decode cX12_feed 43 = .ok (.aload_n 0, 1) := by decide +kernel
theorem dX12_feed_44 : decode cX12_feed 44 = .ok (.getfield 143, 3) := by decide +kernel
theorem dX12_feed_47 : decode cX12_feed 47 = .ok (.iload_n 1, 1) := by decide +kernel
theorem dX12_feed_48 : decode cX12_feed 48 = .ok (.castore, 1) := by decide +kernel
theorem dX12_feed_49 : decode cX12_feed 49 = .ok (.aload_n 0, 1) := by decide +kernel
theorem dX12_feed_50 : decode cX12_feed 50 = .ok (.dup, 1) := by decide +kernel
theorem dX12_feed_51 : decode cX12_feed 51 = .ok (.getfield 143, 3) := by decide +kernel
theorem dX12_feed_54 : decode cX12_feed 54 = .ok (.iconst 1, 1) := by decide +kernel
theorem dX12_feed_55 : decode cX12_feed 55 = .ok (.iadd, 1) := by decide +kernel
theorem dX12_feed_56 : decode cX12_feed 56 = .ok (.putfield 143, 3) := by decide +kernel
theorem dX12_feed_59 : decode cX12_feed 59 = .ok (.aload_n 0, 1) := by decide +kernel
theorem dX12_feed_60 : decode cX12_feed 60 = .ok (.getfield 143, 3) := by decide +kernel
theorem dX12_feed_63 : decode cX12_feed 63 = .ok (.ireturn, 1) := by decide +kernel
theorem dX12_discard_0 : decode cX12_discard 0 = .ok (.aload_n 0, 1) := by decide +kernel
theorem dX12_discard_1 : decode cX12_discard 1 = .ok (.iconst 0, 1) := by decide +kernel
theorem dX12_discard_2 : decode cX12_discard 2 = .ok (.putfield 111, 3) := by decide +kernel
theorem dX12_discard_5 : decode cX12_discard 5 = .ok (.aload_n 0, 1) := by decide +kernel
theorem dX12_discard_6 : decode cX12_discard 6 = .ok (.getfield 143, 3) := by decide +kernel
theorem dX12_discard_9 : decode cX12_discard 9 = .ok (.istore_n 1, 1) := by decide +kernel
theorem dX12_discard_10 : decode cX12_discard 10 = .ok (.aload_n 0, 1) := by decide +kernel
theorem dX12_discard_11 : decode cX12_discard 11 = .ok (.iconst 0, 1) := by decide +kernel
theorem dX12_discard_12 : decode cX12_discard 12 = .ok (.putfield 143, 3) := by decide +kernel
theorem dX12_discard_15 : decode cX12_discard 15 = .ok (.iload_n 1, 1) := by decide +kernel
theorem dX12_discard_16 : decode cX12_discard 16 = .ok (.ireturn, 1) := by decide +kernel
theorem dX12_length_0 : decode cX12_length 0 = .ok (.aload_n 0, 1) := by decide +kernel
theorem dX12_length_1 : decode cX12_length 1 = .ok (.iconst 0, 1) := by decide +kernel
theorem dX12_length_2 : decode cX12_length 2 = .ok (.putfield 111, 3) := by decide +kernel
theorem dX12_length_5 : decode cX12_length 5 = .ok (.aload_n 0, 1) := by decide +kernel
theorem dX12_length_6 : decode cX12_length 6 = .ok (.getfield 143, 3) := by decide +kernel
theorem dX12_length_9 : decode cX12_length 9 = .ok (.ireturn, 1) := by decide +kernel
theorem dX12_fault_0 : decode cX12_fault 0 = .ok (.aload_n 0, 1) := by decide +kernel
theorem dX12_fault_1 : decode cX12_fault 1 = .ok (.getfield 42, 3) := by decide +kernel
theorem dX12_fault_4 : decode cX12_fault 4 = .ok (.aload_n 0, 1) := by decide +kernel
theorem dX12_fault_5 : decode cX12_fault 5 = .ok (.getfield 146, 3) := by decide +kernel
theorem dX12_fault_8 : decode cX12_fault 8 = .ok (.iload_n 1, 1) := by decide +kernel
theorem dX12_fault_9 : decode cX12_fault 9 = .ok (.iastore, 1) := by decide +kernel
theorem dX12_fault_10 : decode cX12_fault 10 = .ok (.aload_n 0, 1) := by decide +kernel
theorem dX12_fault_11 : decode cX12_fault 11 = .ok (.getfield 45, 3) := by decide +kernel
theorem dX12_fault_14 : decode cX12_fault 14 = .ok (.aload_n 0, 1) := by decide +kernel
theorem dX12_fault_15 : decode cX12_fault 15 = .ok (.getfield 146, 3) := by decide +kernel
theorem dX12_fault_18 : decode cX12_fault 18 = .ok (.iload_n 2, 1) := by decide +kernel
theorem dX12_fault_19 : decode cX12_fault 19 = .ok (.iastore, 1) := by decide +kernel
theorem dX12_fault_20 : decode cX12_fault 20 = .ok (.aload_n 0, 1) := by decide +kernel
theorem dX12_fault_21 : decode cX12_fault 21 = .ok (.dup, 1) := by decide +kernel
theorem dX12_fault_22 : decode cX12_fault 22 = .ok (.getfield 146, 3) := by decide +kernel
theorem dX12_fault_25 : decode cX12_fault 25 = .ok (.iconst 1, 1) := by decide +kernel
theorem dX12_fault_26 : decode cX12_fault 26 = .ok (.iadd, 1) := by decide +kernel
theorem dX12_fault_27 : decode cX12_fault 27 = .ok (.putfield 146, 3) := by decide +kernel
theorem dX12_fault_30 : decode cX12_fault 30 = .ok (.return_, 1) := by decide +kernel
theorem dX12_endOf_0 : decode cX12_endOf 0 = .ok (.iload_n 1, 1) := by decide +kernel
theorem dX12_endOf_1 : decode cX12_endOf 1 = .ok (.istore_n 2, 1) := by decide +kernel
theorem dX12_endOf_2 : decode cX12_endOf 2 = .ok (.iload_n 2, 1) := by decide +kernel
theorem dX12_endOf_3 : decode cX12_endOf 3 = .ok (.aload_n 0, 1) := by decide +kernel
theorem dX12_endOf_4 : decode cX12_endOf 4 = .ok (.getfield 143, 3) := by decide +kernel
theorem dX12_endOf_7 : decode cX12_endOf 7 = .ok (.if_icmp .ge 36, 3) := by decide +kernel
theorem dX12_endOf_10 : decode cX12_endOf 10 = .ok (.aload_n 0, 1) := by decide +kernel
theorem dX12_endOf_11 : decode cX12_endOf 11 = .ok (.getfield 39, 3) := by decide +kernel
theorem dX12_endOf_14 : decode cX12_endOf 14 = .ok (.iload_n 2, 1) := by decide +kernel
theorem dX12_endOf_15 : decode cX12_endOf 15 = .ok (.caload, 1) := by decide +kernel
theorem dX12_endOf_16 : decode cX12_endOf 16 = .ok (.bipush 39, 2) := by decide +kernel
theorem dX12_endOf_18 : decode cX12_endOf 18 = .ok (.if_icmp .eq 25, 3) := by decide +kernel
theorem dX12_endOf_21 : decode cX12_endOf 21 = .ok (.iload_n 2, 1) := by decide +kernel
theorem dX12_endOf_22 : decode cX12_endOf 22 = .ok (.aload_n 0, 1) := by decide +kernel
theorem dX12_endOf_23 : decode cX12_endOf 23 = .ok (.getfield 39, 3) := by decide +kernel
theorem dX12_endOf_26 : decode cX12_endOf 26 = .ok (.iload_n 2, 1) := by decide +kernel
theorem dX12_endOf_27 : decode cX12_endOf 27 = .ok (.caload, 1) := by decide +kernel
theorem dX12_endOf_28 : decode cX12_endOf 28 = .ok (.bipush 63, 2) := by decide +kernel
theorem dX12_endOf_30 : decode cX12_endOf 30 = .ok (.if_icmp .ne 7, 3) := by decide +kernel
theorem dX12_endOf_33 : decode cX12_endOf 33 = .ok (.iconst 2, 1) := by decide +kernel
theorem dX12_endOf_34 : decode cX12_endOf 34 = .ok (.goto 4, 3) := by decide +kernel
theorem dX12_endOf_37 : decode cX12_endOf 37 = .ok (.iconst 1, 1) := by decide +kernel
theorem dX12_endOf_38 : decode cX12_endOf 38 = .ok (.iadd, 1) := by decide +kernel
theorem dX12_endOf_39 : decode cX12_endOf 39 = .ok (.istore_n 2, 1) := by decide +kernel
theorem dX12_endOf_40 : decode cX12_endOf 40 = .ok (.goto (-38), 3) := by decide +kernel
theorem dX12_endOf_43 : decode cX12_endOf 43 = .ok (.iload_n 2, 1) := by decide +kernel
theorem dX12_endOf_44 : decode cX12_endOf 44 = .ok (.aload_n 0, 1) := by decide +kernel
theorem dX12_endOf_45 : decode cX12_endOf 45 = .ok (.getfield 143, 3) := by decide +kernel
theorem dX12_endOf_48 : decode cX12_endOf 48 = .ok (.if_icmp .ge 7, 3) := by decide +kernel
theorem dX12_endOf_51 : decode cX12_endOf 51 = .ok (.iload_n 2, 1) := by decide +kernel
theorem dX12_endOf_52 : decode cX12_endOf 52 = .ok (.goto 7, 3) := by decide +kernel
theorem dX12_endOf_55 : decode cX12_endOf 55 = .ok (.aload_n 0, 1) := by decide +kernel
theorem dX12_endOf_56 : decode cX12_endOf 56 = .ok (.getfield 143, 3) := by decide +kernel
theorem dX12_endOf_59 : decode cX12_endOf 59 = .ok (.ireturn, 1) := by decide +kernel
theorem dX12_parts_0 : decode cX12_parts 0 = .ok (.aload_n 0, 1) := by decide +kernel
theorem dX12_parts_1 : decode cX12_parts 1 = .ok (.getfield 149, 3) := by decide +kernel
theorem dX12_parts_4 : decode cX12_parts 4 = .ok (.istore_n 3, 1) := by decide +kernel
theorem dX12_parts_5 : decode cX12_parts 5 = .ok (.aload_n 0, 1) := by decide +kernel
theorem dX12_parts_6 : decode cX12_parts 6 = .ok (.getfield 48, 3) := by decide +kernel
theorem dX12_parts_9 : decode cX12_parts 9 = .ok (.iload_n 3, 1) := by decide +kernel
theorem dX12_parts_10 : decode cX12_parts 10 = .ok (.iload_n 1, 1) := by decide +kernel
theorem dX12_parts_11 : decode cX12_parts 11 = .ok (.iastore, 1) := by decide +kernel
theorem dX12_parts_12 : decode cX12_parts 12 = .ok (.iconst 0, 1) := by decide +kernel
theorem dX12_parts_13 : decode cX12_parts 13 = .ok (.istore 4, 2) := by decide +kernel
theorem dX12_parts_15 : decode cX12_parts 15 = .ok (.iconst 0, 1) := by decide +kernel
theorem dX12_parts_16 : decode cX12_parts 16 = .ok (.istore 5, 2) := by decide +kernel
theorem dX12_parts_18 : decode cX12_parts 18 = .ok (.bipush 32, 2) := by decide +kernel
theorem dX12_parts_20 : decode cX12_parts 20 = .ok (.istore 6, 2) := by decide +kernel
theorem dX12_parts_22 : decode cX12_parts 22 = .ok (.iload_n 1, 1) := by decide +kernel
theorem dX12_parts_23 : decode cX12_parts 23 = .ok (.istore 7, 2) := by decide +kernel
theorem dX12_parts_25 : decode cX12_parts 25 = .ok (.iload 7, 2) := by decide +kernel
theorem dX12_parts_27 : decode cX12_parts 27 = .ok (.iload_n 2, 1) := by decide +kernel
theorem dX12_parts_28 : decode cX12_parts 28 = .ok (.if_icmp .ge 55, 3) := by decide +kernel
theorem dX12_parts_31 : decode cX12_parts 31 = .ok (.aload_n 0, 1) := by decide +kernel
theorem dX12_parts_32 : decode cX12_parts 32 = .ok (.getfield 39, 3) := by decide +kernel
theorem dX12_parts_35 : decode cX12_parts 35 = .ok (.iload 7, 2) := by decide +kernel
theorem dX12_parts_37 : decode cX12_parts 37 = .ok (.caload, 1) := by decide +kernel
theorem dX12_parts_38 : decode cX12_parts 38 = .ok (.bipush 43, 2) := by decide +kernel
theorem dX12_parts_40 : decode cX12_parts 40 = .ok (.if_icmp .eq 43, 3) := by decide +kernel
theorem dX12_parts_43 : decode cX12_parts 43 = .ok (.iload 7, 2) := by decide +kernel
theorem dX12_parts_45 : decode cX12_parts 45 = .ok (.aload_n 0, 1) := by decide +kernel
theorem dX12_parts_46 : decode cX12_parts 46 = .ok (.getfield 39, 3) := by decide +kernel
theorem dX12_parts_49 : decode cX12_parts 49 = .ok (.iload 7, 2) := by decide +kernel
theorem dX12_parts_51 : decode cX12_parts 51 = .ok (.caload, 1) := by decide +kernel
theorem dX12_parts_52 : decode cX12_parts 52 = .ok (.bipush 63, 2) := by decide +kernel
theorem dX12_parts_54 : decode cX12_parts 54 = .ok (.if_icmp .ne 7, 3) := by decide +kernel
theorem dX12_parts_57 : decode cX12_parts 57 = .ok (.iconst 1, 1) := by decide +kernel
theorem dX12_parts_58 : decode cX12_parts 58 = .ok (.goto 4, 3) := by decide +kernel
theorem dX12_parts_61 : decode cX12_parts 61 = .ok (.iconst 0, 1) := by decide +kernel
theorem dX12_parts_62 : decode cX12_parts 62 = .ok (.iadd, 1) := by decide +kernel
theorem dX12_parts_63 : decode cX12_parts 63 = .ok (.istore 7, 2) := by decide +kernel
theorem dX12_parts_65 : decode cX12_parts 65 = .ok (.aload_n 0, 1) := by decide +kernel
theorem dX12_parts_66 : decode cX12_parts 66 = .ok (.getfield 39, 3) := by decide +kernel
theorem dX12_parts_69 : decode cX12_parts 69 = .ok (.iload 7, 2) := by decide +kernel
theorem dX12_parts_71 : decode cX12_parts 71 = .ok (.caload, 1) := by decide +kernel
theorem dX12_parts_72 : decode cX12_parts 72 = .ok (.istore 6, 2) := by decide +kernel
theorem dX12_parts_74 : decode cX12_parts 74 = .ok (.iinc 5 1, 3) := by decide +kernel
theorem dX12_parts_77 : decode cX12_parts 77 = .ok (.iinc 7 1, 3) := by decide +kernel
theorem dX12_parts_80 : decode cX12_parts 80 = .ok (.goto (-55), 3) := by decide +kernel
theorem dX12_parts_83 : decode cX12_parts 83 = .ok (.aload_n 0, 1) := by decide +kernel
theorem dX12_parts_84 : decode cX12_parts 84 = .ok (.getfield 51, 3) := by decide +kernel
theorem dX12_parts_87 : decode cX12_parts 87 = .ok (.iload_n 3, 1) := by decide +kernel
theorem dX12_parts_88 : decode cX12_parts 88 = .ok (.iload 6, 2) := by decide +kernel
theorem dX12_parts_90 : decode cX12_parts 90 = .ok (.castore, 1) := by decide +kernel
theorem dX12_parts_91 : decode cX12_parts 91 = .ok (.iload 5, 2) := by decide +kernel
theorem dX12_parts_93 : decode cX12_parts 93 = .ok (.iconst 1, 1) := by decide +kernel
theorem dX12_parts_94 : decode cX12_parts 94 = .ok (.if_icmp .ne 15, 3) := by decide +kernel
theorem dX12_parts_97 : decode cX12_parts 97 = .ok (.iload 6, 2) := by decide +kernel
theorem dX12_parts_99 : decode cX12_parts 99 = .ok (.bipush 65, 2) := by decide +kernel
theorem dX12_parts_101 : decode cX12_parts 101 = .ok (.bipush 90, 2) := by decide +kernel
theorem dX12_parts_103 : decode cX12_parts 103 = .ok (.invokestatic 115, 3) := by decide +kernel
theorem dX12_parts_106 : decode cX12_parts 106 = .ok (.ifCond .ne 9, 3) := by decide +kernel
theorem dX12_parts_109 : decode cX12_parts 109 = .ok (.aload_n 0, 1) := by decide +kernel
theorem dX12_parts_110 : decode cX12_parts 110 = .ok (.iconst 2, 1) := by decide +kernel
theorem dX12_parts_111 : decode cX12_parts 111 = .ok (.iload_n 1, 1) := by decide +kernel
theorem dX12_parts_112 : decode cX12_parts 112 = .ok (.invokevirtual 152, 3) := by decide +kernel
theorem dX12_parts_115 : decode cX12_parts 115 = .ok (.iload 7, 2) := by decide +kernel
theorem dX12_parts_117 : decode cX12_parts 117 = .ok (.iload_n 2, 1) := by decide +kernel
theorem dX12_parts_118 : decode cX12_parts 118 = .ok (.if_icmp .ge 132, 3) := by decide +kernel
theorem dX12_parts_121 : decode cX12_parts 121 = .ok (.iload 4, 2) := by decide +kernel
theorem dX12_parts_123 : decode cX12_parts 123 = .ok (.iconst 5, 1) := by decide +kernel
theorem dX12_parts_124 : decode cX12_parts 124 = .ok (.if_icmp .ge 126, 3) := by decide +kernel
theorem dX12_parts_127 : decode cX12_parts 127 = .ok (.iinc 7 1, 3) := by decide +kernel
theorem dX12_parts_130 : decode cX12_parts 130 = .ok (.iload 7, 2) := by decide +kernel
theorem dX12_parts_132 : decode cX12_parts 132 = .ok (.istore 8, 2) := by decide +kernel
theorem dX12_parts_134 : decode cX12_parts 134 = .ok (.iconst 0, 1) := by decide +kernel
theorem dX12_parts_135 : decode cX12_parts 135 = .ok (.istore 5, 2) := by decide +kernel
theorem dX12_parts_137 : decode cX12_parts 137 = .ok (.iload 7, 2) := by decide +kernel
theorem dX12_parts_139 : decode cX12_parts 139 = .ok (.iload_n 2, 1) := by decide +kernel
theorem dX12_parts_140 : decode cX12_parts 140 = .ok (.if_icmp .ge 77, 3) := by decide +kernel
theorem dX12_parts_143 : decode cX12_parts 143 = .ok (.aload_n 0, 1) := by decide +kernel
theorem dX12_parts_144 : decode cX12_parts 144 = .ok (.getfield 39, 3) := by decide +kernel
theorem dX12_parts_147 : decode cX12_parts 147 = .ok (.iload 7, 2) := by decide +kernel
theorem dX12_parts_149 : decode cX12_parts 149 = .ok (.caload, 1) := by decide +kernel
theorem dX12_parts_150 : decode cX12_parts 150 = .ok (.bipush 43, 2) := by decide +kernel
theorem dX12_parts_152 : decode cX12_parts 152 = .ok (.if_icmp .eq 65, 3) := by decide +kernel
theorem dX12_parts_155 : decode cX12_parts 155 = .ok (.iload 7, 2) := by decide +kernel
theorem dX12_parts_157 : decode cX12_parts 157 = .ok (.aload_n 0, 1) := by decide +kernel
theorem dX12_parts_158 : decode cX12_parts 158 = .ok (.getfield 39, 3) := by decide +kernel
theorem dX12_parts_161 : decode cX12_parts 161 = .ok (.iload 7, 2) := by decide +kernel
theorem dX12_parts_163 : decode cX12_parts 163 = .ok (.caload, 1) := by decide +kernel
theorem dX12_parts_164 : decode cX12_parts 164 = .ok (.bipush 63, 2) := by decide +kernel
theorem dX12_parts_166 : decode cX12_parts 166 = .ok (.if_icmp .ne 7, 3) := by decide +kernel
theorem dX12_parts_169 : decode cX12_parts 169 = .ok (.iconst 1, 1) := by decide +kernel
theorem dX12_parts_170 : decode cX12_parts 170 = .ok (.goto 4, 3) := by decide +kernel
theorem dX12_parts_173 : decode cX12_parts 173 = .ok (.iconst 0, 1) := by decide +kernel
theorem dX12_parts_174 : decode cX12_parts 174 = .ok (.iadd, 1) := by decide +kernel
theorem dX12_parts_175 : decode cX12_parts 175 = .ok (.istore 7, 2) := by decide +kernel
theorem dX12_parts_177 : decode cX12_parts 177 = .ok (.iload 5, 2) := by decide +kernel
theorem dX12_parts_179 : decode cX12_parts 179 = .ok (.bipush 8, 2) := by decide +kernel
theorem dX12_parts_181 : decode cX12_parts 181 = .ok (.if_icmp .ge 27, 3) := by decide +kernel
theorem dX12_parts_184 : decode cX12_parts 184 = .ok (.aload_n 0, 1) := by decide +kernel
theorem dX12_parts_185 : decode cX12_parts 185 = .ok (.getfield 60, 3) := by decide +kernel
theorem dX12_parts_188 : decode cX12_parts 188 = .ok (.bipush 8, 2) := by decide +kernel
theorem dX12_parts_190 : decode cX12_parts 190 = .ok (.iconst 5, 1) := by decide +kernel
theorem dX12_parts_191 : decode cX12_parts 191 = .ok (.iload_n 3, 1) := by decide +kernel
theorem dX12_parts_192 : decode cX12_parts 192 = .ok (.imul, 1) := by decide +kernel
theorem dX12_parts_193 : decode cX12_parts 193 = .ok (.iload 4, 2) := by decide +kernel
theorem dX12_parts_195 : decode cX12_parts 195 = .ok (.iadd, 1) := by decide +kernel
theorem dX12_parts_196 : decode cX12_parts 196 = .ok (.imul, 1) := by decide +kernel
theorem dX12_parts_197 : decode cX12_parts 197 = .ok (.iload 5, 2) := by decide +kernel
theorem dX12_parts_199 : decode cX12_parts 199 = .ok (.iadd, 1) := by decide +kernel
theorem dX12_parts_200 : decode cX12_parts 200 = .ok (.aload_n 0, 1) := by decide +kernel
theorem dX12_parts_201 : decode cX12_parts 201 = .ok (.getfield 39, 3) := by decide +kernel
theorem dX12_parts_204 : decode cX12_parts 204 = .ok (.iload 7, 2) := by decide +kernel
theorem dX12_parts_206 : decode cX12_parts 206 = .ok (.caload, 1) := by decide +kernel
theorem dX12_parts_207 : decode cX12_parts 207 = .ok (.castore, 1) := by decide +kernel
theorem dX12_parts_208 : decode cX12_parts 208 = .ok (.iinc 5 1, 3) := by decide +kernel
theorem dX12_parts_211 : decode cX12_parts 211 = .ok (.iinc 7 1, 3) := by decide +kernel
theorem dX12_parts_214 : decode cX12_parts 214 = .ok (.goto (-77), 3) := by decide +kernel
theorem dX12_parts_217 : decode cX12_parts 217 = .ok (.aload_n 0, 1) := by decide +kernel
theorem dX12_parts_218 : decode cX12_parts 218 = .ok (.getfield 57, 3) := by decide +kernel
theorem dX12_parts_221 : decode cX12_parts 221 = .ok (.iconst 5, 1) := by decide +kernel
theorem dX12_parts_222 : decode cX12_parts 222 = .ok (.iload_n 3, 1) := by decide +kernel
theorem dX12_parts_223 : decode cX12_parts 223 = .ok (.imul, 1) := by decide +kernel
theorem dX12_parts_224 : decode cX12_parts 224 = .ok (.iload 4, 2) := by decide +kernel
theorem dX12_parts_226 : decode cX12_parts 226 = .ok (.iadd, 1) := by decide +kernel
theorem dX12_parts_227 : decode cX12_parts 227 = .ok (.iload 5, 2) := by decide +kernel
theorem dX12_parts_229 : decode cX12_parts 229 = .ok (.iastore, 1) := by decide +kernel
theorem dX12_parts_230 : decode cX12_parts 230 = .ok (.iinc 4 1, 3) := by decide +kernel
theorem dX12_parts_233 : decode cX12_parts 233 = .ok (.iload 5, 2) := by decide +kernel
theorem dX12_parts_235 : decode cX12_parts 235 = .ok (.bipush 8, 2) := by decide +kernel
theorem dX12_parts_237 : decode cX12_parts 237 = .ok (.if_icmp .le 10, 3) := by decide +kernel
theorem dX12_parts_240 : decode cX12_parts 240 = .ok (.aload_n 0, 1) := by decide +kernel
theorem dX12_parts_241 : decode cX12_parts 241 = .ok (.iconst 4, 1) := by decide +kernel
theorem dX12_parts_242 : decode cX12_parts 242 = .ok (.iload 8, 2) := by decide +kernel
theorem dX12_parts_244 : decode cX12_parts 244 = .ok (.invokevirtual 152, 3) := by decide +kernel
theorem dX12_parts_247 : decode cX12_parts 247 = .ok (.goto (-132), 3) := by decide +kernel
theorem dX12_parts_250 : decode cX12_parts 250 = .ok (.aload_n 0, 1) := by decide +kernel
theorem dX12_parts_251 : decode cX12_parts 251 = .ok (.getfield 54, 3) := by decide +kernel
theorem dX12_parts_254 : decode cX12_parts 254 = .ok (.iload_n 3, 1) := by decide +kernel
theorem dX12_parts_255 : decode cX12_parts 255 = .ok (.iload 4, 2) := by decide +kernel
theorem dX12_parts_257 : decode cX12_parts 257 = .ok (.iastore, 1) := by decide +kernel
theorem dX12_parts_258 : decode cX12_parts 258 = .ok (.iload 7, 2) := by decide +kernel
theorem dX12_parts_260 : decode cX12_parts 260 = .ok (.iload_n 2, 1) := by decide +kernel
theorem dX12_parts_261 : decode cX12_parts 261 = .ok (.if_icmp .ge 12, 3) := by decide +kernel
theorem dX12_parts_264 : decode cX12_parts 264 = .ok (.aload_n 0, 1) := by decide +kernel
theorem dX12_parts_265 : decode cX12_parts 265 = .ok (.iconst 3, 1) := by decide +kernel
theorem dX12_parts_266 : decode cX12_parts 266 = .ok (.iload 7, 2) := by decide +kernel
theorem dX12_parts_268 : decode cX12_parts 268 = .ok (.iconst 1, 1) := by decide +kernel
theorem dX12_parts_269 : decode cX12_parts 269 = .ok (.iadd, 1) := by decide +kernel
theorem dX12_parts_270 : decode cX12_parts 270 = .ok (.invokevirtual 152, 3) := by decide +kernel
theorem dX12_parts_273 : decode cX12_parts 273 = .ok (.aload_n 0, 1) := by decide +kernel
theorem dX12_parts_274 : decode cX12_parts 274 = .ok (.dup, 1) := by decide +kernel
theorem dX12_parts_275 : decode cX12_parts 275 = .ok (.getfield 149, 3) := by decide +kernel
theorem dX12_parts_278 : decode cX12_parts 278 = .ok (.iconst 1, 1) := by decide +kernel
theorem dX12_parts_279 : decode cX12_parts 279 = .ok (.iadd, 1) := by decide +kernel
theorem dX12_parts_280 : decode cX12_parts 280 = .ok (.putfield 149, 3) := by decide +kernel
theorem dX12_parts_283 : decode cX12_parts 283 = .ok (.return_, 1) := by decide +kernel
theorem dX12_splits_0 : decode cX12_splits 0 = .ok (.aload_n 0, 1) := by decide +kernel
theorem dX12_splits_1 : decode cX12_splits 1 = .ok (.iconst 0, 1) := by decide +kernel
theorem dX12_splits_2 : decode cX12_splits 2 = .ok (.putfield 149, 3) := by decide +kernel
theorem dX12_splits_5 : decode cX12_splits 5 = .ok (.iconst 0, 1) := by decide +kernel
theorem dX12_splits_6 : decode cX12_splits 6 = .ok (.istore_n 1, 1) := by decide +kernel
theorem dX12_splits_7 : decode cX12_splits 7 = .ok (.iconst 1, 1) := by decide +kernel
theorem dX12_splits_8 : decode cX12_splits 8 = .ok (.istore_n 2, 1) := by decide +kernel
theorem dX12_splits_9 : decode cX12_splits 9 = .ok (.iload_n 1, 1) := by decide +kernel
theorem dX12_splits_10 : decode cX12_splits 10 = .ok (.aload_n 0, 1) := by decide +kernel
theorem dX12_splits_11 : decode cX12_splits 11 = .ok (.getfield 143, 3) := by decide +kernel
theorem dX12_splits_14 : decode cX12_splits 14 = .ok (.if_icmp .ge 62, 3) := by decide +kernel
theorem dX12_splits_17 : decode cX12_splits 17 = .ok (.aload_n 0, 1) := by decide +kernel
theorem dX12_splits_18 : decode cX12_splits 18 = .ok (.getfield 149, 3) := by decide +kernel
theorem dX12_splits_21 : decode cX12_splits 21 = .ok (.bipush 20, 2) := by decide +kernel
theorem dX12_splits_23 : decode cX12_splits 23 = .ok (.if_icmp .ge 53, 3) := by decide +kernel
theorem dX12_splits_26 : decode cX12_splits 26 = .ok (.iload_n 2, 1) := by decide +kernel
theorem dX12_splits_27 : decode cX12_splits 27 = .ok (.ifCond .eq 49, 3) := by decide +kernel
theorem dX12_splits_30 : decode cX12_splits 30 = .ok (.aload_n 0, 1) := by decide +kernel
theorem dX12_splits_31 : decode cX12_splits 31 = .ok (.iload_n 1, 1) := by decide +kernel
theorem dX12_splits_32 : decode cX12_splits 32 = .ok (.invokevirtual 156, 3) := by decide +kernel
theorem dX12_splits_35 : decode cX12_splits 35 = .ok (.istore_n 3, 1) := by decide +kernel
theorem dX12_splits_36 : decode cX12_splits 36 = .ok (.iload_n 3, 1) := by decide +kernel
theorem dX12_splits_37 : decode cX12_splits 37 = .ok (.aload_n 0, 1) := by decide +kernel
theorem dX12_splits_38 : decode cX12_splits 38 = .ok (.getfield 143, 3) := by decide +kernel
theorem dX12_splits_41 : decode cX12_splits 41 = .ok (.if_icmp .ge 7, 3) := by decide +kernel
theorem dX12_splits_44 : decode cX12_splits 44 = .ok (.iconst 1, 1) := by decide +kernel
theorem dX12_splits_45 : decode cX12_splits 45 = .ok (.goto 4, 3) := by decide +kernel
theorem dX12_splits_48 : decode cX12_splits 48 = .ok (.iconst 0, 1) := by decide +kernel
theorem dX12_splits_49 : decode cX12_splits 49 = .ok (.istore_n 2, 1) := by decide +kernel
theorem dX12_splits_50 : decode cX12_splits 50 = .ok (.iload_n 2, 1) := by decide +kernel
theorem dX12_splits_51 : decode cX12_splits 51 = .ok (.ifCond .eq 16, 3) := by decide +kernel
theorem dX12_splits_54 : decode cX12_splits 54 = .ok (.aload_n 0, 1) := by decide +kernel
theorem dX12_splits_55 : decode cX12_splits 55 = .ok (.iload_n 1, 1) := by decide +kernel
theorem dX12_splits_56 : decode cX12_splits 56 = .ok (.iload_n 3, 1) := by decide +kernel
theorem dX12_splits_57 : decode cX12_splits 57 = .ok (.invokevirtual 160, 3) := by decide +kernel
theorem dX12_splits_60 : decode cX12_splits 60 = .ok (.iload_n 3, 1) := by decide +kernel
theorem dX12_splits_61 : decode cX12_splits 61 = .ok (.iconst 1, 1) := by decide +kernel
theorem dX12_splits_62 : decode cX12_splits 62 = .ok (.iadd, 1) := by decide +kernel
theorem dX12_splits_63 : decode cX12_splits 63 = .ok (.istore_n 1, 1) := by decide +kernel
theorem dX12_splits_64 : decode cX12_splits 64 = .ok (.goto 9, 3) := by decide +kernel
theorem dX12_splits_67 : decode cX12_splits 67 = .ok (.aload_n 0, 1) := by decide +kernel
theorem dX12_splits_68 : decode cX12_splits 68 = .ok (.iconst 1, 1) := by decide +kernel
theorem dX12_splits_69 : decode cX12_splits 69 = .ok (.iload_n 1, 1) := by decide +kernel
theorem dX12_splits_70 : decode cX12_splits 70 = .ok (.invokevirtual 152, 3) := by decide +kernel
theorem dX12_splits_73 : decode cX12_splits 73 = .ok (.goto (-64), 3) := by decide +kernel
theorem dX12_splits_76 : decode cX12_splits 76 = .ok (.iload_n 1, 1) := by decide +kernel
theorem dX12_splits_77 : decode cX12_splits 77 = .ok (.aload_n 0, 1) := by decide +kernel
theorem dX12_splits_78 : decode cX12_splits 78 = .ok (.getfield 143, 3) := by decide +kernel
theorem dX12_splits_81 : decode cX12_splits 81 = .ok (.if_icmp .ge 13, 3) := by decide +kernel
theorem dX12_splits_84 : decode cX12_splits 84 = .ok (.iload_n 2, 1) := by decide +kernel
theorem dX12_splits_85 : decode cX12_splits 85 = .ok (.ifCond .eq 9, 3) := by decide +kernel
theorem dX12_splits_88 : decode cX12_splits 88 = .ok (.aload_n 0, 1) := by decide +kernel
theorem dX12_splits_89 : decode cX12_splits 89 = .ok (.iconst 5, 1) := by decide +kernel
theorem dX12_splits_90 : decode cX12_splits 90 = .ok (.iload_n 1, 1) := by decide +kernel
theorem dX12_splits_91 : decode cX12_splits 91 = .ok (.invokevirtual 152, 3) := by decide +kernel
theorem dX12_splits_94 : decode cX12_splits 94 = .ok (.return_, 1) := by decide +kernel
theorem dX12_numberIn_0 : decode cX12_numberIn 0 = .ok (.iconst 5, 1) := by decide +kernel
theorem dX12_numberIn_1 : decode cX12_numberIn 1 = .ok (.iload_n 1, 1) := by decide +kernel
theorem dX12_numberIn_2 : decode cX12_numberIn 2 = .ok (.imul, 1) := by decide +kernel
theorem dX12_numberIn_3 : decode cX12_numberIn 3 = .ok (.iload_n 2, 1) := by decide +kernel
theorem dX12_numberIn_4 : decode cX12_numberIn 4 = .ok (.iadd, 1) := by decide +kernel
theorem dX12_numberIn_5 : decode cX12_numberIn 5 = .ok (.istore_n 3, 1) := by decide +kernel
theorem dX12_numberIn_6 : decode cX12_numberIn 6 = .ok (.aload_n 0, 1) := by decide +kernel
theorem dX12_numberIn_7 : decode cX12_numberIn 7 = .ok (.getfield 57, 3) := by decide +kernel
theorem dX12_numberIn_10 : decode cX12_numberIn 10 = .ok (.iload_n 3, 1) := by decide +kernel
theorem dX12_numberIn_11 : decode cX12_numberIn 11 = .ok (.iaload, 1) := by decide +kernel
theorem dX12_numberIn_12 : decode cX12_numberIn 12 = .ok (.iconst 1, 1) := by decide +kernel
theorem dX12_numberIn_13 : decode cX12_numberIn 13 = .ok (.if_icmp .lt 17, 3) := by decide +kernel
theorem dX12_numberIn_16 : decode cX12_numberIn 16 = .ok (.aload_n 0, 1) := by decide +kernel
theorem dX12_numberIn_17 : decode cX12_numberIn 17 = .ok (.getfield 57, 3) := by decide +kernel
theorem dX12_numberIn_20 : decode cX12_numberIn 20 = .ok (.iload_n 3, 1) := by decide +kernel
theorem dX12_numberIn_21 : decode cX12_numberIn 21 = .ok (.iaload, 1) := by decide +kernel
theorem dX12_numberIn_22 : decode cX12_numberIn 22 = .ok (.iconst 4, 1) := by decide +kernel
theorem dX12_numberIn_23 : decode cX12_numberIn 23 = .ok (.if_icmp .gt 7, 3) := by decide +kernel
theorem dX12_numberIn_26 : decode cX12_numberIn 26 = .ok (.iconst 0, 1) := by decide +kernel
theorem dX12_numberIn_27 : decode cX12_numberIn 27 = .ok (.goto 4, 3) := by decide +kernel
theorem dX12_numberIn_30 : decode cX12_numberIn 30 = .ok (.iconst (-1), 1) := by decide +kernel
theorem dX12_numberIn_31 : decode cX12_numberIn 31 = .ok (.istore 4, 2) := by decide +kernel
theorem dX12_numberIn_33 : decode cX12_numberIn 33 = .ok (.iconst 0, 1) := by decide +kernel
theorem dX12_numberIn_34 : decode cX12_numberIn 34 = .ok (.istore 5, 2) := by decide +kernel
theorem dX12_numberIn_36 : decode cX12_numberIn 36 = .ok (.iload 4, 2) := by decide +kernel
theorem dX12_numberIn_38 : decode cX12_numberIn 38 = .ok (.iconst (-1), 1) := by decide +kernel
theorem dX12_numberIn_39 : decode cX12_numberIn 39 = .ok (.if_icmp .eq 63, 3) := by decide +kernel
theorem dX12_numberIn_42 : decode cX12_numberIn 42 = .ok (.iload 5, 2) := by decide +kernel
theorem dX12_numberIn_44 : decode cX12_numberIn 44 = .ok (.aload_n 0, 1) := by decide +kernel
theorem dX12_numberIn_45 : decode cX12_numberIn 45 = .ok (.getfield 57, 3) := by decide +kernel
theorem dX12_numberIn_48 : decode cX12_numberIn 48 = .ok (.iload_n 3, 1) := by decide +kernel
theorem dX12_numberIn_49 : decode cX12_numberIn 49 = .ok (.iaload, 1) := by decide +kernel
theorem dX12_numberIn_50 : decode cX12_numberIn 50 = .ok (.if_icmp .ge 52, 3) := by decide +kernel
theorem dX12_numberIn_53 : decode cX12_numberIn 53 = .ok (.aload_n 0, 1) := by decide +kernel
theorem dX12_numberIn_54 : decode cX12_numberIn 54 = .ok (.getfield 60, 3) := by decide +kernel
theorem dX12_numberIn_57 : decode cX12_numberIn 57 = .ok (.bipush 8, 2) := by decide +kernel
theorem dX12_numberIn_59 : decode cX12_numberIn 59 = .ok (.iload_n 3, 1) := by decide +kernel
theorem dX12_numberIn_60 : decode cX12_numberIn 60 = .ok (.imul, 1) := by decide +kernel
theorem dX12_numberIn_61 : decode cX12_numberIn 61 = .ok (.iload 5, 2) := by decide +kernel
theorem dX12_numberIn_63 : decode cX12_numberIn 63 = .ok (.iadd, 1) := by decide +kernel
theorem dX12_numberIn_64 : decode cX12_numberIn 64 = .ok (.caload, 1) := by decide +kernel
theorem dX12_numberIn_65 : decode cX12_numberIn 65 = .ok (.istore 6, 2) := by decide +kernel
theorem dX12_numberIn_67 : decode cX12_numberIn 67 = .ok (.iload 6, 2) := by decide +kernel
theorem dX12_numberIn_69 : decode cX12_numberIn 69 = .ok (.bipush 48, 2) := by decide +kernel
theorem dX12_numberIn_71 : decode cX12_numberIn 71 = .ok (.bipush 57, 2) := by decide +kernel
theorem dX12_numberIn_73 : decode cX12_numberIn 73 = .ok (.invokestatic 115, 3) := by decide +kernel
theorem dX12_numberIn_76 : decode cX12_numberIn 76 = .ok (.ifCond .eq 17, 3) := by decide +kernel
theorem dX12_numberIn_79 : decode cX12_numberIn 79 = .ok (.bipush 10, 2) := by decide +kernel
theorem dX12_numberIn_81 : decode cX12_numberIn 81 = .ok (.iload 4, 2) := by decide +kernel
theorem dX12_numberIn_83 : decode cX12_numberIn 83 = .ok (.imul, 1) := by decide +kernel
theorem dX12_numberIn_84 : decode cX12_numberIn 84 = .ok (.iload 6, 2) := by decide +kernel
theorem dX12_numberIn_86 : decode cX12_numberIn 86 = .ok (.iadd, 1) := by decide +kernel
theorem dX12_numberIn_87 : decode cX12_numberIn 87 = .ok (.bipush 48, 2) := by decide +kernel
theorem dX12_numberIn_89 : decode cX12_numberIn 89 = .ok (.isub, 1) := by decide +kernel
theorem dX12_numberIn_90 : decode cX12_numberIn 90 = .ok (.goto 4, 3) := by decide +kernel
theorem dX12_numberIn_93 : decode cX12_numberIn 93 = .ok (.iconst (-1), 1) := by decide +kernel
theorem dX12_numberIn_94 : decode cX12_numberIn 94 = .ok (.istore 4, 2) := by decide +kernel
theorem dX12_numberIn_96 : decode cX12_numberIn 96 = .ok (.iinc 5 1, 3) := by decide +kernel
theorem dX12_numberIn_99 : decode cX12_numberIn 99 = .ok (.goto (-63), 3) := by decide +kernel
theorem dX12_numberIn_102 : decode cX12_numberIn 102 = .ok (.iload 4, 2) := by decide +kernel
theorem dX12_numberIn_104 : decode cX12_numberIn 104 = .ok (.ireturn, 1) := by decide +kernel
theorem dX12_envelope_0 : decode cX12_envelope 0 = .ok (.aload_n 0, 1) := by decide +kernel
theorem dX12_envelope_1 : decode cX12_envelope 1 = .ok (.getfield 149, 3) := by decide +kernel
theorem dX12_envelope_4 : decode cX12_envelope 4 = .ok (.iconst 1, 1) := by decide +kernel
theorem dX12_envelope_5 : decode cX12_envelope 5 = .ok (.isub, 1) := by decide +kernel
theorem dX12_envelope_6 : decode cX12_envelope 6 = .ok (.istore_n 1, 1) := by decide +kernel
theorem dX12_envelope_7 : decode cX12_envelope 7 = .ok (.aload_n 0, 1) := by decide +kernel
theorem dX12_envelope_8 : decode cX12_envelope 8 = .ok (.getfield 149, 3) := by decide +kernel
theorem dX12_envelope_11 : decode cX12_envelope 11 = .ok (.ifCond .eq 34, 3) := by decide +kernel
theorem dX12_envelope_14 : decode cX12_envelope 14 = .ok (.aload_n 0, 1) := by decide +kernel
theorem dX12_envelope_15 : decode cX12_envelope 15 = .ok (.getfield 51, 3) := by decide +kernel
theorem dX12_envelope_18 : decode cX12_envelope 18 = .ok (.iconst 0, 1) := by decide +kernel
theorem dX12_envelope_19 : decode cX12_envelope 19 = .ok (.caload, 1) := by decide +kernel
theorem dX12_envelope_20 : decode cX12_envelope 20 = .ok (.bipush 72, 2) := by decide +kernel
theorem dX12_envelope_22 : decode cX12_envelope 22 = .ok (.if_icmp .ne 23, 3) := by decide +kernel
theorem dX12_envelope_25 : decode cX12_envelope 25 = .ok (.aload_n 0, 1) := by decide +kernel
theorem dX12_envelope_26 : decode cX12_envelope 26 = .ok (.getfield 54, 3) := by decide +kernel
theorem dX12_envelope_29 : decode cX12_envelope 29 = .ok (.iconst 0, 1) := by decide +kernel
theorem dX12_envelope_30 : decode cX12_envelope 30 = .ok (.iaload, 1) := by decide +kernel
theorem dX12_envelope_31 : decode cX12_envelope 31 = .ok (.iconst 1, 1) := by decide +kernel
theorem dX12_envelope_32 : decode cX12_envelope 32 = .ok (.if_icmp .ne 13, 3) := by decide +kernel
theorem dX12_envelope_35 : decode cX12_envelope 35 = .ok (.aload_n 0, 1) := by decide +kernel
theorem dX12_envelope_36 : decode cX12_envelope 36 = .ok (.iconst 0, 1) := by decide +kernel
theorem dX12_envelope_37 : decode cX12_envelope 37 = .ok (.iconst 0, 1) := by decide +kernel
theorem dX12_envelope_38 : decode cX12_envelope 38 = .ok (.invokevirtual 163, 3) := by decide +kernel
theorem dX12_envelope_41 : decode cX12_envelope 41 = .ok (.iconst (-1), 1) := by decide +kernel
theorem dX12_envelope_42 : decode cX12_envelope 42 = .ok (.if_icmp .ne 10, 3) := by decide +kernel
theorem dX12_envelope_45 : decode cX12_envelope 45 = .ok (.aload_n 0, 1) := by decide +kernel
theorem dX12_envelope_46 : decode cX12_envelope 46 = .ok (.bipush 6, 2) := by decide +kernel
theorem dX12_envelope_48 : decode cX12_envelope 48 = .ok (.iconst 0, 1) := by decide +kernel
theorem dX12_envelope_49 : decode cX12_envelope 49 = .ok (.invokevirtual 152, 3) := by decide +kernel
theorem dX12_envelope_52 : decode cX12_envelope 52 = .ok (.aload_n 0, 1) := by decide +kernel
theorem dX12_envelope_53 : decode cX12_envelope 53 = .ok (.getfield 149, 3) := by decide +kernel
theorem dX12_envelope_56 : decode cX12_envelope 56 = .ok (.iconst 2, 1) := by decide +kernel
theorem dX12_envelope_57 : decode cX12_envelope 57 = .ok (.if_icmp .lt 44, 3) := by decide +kernel
theorem dX12_envelope_60 : decode cX12_envelope 60 = .ok (.aload_n 0, 1) := by decide +kernel
theorem dX12_envelope_61 : decode cX12_envelope 61 = .ok (.getfield 51, 3) := by decide +kernel
theorem dX12_envelope_64 : decode cX12_envelope 64 = .ok (.iload_n 1, 1) := by decide +kernel
theorem dX12_envelope_65 : decode cX12_envelope 65 = .ok (.caload, 1) := by decide +kernel
theorem dX12_envelope_66 : decode cX12_envelope 66 = .ok (.bipush 84, 2) := by decide +kernel
theorem dX12_envelope_68 : decode cX12_envelope 68 = .ok (.if_icmp .ne 33, 3) := by decide +kernel
theorem dX12_envelope_71 : decode cX12_envelope 71 = .ok (.aload_n 0, 1) := by decide +kernel
theorem dX12_envelope_72 : decode cX12_envelope 72 = .ok (.getfield 54, 3) := by decide +kernel
theorem dX12_envelope_75 : decode cX12_envelope 75 = .ok (.iload_n 1, 1) := by decide +kernel
theorem dX12_envelope_76 : decode cX12_envelope 76 = .ok (.iaload, 1) := by decide +kernel
theorem dX12_envelope_77 : decode cX12_envelope 77 = .ok (.iconst 2, 1) := by decide +kernel
theorem dX12_envelope_78 : decode cX12_envelope 78 = .ok (.if_icmp .ne 23, 3) := by decide +kernel
theorem dX12_envelope_81 : decode cX12_envelope 81 = .ok (.aload_n 0, 1) := by decide +kernel
theorem dX12_envelope_82 : decode cX12_envelope 82 = .ok (.iload_n 1, 1) := by decide +kernel
theorem dX12_envelope_83 : decode cX12_envelope 83 = .ok (.iconst 0, 1) := by decide +kernel
theorem dX12_envelope_84 : decode cX12_envelope 84 = .ok (.invokevirtual 163, 3) := by decide +kernel
theorem dX12_envelope_87 : decode cX12_envelope 87 = .ok (.iconst (-1), 1) := by decide +kernel
theorem dX12_envelope_88 : decode cX12_envelope 88 = .ok (.if_icmp .eq 13, 3) := by decide +kernel
theorem dX12_envelope_91 : decode cX12_envelope 91 = .ok (.aload_n 0, 1) := by decide +kernel
theorem dX12_envelope_92 : decode cX12_envelope 92 = .ok (.iload_n 1, 1) := by decide +kernel
theorem dX12_envelope_93 : decode cX12_envelope 93 = .ok (.iconst 1, 1) := by decide +kernel
theorem dX12_envelope_94 : decode cX12_envelope 94 = .ok (.invokevirtual 163, 3) := by decide +kernel
theorem dX12_envelope_97 : decode cX12_envelope 97 = .ok (.iconst (-1), 1) := by decide +kernel
theorem dX12_envelope_98 : decode cX12_envelope 98 = .ok (.if_icmp .ne 26, 3) := by decide +kernel
theorem dX12_envelope_101 : decode cX12_envelope 101 = .ok (.aload_n 0, 1) := by decide +kernel
theorem dX12_envelope_102 : decode cX12_envelope 102 = .ok (.bipush 7, 2) := by decide +kernel
theorem dX12_envelope_104 : decode cX12_envelope 104 = .ok (.aload_n 0, 1) := by decide +kernel
theorem dX12_envelope_105 : decode cX12_envelope 105 = .ok (.getfield 149, 3) := by decide +kernel
theorem dX12_envelope_108 : decode cX12_envelope 108 = .ok (.ifCond .ne 7, 3) := by decide +kernel
theorem dX12_envelope_111 : decode cX12_envelope 111 = .ok (.iconst 0, 1) := by decide +kernel
theorem dX12_envelope_112 : decode cX12_envelope 112 = .ok (.goto 9, 3) := by decide +kernel
theorem dX12_envelope_115 : decode cX12_envelope 115 = .ok (.aload_n 0, 1) := by decide +kernel
theorem dX12_envelope_116 : decode cX12_envelope 116 = .ok (.getfield 48, 3) := by decide +kernel
theorem dX12_envelope_119 : decode cX12_envelope 119 = .ok (.iload_n 1, 1) := by decide +kernel
theorem dX12_envelope_120 : decode cX12_envelope 120 = .ok (.iaload, 1) := by decide +kernel
theorem dX12_envelope_121 : decode cX12_envelope 121 = .ok (.invokevirtual 152, 3) := by decide +kernel
theorem dX12_envelope_124 : decode cX12_envelope 124 = .ok (.return_, 1) := by decide +kernel
theorem dX12_numbers_0 : decode cX12_numbers 0 = .ok (.aload_n 0, 1) := by decide +kernel
theorem dX12_numbers_1 : decode cX12_numbers 1 = .ok (.getfield 149, 3) := by decide +kernel
theorem dX12_numbers_4 : decode cX12_numbers 4 = .ok (.iconst 1, 1) := by decide +kernel
theorem dX12_numbers_5 : decode cX12_numbers 5 = .ok (.isub, 1) := by decide +kernel
theorem dX12_numbers_6 : decode cX12_numbers 6 = .ok (.istore_n 1, 1) := by decide +kernel
theorem dX12_numbers_7 : decode cX12_numbers 7 = .ok (.aload_n 0, 1) := by decide +kernel
theorem dX12_numbers_8 : decode cX12_numbers 8 = .ok (.getfield 167, 3) := by decide +kernel
theorem dX12_numbers_11 : decode cX12_numbers 11 = .ok (.ifCond .eq 25, 3) := by decide +kernel
theorem dX12_numbers_14 : decode cX12_numbers 14 = .ok (.aload_n 0, 1) := by decide +kernel
theorem dX12_numbers_15 : decode cX12_numbers 15 = .ok (.iconst 0, 1) := by decide +kernel
theorem dX12_numbers_16 : decode cX12_numbers 16 = .ok (.iconst 0, 1) := by decide +kernel
theorem dX12_numbers_17 : decode cX12_numbers 17 = .ok (.invokevirtual 163, 3) := by decide +kernel
theorem dX12_numbers_20 : decode cX12_numbers 20 = .ok (.aload_n 0, 1) := by decide +kernel
theorem dX12_numbers_21 : decode cX12_numbers 21 = .ok (.getfield 170, 3) := by decide +kernel
theorem dX12_numbers_24 : decode cX12_numbers 24 = .ok (.iconst 1, 1) := by decide +kernel
theorem dX12_numbers_25 : decode cX12_numbers 25 = .ok (.iadd, 1) := by decide +kernel
theorem dX12_numbers_26 : decode cX12_numbers 26 = .ok (.if_icmp .eq 10, 3) := by decide +kernel
theorem dX12_numbers_29 : decode cX12_numbers 29 = .ok (.aload_n 0, 1) := by decide +kernel
theorem dX12_numbers_30 : decode cX12_numbers 30 = .ok (.bipush 10, 2) := by decide +kernel
theorem dX12_numbers_32 : decode cX12_numbers 32 = .ok (.iconst 0, 1) := by decide +kernel
theorem dX12_numbers_33 : decode cX12_numbers 33 = .ok (.invokevirtual 152, 3) := by decide +kernel
theorem dX12_numbers_36 : decode cX12_numbers 36 = .ok (.aload_n 0, 1) := by decide +kernel
theorem dX12_numbers_37 : decode cX12_numbers 37 = .ok (.iload_n 1, 1) := by decide +kernel
theorem dX12_numbers_38 : decode cX12_numbers 38 = .ok (.iconst 0, 1) := by decide +kernel
theorem dX12_numbers_39 : decode cX12_numbers 39 = .ok (.invokevirtual 163, 3) := by decide +kernel
theorem dX12_numbers_42 : decode cX12_numbers 42 = .ok (.aload_n 0, 1) := by decide +kernel
theorem dX12_numbers_43 : decode cX12_numbers 43 = .ok (.getfield 149, 3) := by decide +kernel
theorem dX12_numbers_46 : decode cX12_numbers 46 = .ok (.if_icmp .eq 15, 3) := by decide +kernel
theorem dX12_numbers_49 : decode cX12_numbers 49 = .ok (.aload_n 0, 1) := by decide +kernel
theorem dX12_numbers_50 : decode cX12_numbers 50 = .ok (.bipush 8, 2) := by decide +kernel
theorem dX12_numbers_52 : decode cX12_numbers 52 = .ok (.aload_n 0, 1) := by decide +kernel
theorem dX12_numbers_53 : decode cX12_numbers 53 = .ok (.getfield 48, 3) := by decide +kernel
theorem dX12_numbers_56 : decode cX12_numbers 56 = .ok (.iload_n 1, 1) := by decide +kernel
theorem dX12_numbers_57 : decode cX12_numbers 57 = .ok (.iaload, 1) := by decide +kernel
theorem dX12_numbers_58 : decode cX12_numbers 58 = .ok (.invokevirtual 152, 3) := by decide +kernel
theorem dX12_numbers_61 : decode cX12_numbers 61 = .ok (.aload_n 0, 1) := by decide +kernel
theorem dX12_numbers_62 : decode cX12_numbers 62 = .ok (.iload_n 1, 1) := by decide +kernel
theorem dX12_numbers_63 : decode cX12_numbers 63 = .ok (.iconst 1, 1) := by decide +kernel
theorem dX12_numbers_64 : decode cX12_numbers 64 = .ok (.invokevirtual 163, 3) := by decide +kernel
theorem dX12_numbers_67 : decode cX12_numbers 67 = .ok (.aload_n 0, 1) := by decide +kernel
theorem dX12_numbers_68 : decode cX12_numbers 68 = .ok (.iconst 0, 1) := by decide +kernel
theorem dX12_numbers_69 : decode cX12_numbers 69 = .ok (.iconst 0, 1) := by decide +kernel
theorem dX12_numbers_70 : decode cX12_numbers 70 = .ok (.invokevirtual 163, 3) := by decide +kernel
theorem dX12_numbers_73 : decode cX12_numbers 73 = .ok (.if_icmp .eq 15, 3) := by decide +kernel
theorem dX12_numbers_76 : decode cX12_numbers 76 = .ok (.aload_n 0, 1) := by decide +kernel
theorem dX12_numbers_77 : decode cX12_numbers 77 = .ok (.bipush 9, 2) := by decide +kernel
theorem dX12_numbers_79 : decode cX12_numbers 79 = .ok (.aload_n 0, 1) := by decide +kernel
theorem dX12_numbers_80 : decode cX12_numbers 80 = .ok (.getfield 48, 3) := by decide +kernel
theorem dX12_numbers_83 : decode cX12_numbers 83 = .ok (.iload_n 1, 1) := by decide +kernel
theorem dX12_numbers_84 : decode cX12_numbers 84 = .ok (.iaload, 1) := by decide +kernel
theorem dX12_numbers_85 : decode cX12_numbers 85 = .ok (.invokevirtual 152, 3) := by decide +kernel
theorem dX12_numbers_88 : decode cX12_numbers 88 = .ok (.return_, 1) := by decide +kernel
theorem dX12_isSkipped_0 : decode cX12_isSkipped 0 = .ok (.aload_n 0, 1) := by decide +kernel
theorem dX12_isSkipped_1 : decode cX12_isSkipped 1 = .ok (.getfield 33, 3) := by decide +kernel
theorem dX12_isSkipped_4 : decode cX12_isSkipped 4 = .ok (.iload_n 1, 1) := by decide +kernel
theorem dX12_isSkipped_5 : decode cX12_isSkipped 5 = .ok (.iaload, 1) := by decide +kernel
theorem dX12_isSkipped_6 : decode cX12_isSkipped 6 = .ok (.ifCond .ne 7, 3) := by decide +kernel
theorem dX12_isSkipped_9 : decode cX12_isSkipped 9 = .ok (.iconst 1, 1) := by decide +kernel
theorem dX12_isSkipped_10 : decode cX12_isSkipped 10 = .ok (.goto 4, 3) := by decide +kernel
theorem dX12_isSkipped_13 : decode cX12_isSkipped 13 = .ok (.iconst 0, 1) := by decide +kernel
theorem dX12_isSkipped_14 : decode cX12_isSkipped 14 = .ok (.ireturn, 1) := by decide +kernel
theorem dX12_enters_0 : decode cX12_enters 0 = .ok (.iconst 1, 1) := by decide +kernel
theorem dX12_enters_1 : decode cX12_enters 1 = .ok (.istore 5, 2) := by decide +kernel
theorem dX12_enters_3 : decode cX12_enters 3 = .ok (.iload_n 1, 1) := by decide +kernel
theorem dX12_enters_4 : decode cX12_enters 4 = .ok (.istore 6, 2) := by decide +kernel
theorem dX12_enters_6 : decode cX12_enters 6 = .ok (.iload 6, 2) := by decide +kernel
theorem dX12_enters_8 : decode cX12_enters 8 = .ok (.iload_n 2, 1) := by decide +kernel
theorem dX12_enters_9 : decode cX12_enters 9 = .ok (.if_icmp .gt 79, 3) := by decide +kernel
theorem dX12_enters_12 : decode cX12_enters 12 = .ok (.iload 5, 2) := by decide +kernel
theorem dX12_enters_14 : decode cX12_enters 14 = .ok (.ifCond .eq 46, 3) := by decide +kernel
theorem dX12_enters_17 : decode cX12_enters 17 = .ok (.aload_n 0, 1) := by decide +kernel
theorem dX12_enters_18 : decode cX12_enters 18 = .ok (.getfield 7, 3) := by decide +kernel
theorem dX12_enters_21 : decode cX12_enters 21 = .ok (.iload 6, 2) := by decide +kernel
theorem dX12_enters_23 : decode cX12_enters 23 = .ok (.caload, 1) := by decide +kernel
theorem dX12_enters_24 : decode cX12_enters 24 = .ok (.iload 4, 2) := by decide +kernel
theorem dX12_enters_26 : decode cX12_enters 26 = .ok (.if_icmp .ne 34, 3) := by decide +kernel
theorem dX12_enters_29 : decode cX12_enters 29 = .ok (.aload_n 0, 1) := by decide +kernel
theorem dX12_enters_30 : decode cX12_enters 30 = .ok (.getfield 84, 3) := by decide +kernel
theorem dX12_enters_33 : decode cX12_enters 33 = .ok (.aload_n 0, 1) := by decide +kernel
theorem dX12_enters_34 : decode cX12_enters 34 = .ok (.getfield 173, 3) := by decide +kernel
theorem dX12_enters_37 : decode cX12_enters 37 = .ok (.bipush 100, 2) := by decide +kernel
theorem dX12_enters_39 : decode cX12_enters 39 = .ok (.iload 6, 2) := by decide +kernel
theorem dX12_enters_41 : decode cX12_enters 41 = .ok (.imul, 1) := by decide +kernel
theorem dX12_enters_42 : decode cX12_enters 42 = .ok (.bipush 10, 2) := by decide +kernel
theorem dX12_enters_44 : decode cX12_enters 44 = .ok (.iload_n 3, 1) := by decide +kernel
theorem dX12_enters_45 : decode cX12_enters 45 = .ok (.imul, 1) := by decide +kernel
theorem dX12_enters_46 : decode cX12_enters 46 = .ok (.iadd, 1) := by decide +kernel
theorem dX12_enters_47 : decode cX12_enters 47 = .ok (.iconst 1, 1) := by decide +kernel
theorem dX12_enters_48 : decode cX12_enters 48 = .ok (.iadd, 1) := by decide +kernel
theorem dX12_enters_49 : decode cX12_enters 49 = .ok (.iastore, 1) := by decide +kernel
theorem dX12_enters_50 : decode cX12_enters 50 = .ok (.aload_n 0, 1) := by decide +kernel
theorem dX12_enters_51 : decode cX12_enters 51 = .ok (.dup, 1) := by decide +kernel
theorem dX12_enters_52 : decode cX12_enters 52 = .ok (.getfield 173, 3) := by decide +kernel
theorem dX12_enters_55 : decode cX12_enters 55 = .ok (.iconst 1, 1) := by decide +kernel
theorem dX12_enters_56 : decode cX12_enters 56 = .ok (.iadd, 1) := by decide +kernel
theorem dX12_enters_57 : decode cX12_enters 57 = .ok (.putfield 173, 3) := by decide +kernel
theorem dX12_enters_60 : decode cX12_enters 60 = .ok (.iload 5, 2) := by decide +kernel
theorem dX12_enters_62 : decode cX12_enters 62 = .ok (.ifCond .eq 17, 3) := by decide +kernel
theorem dX12_enters_65 : decode cX12_enters 65 = .ok (.aload_n 0, 1) := by decide +kernel
theorem dX12_enters_66 : decode cX12_enters 66 = .ok (.getfield 13, 3) := by decide +kernel
theorem dX12_enters_69 : decode cX12_enters 69 = .ok (.iload 6, 2) := by decide +kernel
theorem dX12_enters_71 : decode cX12_enters 71 = .ok (.iaload, 1) := by decide +kernel
theorem dX12_enters_72 : decode cX12_enters 72 = .ok (.ifCond .ne 7, 3) := by decide +kernel
theorem dX12_enters_75 : decode cX12_enters 75 = .ok (.iconst 1, 1) := by decide +kernel
theorem dX12_enters_76 : decode cX12_enters 76 = .ok (.goto 4, 3) := by decide +kernel
theorem dX12_enters_79 : decode cX12_enters 79 = .ok (.iconst 0, 1) := by decide +kernel
theorem dX12_enters_80 : decode cX12_enters 80 = .ok (.istore 5, 2) := by decide +kernel
theorem dX12_enters_82 : decode cX12_enters 82 = .ok (.iinc 6 1, 3) := by decide +kernel
theorem dX12_enters_85 : decode cX12_enters 85 = .ok (.goto (-79), 3) := by decide +kernel
theorem dX12_enters_88 : decode cX12_enters 88 = .ok (.iload 5, 2) := by decide +kernel
theorem dX12_enters_90 : decode cX12_enters 90 = .ok (.ireturn, 1) := by decide +kernel
theorem dX12_leads_0 : decode cX12_leads 0 = .ok (.aload_n 0, 1) := by decide +kernel
theorem dX12_leads_1 : decode cX12_leads 1 = .ok (.iconst 0, 1) := by decide +kernel
theorem dX12_leads_2 : decode cX12_leads 2 = .ok (.putfield 173, 3) := by decide +kernel
theorem dX12_leads_5 : decode cX12_leads 5 = .ok (.iconst 0, 1) := by decide +kernel
theorem dX12_leads_6 : decode cX12_leads 6 = .ok (.istore_n 3, 1) := by decide +kernel
theorem dX12_leads_7 : decode cX12_leads 7 = .ok (.iload_n 1, 1) := by decide +kernel
theorem dX12_leads_8 : decode cX12_leads 8 = .ok (.sipush 1000, 3) := by decide +kernel
theorem dX12_leads_11 : decode cX12_leads 11 = .ok (.if_icmp .eq 214, 3) := by decide +kernel
theorem dX12_leads_14 : decode cX12_leads 14 = .ok (.iload_n 1, 1) := by decide +kernel
theorem dX12_leads_15 : decode cX12_leads 15 = .ok (.bipush 100, 2) := by decide +kernel
theorem dX12_leads_17 : decode cX12_leads 17 = .ok (.idiv, 1) := by decide +kernel
theorem dX12_leads_18 : decode cX12_leads 18 = .ok (.istore 4, 2) := by decide +kernel
theorem dX12_leads_20 : decode cX12_leads 20 = .ok (.iload_n 1, 1) := by decide +kernel
theorem dX12_leads_21 : decode cX12_leads 21 = .ok (.bipush 10, 2) := by decide +kernel
theorem dX12_leads_23 : decode cX12_leads 23 = .ok (.idiv, 1) := by decide +kernel
theorem dX12_leads_24 : decode cX12_leads 24 = .ok (.bipush 10, 2) := by decide +kernel
theorem dX12_leads_26 : decode cX12_leads 26 = .ok (.irem, 1) := by decide +kernel
theorem dX12_leads_27 : decode cX12_leads 27 = .ok (.istore 5, 2) := by decide +kernel
theorem dX12_leads_29 : decode cX12_leads 29 = .ok (.iload_n 1, 1) := by decide +kernel
theorem dX12_leads_30 : decode cX12_leads 30 = .ok (.bipush 10, 2) := by decide +kernel
theorem dX12_leads_32 : decode cX12_leads 32 = .ok (.irem, 1) := by decide +kernel
theorem dX12_leads_33 : decode cX12_leads 33 = .ok (.istore 6, 2) := by decide +kernel
theorem dX12_leads_35 : decode cX12_leads 35 = .ok (.aload_n 0, 1) := by decide +kernel
theorem dX12_leads_36 : decode cX12_leads 36 = .ok (.getfield 20, 3) := by decide +kernel
theorem dX12_leads_39 : decode cX12_leads 39 = .ok (.iload 4, 2) := by decide +kernel
theorem dX12_leads_41 : decode cX12_leads 41 = .ok (.iaload, 1) := by decide +kernel
theorem dX12_leads_42 : decode cX12_leads 42 = .ok (.istore 7, 2) := by decide +kernel
theorem dX12_leads_44 : decode cX12_leads 44 = .ok (.aload_n 0, 1) := by decide +kernel
theorem dX12_leads_45 : decode cX12_leads 45 = .ok (.getfield 7, 3) := by decide +kernel
theorem dX12_leads_48 : decode cX12_leads 48 = .ok (.iload 4, 2) := by decide +kernel
theorem dX12_leads_50 : decode cX12_leads 50 = .ok (.caload, 1) := by decide +kernel
theorem dX12_leads_51 : decode cX12_leads 51 = .ok (.iload_n 2, 1) := by decide +kernel
theorem dX12_leads_52 : decode cX12_leads 52 = .ok (.if_icmp .ne 37, 3) := by decide +kernel
theorem dX12_leads_55 : decode cX12_leads 55 = .ok (.iload 6, 2) := by decide +kernel
theorem dX12_leads_57 : decode cX12_leads 57 = .ok (.aload_n 0, 1) := by decide +kernel
theorem dX12_leads_58 : decode cX12_leads 58 = .ok (.getfield 17, 3) := by decide +kernel
theorem dX12_leads_61 : decode cX12_leads 61 = .ok (.iload 4, 2) := by decide +kernel
theorem dX12_leads_63 : decode cX12_leads 63 = .ok (.iaload, 1) := by decide +kernel
theorem dX12_leads_64 : decode cX12_leads 64 = .ok (.if_icmp .ge 25, 3) := by decide +kernel
theorem dX12_leads_67 : decode cX12_leads 67 = .ok (.aload_n 0, 1) := by decide +kernel
theorem dX12_leads_68 : decode cX12_leads 68 = .ok (.getfield 84, 3) := by decide +kernel
theorem dX12_leads_71 : decode cX12_leads 71 = .ok (.aload_n 0, 1) := by decide +kernel
theorem dX12_leads_72 : decode cX12_leads 72 = .ok (.getfield 173, 3) := by decide +kernel
theorem dX12_leads_75 : decode cX12_leads 75 = .ok (.iload_n 1, 1) := by decide +kernel
theorem dX12_leads_76 : decode cX12_leads 76 = .ok (.iconst 1, 1) := by decide +kernel
theorem dX12_leads_77 : decode cX12_leads 77 = .ok (.iadd, 1) := by decide +kernel
theorem dX12_leads_78 : decode cX12_leads 78 = .ok (.iastore, 1) := by decide +kernel
theorem dX12_leads_79 : decode cX12_leads 79 = .ok (.aload_n 0, 1) := by decide +kernel
theorem dX12_leads_80 : decode cX12_leads 80 = .ok (.dup, 1) := by decide +kernel
theorem dX12_leads_81 : decode cX12_leads 81 = .ok (.getfield 173, 3) := by decide +kernel
theorem dX12_leads_84 : decode cX12_leads 84 = .ok (.iconst 1, 1) := by decide +kernel
theorem dX12_leads_85 : decode cX12_leads 85 = .ok (.iadd, 1) := by decide +kernel
theorem dX12_leads_86 : decode cX12_leads 86 = .ok (.putfield 173, 3) := by decide +kernel
theorem dX12_leads_89 : decode cX12_leads 89 = .ok (.iload 6, 2) := by decide +kernel
theorem dX12_leads_91 : decode cX12_leads 91 = .ok (.aload_n 0, 1) := by decide +kernel
theorem dX12_leads_92 : decode cX12_leads 92 = .ok (.getfield 13, 3) := by decide +kernel
theorem dX12_leads_95 : decode cX12_leads 95 = .ok (.iload 4, 2) := by decide +kernel
theorem dX12_leads_97 : decode cX12_leads 97 = .ok (.iaload, 1) := by decide +kernel
theorem dX12_leads_98 : decode cX12_leads 98 = .ok (.if_icmp .lt 7, 3) := by decide +kernel
theorem dX12_leads_101 : decode cX12_leads 101 = .ok (.iconst 1, 1) := by decide +kernel
theorem dX12_leads_102 : decode cX12_leads 102 = .ok (.goto 4, 3) := by decide +kernel
theorem dX12_leads_105 : decode cX12_leads 105 = .ok (.iconst 0, 1) := by decide +kernel
theorem dX12_leads_106 : decode cX12_leads 106 = .ok (.istore 8, 2) := by decide +kernel
theorem dX12_leads_108 : decode cX12_leads 108 = .ok (.iload 8, 2) := by decide +kernel
theorem dX12_leads_110 : decode cX12_leads 110 = .ok (.ifCond .eq 98, 3) := by decide +kernel
theorem dX12_leads_113 : decode cX12_leads 113 = .ok (.aload_n 0, 1) := by decide +kernel
theorem dX12_leads_114 : decode cX12_leads 114 = .ok (.getfield 23, 3) := by decide +kernel
theorem dX12_leads_117 : decode cX12_leads 117 = .ok (.iload 7, 2) := by decide +kernel
theorem dX12_leads_119 : decode cX12_leads 119 = .ok (.baload, 1) := by decide +kernel
theorem dX12_leads_120 : decode cX12_leads 120 = .ok (.ifCond .eq 88, 3) := by decide +kernel
theorem dX12_leads_123 : decode cX12_leads 123 = .ok (.aload_n 0, 1) := by decide +kernel
theorem dX12_leads_124 : decode cX12_leads 124 = .ok (.iload 4, 2) := by decide +kernel
theorem dX12_leads_126 : decode cX12_leads 126 = .ok (.iconst 1, 1) := by decide +kernel
theorem dX12_leads_127 : decode cX12_leads 127 = .ok (.iadd, 1) := by decide +kernel
theorem dX12_leads_128 : decode cX12_leads 128 = .ok (.aload_n 0, 1) := by decide +kernel
theorem dX12_leads_129 : decode cX12_leads 129 = .ok (.getfield 30, 3) := by decide +kernel
theorem dX12_leads_132 : decode cX12_leads 132 = .ok (.iload 7, 2) := by decide +kernel
theorem dX12_leads_134 : decode cX12_leads 134 = .ok (.iaload, 1) := by decide +kernel
theorem dX12_leads_135 : decode cX12_leads 135 = .ok (.iload 5, 2) := by decide +kernel
theorem dX12_leads_137 : decode cX12_leads 137 = .ok (.iload_n 2, 1) := by decide +kernel
theorem dX12_leads_138 : decode cX12_leads 138 = .ok (.invokevirtual 176, 3) := by decide +kernel
theorem dX12_leads_141 : decode cX12_leads 141 = .ok (.istore 8, 2) := by decide +kernel
theorem dX12_leads_143 : decode cX12_leads 143 = .ok (.iload 8, 2) := by decide +kernel
theorem dX12_leads_145 : decode cX12_leads 145 = .ok (.ifCond .eq 39, 3) := by decide +kernel
theorem dX12_leads_148 : decode cX12_leads 148 = .ok (.iload 5, 2) := by decide +kernel
theorem dX12_leads_150 : decode cX12_leads 150 = .ok (.aload_n 0, 1) := by decide +kernel
theorem dX12_leads_151 : decode cX12_leads 151 = .ok (.getfield 36, 3) := by decide +kernel
theorem dX12_leads_154 : decode cX12_leads 154 = .ok (.iload 7, 2) := by decide +kernel
theorem dX12_leads_156 : decode cX12_leads 156 = .ok (.iaload, 1) := by decide +kernel
theorem dX12_leads_157 : decode cX12_leads 157 = .ok (.if_icmp .ge 27, 3) := by decide +kernel
theorem dX12_leads_160 : decode cX12_leads 160 = .ok (.aload_n 0, 1) := by decide +kernel
theorem dX12_leads_161 : decode cX12_leads 161 = .ok (.aload_n 0, 1) := by decide +kernel
theorem dX12_leads_162 : decode cX12_leads 162 = .ok (.getfield 27, 3) := by decide +kernel
theorem dX12_leads_165 : decode cX12_leads 165 = .ok (.iload 7, 2) := by decide +kernel
theorem dX12_leads_167 : decode cX12_leads 167 = .ok (.iaload, 1) := by decide +kernel
theorem dX12_leads_168 : decode cX12_leads 168 = .ok (.aload_n 0, 1) := by decide +kernel
theorem dX12_leads_169 : decode cX12_leads 169 = .ok (.getfield 30, 3) := by decide +kernel
theorem dX12_leads_172 : decode cX12_leads 172 = .ok (.iload 7, 2) := by decide +kernel
theorem dX12_leads_174 : decode cX12_leads 174 = .ok (.iaload, 1) := by decide +kernel
theorem dX12_leads_175 : decode cX12_leads 175 = .ok (.iload 5, 2) := by decide +kernel
theorem dX12_leads_177 : decode cX12_leads 177 = .ok (.iconst 1, 1) := by decide +kernel
theorem dX12_leads_178 : decode cX12_leads 178 = .ok (.iadd, 1) := by decide +kernel
theorem dX12_leads_179 : decode cX12_leads 179 = .ok (.iload_n 2, 1) := by decide +kernel
theorem dX12_leads_180 : decode cX12_leads 180 = .ok (.invokevirtual 176, 3) := by decide +kernel
theorem dX12_leads_183 : decode cX12_leads 183 = .ok (.pop, 1) := by decide +kernel
theorem dX12_leads_184 : decode cX12_leads 184 = .ok (.iload 8, 2) := by decide +kernel
theorem dX12_leads_186 : decode cX12_leads 186 = .ok (.ifCond .eq 19, 3) := by decide +kernel
theorem dX12_leads_189 : decode cX12_leads 189 = .ok (.iload 5, 2) := by decide +kernel
theorem dX12_leads_191 : decode cX12_leads 191 = .ok (.aload_n 0, 1) := by decide +kernel
theorem dX12_leads_192 : decode cX12_leads 192 = .ok (.getfield 33, 3) := by decide +kernel
theorem dX12_leads_195 : decode cX12_leads 195 = .ok (.iload 7, 2) := by decide +kernel
theorem dX12_leads_197 : decode cX12_leads 197 = .ok (.iaload, 1) := by decide +kernel
theorem dX12_leads_198 : decode cX12_leads 198 = .ok (.if_icmp .lt 7, 3) := by decide +kernel
theorem dX12_leads_201 : decode cX12_leads 201 = .ok (.iconst 1, 1) := by decide +kernel
theorem dX12_leads_202 : decode cX12_leads 202 = .ok (.goto 4, 3) := by decide +kernel
theorem dX12_leads_205 : decode cX12_leads 205 = .ok (.iconst 0, 1) := by decide +kernel
theorem dX12_leads_206 : decode cX12_leads 206 = .ok (.istore 8, 2) := by decide +kernel
theorem dX12_leads_208 : decode cX12_leads 208 = .ok (.iload 8, 2) := by decide +kernel
theorem dX12_leads_210 : decode cX12_leads 210 = .ok (.ifCond .eq 10, 3) := by decide +kernel
theorem dX12_leads_213 : decode cX12_leads 213 = .ok (.iload 7, 2) := by decide +kernel
theorem dX12_leads_215 : decode cX12_leads 215 = .ok (.iconst 1, 1) := by decide +kernel
theorem dX12_leads_216 : decode cX12_leads 216 = .ok (.iadd, 1) := by decide +kernel
theorem dX12_leads_217 : decode cX12_leads 217 = .ok (.goto 7, 3) := by decide +kernel
theorem dX12_leads_220 : decode cX12_leads 220 = .ok (.aload_n 0, 1) := by decide +kernel
theorem dX12_leads_221 : decode cX12_leads 221 = .ok (.getfield 134, 3) := by decide +kernel
theorem dX12_leads_224 : decode cX12_leads 224 = .ok (.istore_n 3, 1) := by decide +kernel
theorem dX12_leads_225 : decode cX12_leads 225 = .ok (.iconst 1, 1) := by decide +kernel
theorem dX12_leads_226 : decode cX12_leads 226 = .ok (.istore 4, 2) := by decide +kernel
theorem dX12_leads_228 : decode cX12_leads 228 = .ok (.iload_n 3, 1) := by decide +kernel
theorem dX12_leads_229 : decode cX12_leads 229 = .ok (.istore 5, 2) := by decide +kernel
theorem dX12_leads_231 : decode cX12_leads 231 = .ok (.iload 5, 2) := by decide +kernel
theorem dX12_leads_233 : decode cX12_leads 233 = .ok (.aload_n 0, 1) := by decide +kernel
theorem dX12_leads_234 : decode cX12_leads 234 = .ok (.getfield 134, 3) := by decide +kernel
theorem dX12_leads_237 : decode cX12_leads 237 = .ok (.if_icmp .ge 57, 3) := by decide +kernel
theorem dX12_leads_240 : decode cX12_leads 240 = .ok (.iload 4, 2) := by decide +kernel
theorem dX12_leads_242 : decode cX12_leads 242 = .ok (.ifCond .eq 52, 3) := by decide +kernel
theorem dX12_leads_245 : decode cX12_leads 245 = .ok (.aload_n 0, 1) := by decide +kernel
theorem dX12_leads_246 : decode cX12_leads 246 = .ok (.aload_n 0, 1) := by decide +kernel
theorem dX12_leads_247 : decode cX12_leads 247 = .ok (.getfield 27, 3) := by decide +kernel
theorem dX12_leads_250 : decode cX12_leads 250 = .ok (.iload 5, 2) := by decide +kernel
theorem dX12_leads_252 : decode cX12_leads 252 = .ok (.iaload, 1) := by decide +kernel
theorem dX12_leads_253 : decode cX12_leads 253 = .ok (.aload_n 0, 1) := by decide +kernel
theorem dX12_leads_254 : decode cX12_leads 254 = .ok (.getfield 30, 3) := by decide +kernel
theorem dX12_leads_257 : decode cX12_leads 257 = .ok (.iload 5, 2) := by decide +kernel
theorem dX12_leads_259 : decode cX12_leads 259 = .ok (.iaload, 1) := by decide +kernel
theorem dX12_leads_260 : decode cX12_leads 260 = .ok (.aload_n 0, 1) := by decide +kernel
theorem dX12_leads_261 : decode cX12_leads 261 = .ok (.getfield 23, 3) := by decide +kernel
theorem dX12_leads_264 : decode cX12_leads 264 = .ok (.iload 5, 2) := by decide +kernel
theorem dX12_leads_266 : decode cX12_leads 266 = .ok (.baload, 1) := by decide +kernel
theorem dX12_leads_267 : decode cX12_leads 267 = .ok (.ifCond .eq 7, 3) := by decide +kernel
theorem dX12_leads_270 : decode cX12_leads 270 = .ok (.iconst 1, 1) := by decide +kernel
theorem dX12_leads_271 : decode cX12_leads 271 = .ok (.goto 4, 3) := by decide +kernel
theorem dX12_leads_274 : decode cX12_leads 274 = .ok (.iconst 0, 1) := by decide +kernel
theorem dX12_leads_275 : decode cX12_leads 275 = .ok (.iload_n 2, 1) := by decide +kernel
theorem dX12_leads_276 : decode cX12_leads 276 = .ok (.invokevirtual 176, 3) := by decide +kernel
theorem dX12_leads_279 : decode cX12_leads 279 = .ok (.pop, 1) := by decide +kernel
theorem dX12_leads_280 : decode cX12_leads 280 = .ok (.aload_n 0, 1) := by decide +kernel
theorem dX12_leads_281 : decode cX12_leads 281 = .ok (.iload 5, 2) := by decide +kernel
theorem dX12_leads_283 : decode cX12_leads 283 = .ok (.invokevirtual 180, 3) := by decide +kernel
theorem dX12_leads_286 : decode cX12_leads 286 = .ok (.istore 4, 2) := by decide +kernel
theorem dX12_leads_288 : decode cX12_leads 288 = .ok (.iinc 5 1, 3) := by decide +kernel
theorem dX12_leads_291 : decode cX12_leads 291 = .ok (.goto (-60), 3) := by decide +kernel
theorem dX12_leads_294 : decode cX12_leads 294 = .ok (.return_, 1) := by decide +kernel
theorem dX12_canEnd_0 : decode cX12_canEnd 0 = .ok (.iconst 1, 1) := by decide +kernel
theorem dX12_canEnd_1 : decode cX12_canEnd 1 = .ok (.istore_n 2, 1) := by decide +kernel
theorem dX12_canEnd_2 : decode cX12_canEnd 2 = .ok (.iconst 0, 1) := by decide +kernel
theorem dX12_canEnd_3 : decode cX12_canEnd 3 = .ok (.istore_n 3, 1) := by decide +kernel
theorem dX12_canEnd_4 : decode cX12_canEnd 4 = .ok (.iload_n 1, 1) := by decide +kernel
theorem dX12_canEnd_5 : decode cX12_canEnd 5 = .ok (.sipush 1000, 3) := by decide +kernel
theorem dX12_canEnd_8 : decode cX12_canEnd 8 = .ok (.if_icmp .eq 114, 3) := by decide +kernel
theorem dX12_canEnd_11 : decode cX12_canEnd 11 = .ok (.iload_n 1, 1) := by decide +kernel
theorem dX12_canEnd_12 : decode cX12_canEnd 12 = .ok (.bipush 100, 2) := by decide +kernel
theorem dX12_canEnd_14 : decode cX12_canEnd 14 = .ok (.idiv, 1) := by decide +kernel
theorem dX12_canEnd_15 : decode cX12_canEnd 15 = .ok (.istore 4, 2) := by decide +kernel
theorem dX12_canEnd_17 : decode cX12_canEnd 17 = .ok (.aload_n 0, 1) := by decide +kernel
theorem dX12_canEnd_18 : decode cX12_canEnd 18 = .ok (.getfield 20, 3) := by decide +kernel
theorem dX12_canEnd_21 : decode cX12_canEnd 21 = .ok (.iload 4, 2) := by decide +kernel
theorem dX12_canEnd_23 : decode cX12_canEnd 23 = .ok (.iaload, 1) := by decide +kernel
theorem dX12_canEnd_24 : decode cX12_canEnd 24 = .ok (.istore 5, 2) := by decide +kernel
theorem dX12_canEnd_26 : decode cX12_canEnd 26 = .ok (.iload_n 1, 1) := by decide +kernel
theorem dX12_canEnd_27 : decode cX12_canEnd 27 = .ok (.bipush 10, 2) := by decide +kernel
theorem dX12_canEnd_29 : decode cX12_canEnd 29 = .ok (.irem, 1) := by decide +kernel
theorem dX12_canEnd_30 : decode cX12_canEnd 30 = .ok (.aload_n 0, 1) := by decide +kernel
theorem dX12_canEnd_31 : decode cX12_canEnd 31 = .ok (.getfield 13, 3) := by decide +kernel
theorem dX12_canEnd_34 : decode cX12_canEnd 34 = .ok (.iload 4, 2) := by decide +kernel
theorem dX12_canEnd_36 : decode cX12_canEnd 36 = .ok (.iaload, 1) := by decide +kernel
theorem dX12_canEnd_37 : decode cX12_canEnd 37 = .ok (.if_icmp .lt 34, 3) := by decide +kernel
theorem dX12_canEnd_40 : decode cX12_canEnd 40 = .ok (.aload_n 0, 1) := by decide +kernel
theorem dX12_canEnd_41 : decode cX12_canEnd 41 = .ok (.getfield 23, 3) := by decide +kernel
theorem dX12_canEnd_44 : decode cX12_canEnd 44 = .ok (.iload 5, 2) := by decide +kernel
theorem dX12_canEnd_46 : decode cX12_canEnd 46 = .ok (.baload, 1) := by decide +kernel
theorem dX12_canEnd_47 : decode cX12_canEnd 47 = .ok (.ifCond .eq 20, 3) := by decide +kernel
theorem dX12_canEnd_50 : decode cX12_canEnd 50 = .ok (.iload_n 1, 1) := by decide +kernel
theorem dX12_canEnd_51 : decode cX12_canEnd 51 = .ok (.bipush 10, 2) := by decide +kernel
theorem dX12_canEnd_53 : decode cX12_canEnd 53 = .ok (.idiv, 1) := by decide +kernel
theorem dX12_canEnd_54 : decode cX12_canEnd 54 = .ok (.bipush 10, 2) := by decide +kernel
theorem dX12_canEnd_56 : decode cX12_canEnd 56 = .ok (.irem, 1) := by decide +kernel
theorem dX12_canEnd_57 : decode cX12_canEnd 57 = .ok (.aload_n 0, 1) := by decide +kernel
theorem dX12_canEnd_58 : decode cX12_canEnd 58 = .ok (.getfield 33, 3) := by decide +kernel
theorem dX12_canEnd_61 : decode cX12_canEnd 61 = .ok (.iload 5, 2) := by decide +kernel
theorem dX12_canEnd_63 : decode cX12_canEnd 63 = .ok (.iaload, 1) := by decide +kernel
theorem dX12_canEnd_64 : decode cX12_canEnd 64 = .ok (.if_icmp .lt 7, 3) := by decide +kernel
theorem dX12_canEnd_67 : decode cX12_canEnd 67 = .ok (.iconst 1, 1) := by decide +kernel
theorem dX12_canEnd_68 : decode cX12_canEnd 68 = .ok (.goto 4, 3) := by decide +kernel
theorem dX12_canEnd_71 : decode cX12_canEnd 71 = .ok (.iconst 0, 1) := by decide +kernel
theorem dX12_canEnd_72 : decode cX12_canEnd 72 = .ok (.istore_n 2, 1) := by decide +kernel
theorem dX12_canEnd_73 : decode cX12_canEnd 73 = .ok (.iload 4, 2) := by decide +kernel
theorem dX12_canEnd_75 : decode cX12_canEnd 75 = .ok (.iconst 1, 1) := by decide +kernel
theorem dX12_canEnd_76 : decode cX12_canEnd 76 = .ok (.iadd, 1) := by decide +kernel
theorem dX12_canEnd_77 : decode cX12_canEnd 77 = .ok (.istore 6, 2) := by decide +kernel
theorem dX12_canEnd_79 : decode cX12_canEnd 79 = .ok (.iload 6, 2) := by decide +kernel
theorem dX12_canEnd_81 : decode cX12_canEnd 81 = .ok (.aload_n 0, 1) := by decide +kernel
theorem dX12_canEnd_82 : decode cX12_canEnd 82 = .ok (.getfield 30, 3) := by decide +kernel
theorem dX12_canEnd_85 : decode cX12_canEnd 85 = .ok (.iload 5, 2) := by decide +kernel
theorem dX12_canEnd_87 : decode cX12_canEnd 87 = .ok (.iaload, 1) := by decide +kernel
theorem dX12_canEnd_88 : decode cX12_canEnd 88 = .ok (.if_icmp .gt 29, 3) := by decide +kernel
theorem dX12_canEnd_91 : decode cX12_canEnd 91 = .ok (.iload_n 2, 1) := by decide +kernel
theorem dX12_canEnd_92 : decode cX12_canEnd 92 = .ok (.ifCond .eq 17, 3) := by decide +kernel
theorem dX12_canEnd_95 : decode cX12_canEnd 95 = .ok (.aload_n 0, 1) := by decide +kernel
theorem dX12_canEnd_96 : decode cX12_canEnd 96 = .ok (.getfield 13, 3) := by decide +kernel
theorem dX12_canEnd_99 : decode cX12_canEnd 99 = .ok (.iload 6, 2) := by decide +kernel
theorem dX12_canEnd_101 : decode cX12_canEnd 101 = .ok (.iaload, 1) := by decide +kernel
theorem dX12_canEnd_102 : decode cX12_canEnd 102 = .ok (.ifCond .ne 7, 3) := by decide +kernel
theorem dX12_canEnd_105 : decode cX12_canEnd 105 = .ok (.iconst 1, 1) := by decide +kernel
theorem dX12_canEnd_106 : decode cX12_canEnd 106 = .ok (.goto 4, 3) := by decide +kernel
theorem dX12_canEnd_109 : decode cX12_canEnd 109 = .ok (.iconst 0, 1) := by decide +kernel
theorem dX12_canEnd_110 : decode cX12_canEnd 110 = .ok (.istore_n 2, 1) := by decide +kernel
theorem dX12_canEnd_111 : decode cX12_canEnd 111 = .ok (.iinc 6 1, 3) := by decide +kernel
theorem dX12_canEnd_114 : decode cX12_canEnd 114 = .ok (.goto (-35), 3) := by decide +kernel
theorem dX12_canEnd_117 : decode cX12_canEnd 117 = .ok (.iload 5, 2) := by decide +kernel
theorem dX12_canEnd_119 : decode cX12_canEnd 119 = .ok (.iconst 1, 1) := by decide +kernel
theorem dX12_canEnd_120 : decode cX12_canEnd 120 = .ok (.iadd, 1) := by decide +kernel
theorem dX12_canEnd_121 : decode cX12_canEnd 121 = .ok (.istore_n 3, 1) := by decide +kernel
theorem dX12_canEnd_122 : decode cX12_canEnd 122 = .ok (.iload_n 3, 1) := by decide +kernel
theorem dX12_canEnd_123 : decode cX12_canEnd 123 = .ok (.istore 4, 2) := by decide +kernel
theorem dX12_canEnd_125 : decode cX12_canEnd 125 = .ok (.iload 4, 2) := by decide +kernel
theorem dX12_canEnd_127 : decode cX12_canEnd 127 = .ok (.aload_n 0, 1) := by decide +kernel
theorem dX12_canEnd_128 : decode cX12_canEnd 128 = .ok (.getfield 134, 3) := by decide +kernel
theorem dX12_canEnd_131 : decode cX12_canEnd 131 = .ok (.if_icmp .ge 28, 3) := by decide +kernel
theorem dX12_canEnd_134 : decode cX12_canEnd 134 = .ok (.iload_n 2, 1) := by decide +kernel
theorem dX12_canEnd_135 : decode cX12_canEnd 135 = .ok (.ifCond .eq 16, 3) := by decide +kernel
theorem dX12_canEnd_138 : decode cX12_canEnd 138 = .ok (.aload_n 0, 1) := by decide +kernel
theorem dX12_canEnd_139 : decode cX12_canEnd 139 = .ok (.iload 4, 2) := by decide +kernel
theorem dX12_canEnd_141 : decode cX12_canEnd 141 = .ok (.invokevirtual 180, 3) := by decide +kernel
theorem dX12_canEnd_144 : decode cX12_canEnd 144 = .ok (.ifCond .eq 7, 3) := by decide +kernel
theorem dX12_canEnd_147 : decode cX12_canEnd 147 = .ok (.iconst 1, 1) := by decide +kernel
theorem dX12_canEnd_148 : decode cX12_canEnd 148 = .ok (.goto 4, 3) := by decide +kernel
theorem dX12_canEnd_151 : decode cX12_canEnd 151 = .ok (.iconst 0, 1) := by decide +kernel
theorem dX12_canEnd_152 : decode cX12_canEnd 152 = .ok (.istore_n 2, 1) := by decide +kernel
theorem dX12_canEnd_153 : decode cX12_canEnd 153 = .ok (.iinc 4 1, 3) := by decide +kernel
theorem dX12_canEnd_156 : decode cX12_canEnd 156 = .ok (.goto (-31), 3) := by decide +kernel
theorem dX12_canEnd_159 : decode cX12_canEnd 159 = .ok (.iload_n 2, 1) := by decide +kernel
theorem dX12_canEnd_160 : decode cX12_canEnd 160 = .ok (.ireturn, 1) := by decide +kernel
theorem dX12_hopes_0 : decode cX12_hopes 0 = .ok (.iload_n 1, 1) := by decide +kernel
theorem dX12_hopes_1 : decode cX12_hopes 1 = .ok (.istore_n 2, 1) := by decide +kernel
theorem dX12_hopes_2 : decode cX12_hopes 2 = .ok (.iload_n 2, 1) := by decide +kernel
theorem dX12_hopes_3 : decode cX12_hopes 3 = .ok (.ifCond .lt 129, 3) := by decide +kernel
theorem dX12_hopes_6 : decode cX12_hopes 6 = .ok (.iconst 0, 1) := by decide +kernel
theorem dX12_hopes_7 : decode cX12_hopes 7 = .ok (.istore_n 3, 1) := by decide +kernel
theorem dX12_hopes_8 : decode cX12_hopes 8 = .ok (.iload_n 3, 1) := by decide +kernel
theorem dX12_hopes_9 : decode cX12_hopes 9 = .ok (.sipush 1000, 3) := by decide +kernel
theorem dX12_hopes_12 : decode cX12_hopes 12 = .ok (.if_icmp .gt 114, 3) := by decide +kernel
theorem dX12_hopes_15 : decode cX12_hopes 15 = .ok (.iload_n 3, 1) := by decide +kernel
theorem dX12_hopes_16 : decode cX12_hopes 16 = .ok (.sipush 1000, 3) := by decide +kernel
theorem dX12_hopes_19 : decode cX12_hopes 19 = .ok (.if_icmp .ne 15, 3) := by decide +kernel
theorem dX12_hopes_22 : decode cX12_hopes 22 = .ok (.iload_n 2, 1) := by decide +kernel
theorem dX12_hopes_23 : decode cX12_hopes 23 = .ok (.ifCond .ne 7, 3) := by decide +kernel
theorem dX12_hopes_26 : decode cX12_hopes 26 = .ok (.iconst 1, 1) := by decide +kernel
theorem dX12_hopes_27 : decode cX12_hopes 27 = .ok (.goto 30, 3) := by decide +kernel
theorem dX12_hopes_30 : decode cX12_hopes 30 = .ok (.iconst 0, 1) := by decide +kernel
theorem dX12_hopes_31 : decode cX12_hopes 31 = .ok (.goto 26, 3) := by decide +kernel
theorem dX12_hopes_34 : decode cX12_hopes 34 = .ok (.iload_n 3, 1) := by decide +kernel
theorem dX12_hopes_35 : decode cX12_hopes 35 = .ok (.bipush 10, 2) := by decide +kernel
theorem dX12_hopes_37 : decode cX12_hopes 37 = .ok (.irem, 1) := by decide +kernel
theorem dX12_hopes_38 : decode cX12_hopes 38 = .ok (.ifCond .le 18, 3) := by decide +kernel
theorem dX12_hopes_41 : decode cX12_hopes 41 = .ok (.iload_n 3, 1) := by decide +kernel
theorem dX12_hopes_42 : decode cX12_hopes 42 = .ok (.bipush 100, 2) := by decide +kernel
theorem dX12_hopes_44 : decode cX12_hopes 44 = .ok (.idiv, 1) := by decide +kernel
theorem dX12_hopes_45 : decode cX12_hopes 45 = .ok (.aload_n 0, 1) := by decide +kernel
theorem dX12_hopes_46 : decode cX12_hopes 46 = .ok (.getfield 123, 3) := by decide +kernel
theorem dX12_hopes_49 : decode cX12_hopes 49 = .ok (.if_icmp .ge 7, 3) := by decide +kernel
theorem dX12_hopes_52 : decode cX12_hopes 52 = .ok (.iconst 1, 1) := by decide +kernel
theorem dX12_hopes_53 : decode cX12_hopes 53 = .ok (.goto 4, 3) := by decide +kernel
theorem dX12_hopes_56 : decode cX12_hopes 56 = .ok (.iconst 0, 1) := by decide +kernel
theorem dX12_hopes_57 : decode cX12_hopes 57 = .ok (.istore 4, 2) := by decide +kernel
theorem dX12_hopes_59 : decode cX12_hopes 59 = .ok (.iload 4, 2) := by decide +kernel
theorem dX12_hopes_61 : decode cX12_hopes 61 = .ok (.ifCond .eq 18, 3) := by decide +kernel
theorem dX12_hopes_64 : decode cX12_hopes 64 = .ok (.iload_n 2, 1) := by decide +kernel
theorem dX12_hopes_65 : decode cX12_hopes 65 = .ok (.iload_n 1, 1) := by decide +kernel
theorem dX12_hopes_66 : decode cX12_hopes 66 = .ok (.if_icmp .ne 13, 3) := by decide +kernel
theorem dX12_hopes_69 : decode cX12_hopes 69 = .ok (.aload_n 0, 1) := by decide +kernel
theorem dX12_hopes_70 : decode cX12_hopes 70 = .ok (.iload_n 3, 1) := by decide +kernel
theorem dX12_hopes_71 : decode cX12_hopes 71 = .ok (.invokevirtual 183, 3) := by decide +kernel
theorem dX12_hopes_74 : decode cX12_hopes 74 = .ok (.istore 4, 2) := by decide +kernel
theorem dX12_hopes_76 : decode cX12_hopes 76 = .ok (.goto 30, 3) := by decide +kernel
theorem dX12_hopes_79 : decode cX12_hopes 79 = .ok (.iload 4, 2) := by decide +kernel
theorem dX12_hopes_81 : decode cX12_hopes 81 = .ok (.ifCond .eq 25, 3) := by decide +kernel
theorem dX12_hopes_84 : decode cX12_hopes 84 = .ok (.aload_n 0, 1) := by decide +kernel
theorem dX12_hopes_85 : decode cX12_hopes 85 = .ok (.iload_n 3, 1) := by decide +kernel
theorem dX12_hopes_86 : decode cX12_hopes 86 = .ok (.aload_n 0, 1) := by decide +kernel
theorem dX12_hopes_87 : decode cX12_hopes 87 = .ok (.getfield 51, 3) := by decide +kernel
theorem dX12_hopes_90 : decode cX12_hopes 90 = .ok (.iload_n 2, 1) := by decide +kernel
theorem dX12_hopes_91 : decode cX12_hopes 91 = .ok (.iconst 1, 1) := by decide +kernel
theorem dX12_hopes_92 : decode cX12_hopes 92 = .ok (.iadd, 1) := by decide +kernel
theorem dX12_hopes_93 : decode cX12_hopes 93 = .ok (.caload, 1) := by decide +kernel
theorem dX12_hopes_94 : decode cX12_hopes 94 = .ok (.invokevirtual 186, 3) := by decide +kernel
theorem dX12_hopes_97 : decode cX12_hopes 97 = .ok (.aload_n 0, 1) := by decide +kernel
theorem dX12_hopes_98 : decode cX12_hopes 98 = .ok (.iload_n 2, 1) := by decide +kernel
theorem dX12_hopes_99 : decode cX12_hopes 99 = .ok (.iconst 1, 1) := by decide +kernel
theorem dX12_hopes_100 : decode cX12_hopes 100 = .ok (.iadd, 1) := by decide +kernel
theorem dX12_hopes_101 : decode cX12_hopes 101 = .ok (.invokevirtual 190, 3) := by decide +kernel
theorem dX12_hopes_104 : decode cX12_hopes 104 = .ok (.istore 4, 2) := by decide +kernel
theorem dX12_hopes_106 : decode cX12_hopes 106 = .ok (.aload_n 0, 1) := by decide +kernel
theorem dX12_hopes_107 : decode cX12_hopes 107 = .ok (.getfield 81, 3) := by decide +kernel
theorem dX12_hopes_110 : decode cX12_hopes 110 = .ok (.sipush 1001, 3) := by decide +kernel
theorem dX12_hopes_113 : decode cX12_hopes 113 = .ok (.iload_n 2, 1) := by decide +kernel
theorem dX12_hopes_114 : decode cX12_hopes 114 = .ok (.imul, 1) := by decide +kernel
theorem dX12_hopes_115 : decode cX12_hopes 115 = .ok (.iload_n 3, 1) := by decide +kernel
theorem dX12_hopes_116 : decode cX12_hopes 116 = .ok (.iadd, 1) := by decide +kernel
theorem dX12_hopes_117 : decode cX12_hopes 117 = .ok (.iload 4, 2) := by decide +kernel
theorem dX12_hopes_119 : decode cX12_hopes 119 = .ok (.bastore, 1) := by decide +kernel
theorem dX12_hopes_120 : decode cX12_hopes 120 = .ok (.iinc 3 1, 3) := by decide +kernel
theorem dX12_hopes_123 : decode cX12_hopes 123 = .ok (.goto (-115), 3) := by decide +kernel
theorem dX12_hopes_126 : decode cX12_hopes 126 = .ok (.iinc 2 (-1), 3) := by decide +kernel
theorem dX12_hopes_129 : decode cX12_hopes 129 = .ok (.goto (-127), 3) := by decide +kernel
theorem dX12_hopes_132 : decode cX12_hopes 132 = .ok (.return_, 1) := by decide +kernel
theorem dX12_isSome_0 : decode cX12_isSome 0 = .ok (.iconst 0, 1) := by decide +kernel
theorem dX12_isSome_1 : decode cX12_isSome 1 = .ok (.istore_n 2, 1) := by decide +kernel
theorem dX12_isSome_2 : decode cX12_isSome 2 = .ok (.iconst 0, 1) := by decide +kernel
theorem dX12_isSome_3 : decode cX12_isSome 3 = .ok (.istore_n 3, 1) := by decide +kernel
theorem dX12_isSome_4 : decode cX12_isSome 4 = .ok (.iload_n 3, 1) := by decide +kernel
theorem dX12_isSome_5 : decode cX12_isSome 5 = .ok (.aload_n 0, 1) := by decide +kernel
theorem dX12_isSome_6 : decode cX12_isSome 6 = .ok (.getfield 173, 3) := by decide +kernel
theorem dX12_isSome_9 : decode cX12_isSome 9 = .ok (.if_icmp .ge 39, 3) := by decide +kernel
theorem dX12_isSome_12 : decode cX12_isSome 12 = .ok (.iload_n 2, 1) := by decide +kernel
theorem dX12_isSome_13 : decode cX12_isSome 13 = .ok (.ifCond .ne 23, 3) := by decide +kernel
theorem dX12_isSome_16 : decode cX12_isSome 16 = .ok (.aload_n 0, 1) := by decide +kernel
theorem dX12_isSome_17 : decode cX12_isSome 17 = .ok (.getfield 81, 3) := by decide +kernel
theorem dX12_isSome_20 : decode cX12_isSome 20 = .ok (.sipush 1001, 3) := by decide +kernel
theorem dX12_isSome_23 : decode cX12_isSome 23 = .ok (.iload_n 1, 1) := by decide +kernel
theorem dX12_isSome_24 : decode cX12_isSome 24 = .ok (.imul, 1) := by decide +kernel
theorem dX12_isSome_25 : decode cX12_isSome 25 = .ok (.aload_n 0, 1) := by decide +kernel
theorem dX12_isSome_26 : decode cX12_isSome 26 = .ok (.getfield 84, 3) := by decide +kernel
theorem dX12_isSome_29 : decode cX12_isSome 29 = .ok (.iload_n 3, 1) := by decide +kernel
theorem dX12_isSome_30 : decode cX12_isSome 30 = .ok (.iaload, 1) := by decide +kernel
theorem dX12_isSome_31 : decode cX12_isSome 31 = .ok (.iadd, 1) := by decide +kernel
theorem dX12_isSome_32 : decode cX12_isSome 32 = .ok (.baload, 1) := by decide +kernel
theorem dX12_isSome_33 : decode cX12_isSome 33 = .ok (.ifCond .eq 7, 3) := by decide +kernel
theorem dX12_isSome_36 : decode cX12_isSome 36 = .ok (.iconst 1, 1) := by decide +kernel
theorem dX12_isSome_37 : decode cX12_isSome 37 = .ok (.goto 4, 3) := by decide +kernel
theorem dX12_isSome_40 : decode cX12_isSome 40 = .ok (.iconst 0, 1) := by decide +kernel
theorem dX12_isSome_41 : decode cX12_isSome 41 = .ok (.istore_n 2, 1) := by decide +kernel
theorem dX12_isSome_42 : decode cX12_isSome 42 = .ok (.iinc 3 1, 3) := by decide +kernel
theorem dX12_isSome_45 : decode cX12_isSome 45 = .ok (.goto (-41), 3) := by decide +kernel
theorem dX12_isSome_48 : decode cX12_isSome 48 = .ok (.iload_n 2, 1) := by decide +kernel
theorem dX12_isSome_49 : decode cX12_isSome 49 = .ok (.ireturn, 1) := by decide +kernel
theorem dX12_viable_0 : decode cX12_viable 0 = .ok (.iconst 0, 1) := by decide +kernel
theorem dX12_viable_1 : decode cX12_viable 1 = .ok (.istore_n 2, 1) := by decide +kernel
theorem dX12_viable_2 : decode cX12_viable 2 = .ok (.iload_n 2, 1) := by decide +kernel
theorem dX12_viable_3 : decode cX12_viable 3 = .ok (.sipush 1000, 3) := by decide +kernel
theorem dX12_viable_6 : decode cX12_viable 6 = .ok (.if_icmp .gt 27, 3) := by decide +kernel
theorem dX12_viable_9 : decode cX12_viable 9 = .ok (.aload_n 0, 1) := by decide +kernel
theorem dX12_viable_10 : decode cX12_viable 10 = .ok (.getfield 81, 3) := by decide +kernel
theorem dX12_viable_13 : decode cX12_viable 13 = .ok (.iload_n 2, 1) := by decide +kernel
theorem dX12_viable_14 : decode cX12_viable 14 = .ok (.iload_n 2, 1) := by decide +kernel
theorem dX12_viable_15 : decode cX12_viable 15 = .ok (.sipush 1000, 3) := by decide +kernel
theorem dX12_viable_18 : decode cX12_viable 18 = .ok (.if_icmp .ne 7, 3) := by decide +kernel
theorem dX12_viable_21 : decode cX12_viable 21 = .ok (.iconst 1, 1) := by decide +kernel
theorem dX12_viable_22 : decode cX12_viable 22 = .ok (.goto 4, 3) := by decide +kernel
theorem dX12_viable_25 : decode cX12_viable 25 = .ok (.iconst 0, 1) := by decide +kernel
theorem dX12_viable_26 : decode cX12_viable 26 = .ok (.bastore, 1) := by decide +kernel
theorem dX12_viable_27 : decode cX12_viable 27 = .ok (.iinc 2 1, 3) := by decide +kernel
theorem dX12_viable_30 : decode cX12_viable 30 = .ok (.goto (-28), 3) := by decide +kernel
theorem dX12_viable_33 : decode cX12_viable 33 = .ok (.iconst 0, 1) := by decide +kernel
theorem dX12_viable_34 : decode cX12_viable 34 = .ok (.istore_n 2, 1) := by decide +kernel
theorem dX12_viable_35 : decode cX12_viable 35 = .ok (.iload_n 2, 1) := by decide +kernel
theorem dX12_viable_36 : decode cX12_viable 36 = .ok (.iload_n 1, 1) := by decide +kernel
theorem dX12_viable_37 : decode cX12_viable 37 = .ok (.if_icmp .ge 139, 3) := by decide +kernel
theorem dX12_viable_40 : decode cX12_viable 40 = .ok (.iconst 0, 1) := by decide +kernel
theorem dX12_viable_41 : decode cX12_viable 41 = .ok (.istore_n 3, 1) := by decide +kernel
theorem dX12_viable_42 : decode cX12_viable 42 = .ok (.iload_n 3, 1) := by decide +kernel
theorem dX12_viable_43 : decode cX12_viable 43 = .ok (.sipush 1000, 3) := by decide +kernel
theorem dX12_viable_46 : decode cX12_viable 46 = .ok (.if_icmp .gt 26, 3) := by decide +kernel
theorem dX12_viable_49 : decode cX12_viable 49 = .ok (.aload_n 0, 1) := by decide +kernel
theorem dX12_viable_50 : decode cX12_viable 50 = .ok (.getfield 81, 3) := by decide +kernel
theorem dX12_viable_53 : decode cX12_viable 53 = .ok (.sipush 1001, 3) := by decide +kernel
theorem dX12_viable_56 : decode cX12_viable 56 = .ok (.iload_n 2, 1) := by decide +kernel
theorem dX12_viable_57 : decode cX12_viable 57 = .ok (.imul, 1) := by decide +kernel
theorem dX12_viable_58 : decode cX12_viable 58 = .ok (.sipush 1001, 3) := by decide +kernel
theorem dX12_viable_61 : decode cX12_viable 61 = .ok (.iadd, 1) := by decide +kernel
theorem dX12_viable_62 : decode cX12_viable 62 = .ok (.iload_n 3, 1) := by decide +kernel
theorem dX12_viable_63 : decode cX12_viable 63 = .ok (.iadd, 1) := by decide +kernel
theorem dX12_viable_64 : decode cX12_viable 64 = .ok (.iconst 0, 1) := by decide +kernel
theorem dX12_viable_65 : decode cX12_viable 65 = .ok (.bastore, 1) := by decide +kernel
theorem dX12_viable_66 : decode cX12_viable 66 = .ok (.iinc 3 1, 3) := by decide +kernel
theorem dX12_viable_69 : decode cX12_viable 69 = .ok (.goto (-27), 3) := by decide +kernel
theorem dX12_viable_72 : decode cX12_viable 72 = .ok (.iconst 0, 1) := by decide +kernel
theorem dX12_viable_73 : decode cX12_viable 73 = .ok (.istore_n 3, 1) := by decide +kernel
theorem dX12_viable_74 : decode cX12_viable 74 = .ok (.iconst 0, 1) := by decide +kernel
theorem dX12_viable_75 : decode cX12_viable 75 = .ok (.istore 4, 2) := by decide +kernel
theorem dX12_viable_77 : decode cX12_viable 77 = .ok (.iload 4, 2) := by decide +kernel
theorem dX12_viable_79 : decode cX12_viable 79 = .ok (.sipush 1000, 3) := by decide +kernel
theorem dX12_viable_82 : decode cX12_viable 82 = .ok (.if_icmp .gt 82, 3) := by decide +kernel
theorem dX12_viable_85 : decode cX12_viable 85 = .ok (.aload_n 0, 1) := by decide +kernel
theorem dX12_viable_86 : decode cX12_viable 86 = .ok (.getfield 81, 3) := by decide +kernel
theorem dX12_viable_89 : decode cX12_viable 89 = .ok (.sipush 1001, 3) := by decide +kernel
theorem dX12_viable_92 : decode cX12_viable 92 = .ok (.iload_n 2, 1) := by decide +kernel
theorem dX12_viable_93 : decode cX12_viable 93 = .ok (.imul, 1) := by decide +kernel
theorem dX12_viable_94 : decode cX12_viable 94 = .ok (.iload 4, 2) := by decide +kernel
theorem dX12_viable_96 : decode cX12_viable 96 = .ok (.iadd, 1) := by decide +kernel
theorem dX12_viable_97 : decode cX12_viable 97 = .ok (.baload, 1) := by decide +kernel
theorem dX12_viable_98 : decode cX12_viable 98 = .ok (.ifCond .eq 60, 3) := by decide +kernel
theorem dX12_viable_101 : decode cX12_viable 101 = .ok (.aload_n 0, 1) := by decide +kernel
theorem dX12_viable_102 : decode cX12_viable 102 = .ok (.iload 4, 2) := by decide +kernel
theorem dX12_viable_104 : decode cX12_viable 104 = .ok (.aload_n 0, 1) := by decide +kernel
theorem dX12_viable_105 : decode cX12_viable 105 = .ok (.getfield 51, 3) := by decide +kernel
theorem dX12_viable_108 : decode cX12_viable 108 = .ok (.iload_n 2, 1) := by decide +kernel
theorem dX12_viable_109 : decode cX12_viable 109 = .ok (.iconst 1, 1) := by decide +kernel
theorem dX12_viable_110 : decode cX12_viable 110 = .ok (.iadd, 1) := by decide +kernel
theorem dX12_viable_111 : decode cX12_viable 111 = .ok (.caload, 1) := by decide +kernel
theorem dX12_viable_112 : decode cX12_viable 112 = .ok (.invokevirtual 186, 3) := by decide +kernel
theorem dX12_viable_115 : decode cX12_viable 115 = .ok (.iconst 0, 1) := by decide +kernel
theorem dX12_viable_116 : decode cX12_viable 116 = .ok (.istore 5, 2) := by decide +kernel
theorem dX12_viable_118 : decode cX12_viable 118 = .ok (.iload 5, 2) := by decide +kernel
theorem dX12_viable_120 : decode cX12_viable 120 = .ok (.aload_n 0, 1) := by decide +kernel
theorem dX12_viable_121 : decode cX12_viable 121 = .ok (.getfield 173, 3) := by decide +kernel
theorem dX12_viable_124 : decode cX12_viable 124 = .ok (.if_icmp .ge 34, 3) := by decide +kernel
theorem dX12_viable_127 : decode cX12_viable 127 = .ok (.aload_n 0, 1) := by decide +kernel
theorem dX12_viable_128 : decode cX12_viable 128 = .ok (.getfield 81, 3) := by decide +kernel
theorem dX12_viable_131 : decode cX12_viable 131 = .ok (.sipush 1001, 3) := by decide +kernel
theorem dX12_viable_134 : decode cX12_viable 134 = .ok (.iload_n 2, 1) := by decide +kernel
theorem dX12_viable_135 : decode cX12_viable 135 = .ok (.imul, 1) := by decide +kernel
theorem dX12_viable_136 : decode cX12_viable 136 = .ok (.sipush 1001, 3) := by decide +kernel
theorem dX12_viable_139 : decode cX12_viable 139 = .ok (.iadd, 1) := by decide +kernel
theorem dX12_viable_140 : decode cX12_viable 140 = .ok (.aload_n 0, 1) := by decide +kernel
theorem dX12_viable_141 : decode cX12_viable 141 = .ok (.getfield 84, 3) := by decide +kernel
theorem dX12_viable_144 : decode cX12_viable 144 = .ok (.iload 5, 2) := by decide +kernel
theorem dX12_viable_146 : decode cX12_viable 146 = .ok (.iaload, 1) := by decide +kernel
theorem dX12_viable_147 : decode cX12_viable 147 = .ok (.iadd, 1) := by decide +kernel
theorem dX12_viable_148 : decode cX12_viable 148 = .ok (.iconst 1, 1) := by decide +kernel
theorem dX12_viable_149 : decode cX12_viable 149 = .ok (.bastore, 1) := by decide +kernel
theorem dX12_viable_150 : decode cX12_viable 150 = .ok (.iconst 1, 1) := by decide +kernel
theorem dX12_viable_151 : decode cX12_viable 151 = .ok (.istore_n 3, 1) := by decide +kernel
theorem dX12_viable_152 : decode cX12_viable 152 = .ok (.iinc 5 1, 3) := by decide +kernel
theorem dX12_viable_155 : decode cX12_viable 155 = .ok (.goto (-37), 3) := by decide +kernel
theorem dX12_viable_158 : decode cX12_viable 158 = .ok (.iinc 4 1, 3) := by decide +kernel
theorem dX12_viable_161 : decode cX12_viable 161 = .ok (.goto (-84), 3) := by decide +kernel
theorem dX12_viable_164 : decode cX12_viable 164 = .ok (.iload_n 3, 1) := by decide +kernel
theorem dX12_viable_165 : decode cX12_viable 165 = .ok (.ifCond .ne 5, 3) := by decide +kernel
theorem dX12_viable_168 : decode cX12_viable 168 = .ok (.iload_n 2, 1) := by decide +kernel
theorem dX12_viable_169 : decode cX12_viable 169 = .ok (.ireturn, 1) := by decide +kernel
theorem dX12_viable_170 : decode cX12_viable 170 = .ok (.iinc 2 1, 3) := by decide +kernel
theorem dX12_viable_173 : decode cX12_viable 173 = .ok (.goto (-138), 3) := by decide +kernel
theorem dX12_viable_176 : decode cX12_viable 176 = .ok (.iload_n 1, 1) := by decide +kernel
theorem dX12_viable_177 : decode cX12_viable 177 = .ok (.ireturn, 1) := by decide +kernel
theorem dX12_matches_0 : decode cX12_matches 0 = .ok (.aload_n 0, 1) := by decide +kernel
theorem dX12_matches_1 : decode cX12_matches 1 = .ok (.getfield 149, 3) := by decide +kernel
theorem dX12_matches_4 : decode cX12_matches 4 = .ok (.iconst 2, 1) := by decide +kernel
theorem dX12_matches_5 : decode cX12_matches 5 = .ok (.isub, 1) := by decide +kernel
theorem dX12_matches_6 : decode cX12_matches 6 = .ok (.istore_n 1, 1) := by decide +kernel
theorem dX12_matches_7 : decode cX12_matches 7 = .ok (.aload_n 0, 1) := by decide +kernel
theorem dX12_matches_8 : decode cX12_matches 8 = .ok (.iload_n 1, 1) := by decide +kernel
theorem dX12_matches_9 : decode cX12_matches 9 = .ok (.invokevirtual 193, 3) := by decide +kernel
theorem dX12_matches_12 : decode cX12_matches 12 = .ok (.aload_n 0, 1) := by decide +kernel
theorem dX12_matches_13 : decode cX12_matches 13 = .ok (.getfield 81, 3) := by decide +kernel
theorem dX12_matches_16 : decode cX12_matches 16 = .ok (.sipush 1000, 3) := by decide +kernel
theorem dX12_matches_19 : decode cX12_matches 19 = .ok (.baload, 1) := by decide +kernel
theorem dX12_matches_20 : decode cX12_matches 20 = .ok (.ifCond .ne 34, 3) := by decide +kernel
theorem dX12_matches_23 : decode cX12_matches 23 = .ok (.aload_n 0, 1) := by decide +kernel
theorem dX12_matches_24 : decode cX12_matches 24 = .ok (.iload_n 1, 1) := by decide +kernel
theorem dX12_matches_25 : decode cX12_matches 25 = .ok (.invokevirtual 197, 3) := by decide +kernel
theorem dX12_matches_28 : decode cX12_matches 28 = .ok (.istore_n 2, 1) := by decide +kernel
theorem dX12_matches_29 : decode cX12_matches 29 = .ok (.aload_n 0, 1) := by decide +kernel
theorem dX12_matches_30 : decode cX12_matches 30 = .ok (.iload_n 2, 1) := by decide +kernel
theorem dX12_matches_31 : decode cX12_matches 31 = .ok (.iload_n 1, 1) := by decide +kernel
theorem dX12_matches_32 : decode cX12_matches 32 = .ok (.if_icmp .ge 8, 3) := by decide +kernel
theorem dX12_matches_35 : decode cX12_matches 35 = .ok (.bipush 11, 2) := by decide +kernel
theorem dX12_matches_37 : decode cX12_matches 37 = .ok (.goto 5, 3) := by decide +kernel
theorem dX12_matches_40 : decode cX12_matches 40 = .ok (.bipush 12, 2) := by decide +kernel
theorem dX12_matches_42 : decode cX12_matches 42 = .ok (.aload_n 0, 1) := by decide +kernel
theorem dX12_matches_43 : decode cX12_matches 43 = .ok (.getfield 48, 3) := by decide +kernel
theorem dX12_matches_46 : decode cX12_matches 46 = .ok (.iload_n 2, 1) := by decide +kernel
theorem dX12_matches_47 : decode cX12_matches 47 = .ok (.iconst 1, 1) := by decide +kernel
theorem dX12_matches_48 : decode cX12_matches 48 = .ok (.iadd, 1) := by decide +kernel
theorem dX12_matches_49 : decode cX12_matches 49 = .ok (.iaload, 1) := by decide +kernel
theorem dX12_matches_50 : decode cX12_matches 50 = .ok (.invokevirtual 152, 3) := by decide +kernel
theorem dX12_matches_53 : decode cX12_matches 53 = .ok (.return_, 1) := by decide +kernel
theorem dX12_matches_54 : decode cX12_matches 54 = .ok (.sipush 1000, 3) := by decide +kernel
theorem dX12_matches_57 : decode cX12_matches 57 = .ok (.istore_n 2, 1) := by decide +kernel
theorem dX12_matches_58 : decode cX12_matches 58 = .ok (.iconst 0, 1) := by decide +kernel
theorem dX12_matches_59 : decode cX12_matches 59 = .ok (.istore_n 3, 1) := by decide +kernel
theorem dX12_matches_60 : decode cX12_matches 60 = .ok (.iload_n 3, 1) := by decide +kernel
theorem dX12_matches_61 : decode cX12_matches 61 = .ok (.iload_n 1, 1) := by decide +kernel
theorem dX12_matches_62 : decode cX12_matches 62 = .ok (.if_icmp .ge 87, 3) := by decide +kernel
theorem dX12_matches_65 : decode cX12_matches 65 = .ok (.aload_n 0, 1) := by decide +kernel
theorem dX12_matches_66 : decode cX12_matches 66 = .ok (.iload_n 2, 1) := by decide +kernel
theorem dX12_matches_67 : decode cX12_matches 67 = .ok (.aload_n 0, 1) := by decide +kernel
theorem dX12_matches_68 : decode cX12_matches 68 = .ok (.getfield 51, 3) := by decide +kernel
theorem dX12_matches_71 : decode cX12_matches 71 = .ok (.iload_n 3, 1) := by decide +kernel
theorem dX12_matches_72 : decode cX12_matches 72 = .ok (.iconst 1, 1) := by decide +kernel
theorem dX12_matches_73 : decode cX12_matches 73 = .ok (.iadd, 1) := by decide +kernel
theorem dX12_matches_74 : decode cX12_matches 74 = .ok (.caload, 1) := by decide +kernel
theorem dX12_matches_75 : decode cX12_matches 75 = .ok (.invokevirtual 186, 3) := by decide +kernel
theorem dX12_matches_78 : decode cX12_matches 78 = .ok (.iconst 0, 1) := by decide +kernel
theorem dX12_matches_79 : decode cX12_matches 79 = .ok (.istore 4, 2) := by decide +kernel
theorem dX12_matches_81 : decode cX12_matches 81 = .ok (.aload_n 0, 1) := by decide +kernel
theorem dX12_matches_82 : decode cX12_matches 82 = .ok (.getfield 81, 3) := by decide +kernel
theorem dX12_matches_85 : decode cX12_matches 85 = .ok (.sipush 1001, 3) := by decide +kernel
theorem dX12_matches_88 : decode cX12_matches 88 = .ok (.iload_n 3, 1) := by decide +kernel
theorem dX12_matches_89 : decode cX12_matches 89 = .ok (.imul, 1) := by decide +kernel
theorem dX12_matches_90 : decode cX12_matches 90 = .ok (.sipush 1001, 3) := by decide +kernel
theorem dX12_matches_93 : decode cX12_matches 93 = .ok (.iadd, 1) := by decide +kernel
theorem dX12_matches_94 : decode cX12_matches 94 = .ok (.aload_n 0, 1) := by decide +kernel
theorem dX12_matches_95 : decode cX12_matches 95 = .ok (.getfield 84, 3) := by decide +kernel
theorem dX12_matches_98 : decode cX12_matches 98 = .ok (.iload 4, 2) := by decide +kernel
theorem dX12_matches_100 : decode cX12_matches 100 = .ok (.iaload, 1) := by decide +kernel
theorem dX12_matches_101 : decode cX12_matches 101 = .ok (.iadd, 1) := by decide +kernel
theorem dX12_matches_102 : decode cX12_matches 102 = .ok (.baload, 1) := by decide +kernel
theorem dX12_matches_103 : decode cX12_matches 103 = .ok (.ifCond .ne 9, 3) := by decide +kernel
theorem dX12_matches_106 : decode cX12_matches 106 = .ok (.iinc 4 1, 3) := by decide +kernel
theorem dX12_matches_109 : decode cX12_matches 109 = .ok (.goto (-28), 3) := by decide +kernel
theorem dX12_matches_112 : decode cX12_matches 112 = .ok (.aload_n 0, 1) := by decide +kernel
theorem dX12_matches_113 : decode cX12_matches 113 = .ok (.getfield 84, 3) := by decide +kernel
theorem dX12_matches_116 : decode cX12_matches 116 = .ok (.iload 4, 2) := by decide +kernel
theorem dX12_matches_118 : decode cX12_matches 118 = .ok (.iaload, 1) := by decide +kernel
theorem dX12_matches_119 : decode cX12_matches 119 = .ok (.istore_n 2, 1) := by decide +kernel
theorem dX12_matches_120 : decode cX12_matches 120 = .ok (.aload_n 0, 1) := by decide +kernel
theorem dX12_matches_121 : decode cX12_matches 121 = .ok (.getfield 75, 3) := by decide +kernel
theorem dX12_matches_124 : decode cX12_matches 124 = .ok (.iload_n 3, 1) := by decide +kernel
theorem dX12_matches_125 : decode cX12_matches 125 = .ok (.iload_n 2, 1) := by decide +kernel
theorem dX12_matches_126 : decode cX12_matches 126 = .ok (.bipush 100, 2) := by decide +kernel
theorem dX12_matches_128 : decode cX12_matches 128 = .ok (.idiv, 1) := by decide +kernel
theorem dX12_matches_129 : decode cX12_matches 129 = .ok (.iastore, 1) := by decide +kernel
theorem dX12_matches_130 : decode cX12_matches 130 = .ok (.aload_n 0, 1) := by decide +kernel
theorem dX12_matches_131 : decode cX12_matches 131 = .ok (.getfield 78, 3) := by decide +kernel
theorem dX12_matches_134 : decode cX12_matches 134 = .ok (.iload_n 3, 1) := by decide +kernel
theorem dX12_matches_135 : decode cX12_matches 135 = .ok (.iload_n 2, 1) := by decide +kernel
theorem dX12_matches_136 : decode cX12_matches 136 = .ok (.bipush 10, 2) := by decide +kernel
theorem dX12_matches_138 : decode cX12_matches 138 = .ok (.idiv, 1) := by decide +kernel
theorem dX12_matches_139 : decode cX12_matches 139 = .ok (.bipush 10, 2) := by decide +kernel
theorem dX12_matches_141 : decode cX12_matches 141 = .ok (.irem, 1) := by decide +kernel
theorem dX12_matches_142 : decode cX12_matches 142 = .ok (.iastore, 1) := by decide +kernel
theorem dX12_matches_143 : decode cX12_matches 143 = .ok (.iinc 3 1, 3) := by decide +kernel
theorem dX12_matches_146 : decode cX12_matches 146 = .ok (.goto (-86), 3) := by decide +kernel
theorem dX12_matches_149 : decode cX12_matches 149 = .ok (.return_, 1) := by decide +kernel
theorem dX12_accepts_0 : decode cX12_accepts 0 = .ok (.aload_n 0, 1) := by decide +kernel
theorem dX12_accepts_1 : decode cX12_accepts 1 = .ok (.iconst 1, 1) := by decide +kernel
theorem dX12_accepts_2 : decode cX12_accepts 2 = .ok (.putfield 140, 3) := by decide +kernel
theorem dX12_accepts_5 : decode cX12_accepts 5 = .ok (.aload_n 0, 1) := by decide +kernel
theorem dX12_accepts_6 : decode cX12_accepts 6 = .ok (.iconst 1, 1) := by decide +kernel
theorem dX12_accepts_7 : decode cX12_accepts 7 = .ok (.putfield 167, 3) := by decide +kernel
theorem dX12_accepts_10 : decode cX12_accepts 10 = .ok (.aload_n 0, 1) := by decide +kernel
theorem dX12_accepts_11 : decode cX12_accepts 11 = .ok (.aload_n 0, 1) := by decide +kernel
theorem dX12_accepts_12 : decode cX12_accepts 12 = .ok (.iconst 0, 1) := by decide +kernel
theorem dX12_accepts_13 : decode cX12_accepts 13 = .ok (.iconst 0, 1) := by decide +kernel
theorem dX12_accepts_14 : decode cX12_accepts 14 = .ok (.invokevirtual 163, 3) := by decide +kernel
theorem dX12_accepts_17 : decode cX12_accepts 17 = .ok (.putfield 170, 3) := by decide +kernel
theorem dX12_accepts_20 : decode cX12_accepts 20 = .ok (.aload_n 0, 1) := by decide +kernel
theorem dX12_accepts_21 : decode cX12_accepts 21 = .ok (.aload_n 0, 1) := by decide +kernel
theorem dX12_accepts_22 : decode cX12_accepts 22 = .ok (.getfield 149, 3) := by decide +kernel
theorem dX12_accepts_25 : decode cX12_accepts 25 = .ok (.iconst 2, 1) := by decide +kernel
theorem dX12_accepts_26 : decode cX12_accepts 26 = .ok (.isub, 1) := by decide +kernel
theorem dX12_accepts_27 : decode cX12_accepts 27 = .ok (.putfield 200, 3) := by decide +kernel
theorem dX12_accepts_30 : decode cX12_accepts 30 = .ok (.iconst 0, 1) := by decide +kernel
theorem dX12_accepts_31 : decode cX12_accepts 31 = .ok (.istore_n 1, 1) := by decide +kernel
theorem dX12_accepts_32 : decode cX12_accepts 32 = .ok (.iload_n 1, 1) := by decide +kernel
theorem dX12_accepts_33 : decode cX12_accepts 33 = .ok (.aload_n 0, 1) := by decide +kernel
theorem dX12_accepts_34 : decode cX12_accepts 34 = .ok (.getfield 200, 3) := by decide +kernel
theorem dX12_accepts_37 : decode cX12_accepts 37 = .ok (.if_icmp .ge 131, 3) := by decide +kernel
theorem dX12_accepts_40 : decode cX12_accepts 40 = .ok (.aload_n 0, 1) := by decide +kernel
theorem dX12_accepts_41 : decode cX12_accepts 41 = .ok (.getfield 63, 3) := by decide +kernel
theorem dX12_accepts_44 : decode cX12_accepts 44 = .ok (.iload_n 1, 1) := by decide +kernel
theorem dX12_accepts_45 : decode cX12_accepts 45 = .ok (.aload_n 0, 1) := by decide +kernel
theorem dX12_accepts_46 : decode cX12_accepts 46 = .ok (.getfield 51, 3) := by decide +kernel
theorem dX12_accepts_49 : decode cX12_accepts 49 = .ok (.iload_n 1, 1) := by decide +kernel
theorem dX12_accepts_50 : decode cX12_accepts 50 = .ok (.iconst 1, 1) := by decide +kernel
theorem dX12_accepts_51 : decode cX12_accepts 51 = .ok (.iadd, 1) := by decide +kernel
theorem dX12_accepts_52 : decode cX12_accepts 52 = .ok (.caload, 1) := by decide +kernel
theorem dX12_accepts_53 : decode cX12_accepts 53 = .ok (.castore, 1) := by decide +kernel
theorem dX12_accepts_54 : decode cX12_accepts 54 = .ok (.aload_n 0, 1) := by decide +kernel
theorem dX12_accepts_55 : decode cX12_accepts 55 = .ok (.getfield 66, 3) := by decide +kernel
theorem dX12_accepts_58 : decode cX12_accepts 58 = .ok (.iload_n 1, 1) := by decide +kernel
theorem dX12_accepts_59 : decode cX12_accepts 59 = .ok (.aload_n 0, 1) := by decide +kernel
theorem dX12_accepts_60 : decode cX12_accepts 60 = .ok (.getfield 54, 3) := by decide +kernel
theorem dX12_accepts_63 : decode cX12_accepts 63 = .ok (.iload_n 1, 1) := by decide +kernel
theorem dX12_accepts_64 : decode cX12_accepts 64 = .ok (.iconst 1, 1) := by decide +kernel
theorem dX12_accepts_65 : decode cX12_accepts 65 = .ok (.iadd, 1) := by decide +kernel
theorem dX12_accepts_66 : decode cX12_accepts 66 = .ok (.iaload, 1) := by decide +kernel
theorem dX12_accepts_67 : decode cX12_accepts 67 = .ok (.iastore, 1) := by decide +kernel
theorem dX12_accepts_68 : decode cX12_accepts 68 = .ok (.iconst 0, 1) := by decide +kernel
theorem dX12_accepts_69 : decode cX12_accepts 69 = .ok (.istore_n 2, 1) := by decide +kernel
theorem dX12_accepts_70 : decode cX12_accepts 70 = .ok (.iload_n 2, 1) := by decide +kernel
theorem dX12_accepts_71 : decode cX12_accepts 71 = .ok (.aload_n 0, 1) := by decide +kernel
theorem dX12_accepts_72 : decode cX12_accepts 72 = .ok (.getfield 66, 3) := by decide +kernel
theorem dX12_accepts_75 : decode cX12_accepts 75 = .ok (.iload_n 1, 1) := by decide +kernel
theorem dX12_accepts_76 : decode cX12_accepts 76 = .ok (.iaload, 1) := by decide +kernel
theorem dX12_accepts_77 : decode cX12_accepts 77 = .ok (.if_icmp .ge 85, 3) := by decide +kernel
theorem dX12_accepts_80 : decode cX12_accepts 80 = .ok (.aload_n 0, 1) := by decide +kernel
theorem dX12_accepts_81 : decode cX12_accepts 81 = .ok (.getfield 69, 3) := by decide +kernel
theorem dX12_accepts_84 : decode cX12_accepts 84 = .ok (.iconst 5, 1) := by decide +kernel
theorem dX12_accepts_85 : decode cX12_accepts 85 = .ok (.iload_n 1, 1) := by decide +kernel
theorem dX12_accepts_86 : decode cX12_accepts 86 = .ok (.imul, 1) := by decide +kernel
theorem dX12_accepts_87 : decode cX12_accepts 87 = .ok (.iload_n 2, 1) := by decide +kernel
theorem dX12_accepts_88 : decode cX12_accepts 88 = .ok (.iadd, 1) := by decide +kernel
theorem dX12_accepts_89 : decode cX12_accepts 89 = .ok (.aload_n 0, 1) := by decide +kernel
theorem dX12_accepts_90 : decode cX12_accepts 90 = .ok (.getfield 57, 3) := by decide +kernel
theorem dX12_accepts_93 : decode cX12_accepts 93 = .ok (.iconst 5, 1) := by decide +kernel
theorem dX12_accepts_94 : decode cX12_accepts 94 = .ok (.iload_n 1, 1) := by decide +kernel
theorem dX12_accepts_95 : decode cX12_accepts 95 = .ok (.imul, 1) := by decide +kernel
theorem dX12_accepts_96 : decode cX12_accepts 96 = .ok (.iconst 5, 1) := by decide +kernel
theorem dX12_accepts_97 : decode cX12_accepts 97 = .ok (.iadd, 1) := by decide +kernel
theorem dX12_accepts_98 : decode cX12_accepts 98 = .ok (.iload_n 2, 1) := by decide +kernel
theorem dX12_accepts_99 : decode cX12_accepts 99 = .ok (.iadd, 1) := by decide +kernel
theorem dX12_accepts_100 : decode cX12_accepts 100 = .ok (.iaload, 1) := by decide +kernel
theorem dX12_accepts_101 : decode cX12_accepts 101 = .ok (.iastore, 1) := by decide +kernel
theorem dX12_accepts_102 : decode cX12_accepts 102 = .ok (.iconst 0, 1) := by decide +kernel
theorem dX12_accepts_103 : decode cX12_accepts 103 = .ok (.istore_n 3, 1) := by decide +kernel
theorem dX12_accepts_104 : decode cX12_accepts 104 = .ok (.iload_n 3, 1) := by decide +kernel
theorem dX12_accepts_105 : decode cX12_accepts 105 = .ok (.aload_n 0, 1) := by decide +kernel
theorem dX12_accepts_106 : decode cX12_accepts 106 = .ok (.getfield 69, 3) := by decide +kernel
theorem dX12_accepts_109 : decode cX12_accepts 109 = .ok (.iconst 5, 1) := by decide +kernel
theorem dX12_accepts_110 : decode cX12_accepts 110 = .ok (.iload_n 1, 1) := by decide +kernel
theorem dX12_accepts_111 : decode cX12_accepts 111 = .ok (.imul, 1) := by decide +kernel
theorem dX12_accepts_112 : decode cX12_accepts 112 = .ok (.iload_n 2, 1) := by decide +kernel
theorem dX12_accepts_113 : decode cX12_accepts 113 = .ok (.iadd, 1) := by decide +kernel
theorem dX12_accepts_114 : decode cX12_accepts 114 = .ok (.iaload, 1) := by decide +kernel
theorem dX12_accepts_115 : decode cX12_accepts 115 = .ok (.if_icmp .ge 41, 3) := by decide +kernel
theorem dX12_accepts_118 : decode cX12_accepts 118 = .ok (.aload_n 0, 1) := by decide +kernel
theorem dX12_accepts_119 : decode cX12_accepts 119 = .ok (.getfield 72, 3) := by decide +kernel
theorem dX12_accepts_122 : decode cX12_accepts 122 = .ok (.bipush 8, 2) := by decide +kernel
theorem dX12_accepts_124 : decode cX12_accepts 124 = .ok (.iconst 5, 1) := by decide +kernel
theorem dX12_accepts_125 : decode cX12_accepts 125 = .ok (.iload_n 1, 1) := by decide +kernel
theorem dX12_accepts_126 : decode cX12_accepts 126 = .ok (.imul, 1) := by decide +kernel
theorem dX12_accepts_127 : decode cX12_accepts 127 = .ok (.iload_n 2, 1) := by decide +kernel
theorem dX12_accepts_128 : decode cX12_accepts 128 = .ok (.iadd, 1) := by decide +kernel
theorem dX12_accepts_129 : decode cX12_accepts 129 = .ok (.imul, 1) := by decide +kernel
theorem dX12_accepts_130 : decode cX12_accepts 130 = .ok (.iload_n 3, 1) := by decide +kernel
theorem dX12_accepts_131 : decode cX12_accepts 131 = .ok (.iadd, 1) := by decide +kernel
theorem dX12_accepts_132 : decode cX12_accepts 132 = .ok (.aload_n 0, 1) := by decide +kernel
theorem dX12_accepts_133 : decode cX12_accepts 133 = .ok (.getfield 60, 3) := by decide +kernel
theorem dX12_accepts_136 : decode cX12_accepts 136 = .ok (.bipush 8, 2) := by decide +kernel
theorem dX12_accepts_138 : decode cX12_accepts 138 = .ok (.iconst 5, 1) := by decide +kernel
theorem dX12_accepts_139 : decode cX12_accepts 139 = .ok (.iload_n 1, 1) := by decide +kernel
theorem dX12_accepts_140 : decode cX12_accepts 140 = .ok (.imul, 1) := by decide +kernel
theorem dX12_accepts_141 : decode cX12_accepts 141 = .ok (.iconst 5, 1) := by decide +kernel
theorem dX12_accepts_142 : decode cX12_accepts 142 = .ok (.iadd, 1) := by decide +kernel
theorem dX12_accepts_143 : decode cX12_accepts 143 = .ok (.iload_n 2, 1) := by decide +kernel
theorem dX12_accepts_144 : decode cX12_accepts 144 = .ok (.iadd, 1) := by decide +kernel
theorem dX12_accepts_145 : decode cX12_accepts 145 = .ok (.imul, 1) := by decide +kernel
theorem dX12_accepts_146 : decode cX12_accepts 146 = .ok (.iload_n 3, 1) := by decide +kernel
theorem dX12_accepts_147 : decode cX12_accepts 147 = .ok (.iadd, 1) := by decide +kernel
theorem dX12_accepts_148 : decode cX12_accepts 148 = .ok (.caload, 1) := by decide +kernel
theorem dX12_accepts_149 : decode cX12_accepts 149 = .ok (.castore, 1) := by decide +kernel
theorem dX12_accepts_150 : decode cX12_accepts 150 = .ok (.iinc 3 1, 3) := by decide +kernel
theorem dX12_accepts_153 : decode cX12_accepts 153 = .ok (.goto (-49), 3) := by decide +kernel
theorem dX12_accepts_156 : decode cX12_accepts 156 = .ok (.iinc 2 1, 3) := by decide +kernel
theorem dX12_accepts_159 : decode cX12_accepts 159 = .ok (.goto (-89), 3) := by decide +kernel
theorem dX12_accepts_162 : decode cX12_accepts 162 = .ok (.iinc 1 1, 3) := by decide +kernel
theorem dX12_accepts_165 : decode cX12_accepts 165 = .ok (.goto (-133), 3) := by decide +kernel
theorem dX12_accepts_168 : decode cX12_accepts 168 = .ok (.return_, 1) := by decide +kernel
theorem dX12_read_0 : decode cX12_read 0 = .ok (.aload_n 0, 1) := by decide +kernel
theorem dX12_read_1 : decode cX12_read 1 = .ok (.aload_n 0, 1) := by decide +kernel
theorem dX12_read_2 : decode cX12_read 2 = .ok (.getfield 130, 3) := by decide +kernel
theorem dX12_read_5 : decode cX12_read 5 = .ok (.ifCond .eq 7, 3) := by decide +kernel
theorem dX12_read_8 : decode cX12_read 8 = .ok (.iconst 1, 1) := by decide +kernel
theorem dX12_read_9 : decode cX12_read 9 = .ok (.goto 4, 3) := by decide +kernel
theorem dX12_read_12 : decode cX12_read 12 = .ok (.iconst 0, 1) := by decide +kernel
theorem dX12_read_13 : decode cX12_read 13 = .ok (.invokevirtual 126, 3) := by decide +kernel
theorem dX12_read_16 : decode cX12_read 16 = .ok (.ifCond .ne 5, 3) := by decide +kernel
theorem dX12_read_19 : decode cX12_read 19 = .ok (.iconst 0, 1) := by decide +kernel
theorem dX12_read_20 : decode cX12_read 20 = .ok (.ireturn, 1) := by decide +kernel
theorem dX12_read_21 : decode cX12_read 21 = .ok (.aload_n 0, 1) := by decide +kernel
theorem dX12_read_22 : decode cX12_read 22 = .ok (.iconst 0, 1) := by decide +kernel
theorem dX12_read_23 : decode cX12_read 23 = .ok (.putfield 146, 3) := by decide +kernel
theorem dX12_read_26 : decode cX12_read 26 = .ok (.aload_n 0, 1) := by decide +kernel
theorem dX12_read_27 : decode cX12_read 27 = .ok (.invokevirtual 203, 3) := by decide +kernel
theorem dX12_read_30 : decode cX12_read 30 = .ok (.aload_n 0, 1) := by decide +kernel
theorem dX12_read_31 : decode cX12_read 31 = .ok (.getfield 146, 3) := by decide +kernel
theorem dX12_read_34 : decode cX12_read 34 = .ok (.ifCond .ne 7, 3) := by decide +kernel
theorem dX12_read_37 : decode cX12_read 37 = .ok (.aload_n 0, 1) := by decide +kernel
theorem dX12_read_38 : decode cX12_read 38 = .ok (.invokevirtual 206, 3) := by decide +kernel
theorem dX12_read_41 : decode cX12_read 41 = .ok (.aload_n 0, 1) := by decide +kernel
theorem dX12_read_42 : decode cX12_read 42 = .ok (.getfield 146, 3) := by decide +kernel
theorem dX12_read_45 : decode cX12_read 45 = .ok (.ifCond .ne 7, 3) := by decide +kernel
theorem dX12_read_48 : decode cX12_read 48 = .ok (.aload_n 0, 1) := by decide +kernel
theorem dX12_read_49 : decode cX12_read 49 = .ok (.invokevirtual 209, 3) := by decide +kernel
theorem dX12_read_52 : decode cX12_read 52 = .ok (.aload_n 0, 1) := by decide +kernel
theorem dX12_read_53 : decode cX12_read 53 = .ok (.getfield 146, 3) := by decide +kernel
theorem dX12_read_56 : decode cX12_read 56 = .ok (.ifCond .ne 7, 3) := by decide +kernel
theorem dX12_read_59 : decode cX12_read 59 = .ok (.aload_n 0, 1) := by decide +kernel
theorem dX12_read_60 : decode cX12_read 60 = .ok (.invokevirtual 212, 3) := by decide +kernel
theorem dX12_read_63 : decode cX12_read 63 = .ok (.aload_n 0, 1) := by decide +kernel
theorem dX12_read_64 : decode cX12_read 64 = .ok (.getfield 146, 3) := by decide +kernel
theorem dX12_read_67 : decode cX12_read 67 = .ok (.ifCond .ne 7, 3) := by decide +kernel
theorem dX12_read_70 : decode cX12_read 70 = .ok (.aload_n 0, 1) := by decide +kernel
theorem dX12_read_71 : decode cX12_read 71 = .ok (.invokevirtual 215, 3) := by decide +kernel
theorem dX12_read_74 : decode cX12_read 74 = .ok (.aload_n 0, 1) := by decide +kernel
theorem dX12_read_75 : decode cX12_read 75 = .ok (.iconst 0, 1) := by decide +kernel
theorem dX12_read_76 : decode cX12_read 76 = .ok (.putfield 143, 3) := by decide +kernel
theorem dX12_read_79 : decode cX12_read 79 = .ok (.aload_n 0, 1) := by decide +kernel
theorem dX12_read_80 : decode cX12_read 80 = .ok (.getfield 146, 3) := by decide +kernel
theorem dX12_read_83 : decode cX12_read 83 = .ok (.ireturn, 1) := by decide +kernel
theorem dX12_faultKind_0 : decode cX12_faultKind 0 = .ok (.aload_n 0, 1) := by decide +kernel
theorem dX12_faultKind_1 : decode cX12_faultKind 1 = .ok (.iload_n 1, 1) := by decide +kernel
theorem dX12_faultKind_2 : decode cX12_faultKind 2 = .ok (.iconst 0, 1) := by decide +kernel
theorem dX12_faultKind_3 : decode cX12_faultKind 3 = .ok (.aload_n 0, 1) := by decide +kernel
theorem dX12_faultKind_4 : decode cX12_faultKind 4 = .ok (.getfield 146, 3) := by decide +kernel
theorem dX12_faultKind_7 : decode cX12_faultKind 7 = .ok (.iconst 1, 1) := by decide +kernel
theorem dX12_faultKind_8 : decode cX12_faultKind 8 = .ok (.isub, 1) := by decide +kernel
theorem dX12_faultKind_9 : decode cX12_faultKind 9 = .ok (.invokestatic 115, 3) := by decide +kernel
theorem dX12_faultKind_12 : decode cX12_faultKind 12 = .ok (.ifCond .eq 7, 3) := by decide +kernel
theorem dX12_faultKind_15 : decode cX12_faultKind 15 = .ok (.iconst 0, 1) := by decide +kernel
theorem dX12_faultKind_16 : decode cX12_faultKind 16 = .ok (.goto 4, 3) := by decide +kernel
theorem dX12_faultKind_19 : decode cX12_faultKind 19 = .ok (.iconst 1, 1) := by decide +kernel
theorem dX12_faultKind_20 : decode cX12_faultKind 20 = .ok (.invokevirtual 126, 3) := by decide +kernel
theorem dX12_faultKind_23 : decode cX12_faultKind 23 = .ok (.ifCond .eq 12, 3) := by decide +kernel
theorem dX12_faultKind_26 : decode cX12_faultKind 26 = .ok (.aload_n 0, 1) := by decide +kernel
theorem dX12_faultKind_27 : decode cX12_faultKind 27 = .ok (.getfield 42, 3) := by decide +kernel
theorem dX12_faultKind_30 : decode cX12_faultKind 30 = .ok (.iload_n 1, 1) := by decide +kernel
theorem dX12_faultKind_31 : decode cX12_faultKind 31 = .ok (.iaload, 1) := by decide +kernel
theorem dX12_faultKind_32 : decode cX12_faultKind 32 = .ok (.goto 4, 3) := by decide +kernel
theorem dX12_faultKind_35 : decode cX12_faultKind 35 = .ok (.iconst 0, 1) := by decide +kernel
theorem dX12_faultKind_36 : decode cX12_faultKind 36 = .ok (.ireturn, 1) := by decide +kernel
theorem dX12_faultPlace_0 : decode cX12_faultPlace 0 = .ok (.aload_n 0, 1) := by decide +kernel
theorem dX12_faultPlace_1 : decode cX12_faultPlace 1 = .ok (.iload_n 1, 1) := by decide +kernel
theorem dX12_faultPlace_2 : decode cX12_faultPlace 2 = .ok (.iconst 0, 1) := by decide +kernel
theorem dX12_faultPlace_3 : decode cX12_faultPlace 3 = .ok (.aload_n 0, 1) := by decide +kernel
theorem dX12_faultPlace_4 : decode cX12_faultPlace 4 = .ok (.getfield 146, 3) := by decide +kernel
theorem dX12_faultPlace_7 : decode cX12_faultPlace 7 = .ok (.iconst 1, 1) := by decide +kernel
theorem dX12_faultPlace_8 : decode cX12_faultPlace 8 = .ok (.isub, 1) := by decide +kernel
theorem dX12_faultPlace_9 : decode cX12_faultPlace 9 = .ok (.invokestatic 115, 3) := by decide +kernel
theorem dX12_faultPlace_12 : decode cX12_faultPlace 12 = .ok (.ifCond .eq 7, 3) := by decide +kernel
theorem dX12_faultPlace_15 : decode cX12_faultPlace 15 = .ok (.iconst 0, 1) := by decide +kernel
theorem dX12_faultPlace_16 : decode cX12_faultPlace 16 = .ok (.goto 4, 3) := by decide +kernel
theorem dX12_faultPlace_19 : decode cX12_faultPlace 19 = .ok (.iconst 1, 1) := by decide +kernel
theorem dX12_faultPlace_20 : decode cX12_faultPlace 20 = .ok (.invokevirtual 126, 3) := by decide +kernel
theorem dX12_faultPlace_23 : decode cX12_faultPlace 23 = .ok (.ifCond .eq 12, 3) := by decide +kernel
theorem dX12_faultPlace_26 : decode cX12_faultPlace 26 = .ok (.aload_n 0, 1) := by decide +kernel
theorem dX12_faultPlace_27 : decode cX12_faultPlace 27 = .ok (.getfield 45, 3) := by decide +kernel
theorem dX12_faultPlace_30 : decode cX12_faultPlace 30 = .ok (.iload_n 1, 1) := by decide +kernel
theorem dX12_faultPlace_31 : decode cX12_faultPlace 31 = .ok (.iaload, 1) := by decide +kernel
theorem dX12_faultPlace_32 : decode cX12_faultPlace 32 = .ok (.goto 4, 3) := by decide +kernel
theorem dX12_faultPlace_35 : decode cX12_faultPlace 35 = .ok (.iconst 0, 1) := by decide +kernel
theorem dX12_faultPlace_36 : decode cX12_faultPlace 36 = .ok (.ireturn, 1) := by decide +kernel
theorem dX12_control_0 : decode cX12_control 0 = .ok (.aload_n 0, 1) := by decide +kernel
theorem dX12_control_1 : decode cX12_control 1 = .ok (.aload_n 0, 1) := by decide +kernel
theorem dX12_control_2 : decode cX12_control 2 = .ok (.getfield 167, 3) := by decide +kernel
theorem dX12_control_5 : decode cX12_control 5 = .ok (.ifCond .eq 7, 3) := by decide +kernel
theorem dX12_control_8 : decode cX12_control 8 = .ok (.iconst 0, 1) := by decide +kernel
theorem dX12_control_9 : decode cX12_control 9 = .ok (.goto 4, 3) := by decide +kernel
theorem dX12_control_12 : decode cX12_control 12 = .ok (.iconst 1, 1) := by decide +kernel
theorem dX12_control_13 : decode cX12_control 13 = .ok (.invokevirtual 126, 3) := by decide +kernel
theorem dX12_control_16 : decode cX12_control 16 = .ok (.ifCond .eq 10, 3) := by decide +kernel
theorem dX12_control_19 : decode cX12_control 19 = .ok (.aload_n 0, 1) := by decide +kernel
theorem dX12_control_20 : decode cX12_control 20 = .ok (.getfield 170, 3) := by decide +kernel
theorem dX12_control_23 : decode cX12_control 23 = .ok (.goto 4, 3) := by decide +kernel
theorem dX12_control_26 : decode cX12_control 26 = .ok (.iconst 0, 1) := by decide +kernel
theorem dX12_control_27 : decode cX12_control 27 = .ok (.ireturn, 1) := by decide +kernel
theorem dX12_segments_0 : decode cX12_segments 0 = .ok (.aload_n 0, 1) := by decide +kernel
theorem dX12_segments_1 : decode cX12_segments 1 = .ok (.aload_n 0, 1) := by decide +kernel
theorem dX12_segments_2 : decode cX12_segments 2 = .ok (.getfield 140, 3) := by decide +kernel
theorem dX12_segments_5 : decode cX12_segments 5 = .ok (.ifCond .eq 7, 3) := by decide +kernel
theorem dX12_segments_8 : decode cX12_segments 8 = .ok (.iconst 0, 1) := by decide +kernel
theorem dX12_segments_9 : decode cX12_segments 9 = .ok (.goto 4, 3) := by decide +kernel
theorem dX12_segments_12 : decode cX12_segments 12 = .ok (.iconst 1, 1) := by decide +kernel
theorem dX12_segments_13 : decode cX12_segments 13 = .ok (.invokevirtual 126, 3) := by decide +kernel
theorem dX12_segments_16 : decode cX12_segments 16 = .ok (.ifCond .eq 10, 3) := by decide +kernel
theorem dX12_segments_19 : decode cX12_segments 19 = .ok (.aload_n 0, 1) := by decide +kernel
theorem dX12_segments_20 : decode cX12_segments 20 = .ok (.getfield 200, 3) := by decide +kernel
theorem dX12_segments_23 : decode cX12_segments 23 = .ok (.goto 4, 3) := by decide +kernel
theorem dX12_segments_26 : decode cX12_segments 26 = .ok (.iconst 0, 1) := by decide +kernel
theorem dX12_segments_27 : decode cX12_segments 27 = .ok (.ireturn, 1) := by decide +kernel
theorem dX12_wrong_0 : decode cX12_wrong 0 = .ok (.aload_n 0, 1) := by decide +kernel
theorem dX12_wrong_1 : decode cX12_wrong 1 = .ok (.getfield 140, 3) := by decide +kernel
theorem dX12_wrong_4 : decode cX12_wrong 4 = .ok (.ifCond .ne 7, 3) := by decide +kernel
theorem dX12_wrong_7 : decode cX12_wrong 7 = .ok (.iconst 1, 1) := by decide +kernel
theorem dX12_wrong_8 : decode cX12_wrong 8 = .ok (.goto 22, 3) := by decide +kernel
theorem dX12_wrong_11 : decode cX12_wrong 11 = .ok (.iload_n 1, 1) := by decide +kernel
theorem dX12_wrong_12 : decode cX12_wrong 12 = .ok (.iconst 0, 1) := by decide +kernel
theorem dX12_wrong_13 : decode cX12_wrong 13 = .ok (.aload_n 0, 1) := by decide +kernel
theorem dX12_wrong_14 : decode cX12_wrong 14 = .ok (.getfield 200, 3) := by decide +kernel
theorem dX12_wrong_17 : decode cX12_wrong 17 = .ok (.iconst 1, 1) := by decide +kernel
theorem dX12_wrong_18 : decode cX12_wrong 18 = .ok (.isub, 1) := by decide +kernel
theorem dX12_wrong_19 : decode cX12_wrong 19 = .ok (.invokestatic 115, 3) := by decide +kernel
theorem dX12_wrong_22 : decode cX12_wrong 22 = .ok (.ifCond .ne 7, 3) := by decide +kernel
theorem dX12_wrong_25 : decode cX12_wrong 25 = .ok (.iconst 2, 1) := by decide +kernel
theorem dX12_wrong_26 : decode cX12_wrong 26 = .ok (.goto 4, 3) := by decide +kernel
theorem dX12_wrong_29 : decode cX12_wrong 29 = .ok (.iconst 0, 1) := by decide +kernel
theorem dX12_wrong_30 : decode cX12_wrong 30 = .ok (.ireturn, 1) := by decide +kernel
theorem dX12_wrongElement_0 : decode cX12_wrongElement 0 = .ok (.aload_n 0, 1) := by decide +kernel
theorem dX12_wrongElement_1 : decode cX12_wrongElement 1 = .ok (.iload_n 1, 1) := by decide +kernel
theorem dX12_wrongElement_2 : decode cX12_wrongElement 2 = .ok (.invokevirtual 218, 3) := by decide +kernel
theorem dX12_wrongElement_5 : decode cX12_wrongElement 5 = .ok (.istore_n 3, 1) := by decide +kernel
theorem dX12_wrongElement_6 : decode cX12_wrongElement 6 = .ok (.iload_n 3, 1) := by decide +kernel
theorem dX12_wrongElement_7 : decode cX12_wrongElement 7 = .ok (.ifCond .ne 23, 3) := by decide +kernel
theorem dX12_wrongElement_10 : decode cX12_wrongElement 10 = .ok (.iload_n 2, 1) := by decide +kernel
theorem dX12_wrongElement_11 : decode cX12_wrongElement 11 = .ok (.iconst 0, 1) := by decide +kernel
theorem dX12_wrongElement_12 : decode cX12_wrongElement 12 = .ok (.aload_n 0, 1) := by decide +kernel
theorem dX12_wrongElement_13 : decode cX12_wrongElement 13 = .ok (.getfield 66, 3) := by decide +kernel
theorem dX12_wrongElement_16 : decode cX12_wrongElement 16 = .ok (.iload_n 1, 1) := by decide +kernel
theorem dX12_wrongElement_17 : decode cX12_wrongElement 17 = .ok (.iaload, 1) := by decide +kernel
theorem dX12_wrongElement_18 : decode cX12_wrongElement 18 = .ok (.iconst 1, 1) := by decide +kernel
theorem dX12_wrongElement_19 : decode cX12_wrongElement 19 = .ok (.isub, 1) := by decide +kernel
theorem dX12_wrongElement_20 : decode cX12_wrongElement 20 = .ok (.invokestatic 115, 3) := by decide +kernel
theorem dX12_wrongElement_23 : decode cX12_wrongElement 23 = .ok (.ifCond .ne 7, 3) := by decide +kernel
theorem dX12_wrongElement_26 : decode cX12_wrongElement 26 = .ok (.iconst 2, 1) := by decide +kernel
theorem dX12_wrongElement_27 : decode cX12_wrongElement 27 = .ok (.goto 4, 3) := by decide +kernel
theorem dX12_wrongElement_30 : decode cX12_wrongElement 30 = .ok (.iload_n 3, 1) := by decide +kernel
theorem dX12_wrongElement_31 : decode cX12_wrongElement 31 = .ok (.ireturn, 1) := by decide +kernel
theorem dX12_tag_0 : decode cX12_tag 0 = .ok (.aload_n 0, 1) := by decide +kernel
theorem dX12_tag_1 : decode cX12_tag 1 = .ok (.aload_n 0, 1) := by decide +kernel
theorem dX12_tag_2 : decode cX12_tag 2 = .ok (.iload_n 1, 1) := by decide +kernel
theorem dX12_tag_3 : decode cX12_tag 3 = .ok (.invokevirtual 218, 3) := by decide +kernel
theorem dX12_tag_6 : decode cX12_tag 6 = .ok (.invokevirtual 126, 3) := by decide +kernel
theorem dX12_tag_9 : decode cX12_tag 9 = .ok (.ifCond .eq 12, 3) := by decide +kernel
theorem dX12_tag_12 : decode cX12_tag 12 = .ok (.aload_n 0, 1) := by decide +kernel
theorem dX12_tag_13 : decode cX12_tag 13 = .ok (.getfield 63, 3) := by decide +kernel
theorem dX12_tag_16 : decode cX12_tag 16 = .ok (.iload_n 1, 1) := by decide +kernel
theorem dX12_tag_17 : decode cX12_tag 17 = .ok (.caload, 1) := by decide +kernel
theorem dX12_tag_18 : decode cX12_tag 18 = .ok (.goto 4, 3) := by decide +kernel
theorem dX12_tag_21 : decode cX12_tag 21 = .ok (.iconst 0, 1) := by decide +kernel
theorem dX12_tag_22 : decode cX12_tag 22 = .ok (.ireturn, 1) := by decide +kernel
theorem dX12_elements_0 : decode cX12_elements 0 = .ok (.aload_n 0, 1) := by decide +kernel
theorem dX12_elements_1 : decode cX12_elements 1 = .ok (.aload_n 0, 1) := by decide +kernel
theorem dX12_elements_2 : decode cX12_elements 2 = .ok (.iload_n 1, 1) := by decide +kernel
theorem dX12_elements_3 : decode cX12_elements 3 = .ok (.invokevirtual 218, 3) := by decide +kernel
theorem dX12_elements_6 : decode cX12_elements 6 = .ok (.invokevirtual 126, 3) := by decide +kernel
theorem dX12_elements_9 : decode cX12_elements 9 = .ok (.ifCond .eq 12, 3) := by decide +kernel
theorem dX12_elements_12 : decode cX12_elements 12 = .ok (.aload_n 0, 1) := by decide +kernel
theorem dX12_elements_13 : decode cX12_elements 13 = .ok (.getfield 66, 3) := by decide +kernel
theorem dX12_elements_16 : decode cX12_elements 16 = .ok (.iload_n 1, 1) := by decide +kernel
theorem dX12_elements_17 : decode cX12_elements 17 = .ok (.iaload, 1) := by decide +kernel
theorem dX12_elements_18 : decode cX12_elements 18 = .ok (.goto 4, 3) := by decide +kernel
theorem dX12_elements_21 : decode cX12_elements 21 = .ok (.iconst 0, 1) := by decide +kernel
theorem dX12_elements_22 : decode cX12_elements 22 = .ok (.ireturn, 1) := by decide +kernel
theorem dX12_contentLength_0 : decode cX12_contentLength 0 = .ok (.aload_n 0, 1) := by decide +kernel
theorem dX12_contentLength_1 : decode cX12_contentLength 1 = .ok (.aload_n 0, 1) := by decide +kernel
theorem dX12_contentLength_2 : decode cX12_contentLength 2 = .ok (.iload_n 1, 1) := by decide +kernel
theorem dX12_contentLength_3 : decode cX12_contentLength 3 = .ok (.iload_n 2, 1) := by decide +kernel
theorem dX12_contentLength_4 : decode cX12_contentLength 4 = .ok (.invokevirtual 221, 3) := by decide +kernel
theorem dX12_contentLength_7 : decode cX12_contentLength 7 = .ok (.invokevirtual 126, 3) := by decide +kernel
theorem dX12_contentLength_10 : decode cX12_contentLength 10 = .ok (.ifCond .eq 16, 3) := by decide +kernel
theorem dX12_contentLength_13 : decode cX12_contentLength 13 = .ok (.aload_n 0, 1) := by decide +kernel
theorem dX12_contentLength_14 : decode cX12_contentLength 14 = .ok (.getfield 69, 3) := by decide +kernel
theorem dX12_contentLength_17 : decode cX12_contentLength 17 = .ok (.iconst 5, 1) := by decide +kernel
theorem dX12_contentLength_18 : decode cX12_contentLength 18 = .ok (.iload_n 1, 1) := by decide +kernel
theorem dX12_contentLength_19 : decode cX12_contentLength 19 = .ok (.imul, 1) := by decide +kernel
theorem dX12_contentLength_20 : decode cX12_contentLength 20 = .ok (.iload_n 2, 1) := by decide +kernel
theorem dX12_contentLength_21 : decode cX12_contentLength 21 = .ok (.iadd, 1) := by decide +kernel
theorem dX12_contentLength_22 : decode cX12_contentLength 22 = .ok (.iaload, 1) := by decide +kernel
theorem dX12_contentLength_23 : decode cX12_contentLength 23 = .ok (.goto 4, 3) := by decide +kernel
theorem dX12_contentLength_26 : decode cX12_contentLength 26 = .ok (.iconst 0, 1) := by decide +kernel
theorem dX12_contentLength_27 : decode cX12_contentLength 27 = .ok (.ireturn, 1) := by decide +kernel
theorem dX12_content_0 : decode cX12_content 0 = .ok (.aload_n 0, 1) := by decide +kernel
theorem dX12_content_1 : decode cX12_content 1 = .ok (.iload_n 1, 1) := by decide +kernel
theorem dX12_content_2 : decode cX12_content 2 = .ok (.iload_n 2, 1) := by decide +kernel
theorem dX12_content_3 : decode cX12_content 3 = .ok (.invokevirtual 221, 3) := by decide +kernel
theorem dX12_content_6 : decode cX12_content 6 = .ok (.istore 4, 2) := by decide +kernel
theorem dX12_content_8 : decode cX12_content 8 = .ok (.iload 4, 2) := by decide +kernel
theorem dX12_content_10 : decode cX12_content 10 = .ok (.ifCond .ne 26, 3) := by decide +kernel
theorem dX12_content_13 : decode cX12_content 13 = .ok (.iload_n 3, 1) := by decide +kernel
theorem dX12_content_14 : decode cX12_content 14 = .ok (.iconst 0, 1) := by decide +kernel
theorem dX12_content_15 : decode cX12_content 15 = .ok (.aload_n 0, 1) := by decide +kernel
theorem dX12_content_16 : decode cX12_content 16 = .ok (.getfield 69, 3) := by decide +kernel
theorem dX12_content_19 : decode cX12_content 19 = .ok (.iconst 5, 1) := by decide +kernel
theorem dX12_content_20 : decode cX12_content 20 = .ok (.iload_n 1, 1) := by decide +kernel
theorem dX12_content_21 : decode cX12_content 21 = .ok (.imul, 1) := by decide +kernel
theorem dX12_content_22 : decode cX12_content 22 = .ok (.iload_n 2, 1) := by decide +kernel
theorem dX12_content_23 : decode cX12_content 23 = .ok (.iadd, 1) := by decide +kernel
theorem dX12_content_24 : decode cX12_content 24 = .ok (.iaload, 1) := by decide +kernel
theorem dX12_content_25 : decode cX12_content 25 = .ok (.iconst 1, 1) := by decide +kernel
theorem dX12_content_26 : decode cX12_content 26 = .ok (.isub, 1) := by decide +kernel
theorem dX12_content_27 : decode cX12_content 27 = .ok (.invokestatic 115, 3) := by decide +kernel
theorem dX12_content_30 : decode cX12_content 30 = .ok (.ifCond .ne 6, 3) := by decide +kernel
theorem dX12_content_33 : decode cX12_content 33 = .ok (.iconst 2, 1) := by decide +kernel
theorem dX12_content_34 : decode cX12_content 34 = .ok (.istore 4, 2) := by decide +kernel
theorem dX12_content_36 : decode cX12_content 36 = .ok (.aload_n 0, 1) := by decide +kernel
theorem dX12_content_37 : decode cX12_content 37 = .ok (.iload 4, 2) := by decide +kernel
theorem dX12_content_39 : decode cX12_content 39 = .ok (.invokevirtual 126, 3) := by decide +kernel
theorem dX12_content_42 : decode cX12_content 42 = .ok (.ifCond .eq 21, 3) := by decide +kernel
theorem dX12_content_45 : decode cX12_content 45 = .ok (.aload_n 0, 1) := by decide +kernel
theorem dX12_content_46 : decode cX12_content 46 = .ok (.getfield 72, 3) := by decide +kernel
theorem dX12_content_49 : decode cX12_content 49 = .ok (.bipush 8, 2) := by decide +kernel
theorem dX12_content_51 : decode cX12_content 51 = .ok (.iconst 5, 1) := by decide +kernel
theorem dX12_content_52 : decode cX12_content 52 = .ok (.iload_n 1, 1) := by decide +kernel
theorem dX12_content_53 : decode cX12_content 53 = .ok (.imul, 1) := by decide +kernel
theorem dX12_content_54 : decode cX12_content 54 = .ok (.iload_n 2, 1) := by decide +kernel
theorem dX12_content_55 : decode cX12_content 55 = .ok (.iadd, 1) := by decide +kernel
theorem dX12_content_56 : decode cX12_content 56 = .ok (.imul, 1) := by decide +kernel
theorem dX12_content_57 : decode cX12_content 57 = .ok (.iload_n 3, 1) := by decide +kernel
theorem dX12_content_58 : decode cX12_content 58 = .ok (.iadd, 1) := by decide +kernel
theorem dX12_content_59 : decode cX12_content 59 = .ok (.caload, 1) := by decide +kernel
theorem dX12_content_60 : decode cX12_content 60 = .ok (.goto 4, 3) := by decide +kernel
theorem dX12_content_63 : decode cX12_content 63 = .ok (.iconst 0, 1) := by decide +kernel
theorem dX12_content_64 : decode cX12_content 64 = .ok (.ireturn, 1) := by decide +kernel
theorem dX12_item_0 : decode cX12_item 0 = .ok (.aload_n 0, 1) := by decide +kernel
theorem dX12_item_1 : decode cX12_item 1 = .ok (.aload_n 0, 1) := by decide +kernel
theorem dX12_item_2 : decode cX12_item 2 = .ok (.iload_n 1, 1) := by decide +kernel
theorem dX12_item_3 : decode cX12_item 3 = .ok (.invokevirtual 218, 3) := by decide +kernel
theorem dX12_item_6 : decode cX12_item 6 = .ok (.invokevirtual 126, 3) := by decide +kernel
theorem dX12_item_9 : decode cX12_item 9 = .ok (.ifCond .eq 12, 3) := by decide +kernel
theorem dX12_item_12 : decode cX12_item 12 = .ok (.aload_n 0, 1) := by decide +kernel
theorem dX12_item_13 : decode cX12_item 13 = .ok (.getfield 75, 3) := by decide +kernel
theorem dX12_item_16 : decode cX12_item 16 = .ok (.iload_n 1, 1) := by decide +kernel
theorem dX12_item_17 : decode cX12_item 17 = .ok (.iaload, 1) := by decide +kernel
theorem dX12_item_18 : decode cX12_item 18 = .ok (.goto 4, 3) := by decide +kernel
theorem dX12_item_21 : decode cX12_item 21 = .ok (.iconst 0, 1) := by decide +kernel
theorem dX12_item_22 : decode cX12_item 22 = .ok (.ireturn, 1) := by decide +kernel
theorem dX12_pass_0 : decode cX12_pass 0 = .ok (.aload_n 0, 1) := by decide +kernel
theorem dX12_pass_1 : decode cX12_pass 1 = .ok (.aload_n 0, 1) := by decide +kernel
theorem dX12_pass_2 : decode cX12_pass 2 = .ok (.iload_n 1, 1) := by decide +kernel
theorem dX12_pass_3 : decode cX12_pass 3 = .ok (.invokevirtual 218, 3) := by decide +kernel
theorem dX12_pass_6 : decode cX12_pass 6 = .ok (.invokevirtual 126, 3) := by decide +kernel
theorem dX12_pass_9 : decode cX12_pass 9 = .ok (.ifCond .eq 12, 3) := by decide +kernel
theorem dX12_pass_12 : decode cX12_pass 12 = .ok (.aload_n 0, 1) := by decide +kernel
theorem dX12_pass_13 : decode cX12_pass 13 = .ok (.getfield 78, 3) := by decide +kernel
theorem dX12_pass_16 : decode cX12_pass 16 = .ok (.iload_n 1, 1) := by decide +kernel
theorem dX12_pass_17 : decode cX12_pass 17 = .ok (.iaload, 1) := by decide +kernel
theorem dX12_pass_18 : decode cX12_pass 18 = .ok (.goto 4, 3) := by decide +kernel
theorem dX12_pass_21 : decode cX12_pass 21 = .ok (.iconst 0, 1) := by decide +kernel
theorem dX12_pass_22 : decode cX12_pass 22 = .ok (.ireturn, 1) := by decide +kernel
theorem dX12_addRule_0 : decode cX12_addRule 0 = .ok (.aload_n 0, 1) := by decide +kernel
theorem dX12_addRule_1 : decode cX12_addRule 1 = .ok (.iload_n 1, 1) := by decide +kernel
theorem dX12_addRule_2 : decode cX12_addRule 2 = .ok (.iconst 0, 1) := by decide +kernel
theorem dX12_addRule_3 : decode cX12_addRule 3 = .ok (.aload_n 0, 1) := by decide +kernel
theorem dX12_addRule_4 : decode cX12_addRule 4 = .ok (.getfield 123, 3) := by decide +kernel
theorem dX12_addRule_7 : decode cX12_addRule 7 = .ok (.iconst 1, 1) := by decide +kernel
theorem dX12_addRule_8 : decode cX12_addRule 8 = .ok (.isub, 1) := by decide +kernel
theorem dX12_addRule_9 : decode cX12_addRule 9 = .ok (.invokestatic 115, 3) := by decide +kernel
theorem dX12_addRule_12 : decode cX12_addRule 12 = .ok (.ifCond .ne 7, 3) := by decide +kernel
theorem dX12_addRule_15 : decode cX12_addRule 15 = .ok (.iconst 1, 1) := by decide +kernel
theorem dX12_addRule_16 : decode cX12_addRule 16 = .ok (.goto 28, 3) := by decide +kernel
theorem dX12_addRule_19 : decode cX12_addRule 19 = .ok (.iload_n 2, 1) := by decide +kernel
theorem dX12_addRule_20 : decode cX12_addRule 20 = .ok (.invokestatic 119, 3) := by decide +kernel
theorem dX12_addRule_23 : decode cX12_addRule 23 = .ok (.ifCond .ne 7, 3) := by decide +kernel
theorem dX12_addRule_26 : decode cX12_addRule 26 = .ok (.iconst 2, 1) := by decide +kernel
theorem dX12_addRule_27 : decode cX12_addRule 27 = .ok (.goto 17, 3) := by decide +kernel
theorem dX12_addRule_30 : decode cX12_addRule 30 = .ok (.aload_n 0, 1) := by decide +kernel
theorem dX12_addRule_31 : decode cX12_addRule 31 = .ok (.getfield 137, 3) := by decide +kernel
theorem dX12_addRule_34 : decode cX12_addRule 34 = .ok (.bipush 10, 2) := by decide +kernel
theorem dX12_addRule_36 : decode cX12_addRule 36 = .ok (.if_icmp .ne 7, 3) := by decide +kernel
theorem dX12_addRule_39 : decode cX12_addRule 39 = .ok (.iconst 3, 1) := by decide +kernel
theorem dX12_addRule_40 : decode cX12_addRule 40 = .ok (.goto 4, 3) := by decide +kernel
theorem dX12_addRule_43 : decode cX12_addRule 43 = .ok (.iconst 0, 1) := by decide +kernel
theorem dX12_addRule_44 : decode cX12_addRule 44 = .ok (.invokevirtual 126, 3) := by decide +kernel
theorem dX12_addRule_47 : decode cX12_addRule 47 = .ok (.ifCond .ne 5, 3) := by decide +kernel
theorem dX12_addRule_50 : decode cX12_addRule 50 = .ok (.iconst 0, 1) := by decide +kernel
theorem dX12_addRule_51 : decode cX12_addRule 51 = .ok (.ireturn, 1) := by decide +kernel
theorem dX12_addRule_52 : decode cX12_addRule 52 = .ok (.aload_n 0, 1) := by decide +kernel
theorem dX12_addRule_53 : decode cX12_addRule 53 = .ok (.getfield 87, 3) := by decide +kernel
theorem dX12_addRule_56 : decode cX12_addRule 56 = .ok (.aload_n 0, 1) := by decide +kernel
theorem dX12_addRule_57 : decode cX12_addRule 57 = .ok (.getfield 137, 3) := by decide +kernel
theorem dX12_addRule_60 : decode cX12_addRule 60 = .ok (.iload_n 1, 1) := by decide +kernel
theorem dX12_addRule_61 : decode cX12_addRule 61 = .ok (.iastore, 1) := by decide +kernel
theorem dX12_addRule_62 : decode cX12_addRule 62 = .ok (.aload_n 0, 1) := by decide +kernel
theorem dX12_addRule_63 : decode cX12_addRule 63 = .ok (.getfield 90, 3) := by decide +kernel
theorem dX12_addRule_66 : decode cX12_addRule 66 = .ok (.aload_n 0, 1) := by decide +kernel
theorem dX12_addRule_67 : decode cX12_addRule 67 = .ok (.getfield 137, 3) := by decide +kernel
theorem dX12_addRule_70 : decode cX12_addRule 70 = .ok (.iload_n 2, 1) := by decide +kernel
theorem dX12_addRule_71 : decode cX12_addRule 71 = .ok (.castore, 1) := by decide +kernel
theorem dX12_addRule_72 : decode cX12_addRule 72 = .ok (.aload_n 0, 1) := by decide +kernel
theorem dX12_addRule_73 : decode cX12_addRule 73 = .ok (.getfield 93, 3) := by decide +kernel
theorem dX12_addRule_76 : decode cX12_addRule 76 = .ok (.aload_n 0, 1) := by decide +kernel
theorem dX12_addRule_77 : decode cX12_addRule 77 = .ok (.getfield 137, 3) := by decide +kernel
theorem dX12_addRule_80 : decode cX12_addRule 80 = .ok (.iconst 0, 1) := by decide +kernel
theorem dX12_addRule_81 : decode cX12_addRule 81 = .ok (.iastore, 1) := by decide +kernel
theorem dX12_addRule_82 : decode cX12_addRule 82 = .ok (.aload_n 0, 1) := by decide +kernel
theorem dX12_addRule_83 : decode cX12_addRule 83 = .ok (.getfield 99, 3) := by decide +kernel
theorem dX12_addRule_86 : decode cX12_addRule 86 = .ok (.aload_n 0, 1) := by decide +kernel
theorem dX12_addRule_87 : decode cX12_addRule 87 = .ok (.getfield 137, 3) := by decide +kernel
theorem dX12_addRule_90 : decode cX12_addRule 90 = .ok (.iconst (-1), 1) := by decide +kernel
theorem dX12_addRule_91 : decode cX12_addRule 91 = .ok (.iastore, 1) := by decide +kernel
theorem dX12_addRule_92 : decode cX12_addRule 92 = .ok (.aload_n 0, 1) := by decide +kernel
theorem dX12_addRule_93 : decode cX12_addRule 93 = .ok (.dup, 1) := by decide +kernel
theorem dX12_addRule_94 : decode cX12_addRule 94 = .ok (.getfield 137, 3) := by decide +kernel
theorem dX12_addRule_97 : decode cX12_addRule 97 = .ok (.iconst 1, 1) := by decide +kernel
theorem dX12_addRule_98 : decode cX12_addRule 98 = .ok (.iadd, 1) := by decide +kernel
theorem dX12_addRule_99 : decode cX12_addRule 99 = .ok (.putfield 137, 3) := by decide +kernel
theorem dX12_addRule_102 : decode cX12_addRule 102 = .ok (.aload_n 0, 1) := by decide +kernel
theorem dX12_addRule_103 : decode cX12_addRule 103 = .ok (.getfield 137, 3) := by decide +kernel
theorem dX12_addRule_106 : decode cX12_addRule 106 = .ok (.iconst 1, 1) := by decide +kernel
theorem dX12_addRule_107 : decode cX12_addRule 107 = .ok (.isub, 1) := by decide +kernel
theorem dX12_addRule_108 : decode cX12_addRule 108 = .ok (.ireturn, 1) := by decide +kernel
theorem dX12_addField_0 : decode cX12_addField 0 = .ok (.aload_n 0, 1) := by decide +kernel
theorem dX12_addField_1 : decode cX12_addField 1 = .ok (.iload_n 1, 1) := by decide +kernel
theorem dX12_addField_2 : decode cX12_addField 2 = .ok (.iconst 0, 1) := by decide +kernel
theorem dX12_addField_3 : decode cX12_addField 3 = .ok (.aload_n 0, 1) := by decide +kernel
theorem dX12_addField_4 : decode cX12_addField 4 = .ok (.getfield 137, 3) := by decide +kernel
theorem dX12_addField_7 : decode cX12_addField 7 = .ok (.iconst 1, 1) := by decide +kernel
theorem dX12_addField_8 : decode cX12_addField 8 = .ok (.isub, 1) := by decide +kernel
theorem dX12_addField_9 : decode cX12_addField 9 = .ok (.invokestatic 115, 3) := by decide +kernel
theorem dX12_addField_12 : decode cX12_addField 12 = .ok (.ifCond .ne 7, 3) := by decide +kernel
theorem dX12_addField_15 : decode cX12_addField 15 = .ok (.iconst 1, 1) := by decide +kernel
theorem dX12_addField_16 : decode cX12_addField 16 = .ok (.goto 31, 3) := by decide +kernel
theorem dX12_addField_19 : decode cX12_addField 19 = .ok (.iload_n 2, 1) := by decide +kernel
theorem dX12_addField_20 : decode cX12_addField 20 = .ok (.iconst 0, 1) := by decide +kernel
theorem dX12_addField_21 : decode cX12_addField 21 = .ok (.iconst 4, 1) := by decide +kernel
theorem dX12_addField_22 : decode cX12_addField 22 = .ok (.invokestatic 115, 3) := by decide +kernel
theorem dX12_addField_25 : decode cX12_addField 25 = .ok (.ifCond .ne 7, 3) := by decide +kernel
theorem dX12_addField_28 : decode cX12_addField 28 = .ok (.iconst 2, 1) := by decide +kernel
theorem dX12_addField_29 : decode cX12_addField 29 = .ok (.goto 18, 3) := by decide +kernel
theorem dX12_addField_32 : decode cX12_addField 32 = .ok (.aload_n 0, 1) := by decide +kernel
theorem dX12_addField_33 : decode cX12_addField 33 = .ok (.getfield 93, 3) := by decide +kernel
theorem dX12_addField_36 : decode cX12_addField 36 = .ok (.iload_n 1, 1) := by decide +kernel
theorem dX12_addField_37 : decode cX12_addField 37 = .ok (.iaload, 1) := by decide +kernel
theorem dX12_addField_38 : decode cX12_addField 38 = .ok (.iconst 5, 1) := by decide +kernel
theorem dX12_addField_39 : decode cX12_addField 39 = .ok (.if_icmp .ne 7, 3) := by decide +kernel
theorem dX12_addField_42 : decode cX12_addField 42 = .ok (.iconst 3, 1) := by decide +kernel
theorem dX12_addField_43 : decode cX12_addField 43 = .ok (.goto 4, 3) := by decide +kernel
theorem dX12_addField_46 : decode cX12_addField 46 = .ok (.iconst 0, 1) := by decide +kernel
theorem dX12_addField_47 : decode cX12_addField 47 = .ok (.invokevirtual 126, 3) := by decide +kernel
theorem dX12_addField_50 : decode cX12_addField 50 = .ok (.ifCond .ne 5, 3) := by decide +kernel
theorem dX12_addField_53 : decode cX12_addField 53 = .ok (.iconst 0, 1) := by decide +kernel
theorem dX12_addField_54 : decode cX12_addField 54 = .ok (.ireturn, 1) := by decide +kernel
theorem dX12_addField_55 : decode cX12_addField 55 = .ok (.aload_n 0, 1) := by decide +kernel
theorem dX12_addField_56 : decode cX12_addField 56 = .ok (.getfield 96, 3) := by decide +kernel
theorem dX12_addField_59 : decode cX12_addField 59 = .ok (.iconst 5, 1) := by decide +kernel
theorem dX12_addField_60 : decode cX12_addField 60 = .ok (.iload_n 1, 1) := by decide +kernel
theorem dX12_addField_61 : decode cX12_addField 61 = .ok (.imul, 1) := by decide +kernel
theorem dX12_addField_62 : decode cX12_addField 62 = .ok (.aload_n 0, 1) := by decide +kernel
theorem dX12_addField_63 : decode cX12_addField 63 = .ok (.getfield 93, 3) := by decide +kernel
theorem dX12_addField_66 : decode cX12_addField 66 = .ok (.iload_n 1, 1) := by decide +kernel
theorem dX12_addField_67 : decode cX12_addField 67 = .ok (.iaload, 1) := by decide +kernel
theorem dX12_addField_68 : decode cX12_addField 68 = .ok (.iadd, 1) := by decide +kernel
theorem dX12_addField_69 : decode cX12_addField 69 = .ok (.iload_n 2, 1) := by decide +kernel
theorem dX12_addField_70 : decode cX12_addField 70 = .ok (.iastore, 1) := by decide +kernel
theorem dX12_addField_71 : decode cX12_addField 71 = .ok (.aload_n 0, 1) := by decide +kernel
theorem dX12_addField_72 : decode cX12_addField 72 = .ok (.getfield 93, 3) := by decide +kernel
theorem dX12_addField_75 : decode cX12_addField 75 = .ok (.iload_n 1, 1) := by decide +kernel
theorem dX12_addField_76 : decode cX12_addField 76 = .ok (.dup2, 1) := by decide +kernel
theorem dX12_addField_77 : decode cX12_addField 77 = .ok (.iaload, 1) := by decide +kernel
theorem dX12_addField_78 : decode cX12_addField 78 = .ok (.iconst 1, 1) := by decide +kernel
theorem dX12_addField_79 : decode cX12_addField 79 = .ok (.iadd, 1) := by decide +kernel
theorem dX12_addField_80 : decode cX12_addField 80 = .ok (.iastore, 1) := by decide +kernel
theorem dX12_addField_81 : decode cX12_addField 81 = .ok (.aload_n 0, 1) := by decide +kernel
theorem dX12_addField_82 : decode cX12_addField 82 = .ok (.getfield 93, 3) := by decide +kernel
theorem dX12_addField_85 : decode cX12_addField 85 = .ok (.iload_n 1, 1) := by decide +kernel
theorem dX12_addField_86 : decode cX12_addField 86 = .ok (.iaload, 1) := by decide +kernel
theorem dX12_addField_87 : decode cX12_addField 87 = .ok (.ireturn, 1) := by decide +kernel
theorem dX12_setCondition_0 : decode cX12_setCondition 0 = .ok (.iload_n 2, 1) := by decide +kernel
theorem dX12_setCondition_1 : decode cX12_setCondition 1 = .ok (.iconst 0, 1) := by decide +kernel
theorem dX12_setCondition_2 : decode cX12_setCondition 2 = .ok (.iconst 4, 1) := by decide +kernel
theorem dX12_setCondition_3 : decode cX12_setCondition 3 = .ok (.invokestatic 115, 3) := by decide +kernel
theorem dX12_setCondition_6 : decode cX12_setCondition 6 = .ok (.ifCond .eq 18, 3) := by decide +kernel
theorem dX12_setCondition_9 : decode cX12_setCondition 9 = .ok (.iload_n 3, 1) := by decide +kernel
theorem dX12_setCondition_10 : decode cX12_setCondition 10 = .ok (.bipush 32, 2) := by decide +kernel
theorem dX12_setCondition_12 : decode cX12_setCondition 12 = .ok (.bipush 126, 2) := by decide +kernel
theorem dX12_setCondition_14 : decode cX12_setCondition 14 = .ok (.invokestatic 115, 3) := by decide +kernel
theorem dX12_setCondition_17 : decode cX12_setCondition 17 = .ok (.ifCond .eq 7, 3) := by decide +kernel
theorem dX12_setCondition_20 : decode cX12_setCondition 20 = .ok (.iconst 1, 1) := by decide +kernel
theorem dX12_setCondition_21 : decode cX12_setCondition 21 = .ok (.goto 4, 3) := by decide +kernel
theorem dX12_setCondition_24 : decode cX12_setCondition 24 = .ok (.iconst 0, 1) := by decide +kernel
theorem dX12_setCondition_25 : decode cX12_setCondition 25 = .ok (.istore 4, 2) := by decide +kernel
theorem dX12_setCondition_27 : decode cX12_setCondition 27 = .ok (.aload_n 0, 1) := by decide +kernel
theorem dX12_setCondition_28 : decode cX12_setCondition 28 = .ok (.iload_n 1, 1) := by decide +kernel
theorem dX12_setCondition_29 : decode cX12_setCondition 29 = .ok (.iconst 0, 1) := by decide +kernel
theorem dX12_setCondition_30 : decode cX12_setCondition 30 = .ok (.aload_n 0, 1) := by decide +kernel
theorem dX12_setCondition_31 : decode cX12_setCondition 31 = .ok (.getfield 137, 3) := by decide +kernel
theorem dX12_setCondition_34 : decode cX12_setCondition 34 = .ok (.iconst 1, 1) := by decide +kernel
theorem dX12_setCondition_35 : decode cX12_setCondition 35 = .ok (.isub, 1) := by decide +kernel
theorem dX12_setCondition_36 : decode cX12_setCondition 36 = .ok (.invokestatic 115, 3) := by decide +kernel
theorem dX12_setCondition_39 : decode cX12_setCondition 39 = .ok (.ifCond .ne 7, 3) := by decide +kernel
theorem dX12_setCondition_42 : decode cX12_setCondition 42 = .ok (.iconst 1, 1) := by decide +kernel
theorem dX12_setCondition_43 : decode cX12_setCondition 43 = .ok (.goto 13, 3) := by decide +kernel
theorem dX12_setCondition_46 : decode cX12_setCondition 46 = .ok (.iload 4, 2) := by decide +kernel
theorem dX12_setCondition_48 : decode cX12_setCondition 48 = .ok (.ifCond .ne 7, 3) := by decide +kernel
theorem dX12_setCondition_51 : decode cX12_setCondition 51 = .ok (.iconst 2, 1) := by decide +kernel
theorem dX12_setCondition_52 : decode cX12_setCondition 52 = .ok (.goto 4, 3) := by decide +kernel
theorem dX12_setCondition_55 : decode cX12_setCondition 55 = .ok (.iconst 0, 1) := by decide +kernel
theorem dX12_setCondition_56 : decode cX12_setCondition 56 = .ok (.invokevirtual 126, 3) := by decide +kernel
theorem dX12_setCondition_59 : decode cX12_setCondition 59 = .ok (.ifCond .eq 17, 3) := by decide +kernel
theorem dX12_setCondition_62 : decode cX12_setCondition 62 = .ok (.aload_n 0, 1) := by decide +kernel
theorem dX12_setCondition_63 : decode cX12_setCondition 63 = .ok (.getfield 99, 3) := by decide +kernel
theorem dX12_setCondition_66 : decode cX12_setCondition 66 = .ok (.iload_n 1, 1) := by decide +kernel
theorem dX12_setCondition_67 : decode cX12_setCondition 67 = .ok (.iload_n 2, 1) := by decide +kernel
theorem dX12_setCondition_68 : decode cX12_setCondition 68 = .ok (.iastore, 1) := by decide +kernel
theorem dX12_setCondition_69 : decode cX12_setCondition 69 = .ok (.aload_n 0, 1) := by decide +kernel
theorem dX12_setCondition_70 : decode cX12_setCondition 70 = .ok (.getfield 102, 3) := by decide +kernel
theorem dX12_setCondition_73 : decode cX12_setCondition 73 = .ok (.iload_n 1, 1) := by decide +kernel
theorem dX12_setCondition_74 : decode cX12_setCondition 74 = .ok (.iload_n 3, 1) := by decide +kernel
theorem dX12_setCondition_75 : decode cX12_setCondition 75 = .ok (.castore, 1) := by decide +kernel
theorem dX12_setCondition_76 : decode cX12_setCondition 76 = .ok (.return_, 1) := by decide +kernel
theorem dX12_isWriting_0 : decode cX12_isWriting 0 = .ok (.aload_n 0, 1) := by decide +kernel
theorem dX12_isWriting_1 : decode cX12_isWriting 1 = .ok (.getfield 99, 3) := by decide +kernel
theorem dX12_isWriting_4 : decode cX12_isWriting 4 = .ok (.iload_n 1, 1) := by decide +kernel
theorem dX12_isWriting_5 : decode cX12_isWriting 5 = .ok (.iaload, 1) := by decide +kernel
theorem dX12_isWriting_6 : decode cX12_isWriting 6 = .ok (.istore_n 3, 1) := by decide +kernel
theorem dX12_isWriting_7 : decode cX12_isWriting 7 = .ok (.aload_n 0, 1) := by decide +kernel
theorem dX12_isWriting_8 : decode cX12_isWriting 8 = .ok (.getfield 87, 3) := by decide +kernel
theorem dX12_isWriting_11 : decode cX12_isWriting 11 = .ok (.iload_n 1, 1) := by decide +kernel
theorem dX12_isWriting_12 : decode cX12_isWriting 12 = .ok (.iaload, 1) := by decide +kernel
theorem dX12_isWriting_13 : decode cX12_isWriting 13 = .ok (.aload_n 0, 1) := by decide +kernel
theorem dX12_isWriting_14 : decode cX12_isWriting 14 = .ok (.getfield 75, 3) := by decide +kernel
theorem dX12_isWriting_17 : decode cX12_isWriting 17 = .ok (.iload_n 2, 1) := by decide +kernel
theorem dX12_isWriting_18 : decode cX12_isWriting 18 = .ok (.iaload, 1) := by decide +kernel
theorem dX12_isWriting_19 : decode cX12_isWriting 19 = .ok (.if_icmp .ne 7, 3) := by decide +kernel
theorem dX12_isWriting_22 : decode cX12_isWriting 22 = .ok (.iconst 1, 1) := by decide +kernel
theorem dX12_isWriting_23 : decode cX12_isWriting 23 = .ok (.goto 4, 3) := by decide +kernel
theorem dX12_isWriting_26 : decode cX12_isWriting 26 = .ok (.iconst 0, 1) := by decide +kernel
theorem dX12_isWriting_27 : decode cX12_isWriting 27 = .ok (.istore 4, 2) := by decide +kernel
theorem dX12_isWriting_29 : decode cX12_isWriting 29 = .ok (.iload 4, 2) := by decide +kernel
theorem dX12_isWriting_31 : decode cX12_isWriting 31 = .ok (.ifCond .eq 61, 3) := by decide +kernel
theorem dX12_isWriting_34 : decode cX12_isWriting 34 = .ok (.iload_n 3, 1) := by decide +kernel
theorem dX12_isWriting_35 : decode cX12_isWriting 35 = .ok (.iconst (-1), 1) := by decide +kernel
theorem dX12_isWriting_36 : decode cX12_isWriting 36 = .ok (.if_icmp .eq 56, 3) := by decide +kernel
theorem dX12_isWriting_39 : decode cX12_isWriting 39 = .ok (.iconst 5, 1) := by decide +kernel
theorem dX12_isWriting_40 : decode cX12_isWriting 40 = .ok (.iload_n 2, 1) := by decide +kernel
theorem dX12_isWriting_41 : decode cX12_isWriting 41 = .ok (.imul, 1) := by decide +kernel
theorem dX12_isWriting_42 : decode cX12_isWriting 42 = .ok (.iload_n 3, 1) := by decide +kernel
theorem dX12_isWriting_43 : decode cX12_isWriting 43 = .ok (.iadd, 1) := by decide +kernel
theorem dX12_isWriting_44 : decode cX12_isWriting 44 = .ok (.istore 5, 2) := by decide +kernel
theorem dX12_isWriting_46 : decode cX12_isWriting 46 = .ok (.iload_n 3, 1) := by decide +kernel
theorem dX12_isWriting_47 : decode cX12_isWriting 47 = .ok (.aload_n 0, 1) := by decide +kernel
theorem dX12_isWriting_48 : decode cX12_isWriting 48 = .ok (.getfield 66, 3) := by decide +kernel
theorem dX12_isWriting_51 : decode cX12_isWriting 51 = .ok (.iload_n 2, 1) := by decide +kernel
theorem dX12_isWriting_52 : decode cX12_isWriting 52 = .ok (.iaload, 1) := by decide +kernel
theorem dX12_isWriting_53 : decode cX12_isWriting 53 = .ok (.if_icmp .ge 36, 3) := by decide +kernel
theorem dX12_isWriting_56 : decode cX12_isWriting 56 = .ok (.aload_n 0, 1) := by decide +kernel
theorem dX12_isWriting_57 : decode cX12_isWriting 57 = .ok (.getfield 69, 3) := by decide +kernel
theorem dX12_isWriting_60 : decode cX12_isWriting 60 = .ok (.iload 5, 2) := by decide +kernel
theorem dX12_isWriting_62 : decode cX12_isWriting 62 = .ok (.iaload, 1) := by decide +kernel
theorem dX12_isWriting_63 : decode cX12_isWriting 63 = .ok (.ifCond .le 26, 3) := by decide +kernel
theorem dX12_isWriting_66 : decode cX12_isWriting 66 = .ok (.aload_n 0, 1) := by decide +kernel
theorem dX12_isWriting_67 : decode cX12_isWriting 67 = .ok (.getfield 72, 3) := by decide +kernel
theorem dX12_isWriting_70 : decode cX12_isWriting 70 = .ok (.bipush 8, 2) := by decide +kernel
theorem dX12_isWriting_72 : decode cX12_isWriting 72 = .ok (.iload 5, 2) := by decide +kernel
theorem dX12_isWriting_74 : decode cX12_isWriting 74 = .ok (.imul, 1) := by decide +kernel
theorem dX12_isWriting_75 : decode cX12_isWriting 75 = .ok (.caload, 1) := by decide +kernel
theorem dX12_isWriting_76 : decode cX12_isWriting 76 = .ok (.aload_n 0, 1) := by decide +kernel
theorem dX12_isWriting_77 : decode cX12_isWriting 77 = .ok (.getfield 102, 3) := by decide +kernel
theorem dX12_isWriting_80 : decode cX12_isWriting 80 = .ok (.iload_n 1, 1) := by decide +kernel
theorem dX12_isWriting_81 : decode cX12_isWriting 81 = .ok (.caload, 1) := by decide +kernel
theorem dX12_isWriting_82 : decode cX12_isWriting 82 = .ok (.if_icmp .ne 7, 3) := by decide +kernel
theorem dX12_isWriting_85 : decode cX12_isWriting 85 = .ok (.iconst 1, 1) := by decide +kernel
theorem dX12_isWriting_86 : decode cX12_isWriting 86 = .ok (.goto 4, 3) := by decide +kernel
theorem dX12_isWriting_89 : decode cX12_isWriting 89 = .ok (.iconst 0, 1) := by decide +kernel
theorem dX12_isWriting_90 : decode cX12_isWriting 90 = .ok (.istore 4, 2) := by decide +kernel
theorem dX12_isWriting_92 : decode cX12_isWriting 92 = .ok (.iload 4, 2) := by decide +kernel
theorem dX12_isWriting_94 : decode cX12_isWriting 94 = .ok (.ireturn, 1) := by decide +kernel
theorem dX12_puts_0 : decode cX12_puts 0 = .ok (.aload_n 0, 1) := by decide +kernel
theorem dX12_puts_1 : decode cX12_puts 1 = .ok (.getfield 224, 3) := by decide +kernel
theorem dX12_puts_4 : decode cX12_puts 4 = .ok (.sipush 300, 3) := by decide +kernel
theorem dX12_puts_7 : decode cX12_puts 7 = .ok (.if_icmp .ge 13, 3) := by decide +kernel
theorem dX12_puts_10 : decode cX12_puts 10 = .ok (.aload_n 0, 1) := by decide +kernel
theorem dX12_puts_11 : decode cX12_puts 11 = .ok (.getfield 105, 3) := by decide +kernel
theorem dX12_puts_14 : decode cX12_puts 14 = .ok (.aload_n 0, 1) := by decide +kernel
theorem dX12_puts_15 : decode cX12_puts 15 = .ok (.getfield 224, 3) := by decide +kernel
theorem dX12_puts_18 : decode cX12_puts 18 = .ok (.iload_n 1, 1) := by decide +kernel
theorem dX12_puts_19 : decode cX12_puts 19 = .ok (.castore, 1) := by decide +kernel
theorem dX12_puts_20 : decode cX12_puts 20 = .ok (.aload_n 0, 1) := by decide +kernel
theorem dX12_puts_21 : decode cX12_puts 21 = .ok (.dup, 1) := by decide +kernel
theorem dX12_puts_22 : decode cX12_puts 22 = .ok (.getfield 224, 3) := by decide +kernel
theorem dX12_puts_25 : decode cX12_puts 25 = .ok (.iconst 1, 1) := by decide +kernel
theorem dX12_puts_26 : decode cX12_puts 26 = .ok (.iadd, 1) := by decide +kernel
theorem dX12_puts_27 : decode cX12_puts 27 = .ok (.putfield 224, 3) := by decide +kernel
theorem dX12_puts_30 : decode cX12_puts 30 = .ok (.return_, 1) := by decide +kernel
theorem dX12_putsNumber_0 : decode cX12_putsNumber 0 = .ok (.iconst 1, 1) := by decide +kernel
theorem dX12_putsNumber_1 : decode cX12_putsNumber 1 = .ok (.istore_n 2, 1) := by decide +kernel
theorem dX12_putsNumber_2 : decode cX12_putsNumber 2 = .ok (.iload_n 1, 1) := by decide +kernel
theorem dX12_putsNumber_3 : decode cX12_putsNumber 3 = .ok (.iload_n 2, 1) := by decide +kernel
theorem dX12_putsNumber_4 : decode cX12_putsNumber 4 = .ok (.idiv, 1) := by decide +kernel
theorem dX12_putsNumber_5 : decode cX12_putsNumber 5 = .ok (.bipush 9, 2) := by decide +kernel
theorem dX12_putsNumber_7 : decode cX12_putsNumber 7 = .ok (.if_icmp .le 11, 3) := by decide +kernel
theorem dX12_putsNumber_10 : decode cX12_putsNumber 10 = .ok (.iload_n 2, 1) := by decide +kernel
theorem dX12_putsNumber_11 : decode cX12_putsNumber 11 = .ok (.bipush 10, 2) := by decide +kernel
theorem dX12_putsNumber_13 : decode cX12_putsNumber 13 = .ok (.imul, 1) := by decide +kernel
theorem dX12_putsNumber_14 : decode cX12_putsNumber 14 = .ok (.istore_n 2, 1) := by decide +kernel
theorem dX12_putsNumber_15 : decode cX12_putsNumber 15 = .ok (.goto (-13), 3) := by decide +kernel
theorem dX12_putsNumber_18 : decode cX12_putsNumber 18 = .ok (.iload_n 2, 1) := by decide +kernel
theorem dX12_putsNumber_19 : decode cX12_putsNumber 19 = .ok (.ifCond .le 25, 3) := by decide +kernel
theorem dX12_putsNumber_22 : decode cX12_putsNumber 22 = .ok (.aload_n 0, 1) := by decide +kernel
theorem dX12_putsNumber_23 : decode cX12_putsNumber 23 = .ok (.bipush 48, 2) := by decide +kernel
theorem dX12_putsNumber_25 : decode cX12_putsNumber 25 = .ok (.iload_n 1, 1) := by decide +kernel
theorem dX12_putsNumber_26 : decode cX12_putsNumber 26 = .ok (.iload_n 2, 1) := by decide +kernel
theorem dX12_putsNumber_27 : decode cX12_putsNumber 27 = .ok (.idiv, 1) := by decide +kernel
theorem dX12_putsNumber_28 : decode cX12_putsNumber 28 = .ok (.bipush 10, 2) := by decide +kernel
theorem dX12_putsNumber_30 : decode cX12_putsNumber 30 = .ok (.irem, 1) := by decide +kernel
theorem dX12_putsNumber_31 : decode cX12_putsNumber 31 = .ok (.iadd, 1) := by decide +kernel
theorem dX12_putsNumber_32 : decode cX12_putsNumber 32 = .ok (.i2c, 1) := by decide +kernel
theorem dX12_putsNumber_33 : decode cX12_putsNumber 33 = .ok (.invokevirtual 227, 3) := by decide +kernel
theorem dX12_putsNumber_36 : decode cX12_putsNumber 36 = .ok (.iload_n 2, 1) := by decide +kernel
theorem dX12_putsNumber_37 : decode cX12_putsNumber 37 = .ok (.bipush 10, 2) := by decide +kernel
theorem dX12_putsNumber_39 : decode cX12_putsNumber 39 = .ok (.idiv, 1) := by decide +kernel
theorem dX12_putsNumber_40 : decode cX12_putsNumber 40 = .ok (.istore_n 2, 1) := by decide +kernel
theorem dX12_putsNumber_41 : decode cX12_putsNumber 41 = .ok (.goto (-23), 3) := by decide +kernel
theorem dX12_putsNumber_44 : decode cX12_putsNumber 44 = .ok (.return_, 1) := by decide +kernel
theorem dX12_putsContent_0 : decode cX12_putsContent 0 = .ok (.iconst 5, 1) := by decide +kernel
theorem dX12_putsContent_1 : decode cX12_putsContent 1 = .ok (.iload_n 1, 1) := by decide +kernel
theorem dX12_putsContent_2 : decode cX12_putsContent 2 = .ok (.imul, 1) := by decide +kernel
theorem dX12_putsContent_3 : decode cX12_putsContent 3 = .ok (.iload_n 2, 1) := by decide +kernel
theorem dX12_putsContent_4 : decode cX12_putsContent 4 = .ok (.iadd, 1) := by decide +kernel
theorem dX12_putsContent_5 : decode cX12_putsContent 5 = .ok (.istore_n 3, 1) := by decide +kernel
theorem dX12_putsContent_6 : decode cX12_putsContent 6 = .ok (.iconst 0, 1) := by decide +kernel
theorem dX12_putsContent_7 : decode cX12_putsContent 7 = .ok (.istore 4, 2) := by decide +kernel
theorem dX12_putsContent_9 : decode cX12_putsContent 9 = .ok (.iload_n 2, 1) := by decide +kernel
theorem dX12_putsContent_10 : decode cX12_putsContent 10 = .ok (.aload_n 0, 1) := by decide +kernel
theorem dX12_putsContent_11 : decode cX12_putsContent 11 = .ok (.getfield 66, 3) := by decide +kernel
theorem dX12_putsContent_14 : decode cX12_putsContent 14 = .ok (.iload_n 1, 1) := by decide +kernel
theorem dX12_putsContent_15 : decode cX12_putsContent 15 = .ok (.iaload, 1) := by decide +kernel
theorem dX12_putsContent_16 : decode cX12_putsContent 16 = .ok (.if_icmp .ge 67, 3) := by decide +kernel
theorem dX12_putsContent_19 : decode cX12_putsContent 19 = .ok (.iload 4, 2) := by decide +kernel
theorem dX12_putsContent_21 : decode cX12_putsContent 21 = .ok (.aload_n 0, 1) := by decide +kernel
theorem dX12_putsContent_22 : decode cX12_putsContent 22 = .ok (.getfield 69, 3) := by decide +kernel
theorem dX12_putsContent_25 : decode cX12_putsContent 25 = .ok (.iload_n 3, 1) := by decide +kernel
theorem dX12_putsContent_26 : decode cX12_putsContent 26 = .ok (.iaload, 1) := by decide +kernel
theorem dX12_putsContent_27 : decode cX12_putsContent 27 = .ok (.if_icmp .ge 56, 3) := by decide +kernel
theorem dX12_putsContent_30 : decode cX12_putsContent 30 = .ok (.aload_n 0, 1) := by decide +kernel
theorem dX12_putsContent_31 : decode cX12_putsContent 31 = .ok (.getfield 72, 3) := by decide +kernel
theorem dX12_putsContent_34 : decode cX12_putsContent 34 = .ok (.bipush 8, 2) := by decide +kernel
theorem dX12_putsContent_36 : decode cX12_putsContent 36 = .ok (.iload_n 3, 1) := by decide +kernel
theorem dX12_putsContent_37 : decode cX12_putsContent 37 = .ok (.imul, 1) := by decide +kernel
theorem dX12_putsContent_38 : decode cX12_putsContent 38 = .ok (.iload 4, 2) := by decide +kernel
theorem dX12_putsContent_40 : decode cX12_putsContent 40 = .ok (.iadd, 1) := by decide +kernel
theorem dX12_putsContent_41 : decode cX12_putsContent 41 = .ok (.caload, 1) := by decide +kernel
theorem dX12_putsContent_42 : decode cX12_putsContent 42 = .ok (.istore 5, 2) := by decide +kernel
theorem dX12_putsContent_44 : decode cX12_putsContent 44 = .ok (.iload 5, 2) := by decide +kernel
theorem dX12_putsContent_46 : decode cX12_putsContent 46 = .ok (.bipush 43, 2) := by decide +kernel
theorem dX12_putsContent_48 : decode cX12_putsContent 48 = .ok (.if_icmp .eq 17, 3) := by decide +kernel
theorem dX12_putsContent_51 : decode cX12_putsContent 51 = .ok (.iload 5, 2) := by decide +kernel
theorem dX12_putsContent_53 : decode cX12_putsContent 53 = .ok (.bipush 39, 2) := by decide +kernel
theorem dX12_putsContent_55 : decode cX12_putsContent 55 = .ok (.if_icmp .eq 10, 3) := by decide +kernel
theorem dX12_putsContent_58 : decode cX12_putsContent 58 = .ok (.iload 5, 2) := by decide +kernel
theorem dX12_putsContent_60 : decode cX12_putsContent 60 = .ok (.bipush 63, 2) := by decide +kernel
theorem dX12_putsContent_62 : decode cX12_putsContent 62 = .ok (.if_icmp .ne 9, 3) := by decide +kernel
theorem dX12_putsContent_65 : decode cX12_putsContent 65 = .ok (.aload_n 0, 1) := by decide +kernel
theorem dX12_putsContent_66 : decode cX12_putsContent 66 = .ok (.bipush 63, 2) := by decide +kernel
theorem dX12_putsContent_68 : decode cX12_putsContent 68 = .ok (.invokevirtual 227, 3) := by decide +kernel
theorem dX12_putsContent_71 : decode cX12_putsContent 71 = .ok (.aload_n 0, 1) := by decide +kernel
theorem dX12_putsContent_72 : decode cX12_putsContent 72 = .ok (.iload 5, 2) := by decide +kernel
theorem dX12_putsContent_74 : decode cX12_putsContent 74 = .ok (.invokevirtual 227, 3) := by decide +kernel
theorem dX12_putsContent_77 : decode cX12_putsContent 77 = .ok (.iinc 4 1, 3) := by decide +kernel
theorem dX12_putsContent_80 : decode cX12_putsContent 80 = .ok (.goto (-71), 3) := by decide +kernel
theorem dX12_putsContent_83 : decode cX12_putsContent 83 = .ok (.return_, 1) := by decide +kernel
theorem dX12_drafts_0 : decode cX12_drafts 0 = .ok (.iconst 2, 1) := by decide +kernel
theorem dX12_drafts_1 : decode cX12_drafts 1 = .ok (.istore_n 1, 1) := by decide +kernel
theorem dX12_drafts_2 : decode cX12_drafts 2 = .ok (.aload_n 0, 1) := by decide +kernel
theorem dX12_drafts_3 : decode cX12_drafts 3 = .ok (.iconst 0, 1) := by decide +kernel
theorem dX12_drafts_4 : decode cX12_drafts 4 = .ok (.putfield 224, 3) := by decide +kernel
theorem dX12_drafts_7 : decode cX12_drafts 7 = .ok (.aload_n 0, 1) := by decide +kernel
theorem dX12_drafts_8 : decode cX12_drafts 8 = .ok (.bipush 72, 2) := by decide +kernel
theorem dX12_drafts_10 : decode cX12_drafts 10 = .ok (.invokevirtual 227, 3) := by decide +kernel
theorem dX12_drafts_13 : decode cX12_drafts 13 = .ok (.aload_n 0, 1) := by decide +kernel
theorem dX12_drafts_14 : decode cX12_drafts 14 = .ok (.bipush 43, 2) := by decide +kernel
theorem dX12_drafts_16 : decode cX12_drafts 16 = .ok (.invokevirtual 227, 3) := by decide +kernel
theorem dX12_drafts_19 : decode cX12_drafts 19 = .ok (.aload_n 0, 1) := by decide +kernel
theorem dX12_drafts_20 : decode cX12_drafts 20 = .ok (.aload_n 0, 1) := by decide +kernel
theorem dX12_drafts_21 : decode cX12_drafts 21 = .ok (.getfield 231, 3) := by decide +kernel
theorem dX12_drafts_24 : decode cX12_drafts 24 = .ok (.iconst 1, 1) := by decide +kernel
theorem dX12_drafts_25 : decode cX12_drafts 25 = .ok (.iadd, 1) := by decide +kernel
theorem dX12_drafts_26 : decode cX12_drafts 26 = .ok (.invokevirtual 234, 3) := by decide +kernel
theorem dX12_drafts_29 : decode cX12_drafts 29 = .ok (.aload_n 0, 1) := by decide +kernel
theorem dX12_drafts_30 : decode cX12_drafts 30 = .ok (.bipush 39, 2) := by decide +kernel
theorem dX12_drafts_32 : decode cX12_drafts 32 = .ok (.invokevirtual 227, 3) := by decide +kernel
theorem dX12_drafts_35 : decode cX12_drafts 35 = .ok (.iconst 0, 1) := by decide +kernel
theorem dX12_drafts_36 : decode cX12_drafts 36 = .ok (.istore_n 2, 1) := by decide +kernel
theorem dX12_drafts_37 : decode cX12_drafts 37 = .ok (.iload_n 2, 1) := by decide +kernel
theorem dX12_drafts_38 : decode cX12_drafts 38 = .ok (.aload_n 0, 1) := by decide +kernel
theorem dX12_drafts_39 : decode cX12_drafts 39 = .ok (.getfield 200, 3) := by decide +kernel
theorem dX12_drafts_42 : decode cX12_drafts 42 = .ok (.if_icmp .ge 95, 3) := by decide +kernel
theorem dX12_drafts_45 : decode cX12_drafts 45 = .ok (.iconst 0, 1) := by decide +kernel
theorem dX12_drafts_46 : decode cX12_drafts 46 = .ok (.istore_n 3, 1) := by decide +kernel
theorem dX12_drafts_47 : decode cX12_drafts 47 = .ok (.iload_n 3, 1) := by decide +kernel
theorem dX12_drafts_48 : decode cX12_drafts 48 = .ok (.aload_n 0, 1) := by decide +kernel
theorem dX12_drafts_49 : decode cX12_drafts 49 = .ok (.getfield 137, 3) := by decide +kernel
theorem dX12_drafts_52 : decode cX12_drafts 52 = .ok (.if_icmp .ge 79, 3) := by decide +kernel
theorem dX12_drafts_55 : decode cX12_drafts 55 = .ok (.aload_n 0, 1) := by decide +kernel
theorem dX12_drafts_56 : decode cX12_drafts 56 = .ok (.iload_n 3, 1) := by decide +kernel
theorem dX12_drafts_57 : decode cX12_drafts 57 = .ok (.iload_n 2, 1) := by decide +kernel
theorem dX12_drafts_58 : decode cX12_drafts 58 = .ok (.invokevirtual 237, 3) := by decide +kernel
theorem dX12_drafts_61 : decode cX12_drafts 61 = .ok (.ifCond .eq 64, 3) := by decide +kernel
theorem dX12_drafts_64 : decode cX12_drafts 64 = .ok (.iinc 1 1, 3) := by decide +kernel
theorem dX12_drafts_67 : decode cX12_drafts 67 = .ok (.aload_n 0, 1) := by decide +kernel
theorem dX12_drafts_68 : decode cX12_drafts 68 = .ok (.aload_n 0, 1) := by decide +kernel
theorem dX12_drafts_69 : decode cX12_drafts 69 = .ok (.getfield 90, 3) := by decide +kernel
theorem dX12_drafts_72 : decode cX12_drafts 72 = .ok (.iload_n 3, 1) := by decide +kernel
theorem dX12_drafts_73 : decode cX12_drafts 73 = .ok (.caload, 1) := by decide +kernel
theorem dX12_drafts_74 : decode cX12_drafts 74 = .ok (.invokevirtual 227, 3) := by decide +kernel
theorem dX12_drafts_77 : decode cX12_drafts 77 = .ok (.iconst 0, 1) := by decide +kernel
theorem dX12_drafts_78 : decode cX12_drafts 78 = .ok (.istore 4, 2) := by decide +kernel
theorem dX12_drafts_80 : decode cX12_drafts 80 = .ok (.iload 4, 2) := by decide +kernel
theorem dX12_drafts_82 : decode cX12_drafts 82 = .ok (.aload_n 0, 1) := by decide +kernel
theorem dX12_drafts_83 : decode cX12_drafts 83 = .ok (.getfield 93, 3) := by decide +kernel
theorem dX12_drafts_86 : decode cX12_drafts 86 = .ok (.iload_n 3, 1) := by decide +kernel
theorem dX12_drafts_87 : decode cX12_drafts 87 = .ok (.iaload, 1) := by decide +kernel
theorem dX12_drafts_88 : decode cX12_drafts 88 = .ok (.if_icmp .ge 31, 3) := by decide +kernel
theorem dX12_drafts_91 : decode cX12_drafts 91 = .ok (.aload_n 0, 1) := by decide +kernel
theorem dX12_drafts_92 : decode cX12_drafts 92 = .ok (.bipush 43, 2) := by decide +kernel
theorem dX12_drafts_94 : decode cX12_drafts 94 = .ok (.invokevirtual 227, 3) := by decide +kernel
theorem dX12_drafts_97 : decode cX12_drafts 97 = .ok (.aload_n 0, 1) := by decide +kernel
theorem dX12_drafts_98 : decode cX12_drafts 98 = .ok (.iload_n 2, 1) := by decide +kernel
theorem dX12_drafts_99 : decode cX12_drafts 99 = .ok (.aload_n 0, 1) := by decide +kernel
theorem dX12_drafts_100 : decode cX12_drafts 100 = .ok (.getfield 96, 3) := by decide +kernel
theorem dX12_drafts_103 : decode cX12_drafts 103 = .ok (.iconst 5, 1) := by decide +kernel
theorem dX12_drafts_104 : decode cX12_drafts 104 = .ok (.iload_n 3, 1) := by decide +kernel
theorem dX12_drafts_105 : decode cX12_drafts 105 = .ok (.imul, 1) := by decide +kernel
theorem dX12_drafts_106 : decode cX12_drafts 106 = .ok (.iload 4, 2) := by decide +kernel
theorem dX12_drafts_108 : decode cX12_drafts 108 = .ok (.iadd, 1) := by decide +kernel
theorem dX12_drafts_109 : decode cX12_drafts 109 = .ok (.iaload, 1) := by decide +kernel
theorem dX12_drafts_110 : decode cX12_drafts 110 = .ok (.invokevirtual 241, 3) := by decide +kernel
theorem dX12_drafts_113 : decode cX12_drafts 113 = .ok (.iinc 4 1, 3) := by decide +kernel
theorem dX12_drafts_116 : decode cX12_drafts 116 = .ok (.goto (-36), 3) := by decide +kernel
theorem dX12_drafts_119 : decode cX12_drafts 119 = .ok (.aload_n 0, 1) := by decide +kernel
theorem dX12_drafts_120 : decode cX12_drafts 120 = .ok (.bipush 39, 2) := by decide +kernel
theorem dX12_drafts_122 : decode cX12_drafts 122 = .ok (.invokevirtual 227, 3) := by decide +kernel
theorem dX12_drafts_125 : decode cX12_drafts 125 = .ok (.iinc 3 1, 3) := by decide +kernel
theorem dX12_drafts_128 : decode cX12_drafts 128 = .ok (.goto (-81), 3) := by decide +kernel
theorem dX12_drafts_131 : decode cX12_drafts 131 = .ok (.iinc 2 1, 3) := by decide +kernel
theorem dX12_drafts_134 : decode cX12_drafts 134 = .ok (.goto (-97), 3) := by decide +kernel
theorem dX12_drafts_137 : decode cX12_drafts 137 = .ok (.aload_n 0, 1) := by decide +kernel
theorem dX12_drafts_138 : decode cX12_drafts 138 = .ok (.bipush 84, 2) := by decide +kernel
theorem dX12_drafts_140 : decode cX12_drafts 140 = .ok (.invokevirtual 227, 3) := by decide +kernel
theorem dX12_drafts_143 : decode cX12_drafts 143 = .ok (.aload_n 0, 1) := by decide +kernel
theorem dX12_drafts_144 : decode cX12_drafts 144 = .ok (.bipush 43, 2) := by decide +kernel
theorem dX12_drafts_146 : decode cX12_drafts 146 = .ok (.invokevirtual 227, 3) := by decide +kernel
theorem dX12_drafts_149 : decode cX12_drafts 149 = .ok (.aload_n 0, 1) := by decide +kernel
theorem dX12_drafts_150 : decode cX12_drafts 150 = .ok (.iload_n 1, 1) := by decide +kernel
theorem dX12_drafts_151 : decode cX12_drafts 151 = .ok (.invokevirtual 234, 3) := by decide +kernel
theorem dX12_drafts_154 : decode cX12_drafts 154 = .ok (.aload_n 0, 1) := by decide +kernel
theorem dX12_drafts_155 : decode cX12_drafts 155 = .ok (.bipush 43, 2) := by decide +kernel
theorem dX12_drafts_157 : decode cX12_drafts 157 = .ok (.invokevirtual 227, 3) := by decide +kernel
theorem dX12_drafts_160 : decode cX12_drafts 160 = .ok (.aload_n 0, 1) := by decide +kernel
theorem dX12_drafts_161 : decode cX12_drafts 161 = .ok (.aload_n 0, 1) := by decide +kernel
theorem dX12_drafts_162 : decode cX12_drafts 162 = .ok (.getfield 231, 3) := by decide +kernel
theorem dX12_drafts_165 : decode cX12_drafts 165 = .ok (.iconst 1, 1) := by decide +kernel
theorem dX12_drafts_166 : decode cX12_drafts 166 = .ok (.iadd, 1) := by decide +kernel
theorem dX12_drafts_167 : decode cX12_drafts 167 = .ok (.invokevirtual 234, 3) := by decide +kernel
theorem dX12_drafts_170 : decode cX12_drafts 170 = .ok (.aload_n 0, 1) := by decide +kernel
theorem dX12_drafts_171 : decode cX12_drafts 171 = .ok (.bipush 39, 2) := by decide +kernel
theorem dX12_drafts_173 : decode cX12_drafts 173 = .ok (.invokevirtual 227, 3) := by decide +kernel
theorem dX12_drafts_176 : decode cX12_drafts 176 = .ok (.iload_n 1, 1) := by decide +kernel
theorem dX12_drafts_177 : decode cX12_drafts 177 = .ok (.ireturn, 1) := by decide +kernel
theorem dX12_write_0 : decode cX12_write 0 = .ok (.aload_n 0, 1) := by decide +kernel
theorem dX12_write_1 : decode cX12_write 1 = .ok (.getfield 140, 3) := by decide +kernel
theorem dX12_write_4 : decode cX12_write 4 = .ok (.ifCond .eq 36, 3) := by decide +kernel
theorem dX12_write_7 : decode cX12_write 7 = .ok (.aload_n 0, 1) := by decide +kernel
theorem dX12_write_8 : decode cX12_write 8 = .ok (.getfield 231, 3) := by decide +kernel
theorem dX12_write_11 : decode cX12_write 11 = .ok (.sipush 9999, 3) := by decide +kernel
theorem dX12_write_14 : decode cX12_write 14 = .ok (.if_icmp .ge 26, 3) := by decide +kernel
theorem dX12_write_17 : decode cX12_write 17 = .ok (.aload_n 0, 1) := by decide +kernel
theorem dX12_write_18 : decode cX12_write 18 = .ok (.invokevirtual 244, 3) := by decide +kernel
theorem dX12_write_21 : decode cX12_write 21 = .ok (.bipush 20, 2) := by decide +kernel
theorem dX12_write_23 : decode cX12_write 23 = .ok (.if_icmp .gt 17, 3) := by decide +kernel
theorem dX12_write_26 : decode cX12_write 26 = .ok (.aload_n 0, 1) := by decide +kernel
theorem dX12_write_27 : decode cX12_write 27 = .ok (.getfield 224, 3) := by decide +kernel
theorem dX12_write_30 : decode cX12_write 30 = .ok (.sipush 300, 3) := by decide +kernel
theorem dX12_write_33 : decode cX12_write 33 = .ok (.if_icmp .gt 7, 3) := by decide +kernel
theorem dX12_write_36 : decode cX12_write 36 = .ok (.iconst 1, 1) := by decide +kernel
theorem dX12_write_37 : decode cX12_write 37 = .ok (.goto 4, 3) := by decide +kernel
theorem dX12_write_40 : decode cX12_write 40 = .ok (.iconst 0, 1) := by decide +kernel
theorem dX12_write_41 : decode cX12_write 41 = .ok (.istore_n 1, 1) := by decide +kernel
theorem dX12_write_42 : decode cX12_write 42 = .ok (.aload_n 0, 1) := by decide +kernel
theorem dX12_write_43 : decode cX12_write 43 = .ok (.iload_n 1, 1) := by decide +kernel
theorem dX12_write_44 : decode cX12_write 44 = .ok (.ifCond .eq 7, 3) := by decide +kernel
theorem dX12_write_47 : decode cX12_write 47 = .ok (.iconst 0, 1) := by decide +kernel
theorem dX12_write_48 : decode cX12_write 48 = .ok (.goto 4, 3) := by decide +kernel
theorem dX12_write_51 : decode cX12_write 51 = .ok (.iconst 1, 1) := by decide +kernel
theorem dX12_write_52 : decode cX12_write 52 = .ok (.invokevirtual 126, 3) := by decide +kernel
theorem dX12_write_55 : decode cX12_write 55 = .ok (.ifCond .ne 5, 3) := by decide +kernel
theorem dX12_write_58 : decode cX12_write 58 = .ok (.iconst 0, 1) := by decide +kernel
theorem dX12_write_59 : decode cX12_write 59 = .ok (.ireturn, 1) := by decide +kernel
theorem dX12_write_60 : decode cX12_write 60 = .ok (.aload_n 0, 1) := by decide +kernel
theorem dX12_write_61 : decode cX12_write 61 = .ok (.dup, 1) := by decide +kernel
theorem dX12_write_62 : decode cX12_write 62 = .ok (.getfield 231, 3) := by decide +kernel
theorem dX12_write_65 : decode cX12_write 65 = .ok (.iconst 1, 1) := by decide +kernel
theorem dX12_write_66 : decode cX12_write 66 = .ok (.iadd, 1) := by decide +kernel
theorem dX12_write_67 : decode cX12_write 67 = .ok (.putfield 231, 3) := by decide +kernel
theorem dX12_write_70 : decode cX12_write 70 = .ok (.aload_n 0, 1) := by decide +kernel
theorem dX12_write_71 : decode cX12_write 71 = .ok (.aload_n 0, 1) := by decide +kernel
theorem dX12_write_72 : decode cX12_write 72 = .ok (.getfield 224, 3) := by decide +kernel
theorem dX12_write_75 : decode cX12_write 75 = .ok (.putfield 248, 3) := by decide +kernel
theorem dX12_write_78 : decode cX12_write 78 = .ok (.iconst 0, 1) := by decide +kernel
theorem dX12_write_79 : decode cX12_write 79 = .ok (.istore_n 2, 1) := by decide +kernel
theorem dX12_write_80 : decode cX12_write 80 = .ok (.iload_n 2, 1) := by decide +kernel
theorem dX12_write_81 : decode cX12_write 81 = .ok (.aload_n 0, 1) := by decide +kernel
theorem dX12_write_82 : decode cX12_write 82 = .ok (.getfield 224, 3) := by decide +kernel
theorem dX12_write_85 : decode cX12_write 85 = .ok (.if_icmp .ge 21, 3) := by decide +kernel
theorem dX12_write_88 : decode cX12_write 88 = .ok (.aload_n 0, 1) := by decide +kernel
theorem dX12_write_89 : decode cX12_write 89 = .ok (.getfield 108, 3) := by decide +kernel
theorem dX12_write_92 : decode cX12_write 92 = .ok (.iload_n 2, 1) := by decide +kernel
theorem dX12_write_93 : decode cX12_write 93 = .ok (.aload_n 0, 1) := by decide +kernel
theorem dX12_write_94 : decode cX12_write 94 = .ok (.getfield 105, 3) := by decide +kernel
theorem dX12_write_97 : decode cX12_write 97 = .ok (.iload_n 2, 1) := by decide +kernel
theorem dX12_write_98 : decode cX12_write 98 = .ok (.caload, 1) := by decide +kernel
theorem dX12_write_99 : decode cX12_write 99 = .ok (.castore, 1) := by decide +kernel
theorem dX12_write_100 : decode cX12_write 100 = .ok (.iinc 2 1, 3) := by decide +kernel
theorem dX12_write_103 : decode cX12_write 103 = .ok (.goto (-23), 3) := by decide +kernel
theorem dX12_write_106 : decode cX12_write 106 = .ok (.aload_n 0, 1) := by decide +kernel
theorem dX12_write_107 : decode cX12_write 107 = .ok (.getfield 248, 3) := by decide +kernel
theorem dX12_write_110 : decode cX12_write 110 = .ok (.ireturn, 1) := by decide +kernel
theorem dX12_written_0 : decode cX12_written 0 = .ok (.aload_n 0, 1) := by decide +kernel
theorem dX12_written_1 : decode cX12_written 1 = .ok (.iconst 0, 1) := by decide +kernel
theorem dX12_written_2 : decode cX12_written 2 = .ok (.putfield 111, 3) := by decide +kernel
theorem dX12_written_5 : decode cX12_written 5 = .ok (.aload_n 0, 1) := by decide +kernel
theorem dX12_written_6 : decode cX12_written 6 = .ok (.getfield 248, 3) := by decide +kernel
theorem dX12_written_9 : decode cX12_written 9 = .ok (.ireturn, 1) := by decide +kernel
theorem dX12_letter_0 : decode cX12_letter 0 = .ok (.aload_n 0, 1) := by decide +kernel
theorem dX12_letter_1 : decode cX12_letter 1 = .ok (.iload_n 1, 1) := by decide +kernel
theorem dX12_letter_2 : decode cX12_letter 2 = .ok (.iconst 0, 1) := by decide +kernel
theorem dX12_letter_3 : decode cX12_letter 3 = .ok (.aload_n 0, 1) := by decide +kernel
theorem dX12_letter_4 : decode cX12_letter 4 = .ok (.getfield 248, 3) := by decide +kernel
theorem dX12_letter_7 : decode cX12_letter 7 = .ok (.iconst 1, 1) := by decide +kernel
theorem dX12_letter_8 : decode cX12_letter 8 = .ok (.isub, 1) := by decide +kernel
theorem dX12_letter_9 : decode cX12_letter 9 = .ok (.invokestatic 115, 3) := by decide +kernel
theorem dX12_letter_12 : decode cX12_letter 12 = .ok (.ifCond .eq 7, 3) := by decide +kernel
theorem dX12_letter_15 : decode cX12_letter 15 = .ok (.iconst 0, 1) := by decide +kernel
theorem dX12_letter_16 : decode cX12_letter 16 = .ok (.goto 4, 3) := by decide +kernel
theorem dX12_letter_19 : decode cX12_letter 19 = .ok (.iconst 1, 1) := by decide +kernel
theorem dX12_letter_20 : decode cX12_letter 20 = .ok (.invokevirtual 126, 3) := by decide +kernel
theorem dX12_letter_23 : decode cX12_letter 23 = .ok (.ifCond .eq 12, 3) := by decide +kernel
theorem dX12_letter_26 : decode cX12_letter 26 = .ok (.aload_n 0, 1) := by decide +kernel
theorem dX12_letter_27 : decode cX12_letter 27 = .ok (.getfield 108, 3) := by decide +kernel
theorem dX12_letter_30 : decode cX12_letter 30 = .ok (.iload_n 1, 1) := by decide +kernel
theorem dX12_letter_31 : decode cX12_letter 31 = .ok (.caload, 1) := by decide +kernel
theorem dX12_letter_32 : decode cX12_letter 32 = .ok (.goto 4, 3) := by decide +kernel
theorem dX12_letter_35 : decode cX12_letter 35 = .ok (.iconst 0, 1) := by decide +kernel
theorem dX12_letter_36 : decode cX12_letter 36 = .ok (.ireturn, 1) := by decide +kernel
theorem dX12_feedWritten_0 : decode cX12_feedWritten 0 = .ok (.aload_n 0, 1) := by decide +kernel
theorem dX12_feedWritten_1 : decode cX12_feedWritten 1 = .ok (.aload_n 0, 1) := by decide +kernel
theorem dX12_feedWritten_2 : decode cX12_feedWritten 2 = .ok (.getfield 143, 3) := by decide +kernel
theorem dX12_feedWritten_5 : decode cX12_feedWritten 5 = .ok (.aload_n 0, 1) := by decide +kernel
theorem dX12_feedWritten_6 : decode cX12_feedWritten 6 = .ok (.getfield 248, 3) := by decide +kernel
theorem dX12_feedWritten_9 : decode cX12_feedWritten 9 = .ok (.iadd, 1) := by decide +kernel
theorem dX12_feedWritten_10 : decode cX12_feedWritten 10 = .ok (.sipush 300, 3) := by decide +kernel
theorem dX12_feedWritten_13 : decode cX12_feedWritten 13 = .ok (.if_icmp .le 7, 3) := by decide +kernel
theorem dX12_feedWritten_16 : decode cX12_feedWritten 16 = .ok (.iconst 1, 1) := by decide +kernel
theorem dX12_feedWritten_17 : decode cX12_feedWritten 17 = .ok (.goto 4, 3) := by decide +kernel
theorem dX12_feedWritten_20 : decode cX12_feedWritten 20 = .ok (.iconst 0, 1) := by decide +kernel
theorem dX12_feedWritten_21 : decode cX12_feedWritten 21 = .ok (.invokevirtual 126, 3) := by decide +kernel
theorem dX12_feedWritten_24 : decode cX12_feedWritten 24 = .ok (.ifCond .ne 5, 3) := by decide +kernel
theorem dX12_feedWritten_27 : decode cX12_feedWritten 27 = .ok (.iconst 0, 1) := by decide +kernel
theorem dX12_feedWritten_28 : decode cX12_feedWritten 28 = .ok (.ireturn, 1) := by decide +kernel
theorem dX12_feedWritten_29 : decode cX12_feedWritten 29 = .ok (.iconst 0, 1) := by decide +kernel
theorem dX12_feedWritten_30 : decode cX12_feedWritten 30 = .ok (.istore_n 1, 1) := by decide +kernel
theorem dX12_feedWritten_31 : decode cX12_feedWritten 31 = .ok (.iload_n 1, 1) := by decide +kernel
theorem dX12_feedWritten_32 : decode cX12_feedWritten 32 = .ok (.aload_n 0, 1) := by decide +kernel
theorem dX12_feedWritten_33 : decode cX12_feedWritten 33 = .ok (.getfield 248, 3) := by decide +kernel
theorem dX12_feedWritten_36 : decode cX12_feedWritten 36 = .ok (.if_icmp .ge 34, 3) := by decide +kernel
theorem dX12_feedWritten_39 : decode cX12_feedWritten 39 = .ok (.aload_n 0, 1) := by decide +kernel
theorem dX12_feedWritten_40 : decode cX12_feedWritten 40 = .ok (.getfield 39, 3) := by decide +kernel
theorem dX12_feedWritten_43 : decode cX12_feedWritten 43 = .ok (.aload_n 0, 1) := by decide +kernel
theorem dX12_feedWritten_44 : decode cX12_feedWritten 44 = .ok (.getfield 143, 3) := by decide +kernel
theorem dX12_feedWritten_47 : decode cX12_feedWritten 47 = .ok (.aload_n 0, 1) := by decide +kernel
theorem dX12_feedWritten_48 : decode cX12_feedWritten 48 = .ok (.getfield 108, 3) := by decide +kernel
theorem dX12_feedWritten_51 : decode cX12_feedWritten 51 = .ok (.iload_n 1, 1) := by decide +kernel
theorem dX12_feedWritten_52 : decode cX12_feedWritten 52 = .ok (.caload, 1) := by decide +kernel
theorem dX12_feedWritten_53 : decode cX12_feedWritten 53 = .ok (.castore, 1) := by decide +kernel
theorem dX12_feedWritten_54 : decode cX12_feedWritten 54 = .ok (.aload_n 0, 1) := by decide +kernel
theorem dX12_feedWritten_55 : decode cX12_feedWritten 55 = .ok (.dup, 1) := by decide +kernel
theorem dX12_feedWritten_56 : decode cX12_feedWritten 56 = .ok (.getfield 143, 3) := by decide +kernel
theorem dX12_feedWritten_59 : decode cX12_feedWritten 59 = .ok (.iconst 1, 1) := by decide +kernel
theorem dX12_feedWritten_60 : decode cX12_feedWritten 60 = .ok (.iadd, 1) := by decide +kernel
theorem dX12_feedWritten_61 : decode cX12_feedWritten 61 = .ok (.putfield 143, 3) := by decide +kernel
theorem dX12_feedWritten_64 : decode cX12_feedWritten 64 = .ok (.iinc 1 1, 3) := by decide +kernel
theorem dX12_feedWritten_67 : decode cX12_feedWritten 67 = .ok (.goto (-36), 3) := by decide +kernel
theorem dX12_feedWritten_70 : decode cX12_feedWritten 70 = .ok (.aload_n 0, 1) := by decide +kernel
theorem dX12_feedWritten_71 : decode cX12_feedWritten 71 = .ok (.getfield 143, 3) := by decide +kernel
theorem dX12_feedWritten_74 : decode cX12_feedWritten 74 = .ok (.ireturn, 1) := by decide +kernel
