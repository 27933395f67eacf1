theorem dX7_readPart_241 : decode cX7_readPart 241 = .ok (.bipush (-9), 2) := by decide +kernel
theorem dX7_readPart_243 : decode cX7_readPart 243 = .ok (.if_icmp .ne 18, 3) := by decide +kernel
theorem dX7_readPart_246 : decode cX7_readPart 246 = .ok (.aload_n 0, 1) := by decide +kernel
theorem dX7_readPart_247 : decode cX7_readPart 247 = .ok (.getfield 16, 3) := by decide +kernel
theorem dX7_readPart_250 : decode cX7_readPart 250 = .ok (.bipush 28, 2) := by decide +kernel
theorem dX7_readPart_252 : decode cX7_readPart 252 = .ok (.iconst 4, 1) := by decide +kernel
theorem dX7_readPart_253 : decode cX7_readPart 253 = .ok (.iload_n 2, 1) := by decide +kernel
theorem dX7_readPart_254 : decode cX7_readPart 254 = .ok (.imul, 1) := by decide +kernel
theorem dX7_readPart_255 : decode cX7_readPart 255 = .ok (.iadd, 1) := by decide +kernel
theorem dX7_readPart_256 : decode cX7_readPart 256 = .ok (.iload_n 3, 1) := by decide +kernel
theorem dX7_readPart_257 : decode cX7_readPart 257 = .ok (.iadd, 1) := by decide +kernel
theorem dX7_readPart_258 : decode cX7_readPart 258 = .ok (.iload 4, 2) := by decide +kernel
theorem dX7_readPart_260 : decode cX7_readPart 260 = .ok (.iastore, 1) := by decide +kernel
theorem dX7_readPart_261 : decode cX7_readPart 261 = .ok (.goto 11, 3) := by decide +kernel
theorem dX7_readPart_264 : decode cX7_readPart 264 = .ok (.aload_n 0, 1) := by decide +kernel
theorem dX7_readPart_265 : decode cX7_readPart 265 = .ok (.aload_n 0, 1) := by decide +kernel
theorem dX7_readPart_266 : decode cX7_readPart 266 = .ok (.getfield 57, 3) := by decide +kernel
theorem dX7_readPart_269 : decode cX7_readPart 269 = .ok (.putfield 54, 3) := by decide +kernel
theorem dX7_readPart_272 : decode cX7_readPart 272 = .ok (.return_, 1) := by decide +kernel
theorem dX7_fault_0 : decode cX7_fault 0 = .ok (.aload_n 0, 1) := by decide +kernel
theorem dX7_fault_1 : decode cX7_fault 1 = .ok (.invokevirtual 91, 3) := by decide +kernel
theorem dX7_fault_4 : decode cX7_fault 4 = .ok (.ireturn, 1) := by decide +kernel
theorem dX7_village_0 : decode cX7_village 0 = .ok (.aload_n 0, 1) := by decide +kernel
theorem dX7_village_1 : decode cX7_village 1 = .ok (.invokevirtual 91, 3) := by decide +kernel
theorem dX7_village_4 : decode cX7_village 4 = .ok (.bipush (-9), 2) := by decide +kernel
theorem dX7_village_6 : decode cX7_village 6 = .ok (.if_icmp .eq 6, 3) := by decide +kernel
theorem dX7_village_9 : decode cX7_village 9 = .ok (.bipush (-3), 2) := by decide +kernel
theorem dX7_village_11 : decode cX7_village 11 = .ok (.ireturn, 1) := by decide +kernel
theorem dX7_village_12 : decode cX7_village 12 = .ok (.aload_n 0, 1) := by decide +kernel
theorem dX7_village_13 : decode cX7_village 13 = .ok (.aload_n 0, 1) := by decide +kernel
theorem dX7_village_14 : decode cX7_village 14 = .ok (.getfield 66, 3) := by decide +kernel
theorem dX7_village_17 : decode cX7_village 17 = .ok (.putfield 41, 3) := by decide +kernel
theorem dX7_village_20 : decode cX7_village 20 = .ok (.aload_n 0, 1) := by decide +kernel
theorem dX7_village_21 : decode cX7_village 21 = .ok (.aload_n 0, 1) := by decide +kernel
theorem dX7_village_22 : decode cX7_village 22 = .ok (.getfield 73, 3) := by decide +kernel
theorem dX7_village_25 : decode cX7_village 25 = .ok (.putfield 94, 3) := by decide +kernel
theorem dX7_village_28 : decode cX7_village 28 = .ok (.iconst 0, 1) := by decide +kernel
theorem dX7_village_29 : decode cX7_village 29 = .ok (.istore_n 1, 1) := by decide +kernel
theorem dX7_village_30 : decode cX7_village 30 = .ok (.iload_n 1, 1) := by decide +kernel
theorem dX7_village_31 : decode cX7_village 31 = .ok (.iconst 5, 1) := by decide +kernel
theorem dX7_village_32 : decode cX7_village 32 = .ok (.if_icmp .ge 21, 3) := by decide +kernel
theorem dX7_village_35 : decode cX7_village 35 = .ok (.aload_n 0, 1) := by decide +kernel
theorem dX7_village_36 : decode cX7_village 36 = .ok (.getfield 7, 3) := by decide +kernel
theorem dX7_village_39 : decode cX7_village 39 = .ok (.iload_n 1, 1) := by decide +kernel
theorem dX7_village_40 : decode cX7_village 40 = .ok (.aload_n 0, 1) := by decide +kernel
theorem dX7_village_41 : decode cX7_village 41 = .ok (.getfield 19, 3) := by decide +kernel
theorem dX7_village_44 : decode cX7_village 44 = .ok (.iload_n 1, 1) := by decide +kernel
theorem dX7_village_45 : decode cX7_village 45 = .ok (.iaload, 1) := by decide +kernel
theorem dX7_village_46 : decode cX7_village 46 = .ok (.iastore, 1) := by decide +kernel
theorem dX7_village_47 : decode cX7_village 47 = .ok (.iinc 1 1, 3) := by decide +kernel
theorem dX7_village_50 : decode cX7_village 50 = .ok (.goto (-20), 3) := by decide +kernel
theorem dX7_village_53 : decode cX7_village 53 = .ok (.iconst 0, 1) := by decide +kernel
theorem dX7_village_54 : decode cX7_village 54 = .ok (.istore_n 1, 1) := by decide +kernel
theorem dX7_village_55 : decode cX7_village 55 = .ok (.iload_n 1, 1) := by decide +kernel
theorem dX7_village_56 : decode cX7_village 56 = .ok (.bipush 45, 2) := by decide +kernel
theorem dX7_village_58 : decode cX7_village 58 = .ok (.if_icmp .ge 21, 3) := by decide +kernel
theorem dX7_village_61 : decode cX7_village 61 = .ok (.aload_n 0, 1) := by decide +kernel
theorem dX7_village_62 : decode cX7_village 62 = .ok (.getfield 13, 3) := by decide +kernel
theorem dX7_village_65 : decode cX7_village 65 = .ok (.iload_n 1, 1) := by decide +kernel
theorem dX7_village_66 : decode cX7_village 66 = .ok (.aload_n 0, 1) := by decide +kernel
theorem dX7_village_67 : decode cX7_village 67 = .ok (.getfield 16, 3) := by decide +kernel
theorem dX7_village_70 : decode cX7_village 70 = .ok (.iload_n 1, 1) := by decide +kernel
theorem dX7_village_71 : decode cX7_village 71 = .ok (.iaload, 1) := by decide +kernel
theorem dX7_village_72 : decode cX7_village 72 = .ok (.iastore, 1) := by decide +kernel
theorem dX7_village_73 : decode cX7_village 73 = .ok (.iinc 1 1, 3) := by decide +kernel
theorem dX7_village_76 : decode cX7_village 76 = .ok (.goto (-21), 3) := by decide +kernel
theorem dX7_village_79 : decode cX7_village 79 = .ok (.aload_n 0, 1) := by decide +kernel
theorem dX7_village_80 : decode cX7_village 80 = .ok (.iconst 0, 1) := by decide +kernel
theorem dX7_village_81 : decode cX7_village 81 = .ok (.putfield 97, 3) := by decide +kernel
theorem dX7_village_84 : decode cX7_village 84 = .ok (.aload_n 0, 1) := by decide +kernel
theorem dX7_village_85 : decode cX7_village 85 = .ok (.getfield 34, 3) := by decide +kernel
theorem dX7_village_88 : decode cX7_village 88 = .ok (.iconst 0, 1) := by decide +kernel
theorem dX7_village_89 : decode cX7_village 89 = .ok (.iconst 0, 1) := by decide +kernel
theorem dX7_village_90 : decode cX7_village 90 = .ok (.bastore, 1) := by decide +kernel
theorem dX7_village_91 : decode cX7_village 91 = .ok (.aload_n 0, 1) := by decide +kernel
theorem dX7_village_92 : decode cX7_village 92 = .ok (.getfield 34, 3) := by decide +kernel
theorem dX7_village_95 : decode cX7_village 95 = .ok (.iconst 1, 1) := by decide +kernel
theorem dX7_village_96 : decode cX7_village 96 = .ok (.iconst 0, 1) := by decide +kernel
theorem dX7_village_97 : decode cX7_village 97 = .ok (.bastore, 1) := by decide +kernel
theorem dX7_village_98 : decode cX7_village 98 = .ok (.bipush 10, 2) := by decide +kernel
theorem dX7_village_100 : decode cX7_village 100 = .ok (.aload_n 0, 1) := by decide +kernel
theorem dX7_village_101 : decode cX7_village 101 = .ok (.getfield 41, 3) := by decide +kernel
theorem dX7_village_104 : decode cX7_village 104 = .ok (.imul, 1) := by decide +kernel
theorem dX7_village_105 : decode cX7_village 105 = .ok (.aload_n 0, 1) := by decide +kernel
theorem dX7_village_106 : decode cX7_village 106 = .ok (.getfield 94, 3) := by decide +kernel
theorem dX7_village_109 : decode cX7_village 109 = .ok (.iadd, 1) := by decide +kernel
theorem dX7_village_110 : decode cX7_village 110 = .ok (.ireturn, 1) := by decide +kernel
theorem dX7_isPerson_0 : decode cX7_isPerson 0 = .ok (.iload_n 1, 1) := by decide +kernel
theorem dX7_isPerson_1 : decode cX7_isPerson 1 = .ok (.i2l, 1) := by decide +kernel
theorem dX7_isPerson_2 : decode cX7_isPerson 2 = .ok (.lconst 0, 1) := by decide +kernel
theorem dX7_isPerson_3 : decode cX7_isPerson 3 = .ok (.aload_n 0, 1) := by decide +kernel
theorem dX7_isPerson_4 : decode cX7_isPerson 4 = .ok (.getfield 41, 3) := by decide +kernel
theorem dX7_isPerson_7 : decode cX7_isPerson 7 = .ok (.iconst 1, 1) := by decide +kernel
theorem dX7_isPerson_8 : decode cX7_isPerson 8 = .ok (.isub, 1) := by decide +kernel
theorem dX7_isPerson_9 : decode cX7_isPerson 9 = .ok (.i2l, 1) := by decide +kernel
theorem dX7_isPerson_10 : decode cX7_isPerson 10 = .ok (.invokestatic 47, 3) := by decide +kernel
theorem dX7_isPerson_13 : decode cX7_isPerson 13 = .ok (.ireturn, 1) := by decide +kernel
theorem dX7_isBeast_0 : decode cX7_isBeast 0 = .ok (.iload_n 1, 1) := by decide +kernel
theorem dX7_isBeast_1 : decode cX7_isBeast 1 = .ok (.i2l, 1) := by decide +kernel
theorem dX7_isBeast_2 : decode cX7_isBeast 2 = .ok (.lconst 0, 1) := by decide +kernel
theorem dX7_isBeast_3 : decode cX7_isBeast 3 = .ok (.aload_n 0, 1) := by decide +kernel
theorem dX7_isBeast_4 : decode cX7_isBeast 4 = .ok (.getfield 94, 3) := by decide +kernel
theorem dX7_isBeast_7 : decode cX7_isBeast 7 = .ok (.iconst 1, 1) := by decide +kernel
theorem dX7_isBeast_8 : decode cX7_isBeast 8 = .ok (.isub, 1) := by decide +kernel
theorem dX7_isBeast_9 : decode cX7_isBeast 9 = .ok (.i2l, 1) := by decide +kernel
theorem dX7_isBeast_10 : decode cX7_isBeast 10 = .ok (.invokestatic 47, 3) := by decide +kernel
theorem dX7_isBeast_13 : decode cX7_isBeast 13 = .ok (.ireturn, 1) := by decide +kernel
theorem dX7_debt_0 : decode cX7_debt 0 = .ok (.bipush 45, 2) := by decide +kernel
theorem dX7_debt_2 : decode cX7_debt 2 = .ok (.iload_n 0, 1) := by decide +kernel
theorem dX7_debt_3 : decode cX7_debt 3 = .ok (.imul, 1) := by decide +kernel
theorem dX7_debt_4 : decode cX7_debt 4 = .ok (.bipush 28, 2) := by decide +kernel
theorem dX7_debt_6 : decode cX7_debt 6 = .ok (.iadd, 1) := by decide +kernel
theorem dX7_debt_7 : decode cX7_debt 7 = .ok (.iconst 4, 1) := by decide +kernel
theorem dX7_debt_8 : decode cX7_debt 8 = .ok (.iload_n 1, 1) := by decide +kernel
theorem dX7_debt_9 : decode cX7_debt 9 = .ok (.imul, 1) := by decide +kernel
theorem dX7_debt_10 : decode cX7_debt 10 = .ok (.iadd, 1) := by decide +kernel
theorem dX7_debt_11 : decode cX7_debt 11 = .ok (.iload_n 2, 1) := by decide +kernel
theorem dX7_debt_12 : decode cX7_debt 12 = .ok (.iadd, 1) := by decide +kernel
theorem dX7_debt_13 : decode cX7_debt 13 = .ok (.ireturn, 1) := by decide +kernel
theorem dX7_isIn_0 : decode cX7_isIn 0 = .ok (.aload_n 0, 1) := by decide +kernel
theorem dX7_isIn_1 : decode cX7_isIn 1 = .ok (.getfield 13, 3) := by decide +kernel
theorem dX7_isIn_4 : decode cX7_isIn 4 = .ok (.bipush 45, 2) := by decide +kernel
theorem dX7_isIn_6 : decode cX7_isIn 6 = .ok (.iload_n 1, 1) := by decide +kernel
theorem dX7_isIn_7 : decode cX7_isIn 7 = .ok (.imul, 1) := by decide +kernel
theorem dX7_isIn_8 : decode cX7_isIn 8 = .ok (.bipush 18, 2) := by decide +kernel
theorem dX7_isIn_10 : decode cX7_isIn 10 = .ok (.iadd, 1) := by decide +kernel
theorem dX7_isIn_11 : decode cX7_isIn 11 = .ok (.iload_n 2, 1) := by decide +kernel
theorem dX7_isIn_12 : decode cX7_isIn 12 = .ok (.iadd, 1) := by decide +kernel
theorem dX7_isIn_13 : decode cX7_isIn 13 = .ok (.iaload, 1) := by decide +kernel
theorem dX7_isIn_14 : decode cX7_isIn 14 = .ok (.bipush (-9), 2) := by decide +kernel
theorem dX7_isIn_16 : decode cX7_isIn 16 = .ok (.if_icmp .eq 7, 3) := by decide +kernel
theorem dX7_isIn_19 : decode cX7_isIn 19 = .ok (.iconst 1, 1) := by decide +kernel
theorem dX7_isIn_20 : decode cX7_isIn 20 = .ok (.goto 4, 3) := by decide +kernel
theorem dX7_isIn_23 : decode cX7_isIn 23 = .ok (.iconst 0, 1) := by decide +kernel
theorem dX7_isIn_24 : decode cX7_isIn 24 = .ok (.ireturn, 1) := by decide +kernel
theorem dX7_person_0 : decode cX7_person 0 = .ok (.aload_n 0, 1) := by decide +kernel
theorem dX7_person_1 : decode cX7_person 1 = .ok (.iload_n 1, 1) := by decide +kernel
theorem dX7_person_2 : decode cX7_person 2 = .ok (.invokevirtual 100, 3) := by decide +kernel
theorem dX7_person_5 : decode cX7_person 5 = .ok (.ifCond .ne 5, 3) := by decide +kernel
theorem dX7_person_8 : decode cX7_person 8 = .ok (.iconst (-1), 1) := by decide +kernel
theorem dX7_person_9 : decode cX7_person 9 = .ok (.ireturn, 1) := by decide +kernel
theorem dX7_person_10 : decode cX7_person 10 = .ok (.iconst 0, 1) := by decide +kernel
theorem dX7_person_11 : decode cX7_person 11 = .ok (.istore_n 3, 1) := by decide +kernel
theorem dX7_person_12 : decode cX7_person 12 = .ok (.iconst 0, 1) := by decide +kernel
theorem dX7_person_13 : decode cX7_person 13 = .ok (.istore 4, 2) := by decide +kernel
theorem dX7_person_15 : decode cX7_person 15 = .ok (.iconst 0, 1) := by decide +kernel
theorem dX7_person_16 : decode cX7_person 16 = .ok (.istore 5, 2) := by decide +kernel
theorem dX7_person_18 : decode cX7_person 18 = .ok (.iconst 0, 1) := by decide +kernel
theorem dX7_person_19 : decode cX7_person 19 = .ok (.istore 6, 2) := by decide +kernel
theorem dX7_person_21 : decode cX7_person 21 = .ok (.iload 6, 2) := by decide +kernel
theorem dX7_person_23 : decode cX7_person 23 = .ok (.aload_n 0, 1) := by decide +kernel
theorem dX7_person_24 : decode cX7_person 24 = .ok (.getfield 94, 3) := by decide +kernel
theorem dX7_person_27 : decode cX7_person 27 = .ok (.if_icmp .ge 34, 3) := by decide +kernel
theorem dX7_person_30 : decode cX7_person 30 = .ok (.iload_n 3, 1) := by decide +kernel
theorem dX7_person_31 : decode cX7_person 31 = .ok (.aload_n 0, 1) := by decide +kernel
theorem dX7_person_32 : decode cX7_person 32 = .ok (.getfield 13, 3) := by decide +kernel
theorem dX7_person_35 : decode cX7_person 35 = .ok (.bipush 8, 2) := by decide +kernel
theorem dX7_person_37 : decode cX7_person 37 = .ok (.iload 6, 2) := by decide +kernel
theorem dX7_person_39 : decode cX7_person 39 = .ok (.iadd, 1) := by decide +kernel
theorem dX7_person_40 : decode cX7_person 40 = .ok (.iaload, 1) := by decide +kernel
theorem dX7_person_41 : decode cX7_person 41 = .ok (.iload_n 1, 1) := by decide +kernel
theorem dX7_person_42 : decode cX7_person 42 = .ok (.if_icmp .ne 10, 3) := by decide +kernel
theorem dX7_person_45 : decode cX7_person 45 = .ok (.iconst 1, 1) := by decide +kernel
theorem dX7_person_46 : decode cX7_person 46 = .ok (.iload 6, 2) := by decide +kernel
theorem dX7_person_48 : decode cX7_person 48 = .ok (.ishl, 1) := by decide +kernel
theorem dX7_person_49 : decode cX7_person 49 = .ok (.goto 4, 3) := by decide +kernel
theorem dX7_person_52 : decode cX7_person 52 = .ok (.iconst 0, 1) := by decide +kernel
theorem dX7_person_53 : decode cX7_person 53 = .ok (.ior, 1) := by decide +kernel
theorem dX7_person_54 : decode cX7_person 54 = .ok (.istore_n 3, 1) := by decide +kernel
theorem dX7_person_55 : decode cX7_person 55 = .ok (.iinc 6 1, 3) := by decide +kernel
theorem dX7_person_58 : decode cX7_person 58 = .ok (.goto (-37), 3) := by decide +kernel
theorem dX7_person_61 : decode cX7_person 61 = .ok (.iconst 0, 1) := by decide +kernel
theorem dX7_person_62 : decode cX7_person 62 = .ok (.istore 6, 2) := by decide +kernel
theorem dX7_person_64 : decode cX7_person 64 = .ok (.iload 6, 2) := by decide +kernel
theorem dX7_person_66 : decode cX7_person 66 = .ok (.aload_n 0, 1) := by decide +kernel
theorem dX7_person_67 : decode cX7_person 67 = .ok (.getfield 41, 3) := by decide +kernel
theorem dX7_person_70 : decode cX7_person 70 = .ok (.if_icmp .ge 43, 3) := by decide +kernel
theorem dX7_person_73 : decode cX7_person 73 = .ok (.iload 4, 2) := by decide +kernel
theorem dX7_person_75 : decode cX7_person 75 = .ok (.aload_n 0, 1) := by decide +kernel
theorem dX7_person_76 : decode cX7_person 76 = .ok (.getfield 13, 3) := by decide +kernel
theorem dX7_person_79 : decode cX7_person 79 = .ok (.iconst 0, 1) := by decide +kernel
theorem dX7_person_80 : decode cX7_person 80 = .ok (.iload_n 1, 1) := by decide +kernel
theorem dX7_person_81 : decode cX7_person 81 = .ok (.iload 6, 2) := by decide +kernel
theorem dX7_person_83 : decode cX7_person 83 = .ok (.invokestatic 104, 3) := by decide +kernel
theorem dX7_person_86 : decode cX7_person 86 = .ok (.iaload, 1) := by decide +kernel
theorem dX7_person_87 : decode cX7_person 87 = .ok (.iadd, 1) := by decide +kernel
theorem dX7_person_88 : decode cX7_person 88 = .ok (.istore 4, 2) := by decide +kernel
theorem dX7_person_90 : decode cX7_person 90 = .ok (.iload 5, 2) := by decide +kernel
theorem dX7_person_92 : decode cX7_person 92 = .ok (.aload_n 0, 1) := by decide +kernel
theorem dX7_person_93 : decode cX7_person 93 = .ok (.getfield 13, 3) := by decide +kernel
theorem dX7_person_96 : decode cX7_person 96 = .ok (.iconst 0, 1) := by decide +kernel
theorem dX7_person_97 : decode cX7_person 97 = .ok (.iload 6, 2) := by decide +kernel
theorem dX7_person_99 : decode cX7_person 99 = .ok (.iload_n 1, 1) := by decide +kernel
theorem dX7_person_100 : decode cX7_person 100 = .ok (.invokestatic 104, 3) := by decide +kernel
theorem dX7_person_103 : decode cX7_person 103 = .ok (.iaload, 1) := by decide +kernel
theorem dX7_person_104 : decode cX7_person 104 = .ok (.iadd, 1) := by decide +kernel
theorem dX7_person_105 : decode cX7_person 105 = .ok (.istore 5, 2) := by decide +kernel
theorem dX7_person_107 : decode cX7_person 107 = .ok (.iinc 6 1, 3) := by decide +kernel
theorem dX7_person_110 : decode cX7_person 110 = .ok (.goto (-46), 3) := by decide +kernel
theorem dX7_person_113 : decode cX7_person 113 = .ok (.iload_n 2, 1) := by decide +kernel
theorem dX7_person_114 : decode cX7_person 114 = .ok (.tableswitch 58 0 4 #[34, 41, 50, 52, 55], 34) := by decide +kernel
theorem dX7_person_148 : decode cX7_person 148 = .ok (.aload_n 0, 1) := by decide +kernel
theorem dX7_person_149 : decode cX7_person 149 = .ok (.getfield 13, 3) := by decide +kernel
theorem dX7_person_152 : decode cX7_person 152 = .ok (.iload_n 1, 1) := by decide +kernel
theorem dX7_person_153 : decode cX7_person 153 = .ok (.iaload, 1) := by decide +kernel
theorem dX7_person_154 : decode cX7_person 154 = .ok (.ireturn, 1) := by decide +kernel
theorem dX7_person_155 : decode cX7_person 155 = .ok (.aload_n 0, 1) := by decide +kernel
theorem dX7_person_156 : decode cX7_person 156 = .ok (.getfield 13, 3) := by decide +kernel
theorem dX7_person_159 : decode cX7_person 159 = .ok (.iconst 4, 1) := by decide +kernel
theorem dX7_person_160 : decode cX7_person 160 = .ok (.iload_n 1, 1) := by decide +kernel
theorem dX7_person_161 : decode cX7_person 161 = .ok (.iadd, 1) := by decide +kernel
theorem dX7_person_162 : decode cX7_person 162 = .ok (.iaload, 1) := by decide +kernel
theorem dX7_person_163 : decode cX7_person 163 = .ok (.ireturn, 1) := by decide +kernel
theorem dX7_person_164 : decode cX7_person 164 = .ok (.iload_n 3, 1) := by decide +kernel
theorem dX7_person_165 : decode cX7_person 165 = .ok (.ireturn, 1) := by decide +kernel
theorem dX7_person_166 : decode cX7_person 166 = .ok (.iload 4, 2) := by decide +kernel
theorem dX7_person_168 : decode cX7_person 168 = .ok (.ireturn, 1) := by decide +kernel
theorem dX7_person_169 : decode cX7_person 169 = .ok (.iload 5, 2) := by decide +kernel
theorem dX7_person_171 : decode cX7_person 171 = .ok (.ireturn, 1) := by decide +kernel
theorem dX7_person_172 : decode cX7_person 172 = .ok (.bipush (-2), 2) := by decide +kernel
theorem dX7_person_174 : decode cX7_person 174 = .ok (.ireturn, 1) := by decide +kernel
theorem dX7_beast_0 : decode cX7_beast 0 = .ok (.aload_n 0, 1) := by decide +kernel
theorem dX7_beast_1 : decode cX7_beast 1 = .ok (.iload_n 1, 1) := by decide +kernel
theorem dX7_beast_2 : decode cX7_beast 2 = .ok (.invokevirtual 108, 3) := by decide +kernel
theorem dX7_beast_5 : decode cX7_beast 5 = .ok (.ifCond .ne 5, 3) := by decide +kernel
theorem dX7_beast_8 : decode cX7_beast 8 = .ok (.iconst (-1), 1) := by decide +kernel
theorem dX7_beast_9 : decode cX7_beast 9 = .ok (.ireturn, 1) := by decide +kernel
theorem dX7_beast_10 : decode cX7_beast 10 = .ok (.iload_n 2, 1) := by decide +kernel
theorem dX7_beast_11 : decode cX7_beast 11 = .ok (.tableswitch 102 0 5 #[37, 47, 57, 64, 74, 84], 37) := by decide +kernel
theorem dX7_beast_48 : decode cX7_beast 48 = .ok (.aload_n 0, 1) := by decide +kernel
theorem dX7_beast_49 : decode cX7_beast 49 = .ok (.getfield 13, 3) := by decide +kernel
theorem dX7_beast_52 : decode cX7_beast 52 = .ok (.bipush 8, 2) := by decide +kernel
theorem dX7_beast_54 : decode cX7_beast 54 = .ok (.iload_n 1, 1) := by decide +kernel
theorem dX7_beast_55 : decode cX7_beast 55 = .ok (.iadd, 1) := by decide +kernel
theorem dX7_beast_56 : decode cX7_beast 56 = .ok (.iaload, 1) := by decide +kernel
theorem dX7_beast_57 : decode cX7_beast 57 = .ok (.ireturn, 1) := by decide +kernel
theorem dX7_beast_58 : decode cX7_beast 58 = .ok (.aload_n 0, 1) := by decide +kernel
theorem dX7_beast_59 : decode cX7_beast 59 = .ok (.getfield 13, 3) := by decide +kernel
theorem dX7_beast_62 : decode cX7_beast 62 = .ok (.bipush 13, 2) := by decide +kernel
theorem dX7_beast_64 : decode cX7_beast 64 = .ok (.iload_n 1, 1) := by decide +kernel
theorem dX7_beast_65 : decode cX7_beast 65 = .ok (.iadd, 1) := by decide +kernel
theorem dX7_beast_66 : decode cX7_beast 66 = .ok (.iaload, 1) := by decide +kernel
theorem dX7_beast_67 : decode cX7_beast 67 = .ok (.ireturn, 1) := by decide +kernel
theorem dX7_beast_68 : decode cX7_beast 68 = .ok (.aload_n 0, 1) := by decide +kernel
theorem dX7_beast_69 : decode cX7_beast 69 = .ok (.getfield 7, 3) := by decide +kernel
theorem dX7_beast_72 : decode cX7_beast 72 = .ok (.iload_n 1, 1) := by decide +kernel
theorem dX7_beast_73 : decode cX7_beast 73 = .ok (.iaload, 1) := by decide +kernel
theorem dX7_beast_74 : decode cX7_beast 74 = .ok (.ireturn, 1) := by decide +kernel
theorem dX7_beast_75 : decode cX7_beast 75 = .ok (.aload_n 0, 1) := by decide +kernel
theorem dX7_beast_76 : decode cX7_beast 76 = .ok (.getfield 13, 3) := by decide +kernel
theorem dX7_beast_79 : decode cX7_beast 79 = .ok (.bipush 18, 2) := by decide +kernel
theorem dX7_beast_81 : decode cX7_beast 81 = .ok (.iload_n 1, 1) := by decide +kernel
theorem dX7_beast_82 : decode cX7_beast 82 = .ok (.iadd, 1) := by decide +kernel
theorem dX7_beast_83 : decode cX7_beast 83 = .ok (.iaload, 1) := by decide +kernel
theorem dX7_beast_84 : decode cX7_beast 84 = .ok (.ireturn, 1) := by decide +kernel
theorem dX7_beast_85 : decode cX7_beast 85 = .ok (.aload_n 0, 1) := by decide +kernel
theorem dX7_beast_86 : decode cX7_beast 86 = .ok (.getfield 13, 3) := by decide +kernel
theorem dX7_beast_89 : decode cX7_beast 89 = .ok (.bipush 23, 2) := by decide +kernel
theorem dX7_beast_91 : decode cX7_beast 91 = .ok (.iload_n 1, 1) := by decide +kernel
theorem dX7_beast_92 : decode cX7_beast 92 = .ok (.iadd, 1) := by decide +kernel
theorem dX7_beast_93 : decode cX7_beast 93 = .ok (.iaload, 1) := by decide +kernel
theorem dX7_beast_94 : decode cX7_beast 94 = .ok (.ireturn, 1) := by decide +kernel
theorem dX7_beast_95 : decode cX7_beast 95 = .ok (.aload_n 0, 1) := by decide +kernel
theorem dX7_beast_96 : decode cX7_beast 96 = .ok (.getfield 13, 3) := by decide +kernel
theorem dX7_beast_99 : decode cX7_beast 99 = .ok (.bipush 13, 2) := by decide +kernel
theorem dX7_beast_101 : decode cX7_beast 101 = .ok (.iload_n 1, 1) := by decide +kernel
theorem dX7_beast_102 : decode cX7_beast 102 = .ok (.iadd, 1) := by decide +kernel
theorem dX7_beast_103 : decode cX7_beast 103 = .ok (.iaload, 1) := by decide +kernel
theorem dX7_beast_104 : decode cX7_beast 104 = .ok (.ifCond .ne 7, 3) := by decide +kernel
theorem dX7_beast_107 : decode cX7_beast 107 = .ok (.iconst 1, 1) := by decide +kernel
theorem dX7_beast_108 : decode cX7_beast 108 = .ok (.goto 4, 3) := by decide +kernel
theorem dX7_beast_111 : decode cX7_beast 111 = .ok (.iconst 0, 1) := by decide +kernel
theorem dX7_beast_112 : decode cX7_beast 112 = .ok (.ireturn, 1) := by decide +kernel
theorem dX7_beast_113 : decode cX7_beast 113 = .ok (.bipush (-2), 2) := by decide +kernel
theorem dX7_beast_115 : decode cX7_beast 115 = .ok (.ireturn, 1) := by decide +kernel
theorem dX7_owes_0 : decode cX7_owes 0 = .ok (.aload_n 0, 1) := by decide +kernel
theorem dX7_owes_1 : decode cX7_owes 1 = .ok (.iload_n 1, 1) := by decide +kernel
theorem dX7_owes_2 : decode cX7_owes 2 = .ok (.invokevirtual 100, 3) := by decide +kernel
theorem dX7_owes_5 : decode cX7_owes 5 = .ok (.ifCond .eq 25, 3) := by decide +kernel
theorem dX7_owes_8 : decode cX7_owes 8 = .ok (.aload_n 0, 1) := by decide +kernel
theorem dX7_owes_9 : decode cX7_owes 9 = .ok (.iload_n 2, 1) := by decide +kernel
theorem dX7_owes_10 : decode cX7_owes 10 = .ok (.invokevirtual 100, 3) := by decide +kernel
theorem dX7_owes_13 : decode cX7_owes 13 = .ok (.ifCond .eq 17, 3) := by decide +kernel
theorem dX7_owes_16 : decode cX7_owes 16 = .ok (.aload_n 0, 1) := by decide +kernel
theorem dX7_owes_17 : decode cX7_owes 17 = .ok (.getfield 13, 3) := by decide +kernel
theorem dX7_owes_20 : decode cX7_owes 20 = .ok (.iconst 0, 1) := by decide +kernel
theorem dX7_owes_21 : decode cX7_owes 21 = .ok (.iload_n 1, 1) := by decide +kernel
theorem dX7_owes_22 : decode cX7_owes 22 = .ok (.iload_n 2, 1) := by decide +kernel
theorem dX7_owes_23 : decode cX7_owes 23 = .ok (.invokestatic 104, 3) := by decide +kernel
theorem dX7_owes_26 : decode cX7_owes 26 = .ok (.iaload, 1) := by decide +kernel
theorem dX7_owes_27 : decode cX7_owes 27 = .ok (.goto 4, 3) := by decide +kernel
theorem dX7_owes_30 : decode cX7_owes 30 = .ok (.iconst (-1), 1) := by decide +kernel
theorem dX7_owes_31 : decode cX7_owes 31 = .ok (.ireturn, 1) := by decide +kernel
theorem dX7_clauseOn_0 : decode cX7_clauseOn 0 = .ok (.bipush 45, 2) := by decide +kernel
theorem dX7_clauseOn_2 : decode cX7_clauseOn 2 = .ok (.iload_n 1, 1) := by decide +kernel
theorem dX7_clauseOn_3 : decode cX7_clauseOn 3 = .ok (.imul, 1) := by decide +kernel
theorem dX7_clauseOn_4 : decode cX7_clauseOn 4 = .ok (.istore 4, 2) := by decide +kernel
theorem dX7_clauseOn_6 : decode cX7_clauseOn 6 = .ok (.aload_n 0, 1) := by decide +kernel
theorem dX7_clauseOn_7 : decode cX7_clauseOn 7 = .ok (.getfield 13, 3) := by decide +kernel
theorem dX7_clauseOn_10 : decode cX7_clauseOn 10 = .ok (.iload 4, 2) := by decide +kernel
theorem dX7_clauseOn_12 : decode cX7_clauseOn 12 = .ok (.bipush 8, 2) := by decide +kernel
theorem dX7_clauseOn_14 : decode cX7_clauseOn 14 = .ok (.iadd, 1) := by decide +kernel
theorem dX7_clauseOn_15 : decode cX7_clauseOn 15 = .ok (.iload_n 3, 1) := by decide +kernel
theorem dX7_clauseOn_16 : decode cX7_clauseOn 16 = .ok (.iadd, 1) := by decide +kernel
theorem dX7_clauseOn_17 : decode cX7_clauseOn 17 = .ok (.iaload, 1) := by decide +kernel
theorem dX7_clauseOn_18 : decode cX7_clauseOn 18 = .ok (.istore 5, 2) := by decide +kernel
theorem dX7_clauseOn_20 : decode cX7_clauseOn 20 = .ok (.iload 5, 2) := by decide +kernel
theorem dX7_clauseOn_22 : decode cX7_clauseOn 22 = .ok (.iload_n 2, 1) := by decide +kernel
theorem dX7_clauseOn_23 : decode cX7_clauseOn 23 = .ok (.if_icmp .ne 5, 3) := by decide +kernel
theorem dX7_clauseOn_26 : decode cX7_clauseOn 26 = .ok (.iconst 1, 1) := by decide +kernel
theorem dX7_clauseOn_27 : decode cX7_clauseOn 27 = .ok (.ireturn, 1) := by decide +kernel
theorem dX7_clauseOn_28 : decode cX7_clauseOn 28 = .ok (.aload_n 0, 1) := by decide +kernel
theorem dX7_clauseOn_29 : decode cX7_clauseOn 29 = .ok (.getfield 13, 3) := by decide +kernel
theorem dX7_clauseOn_32 : decode cX7_clauseOn 32 = .ok (.iload 4, 2) := by decide +kernel
theorem dX7_clauseOn_34 : decode cX7_clauseOn 34 = .ok (.bipush 13, 2) := by decide +kernel
theorem dX7_clauseOn_36 : decode cX7_clauseOn 36 = .ok (.iadd, 1) := by decide +kernel
theorem dX7_clauseOn_37 : decode cX7_clauseOn 37 = .ok (.iload_n 3, 1) := by decide +kernel
theorem dX7_clauseOn_38 : decode cX7_clauseOn 38 = .ok (.iadd, 1) := by decide +kernel
theorem dX7_clauseOn_39 : decode cX7_clauseOn 39 = .ok (.iaload, 1) := by decide +kernel
theorem dX7_clauseOn_40 : decode cX7_clauseOn 40 = .ok (.ifCond .ne 5, 3) := by decide +kernel
theorem dX7_clauseOn_43 : decode cX7_clauseOn 43 = .ok (.iconst 2, 1) := by decide +kernel
theorem dX7_clauseOn_44 : decode cX7_clauseOn 44 = .ok (.ireturn, 1) := by decide +kernel
theorem dX7_clauseOn_45 : decode cX7_clauseOn 45 = .ok (.aload_n 0, 1) := by decide +kernel
theorem dX7_clauseOn_46 : decode cX7_clauseOn 46 = .ok (.iload_n 1, 1) := by decide +kernel
theorem dX7_clauseOn_47 : decode cX7_clauseOn 47 = .ok (.iload_n 3, 1) := by decide +kernel
theorem dX7_clauseOn_48 : decode cX7_clauseOn 48 = .ok (.invokevirtual 111, 3) := by decide +kernel
theorem dX7_clauseOn_51 : decode cX7_clauseOn 51 = .ok (.ifCond .eq 5, 3) := by decide +kernel
theorem dX7_clauseOn_54 : decode cX7_clauseOn 54 = .ok (.iconst 3, 1) := by decide +kernel
theorem dX7_clauseOn_55 : decode cX7_clauseOn 55 = .ok (.ireturn, 1) := by decide +kernel
theorem dX7_clauseOn_56 : decode cX7_clauseOn 56 = .ok (.aload_n 0, 1) := by decide +kernel
theorem dX7_clauseOn_57 : decode cX7_clauseOn 57 = .ok (.getfield 13, 3) := by decide +kernel
theorem dX7_clauseOn_60 : decode cX7_clauseOn 60 = .ok (.iload_n 1, 1) := by decide +kernel
theorem dX7_clauseOn_61 : decode cX7_clauseOn 61 = .ok (.iload 5, 2) := by decide +kernel
theorem dX7_clauseOn_63 : decode cX7_clauseOn 63 = .ok (.iload_n 2, 1) := by decide +kernel
theorem dX7_clauseOn_64 : decode cX7_clauseOn 64 = .ok (.invokestatic 104, 3) := by decide +kernel
theorem dX7_clauseOn_67 : decode cX7_clauseOn 67 = .ok (.iaload, 1) := by decide +kernel
theorem dX7_clauseOn_68 : decode cX7_clauseOn 68 = .ok (.ifCond .ne 5, 3) := by decide +kernel
theorem dX7_clauseOn_71 : decode cX7_clauseOn 71 = .ok (.iconst 4, 1) := by decide +kernel
theorem dX7_clauseOn_72 : decode cX7_clauseOn 72 = .ok (.ireturn, 1) := by decide +kernel
theorem dX7_clauseOn_73 : decode cX7_clauseOn 73 = .ok (.aload_n 0, 1) := by decide +kernel
theorem dX7_clauseOn_74 : decode cX7_clauseOn 74 = .ok (.getfield 7, 3) := by decide +kernel
theorem dX7_clauseOn_77 : decode cX7_clauseOn 77 = .ok (.iload_n 3, 1) := by decide +kernel
theorem dX7_clauseOn_78 : decode cX7_clauseOn 78 = .ok (.iaload, 1) := by decide +kernel
theorem dX7_clauseOn_79 : decode cX7_clauseOn 79 = .ok (.iconst 1, 1) := by decide +kernel
theorem dX7_clauseOn_80 : decode cX7_clauseOn 80 = .ok (.if_icmp .ne 24, 3) := by decide +kernel
theorem dX7_clauseOn_83 : decode cX7_clauseOn 83 = .ok (.aload_n 0, 1) := by decide +kernel
theorem dX7_clauseOn_84 : decode cX7_clauseOn 84 = .ok (.getfield 13, 3) := by decide +kernel
theorem dX7_clauseOn_87 : decode cX7_clauseOn 87 = .ok (.iload 4, 2) := by decide +kernel
theorem dX7_clauseOn_89 : decode cX7_clauseOn 89 = .ok (.bipush 44, 2) := by decide +kernel
theorem dX7_clauseOn_91 : decode cX7_clauseOn 91 = .ok (.iadd, 1) := by decide +kernel
theorem dX7_clauseOn_92 : decode cX7_clauseOn 92 = .ok (.iaload, 1) := by decide +kernel
theorem dX7_clauseOn_93 : decode cX7_clauseOn 93 = .ok (.bipush 12, 2) := by decide +kernel
theorem dX7_clauseOn_95 : decode cX7_clauseOn 95 = .ok (.irem, 1) := by decide +kernel
theorem dX7_clauseOn_96 : decode cX7_clauseOn 96 = .ok (.iconst 3, 1) := by decide +kernel
theorem dX7_clauseOn_97 : decode cX7_clauseOn 97 = .ok (.if_icmp .ge 7, 3) := by decide +kernel
theorem dX7_clauseOn_100 : decode cX7_clauseOn 100 = .ok (.iconst 5, 1) := by decide +kernel
theorem dX7_clauseOn_101 : decode cX7_clauseOn 101 = .ok (.goto 19, 3) := by decide +kernel
theorem dX7_clauseOn_104 : decode cX7_clauseOn 104 = .ok (.aload_n 0, 1) := by decide +kernel
theorem dX7_clauseOn_105 : decode cX7_clauseOn 105 = .ok (.getfield 7, 3) := by decide +kernel
theorem dX7_clauseOn_108 : decode cX7_clauseOn 108 = .ok (.iload_n 3, 1) := by decide +kernel
theorem dX7_clauseOn_109 : decode cX7_clauseOn 109 = .ok (.iaload, 1) := by decide +kernel
theorem dX7_clauseOn_110 : decode cX7_clauseOn 110 = .ok (.iconst 3, 1) := by decide +kernel
theorem dX7_clauseOn_111 : decode cX7_clauseOn 111 = .ok (.if_icmp .ne 8, 3) := by decide +kernel
theorem dX7_clauseOn_114 : decode cX7_clauseOn 114 = .ok (.bipush 6, 2) := by decide +kernel
theorem dX7_clauseOn_116 : decode cX7_clauseOn 116 = .ok (.goto 4, 3) := by decide +kernel
theorem dX7_clauseOn_119 : decode cX7_clauseOn 119 = .ok (.iconst 0, 1) := by decide +kernel
theorem dX7_clauseOn_120 : decode cX7_clauseOn 120 = .ok (.ireturn, 1) := by decide +kernel
theorem dX7_addOn_0 : decode cX7_addOn 0 = .ok (.iload_n 1, 1) := by decide +kernel
theorem dX7_addOn_1 : decode cX7_addOn 1 = .ok (.iload_n 2, 1) := by decide +kernel
theorem dX7_addOn_2 : decode cX7_addOn 2 = .ok (.iload_n 3, 1) := by decide +kernel
theorem dX7_addOn_3 : decode cX7_addOn 3 = .ok (.invokestatic 104, 3) := by decide +kernel
theorem dX7_addOn_6 : decode cX7_addOn 6 = .ok (.istore 5, 2) := by decide +kernel
theorem dX7_addOn_8 : decode cX7_addOn 8 = .ok (.aload_n 0, 1) := by decide +kernel
theorem dX7_addOn_9 : decode cX7_addOn 9 = .ok (.getfield 13, 3) := by decide +kernel
theorem dX7_addOn_12 : decode cX7_addOn 12 = .ok (.iload 5, 2) := by decide +kernel
theorem dX7_addOn_14 : decode cX7_addOn 14 = .ok (.aload_n 0, 1) := by decide +kernel
theorem dX7_addOn_15 : decode cX7_addOn 15 = .ok (.getfield 13, 3) := by decide +kernel
theorem dX7_addOn_18 : decode cX7_addOn 18 = .ok (.iload 5, 2) := by decide +kernel
theorem dX7_addOn_20 : decode cX7_addOn 20 = .ok (.iaload, 1) := by decide +kernel
theorem dX7_addOn_21 : decode cX7_addOn 21 = .ok (.iload 4, 2) := by decide +kernel
theorem dX7_addOn_23 : decode cX7_addOn 23 = .ok (.iadd, 1) := by decide +kernel
theorem dX7_addOn_24 : decode cX7_addOn 24 = .ok (.bipush 99, 2) := by decide +kernel
theorem dX7_addOn_26 : decode cX7_addOn 26 = .ok (.if_icmp .le 8, 3) := by decide +kernel
theorem dX7_addOn_29 : decode cX7_addOn 29 = .ok (.bipush 99, 2) := by decide +kernel
theorem dX7_addOn_31 : decode cX7_addOn 31 = .ok (.goto 30, 3) := by decide +kernel
theorem dX7_addOn_34 : decode cX7_addOn 34 = .ok (.aload_n 0, 1) := by decide +kernel
theorem dX7_addOn_35 : decode cX7_addOn 35 = .ok (.getfield 13, 3) := by decide +kernel
theorem dX7_addOn_38 : decode cX7_addOn 38 = .ok (.iload 5, 2) := by decide +kernel
theorem dX7_addOn_40 : decode cX7_addOn 40 = .ok (.iaload, 1) := by decide +kernel
theorem dX7_addOn_41 : decode cX7_addOn 41 = .ok (.iload 4, 2) := by decide +kernel
theorem dX7_addOn_43 : decode cX7_addOn 43 = .ok (.iadd, 1) := by decide +kernel
theorem dX7_addOn_44 : decode cX7_addOn 44 = .ok (.ifCond .ge 7, 3) := by decide +kernel
theorem dX7_addOn_47 : decode cX7_addOn 47 = .ok (.iconst 0, 1) := by decide +kernel
theorem dX7_addOn_48 : decode cX7_addOn 48 = .ok (.goto 13, 3) := by decide +kernel
theorem dX7_addOn_51 : decode cX7_addOn 51 = .ok (.aload_n 0, 1) := by decide +kernel
theorem dX7_addOn_52 : decode cX7_addOn 52 = .ok (.getfield 13, 3) := by decide +kernel
theorem dX7_addOn_55 : decode cX7_addOn 55 = .ok (.iload 5, 2) := by decide +kernel
theorem dX7_addOn_57 : decode cX7_addOn 57 = .ok (.iaload, 1) := by decide +kernel
theorem dX7_addOn_58 : decode cX7_addOn 58 = .ok (.iload 4, 2) := by decide +kernel
theorem dX7_addOn_60 : decode cX7_addOn 60 = .ok (.iadd, 1) := by decide +kernel
theorem dX7_addOn_61 : decode cX7_addOn 61 = .ok (.iastore, 1) := by decide +kernel
theorem dX7_addOn_62 : decode cX7_addOn 62 = .ok (.return_, 1) := by decide +kernel
theorem dX7_shutOn_0 : decode cX7_shutOn 0 = .ok (.aload_n 0, 1) := by decide +kernel
theorem dX7_shutOn_1 : decode cX7_shutOn 1 = .ok (.getfield 13, 3) := by decide +kernel
theorem dX7_shutOn_4 : decode cX7_shutOn 4 = .ok (.bipush 45, 2) := by decide +kernel
theorem dX7_shutOn_6 : decode cX7_shutOn 6 = .ok (.iload_n 1, 1) := by decide +kernel
theorem dX7_shutOn_7 : decode cX7_shutOn 7 = .ok (.imul, 1) := by decide +kernel
theorem dX7_shutOn_8 : decode cX7_shutOn 8 = .ok (.bipush 18, 2) := by decide +kernel
theorem dX7_shutOn_10 : decode cX7_shutOn 10 = .ok (.iadd, 1) := by decide +kernel
theorem dX7_shutOn_11 : decode cX7_shutOn 11 = .ok (.iload_n 2, 1) := by decide +kernel
theorem dX7_shutOn_12 : decode cX7_shutOn 12 = .ok (.iadd, 1) := by decide +kernel
theorem dX7_shutOn_13 : decode cX7_shutOn 13 = .ok (.iload_n 3, 1) := by decide +kernel
theorem dX7_shutOn_14 : decode cX7_shutOn 14 = .ok (.iastore, 1) := by decide +kernel
theorem dX7_shutOn_15 : decode cX7_shutOn 15 = .ok (.aload_n 0, 1) := by decide +kernel
theorem dX7_shutOn_16 : decode cX7_shutOn 16 = .ok (.getfield 13, 3) := by decide +kernel
theorem dX7_shutOn_19 : decode cX7_shutOn 19 = .ok (.bipush 45, 2) := by decide +kernel
theorem dX7_shutOn_21 : decode cX7_shutOn 21 = .ok (.iload_n 1, 1) := by decide +kernel
theorem dX7_shutOn_22 : decode cX7_shutOn 22 = .ok (.imul, 1) := by decide +kernel
theorem dX7_shutOn_23 : decode cX7_shutOn 23 = .ok (.bipush 23, 2) := by decide +kernel
theorem dX7_shutOn_25 : decode cX7_shutOn 25 = .ok (.iadd, 1) := by decide +kernel
theorem dX7_shutOn_26 : decode cX7_shutOn 26 = .ok (.iload_n 2, 1) := by decide +kernel
theorem dX7_shutOn_27 : decode cX7_shutOn 27 = .ok (.iadd, 1) := by decide +kernel
theorem dX7_shutOn_28 : decode cX7_shutOn 28 = .ok (.iconst 0, 1) := by decide +kernel
theorem dX7_shutOn_29 : decode cX7_shutOn 29 = .ok (.iastore, 1) := by decide +kernel
theorem dX7_shutOn_30 : decode cX7_shutOn 30 = .ok (.return_, 1) := by decide +kernel
theorem dX7_feedOn_0 : decode cX7_feedOn 0 = .ok (.bipush 45, 2) := by decide +kernel
theorem dX7_feedOn_2 : decode cX7_feedOn 2 = .ok (.iload_n 1, 1) := by decide +kernel
theorem dX7_feedOn_3 : decode cX7_feedOn 3 = .ok (.imul, 1) := by decide +kernel
theorem dX7_feedOn_4 : decode cX7_feedOn 4 = .ok (.istore_n 3, 1) := by decide +kernel
theorem dX7_feedOn_5 : decode cX7_feedOn 5 = .ok (.aload_n 0, 1) := by decide +kernel
theorem dX7_feedOn_6 : decode cX7_feedOn 6 = .ok (.getfield 13, 3) := by decide +kernel
theorem dX7_feedOn_9 : decode cX7_feedOn 9 = .ok (.iload_n 3, 1) := by decide +kernel
theorem dX7_feedOn_10 : decode cX7_feedOn 10 = .ok (.bipush 8, 2) := by decide +kernel
theorem dX7_feedOn_12 : decode cX7_feedOn 12 = .ok (.iadd, 1) := by decide +kernel
theorem dX7_feedOn_13 : decode cX7_feedOn 13 = .ok (.iload_n 2, 1) := by decide +kernel
theorem dX7_feedOn_14 : decode cX7_feedOn 14 = .ok (.iadd, 1) := by decide +kernel
theorem dX7_feedOn_15 : decode cX7_feedOn 15 = .ok (.iaload, 1) := by decide +kernel
theorem dX7_feedOn_16 : decode cX7_feedOn 16 = .ok (.istore 4, 2) := by decide +kernel
theorem dX7_feedOn_18 : decode cX7_feedOn 18 = .ok (.aload_n 0, 1) := by decide +kernel
theorem dX7_feedOn_19 : decode cX7_feedOn 19 = .ok (.getfield 13, 3) := by decide +kernel
theorem dX7_feedOn_22 : decode cX7_feedOn 22 = .ok (.iload_n 3, 1) := by decide +kernel
theorem dX7_feedOn_23 : decode cX7_feedOn 23 = .ok (.bipush 23, 2) := by decide +kernel
theorem dX7_feedOn_25 : decode cX7_feedOn 25 = .ok (.iadd, 1) := by decide +kernel
theorem dX7_feedOn_26 : decode cX7_feedOn 26 = .ok (.iload_n 2, 1) := by decide +kernel
theorem dX7_feedOn_27 : decode cX7_feedOn 27 = .ok (.iadd, 1) := by decide +kernel
theorem dX7_feedOn_28 : decode cX7_feedOn 28 = .ok (.dup2, 1) := by decide +kernel
theorem dX7_feedOn_29 : decode cX7_feedOn 29 = .ok (.iaload, 1) := by decide +kernel
theorem dX7_feedOn_30 : decode cX7_feedOn 30 = .ok (.iconst 1, 1) := by decide +kernel
theorem dX7_feedOn_31 : decode cX7_feedOn 31 = .ok (.iadd, 1) := by decide +kernel
theorem dX7_feedOn_32 : decode cX7_feedOn 32 = .ok (.iastore, 1) := by decide +kernel
theorem dX7_feedOn_33 : decode cX7_feedOn 33 = .ok (.aload_n 0, 1) := by decide +kernel
theorem dX7_feedOn_34 : decode cX7_feedOn 34 = .ok (.getfield 13, 3) := by decide +kernel
theorem dX7_feedOn_37 : decode cX7_feedOn 37 = .ok (.iload_n 3, 1) := by decide +kernel
theorem dX7_feedOn_38 : decode cX7_feedOn 38 = .ok (.iload 4, 2) := by decide +kernel
theorem dX7_feedOn_40 : decode cX7_feedOn 40 = .ok (.iadd, 1) := by decide +kernel
theorem dX7_feedOn_41 : decode cX7_feedOn 41 = .ok (.iaload, 1) := by decide +kernel
theorem dX7_feedOn_42 : decode cX7_feedOn 42 = .ok (.ifCond .le 17, 3) := by decide +kernel
theorem dX7_feedOn_45 : decode cX7_feedOn 45 = .ok (.aload_n 0, 1) := by decide +kernel
theorem dX7_feedOn_46 : decode cX7_feedOn 46 = .ok (.getfield 13, 3) := by decide +kernel
theorem dX7_feedOn_49 : decode cX7_feedOn 49 = .ok (.iload_n 3, 1) := by decide +kernel
theorem dX7_feedOn_50 : decode cX7_feedOn 50 = .ok (.iload 4, 2) := by decide +kernel
theorem dX7_feedOn_52 : decode cX7_feedOn 52 = .ok (.iadd, 1) := by decide +kernel
theorem dX7_feedOn_53 : decode cX7_feedOn 53 = .ok (.dup2, 1) := by decide +kernel
theorem dX7_feedOn_54 : decode cX7_feedOn 54 = .ok (.iaload, 1) := by decide +kernel
theorem dX7_feedOn_55 : decode cX7_feedOn 55 = .ok (.iconst 1, 1) := by decide +kernel
theorem dX7_feedOn_56 : decode cX7_feedOn 56 = .ok (.isub, 1) := by decide +kernel
theorem dX7_feedOn_57 : decode cX7_feedOn 57 = .ok (.iastore, 1) := by decide +kernel
theorem dX7_feedOn_58 : decode cX7_feedOn 58 = .ok (.return_, 1) := by decide +kernel
theorem dX7_feedOn_59 : decode cX7_feedOn 59 = .ok (.aload_n 0, 1) := by decide +kernel
theorem dX7_feedOn_60 : decode cX7_feedOn 60 = .ok (.getfield 13, 3) := by decide +kernel
theorem dX7_feedOn_63 : decode cX7_feedOn 63 = .ok (.iload_n 3, 1) := by decide +kernel
theorem dX7_feedOn_64 : decode cX7_feedOn 64 = .ok (.bipush 13, 2) := by decide +kernel
theorem dX7_feedOn_66 : decode cX7_feedOn 66 = .ok (.iadd, 1) := by decide +kernel
theorem dX7_feedOn_67 : decode cX7_feedOn 67 = .ok (.iload_n 2, 1) := by decide +kernel
theorem dX7_feedOn_68 : decode cX7_feedOn 68 = .ok (.iadd, 1) := by decide +kernel
theorem dX7_feedOn_69 : decode cX7_feedOn 69 = .ok (.iaload, 1) := by decide +kernel
theorem dX7_feedOn_70 : decode cX7_feedOn 70 = .ok (.aload_n 0, 1) := by decide +kernel
theorem dX7_feedOn_71 : decode cX7_feedOn 71 = .ok (.getfield 7, 3) := by decide +kernel
theorem dX7_feedOn_74 : decode cX7_feedOn 74 = .ok (.iload_n 2, 1) := by decide +kernel
theorem dX7_feedOn_75 : decode cX7_feedOn 75 = .ok (.iaload, 1) := by decide +kernel
theorem dX7_feedOn_76 : decode cX7_feedOn 76 = .ok (.iconst 2, 1) := by decide +kernel
theorem dX7_feedOn_77 : decode cX7_feedOn 77 = .ok (.if_icmp .ne 7, 3) := by decide +kernel
theorem dX7_feedOn_80 : decode cX7_feedOn 80 = .ok (.iconst 2, 1) := by decide +kernel
theorem dX7_feedOn_81 : decode cX7_feedOn 81 = .ok (.goto 4, 3) := by decide +kernel
theorem dX7_feedOn_84 : decode cX7_feedOn 84 = .ok (.iconst 1, 1) := by decide +kernel
theorem dX7_feedOn_85 : decode cX7_feedOn 85 = .ok (.isub, 1) := by decide +kernel
theorem dX7_feedOn_86 : decode cX7_feedOn 86 = .ok (.istore 5, 2) := by decide +kernel
theorem dX7_feedOn_88 : decode cX7_feedOn 88 = .ok (.aload_n 0, 1) := by decide +kernel
theorem dX7_feedOn_89 : decode cX7_feedOn 89 = .ok (.getfield 13, 3) := by decide +kernel
theorem dX7_feedOn_92 : decode cX7_feedOn 92 = .ok (.iload_n 3, 1) := by decide +kernel
theorem dX7_feedOn_93 : decode cX7_feedOn 93 = .ok (.bipush 13, 2) := by decide +kernel
theorem dX7_feedOn_95 : decode cX7_feedOn 95 = .ok (.iadd, 1) := by decide +kernel
theorem dX7_feedOn_96 : decode cX7_feedOn 96 = .ok (.iload_n 2, 1) := by decide +kernel
theorem dX7_feedOn_97 : decode cX7_feedOn 97 = .ok (.iadd, 1) := by decide +kernel
theorem dX7_feedOn_98 : decode cX7_feedOn 98 = .ok (.iload 5, 2) := by decide +kernel
theorem dX7_feedOn_100 : decode cX7_feedOn 100 = .ok (.ifCond .ge 7, 3) := by decide +kernel
theorem dX7_feedOn_103 : decode cX7_feedOn 103 = .ok (.iconst 0, 1) := by decide +kernel
theorem dX7_feedOn_104 : decode cX7_feedOn 104 = .ok (.goto 5, 3) := by decide +kernel
theorem dX7_feedOn_107 : decode cX7_feedOn 107 = .ok (.iload 5, 2) := by decide +kernel
theorem dX7_feedOn_109 : decode cX7_feedOn 109 = .ok (.iastore, 1) := by decide +kernel
theorem dX7_feedOn_110 : decode cX7_feedOn 110 = .ok (.iload 5, 2) := by decide +kernel
theorem dX7_feedOn_112 : decode cX7_feedOn 112 = .ok (.ifCond .gt 11, 3) := by decide +kernel
theorem dX7_feedOn_115 : decode cX7_feedOn 115 = .ok (.aload_n 0, 1) := by decide +kernel
theorem dX7_feedOn_116 : decode cX7_feedOn 116 = .ok (.iload_n 1, 1) := by decide +kernel
theorem dX7_feedOn_117 : decode cX7_feedOn 117 = .ok (.iload_n 2, 1) := by decide +kernel
theorem dX7_feedOn_118 : decode cX7_feedOn 118 = .ok (.bipush (-9), 2) := by decide +kernel
theorem dX7_feedOn_120 : decode cX7_feedOn 120 = .ok (.invokevirtual 114, 3) := by decide +kernel
theorem dX7_feedOn_123 : decode cX7_feedOn 123 = .ok (.return_, 1) := by decide +kernel
theorem dX7_passOn_0 : decode cX7_passOn 0 = .ok (.iconst 0, 1) := by decide +kernel
theorem dX7_passOn_1 : decode cX7_passOn 1 = .ok (.istore_n 2, 1) := by decide +kernel
theorem dX7_passOn_2 : decode cX7_passOn 2 = .ok (.iload_n 2, 1) := by decide +kernel
theorem dX7_passOn_3 : decode cX7_passOn 3 = .ok (.aload_n 0, 1) := by decide +kernel
theorem dX7_passOn_4 : decode cX7_passOn 4 = .ok (.getfield 94, 3) := by decide +kernel
theorem dX7_passOn_7 : decode cX7_passOn 7 = .ok (.if_icmp .ge 24, 3) := by decide +kernel
theorem dX7_passOn_10 : decode cX7_passOn 10 = .ok (.aload_n 0, 1) := by decide +kernel
theorem dX7_passOn_11 : decode cX7_passOn 11 = .ok (.iload_n 1, 1) := by decide +kernel
theorem dX7_passOn_12 : decode cX7_passOn 12 = .ok (.iload_n 2, 1) := by decide +kernel
theorem dX7_passOn_13 : decode cX7_passOn 13 = .ok (.invokevirtual 111, 3) := by decide +kernel
theorem dX7_passOn_16 : decode cX7_passOn 16 = .ok (.ifCond .eq 9, 3) := by decide +kernel
theorem dX7_passOn_19 : decode cX7_passOn 19 = .ok (.aload_n 0, 1) := by decide +kernel
theorem dX7_passOn_20 : decode cX7_passOn 20 = .ok (.iload_n 1, 1) := by decide +kernel
theorem dX7_passOn_21 : decode cX7_passOn 21 = .ok (.iload_n 2, 1) := by decide +kernel
theorem dX7_passOn_22 : decode cX7_passOn 22 = .ok (.invokevirtual 118, 3) := by decide +kernel
theorem dX7_passOn_25 : decode cX7_passOn 25 = .ok (.iinc 2 1, 3) := by decide +kernel
theorem dX7_passOn_28 : decode cX7_passOn 28 = .ok (.goto (-26), 3) := by decide +kernel
theorem dX7_passOn_31 : decode cX7_passOn 31 = .ok (.aload_n 0, 1) := by decide +kernel
theorem dX7_passOn_32 : decode cX7_passOn 32 = .ok (.getfield 13, 3) := by decide +kernel
theorem dX7_passOn_35 : decode cX7_passOn 35 = .ok (.bipush 45, 2) := by decide +kernel
theorem dX7_passOn_37 : decode cX7_passOn 37 = .ok (.iload_n 1, 1) := by decide +kernel
theorem dX7_passOn_38 : decode cX7_passOn 38 = .ok (.imul, 1) := by decide +kernel
theorem dX7_passOn_39 : decode cX7_passOn 39 = .ok (.bipush 44, 2) := by decide +kernel
theorem dX7_passOn_41 : decode cX7_passOn 41 = .ok (.iadd, 1) := by decide +kernel
theorem dX7_passOn_42 : decode cX7_passOn 42 = .ok (.dup2, 1) := by decide +kernel
theorem dX7_passOn_43 : decode cX7_passOn 43 = .ok (.iaload, 1) := by decide +kernel
theorem dX7_passOn_44 : decode cX7_passOn 44 = .ok (.iconst 1, 1) := by decide +kernel
theorem dX7_passOn_45 : decode cX7_passOn 45 = .ok (.iadd, 1) := by decide +kernel
theorem dX7_passOn_46 : decode cX7_passOn 46 = .ok (.iastore, 1) := by decide +kernel
theorem dX7_passOn_47 : decode cX7_passOn 47 = .ok (.return_, 1) := by decide +kernel
theorem dX7_canKeep_0 : decode cX7_canKeep 0 = .ok (.aload_n 0, 1) := by decide +kernel
theorem dX7_canKeep_1 : decode cX7_canKeep 1 = .ok (.iload_n 1, 1) := by decide +kernel
theorem dX7_canKeep_2 : decode cX7_canKeep 2 = .ok (.iload_n 2, 1) := by decide +kernel
theorem dX7_canKeep_3 : decode cX7_canKeep 3 = .ok (.invokevirtual 111, 3) := by decide +kernel
theorem dX7_canKeep_6 : decode cX7_canKeep 6 = .ok (.ifCond .eq 25, 3) := by decide +kernel
theorem dX7_canKeep_9 : decode cX7_canKeep 9 = .ok (.aload_n 0, 1) := by decide +kernel
theorem dX7_canKeep_10 : decode cX7_canKeep 10 = .ok (.getfield 13, 3) := by decide +kernel
theorem dX7_canKeep_13 : decode cX7_canKeep 13 = .ok (.bipush 45, 2) := by decide +kernel
theorem dX7_canKeep_15 : decode cX7_canKeep 15 = .ok (.iload_n 1, 1) := by decide +kernel
theorem dX7_canKeep_16 : decode cX7_canKeep 16 = .ok (.imul, 1) := by decide +kernel
theorem dX7_canKeep_17 : decode cX7_canKeep 17 = .ok (.bipush 23, 2) := by decide +kernel
theorem dX7_canKeep_19 : decode cX7_canKeep 19 = .ok (.iadd, 1) := by decide +kernel
theorem dX7_canKeep_20 : decode cX7_canKeep 20 = .ok (.iload_n 2, 1) := by decide +kernel
theorem dX7_canKeep_21 : decode cX7_canKeep 21 = .ok (.iadd, 1) := by decide +kernel
theorem dX7_canKeep_22 : decode cX7_canKeep 22 = .ok (.iaload, 1) := by decide +kernel
theorem dX7_canKeep_23 : decode cX7_canKeep 23 = .ok (.iconst 2, 1) := by decide +kernel
theorem dX7_canKeep_24 : decode cX7_canKeep 24 = .ok (.if_icmp .le 7, 3) := by decide +kernel
theorem dX7_canKeep_27 : decode cX7_canKeep 27 = .ok (.iconst 1, 1) := by decide +kernel
theorem dX7_canKeep_28 : decode cX7_canKeep 28 = .ok (.goto 4, 3) := by decide +kernel
theorem dX7_canKeep_31 : decode cX7_canKeep 31 = .ok (.iconst 0, 1) := by decide +kernel
theorem dX7_canKeep_32 : decode cX7_canKeep 32 = .ok (.ireturn, 1) := by decide +kernel
theorem dX7_keepOn_0 : decode cX7_keepOn 0 = .ok (.bipush 45, 2) := by decide +kernel
theorem dX7_keepOn_2 : decode cX7_keepOn 2 = .ok (.iload_n 1, 1) := by decide +kernel
theorem dX7_keepOn_3 : decode cX7_keepOn 3 = .ok (.imul, 1) := by decide +kernel
theorem dX7_keepOn_4 : decode cX7_keepOn 4 = .ok (.istore_n 3, 1) := by decide +kernel
theorem dX7_keepOn_5 : decode cX7_keepOn 5 = .ok (.aload_n 0, 1) := by decide +kernel
theorem dX7_keepOn_6 : decode cX7_keepOn 6 = .ok (.getfield 13, 3) := by decide +kernel
theorem dX7_keepOn_9 : decode cX7_keepOn 9 = .ok (.iload_n 3, 1) := by decide +kernel
theorem dX7_keepOn_10 : decode cX7_keepOn 10 = .ok (.bipush 18, 2) := by decide +kernel
theorem dX7_keepOn_12 : decode cX7_keepOn 12 = .ok (.iadd, 1) := by decide +kernel
theorem dX7_keepOn_13 : decode cX7_keepOn 13 = .ok (.iload_n 2, 1) := by decide +kernel
theorem dX7_keepOn_14 : decode cX7_keepOn 14 = .ok (.iadd, 1) := by decide +kernel
theorem dX7_keepOn_15 : decode cX7_keepOn 15 = .ok (.iaload, 1) := by decide +kernel
theorem dX7_keepOn_16 : decode cX7_keepOn 16 = .ok (.istore 4, 2) := by decide +kernel
theorem dX7_keepOn_18 : decode cX7_keepOn 18 = .ok (.aload_n 0, 1) := by decide +kernel
theorem dX7_keepOn_19 : decode cX7_keepOn 19 = .ok (.iload_n 1, 1) := by decide +kernel
theorem dX7_keepOn_20 : decode cX7_keepOn 20 = .ok (.aload_n 0, 1) := by decide +kernel
theorem dX7_keepOn_21 : decode cX7_keepOn 21 = .ok (.getfield 13, 3) := by decide +kernel
theorem dX7_keepOn_24 : decode cX7_keepOn 24 = .ok (.iload_n 3, 1) := by decide +kernel
theorem dX7_keepOn_25 : decode cX7_keepOn 25 = .ok (.bipush 8, 2) := by decide +kernel
theorem dX7_keepOn_27 : decode cX7_keepOn 27 = .ok (.iadd, 1) := by decide +kernel
theorem dX7_keepOn_28 : decode cX7_keepOn 28 = .ok (.iload_n 2, 1) := by decide +kernel
theorem dX7_keepOn_29 : decode cX7_keepOn 29 = .ok (.iadd, 1) := by decide +kernel
theorem dX7_keepOn_30 : decode cX7_keepOn 30 = .ok (.iaload, 1) := by decide +kernel
theorem dX7_keepOn_31 : decode cX7_keepOn 31 = .ok (.iload 4, 2) := by decide +kernel
theorem dX7_keepOn_33 : decode cX7_keepOn 33 = .ok (.aload_n 0, 1) := by decide +kernel
theorem dX7_keepOn_34 : decode cX7_keepOn 34 = .ok (.getfield 13, 3) := by decide +kernel
theorem dX7_keepOn_37 : decode cX7_keepOn 37 = .ok (.iload_n 3, 1) := by decide +kernel
theorem dX7_keepOn_38 : decode cX7_keepOn 38 = .ok (.bipush 13, 2) := by decide +kernel
theorem dX7_keepOn_40 : decode cX7_keepOn 40 = .ok (.iadd, 1) := by decide +kernel
theorem dX7_keepOn_41 : decode cX7_keepOn 41 = .ok (.iload_n 2, 1) := by decide +kernel
theorem dX7_keepOn_42 : decode cX7_keepOn 42 = .ok (.iadd, 1) := by decide +kernel
theorem dX7_keepOn_43 : decode cX7_keepOn 43 = .ok (.iaload, 1) := by decide +kernel
theorem dX7_keepOn_44 : decode cX7_keepOn 44 = .ok (.ineg, 1) := by decide +kernel
theorem dX7_keepOn_45 : decode cX7_keepOn 45 = .ok (.invokevirtual 122, 3) := by decide +kernel
theorem dX7_keepOn_48 : decode cX7_keepOn 48 = .ok (.aload_n 0, 1) := by decide +kernel
theorem dX7_keepOn_49 : decode cX7_keepOn 49 = .ok (.getfield 13, 3) := by decide +kernel
theorem dX7_keepOn_52 : decode cX7_keepOn 52 = .ok (.iload_n 3, 1) := by decide +kernel
theorem dX7_keepOn_53 : decode cX7_keepOn 53 = .ok (.bipush 8, 2) := by decide +kernel
theorem dX7_keepOn_55 : decode cX7_keepOn 55 = .ok (.iadd, 1) := by decide +kernel
theorem dX7_keepOn_56 : decode cX7_keepOn 56 = .ok (.iload_n 2, 1) := by decide +kernel
theorem dX7_keepOn_57 : decode cX7_keepOn 57 = .ok (.iadd, 1) := by decide +kernel
theorem dX7_keepOn_58 : decode cX7_keepOn 58 = .ok (.iload 4, 2) := by decide +kernel
theorem dX7_keepOn_60 : decode cX7_keepOn 60 = .ok (.iastore, 1) := by decide +kernel
theorem dX7_keepOn_61 : decode cX7_keepOn 61 = .ok (.aload_n 0, 1) := by decide +kernel
theorem dX7_keepOn_62 : decode cX7_keepOn 62 = .ok (.iload_n 1, 1) := by decide +kernel
theorem dX7_keepOn_63 : decode cX7_keepOn 63 = .ok (.iload_n 2, 1) := by decide +kernel
theorem dX7_keepOn_64 : decode cX7_keepOn 64 = .ok (.bipush (-9), 2) := by decide +kernel
theorem dX7_keepOn_66 : decode cX7_keepOn 66 = .ok (.invokevirtual 114, 3) := by decide +kernel
theorem dX7_keepOn_69 : decode cX7_keepOn 69 = .ok (.return_, 1) := by decide +kernel
theorem dX7_breakOn_0 : decode cX7_breakOn 0 = .ok (.aload_n 0, 1) := by decide +kernel
theorem dX7_breakOn_1 : decode cX7_breakOn 1 = .ok (.iload_n 1, 1) := by decide +kernel
theorem dX7_breakOn_2 : decode cX7_breakOn 2 = .ok (.aload_n 0, 1) := by decide +kernel
theorem dX7_breakOn_3 : decode cX7_breakOn 3 = .ok (.getfield 13, 3) := by decide +kernel
theorem dX7_breakOn_6 : decode cX7_breakOn 6 = .ok (.bipush 45, 2) := by decide +kernel
theorem dX7_breakOn_8 : decode cX7_breakOn 8 = .ok (.iload_n 1, 1) := by decide +kernel
theorem dX7_breakOn_9 : decode cX7_breakOn 9 = .ok (.imul, 1) := by decide +kernel
theorem dX7_breakOn_10 : decode cX7_breakOn 10 = .ok (.bipush 8, 2) := by decide +kernel
theorem dX7_breakOn_12 : decode cX7_breakOn 12 = .ok (.iadd, 1) := by decide +kernel
theorem dX7_breakOn_13 : decode cX7_breakOn 13 = .ok (.iload_n 2, 1) := by decide +kernel
theorem dX7_breakOn_14 : decode cX7_breakOn 14 = .ok (.iadd, 1) := by decide +kernel
theorem dX7_breakOn_15 : decode cX7_breakOn 15 = .ok (.iaload, 1) := by decide +kernel
theorem dX7_breakOn_16 : decode cX7_breakOn 16 = .ok (.aload_n 0, 1) := by decide +kernel
theorem dX7_breakOn_17 : decode cX7_breakOn 17 = .ok (.getfield 13, 3) := by decide +kernel
theorem dX7_breakOn_20 : decode cX7_breakOn 20 = .ok (.bipush 45, 2) := by decide +kernel
theorem dX7_breakOn_22 : decode cX7_breakOn 22 = .ok (.iload_n 1, 1) := by decide +kernel
theorem dX7_breakOn_23 : decode cX7_breakOn 23 = .ok (.imul, 1) := by decide +kernel
theorem dX7_breakOn_24 : decode cX7_breakOn 24 = .ok (.bipush 18, 2) := by decide +kernel
theorem dX7_breakOn_26 : decode cX7_breakOn 26 = .ok (.iadd, 1) := by decide +kernel
theorem dX7_breakOn_27 : decode cX7_breakOn 27 = .ok (.iload_n 2, 1) := by decide +kernel
theorem dX7_breakOn_28 : decode cX7_breakOn 28 = .ok (.iadd, 1) := by decide +kernel
theorem dX7_breakOn_29 : decode cX7_breakOn 29 = .ok (.iaload, 1) := by decide +kernel
theorem dX7_breakOn_30 : decode cX7_breakOn 30 = .ok (.iconst 3, 1) := by decide +kernel
theorem dX7_breakOn_31 : decode cX7_breakOn 31 = .ok (.invokevirtual 122, 3) := by decide +kernel
theorem dX7_breakOn_34 : decode cX7_breakOn 34 = .ok (.aload_n 0, 1) := by decide +kernel
theorem dX7_breakOn_35 : decode cX7_breakOn 35 = .ok (.iload_n 1, 1) := by decide +kernel
theorem dX7_breakOn_36 : decode cX7_breakOn 36 = .ok (.iload_n 2, 1) := by decide +kernel
theorem dX7_breakOn_37 : decode cX7_breakOn 37 = .ok (.bipush (-9), 2) := by decide +kernel
theorem dX7_breakOn_39 : decode cX7_breakOn 39 = .ok (.invokevirtual 114, 3) := by decide +kernel
theorem dX7_breakOn_42 : decode cX7_breakOn 42 = .ok (.return_, 1) := by decide +kernel
theorem dX7_keepAct_0 : decode cX7_keepAct 0 = .ok (.iconst 0, 1) := by decide +kernel
theorem dX7_keepAct_1 : decode cX7_keepAct 1 = .ok (.istore_n 1, 1) := by decide +kernel
theorem dX7_keepAct_2 : decode cX7_keepAct 2 = .ok (.iload_n 1, 1) := by decide +kernel
theorem dX7_keepAct_3 : decode cX7_keepAct 3 = .ok (.bipush 45, 2) := by decide +kernel
theorem dX7_keepAct_5 : decode cX7_keepAct 5 = .ok (.if_icmp .ge 29, 3) := by decide +kernel
theorem dX7_keepAct_8 : decode cX7_keepAct 8 = .ok (.aload_n 0, 1) := by decide +kernel
theorem dX7_keepAct_9 : decode cX7_keepAct 9 = .ok (.getfield 25, 3) := by decide +kernel
theorem dX7_keepAct_12 : decode cX7_keepAct 12 = .ok (.bipush 45, 2) := by decide +kernel
theorem dX7_keepAct_14 : decode cX7_keepAct 14 = .ok (.aload_n 0, 1) := by decide +kernel
theorem dX7_keepAct_15 : decode cX7_keepAct 15 = .ok (.getfield 126, 3) := by decide +kernel
theorem dX7_keepAct_18 : decode cX7_keepAct 18 = .ok (.imul, 1) := by decide +kernel
theorem dX7_keepAct_19 : decode cX7_keepAct 19 = .ok (.iload_n 1, 1) := by decide +kernel
theorem dX7_keepAct_20 : decode cX7_keepAct 20 = .ok (.iadd, 1) := by decide +kernel
theorem dX7_keepAct_21 : decode cX7_keepAct 21 = .ok (.aload_n 0, 1) := by decide +kernel
theorem dX7_keepAct_22 : decode cX7_keepAct 22 = .ok (.getfield 13, 3) := by decide +kernel
theorem dX7_keepAct_25 : decode cX7_keepAct 25 = .ok (.iload_n 1, 1) := by decide +kernel
theorem dX7_keepAct_26 : decode cX7_keepAct 26 = .ok (.iaload, 1) := by decide +kernel
theorem dX7_keepAct_27 : decode cX7_keepAct 27 = .ok (.iastore, 1) := by decide +kernel
theorem dX7_keepAct_28 : decode cX7_keepAct 28 = .ok (.iinc 1 1, 3) := by decide +kernel
theorem dX7_keepAct_31 : decode cX7_keepAct 31 = .ok (.goto (-29), 3) := by decide +kernel
theorem dX7_keepAct_34 : decode cX7_keepAct 34 = .ok (.aload_n 0, 1) := by decide +kernel
theorem dX7_keepAct_35 : decode cX7_keepAct 35 = .ok (.aload_n 0, 1) := by decide +kernel
theorem dX7_keepAct_36 : decode cX7_keepAct 36 = .ok (.getfield 126, 3) := by decide +kernel
theorem dX7_keepAct_39 : decode cX7_keepAct 39 = .ok (.iconst 1, 1) := by decide +kernel
theorem dX7_keepAct_40 : decode cX7_keepAct 40 = .ok (.iadd, 1) := by decide +kernel
theorem dX7_keepAct_41 : decode cX7_keepAct 41 = .ok (.bipush 14, 2) := by decide +kernel
theorem dX7_keepAct_43 : decode cX7_keepAct 43 = .ok (.irem, 1) := by decide +kernel
theorem dX7_keepAct_44 : decode cX7_keepAct 44 = .ok (.putfield 126, 3) := by decide +kernel
theorem dX7_keepAct_47 : decode cX7_keepAct 47 = .ok (.aload_n 0, 1) := by decide +kernel
theorem dX7_keepAct_48 : decode cX7_keepAct 48 = .ok (.aload_n 0, 1) := by decide +kernel
theorem dX7_keepAct_49 : decode cX7_keepAct 49 = .ok (.getfield 97, 3) := by decide +kernel
theorem dX7_keepAct_52 : decode cX7_keepAct 52 = .ok (.bipush 14, 2) := by decide +kernel
theorem dX7_keepAct_54 : decode cX7_keepAct 54 = .ok (.if_icmp .ge 12, 3) := by decide +kernel
theorem dX7_keepAct_57 : decode cX7_keepAct 57 = .ok (.aload_n 0, 1) := by decide +kernel
theorem dX7_keepAct_58 : decode cX7_keepAct 58 = .ok (.getfield 97, 3) := by decide +kernel
theorem dX7_keepAct_61 : decode cX7_keepAct 61 = .ok (.iconst 1, 1) := by decide +kernel
theorem dX7_keepAct_62 : decode cX7_keepAct 62 = .ok (.iadd, 1) := by decide +kernel
theorem dX7_keepAct_63 : decode cX7_keepAct 63 = .ok (.goto 5, 3) := by decide +kernel
theorem dX7_keepAct_66 : decode cX7_keepAct 66 = .ok (.bipush 14, 2) := by decide +kernel
theorem dX7_keepAct_68 : decode cX7_keepAct 68 = .ok (.putfield 97, 3) := by decide +kernel
theorem dX7_keepAct_71 : decode cX7_keepAct 71 = .ok (.return_, 1) := by decide +kernel
theorem dX7_drive_0 : decode cX7_drive 0 = .ok (.aload_n 0, 1) := by decide +kernel
theorem dX7_drive_1 : decode cX7_drive 1 = .ok (.iload_n 1, 1) := by decide +kernel
theorem dX7_drive_2 : decode cX7_drive 2 = .ok (.invokevirtual 100, 3) := by decide +kernel
theorem dX7_drive_5 : decode cX7_drive 5 = .ok (.ifCond .eq 11, 3) := by decide +kernel
theorem dX7_drive_8 : decode cX7_drive 8 = .ok (.aload_n 0, 1) := by decide +kernel
theorem dX7_drive_9 : decode cX7_drive 9 = .ok (.iload_n 2, 1) := by decide +kernel
theorem dX7_drive_10 : decode cX7_drive 10 = .ok (.invokevirtual 108, 3) := by decide +kernel
theorem dX7_drive_13 : decode cX7_drive 13 = .ok (.ifCond .ne 5, 3) := by decide +kernel
theorem dX7_drive_16 : decode cX7_drive 16 = .ok (.iconst (-1), 1) := by decide +kernel
theorem dX7_drive_17 : decode cX7_drive 17 = .ok (.ireturn, 1) := by decide +kernel
theorem dX7_drive_18 : decode cX7_drive 18 = .ok (.aload_n 0, 1) := by decide +kernel
theorem dX7_drive_19 : decode cX7_drive 19 = .ok (.iconst 0, 1) := by decide +kernel
theorem dX7_drive_20 : decode cX7_drive 20 = .ok (.iload_n 1, 1) := by decide +kernel
theorem dX7_drive_21 : decode cX7_drive 21 = .ok (.iload_n 2, 1) := by decide +kernel
theorem dX7_drive_22 : decode cX7_drive 22 = .ok (.invokevirtual 129, 3) := by decide +kernel
theorem dX7_drive_25 : decode cX7_drive 25 = .ok (.istore_n 3, 1) := by decide +kernel
theorem dX7_drive_26 : decode cX7_drive 26 = .ok (.iload_n 3, 1) := by decide +kernel
theorem dX7_drive_27 : decode cX7_drive 27 = .ok (.ifCond .eq 12, 3) := by decide +kernel
theorem dX7_drive_30 : decode cX7_drive 30 = .ok (.iload_n 3, 1) := by decide +kernel
theorem dX7_drive_31 : decode cX7_drive 31 = .ok (.bipush 6, 2) := by decide +kernel
theorem dX7_drive_33 : decode cX7_drive 33 = .ok (.if_icmp .eq 6, 3) := by decide +kernel
theorem dX7_drive_36 : decode cX7_drive 36 = .ok (.bipush (-3), 2) := by decide +kernel
theorem dX7_drive_38 : decode cX7_drive 38 = .ok (.ireturn, 1) := by decide +kernel
theorem dX7_drive_39 : decode cX7_drive 39 = .ok (.aload_n 0, 1) := by decide +kernel
theorem dX7_drive_40 : decode cX7_drive 40 = .ok (.invokevirtual 132, 3) := by decide +kernel
theorem dX7_drive_43 : decode cX7_drive 43 = .ok (.iload_n 3, 1) := by decide +kernel
theorem dX7_drive_44 : decode cX7_drive 44 = .ok (.ifCond .ne 13, 3) := by decide +kernel
theorem dX7_drive_47 : decode cX7_drive 47 = .ok (.aload_n 0, 1) := by decide +kernel
theorem dX7_drive_48 : decode cX7_drive 48 = .ok (.iconst 0, 1) := by decide +kernel
theorem dX7_drive_49 : decode cX7_drive 49 = .ok (.iload_n 2, 1) := by decide +kernel
theorem dX7_drive_50 : decode cX7_drive 50 = .ok (.iload_n 1, 1) := by decide +kernel
theorem dX7_drive_51 : decode cX7_drive 51 = .ok (.invokevirtual 114, 3) := by decide +kernel
theorem dX7_drive_54 : decode cX7_drive 54 = .ok (.goto 27, 3) := by decide +kernel
theorem dX7_drive_57 : decode cX7_drive 57 = .ok (.aload_n 0, 1) := by decide +kernel
theorem dX7_drive_58 : decode cX7_drive 58 = .ok (.iconst 0, 1) := by decide +kernel
theorem dX7_drive_59 : decode cX7_drive 59 = .ok (.iload_n 1, 1) := by decide +kernel
theorem dX7_drive_60 : decode cX7_drive 60 = .ok (.aload_n 0, 1) := by decide +kernel
theorem dX7_drive_61 : decode cX7_drive 61 = .ok (.getfield 13, 3) := by decide +kernel
theorem dX7_drive_64 : decode cX7_drive 64 = .ok (.bipush 8, 2) := by decide +kernel
theorem dX7_drive_66 : decode cX7_drive 66 = .ok (.iload_n 2, 1) := by decide +kernel
theorem dX7_drive_67 : decode cX7_drive 67 = .ok (.iadd, 1) := by decide +kernel
theorem dX7_drive_68 : decode cX7_drive 68 = .ok (.iaload, 1) := by decide +kernel
theorem dX7_drive_69 : decode cX7_drive 69 = .ok (.aload_n 0, 1) := by decide +kernel
theorem dX7_drive_70 : decode cX7_drive 70 = .ok (.getfield 13, 3) := by decide +kernel
theorem dX7_drive_73 : decode cX7_drive 73 = .ok (.bipush 13, 2) := by decide +kernel
theorem dX7_drive_75 : decode cX7_drive 75 = .ok (.iload_n 2, 1) := by decide +kernel
theorem dX7_drive_76 : decode cX7_drive 76 = .ok (.iadd, 1) := by decide +kernel
theorem dX7_drive_77 : decode cX7_drive 77 = .ok (.iaload, 1) := by decide +kernel
theorem dX7_drive_78 : decode cX7_drive 78 = .ok (.invokevirtual 122, 3) := by decide +kernel
theorem dX7_drive_81 : decode cX7_drive 81 = .ok (.iload_n 3, 1) := by decide +kernel
theorem dX7_drive_82 : decode cX7_drive 82 = .ok (.ireturn, 1) := by decide +kernel
theorem dX7_shutNow_0 : decode cX7_shutNow 0 = .ok (.iconst 0, 1) := by decide +kernel
theorem dX7_shutNow_1 : decode cX7_shutNow 1 = .ok (.istore_n 1, 1) := by decide +kernel
theorem dX7_shutNow_2 : decode cX7_shutNow 2 = .ok (.iconst 0, 1) := by decide +kernel
theorem dX7_shutNow_3 : decode cX7_shutNow 3 = .ok (.istore_n 2, 1) := by decide +kernel
theorem dX7_shutNow_4 : decode cX7_shutNow 4 = .ok (.iload_n 2, 1) := by decide +kernel
theorem dX7_shutNow_5 : decode cX7_shutNow 5 = .ok (.aload_n 0, 1) := by decide +kernel
theorem dX7_shutNow_6 : decode cX7_shutNow 6 = .ok (.getfield 94, 3) := by decide +kernel
theorem dX7_shutNow_9 : decode cX7_shutNow 9 = .ok (.if_icmp .ge 28, 3) := by decide +kernel
theorem dX7_shutNow_12 : decode cX7_shutNow 12 = .ok (.iload_n 1, 1) := by decide +kernel
theorem dX7_shutNow_13 : decode cX7_shutNow 13 = .ok (.aload_n 0, 1) := by decide +kernel
theorem dX7_shutNow_14 : decode cX7_shutNow 14 = .ok (.iconst 0, 1) := by decide +kernel
theorem dX7_shutNow_15 : decode cX7_shutNow 15 = .ok (.iload_n 2, 1) := by decide +kernel
theorem dX7_shutNow_16 : decode cX7_shutNow 16 = .ok (.invokevirtual 111, 3) := by decide +kernel
theorem dX7_shutNow_19 : decode cX7_shutNow 19 = .ok (.ifCond .eq 9, 3) := by decide +kernel
theorem dX7_shutNow_22 : decode cX7_shutNow 22 = .ok (.iconst 1, 1) := by decide +kernel
theorem dX7_shutNow_23 : decode cX7_shutNow 23 = .ok (.iload_n 2, 1) := by decide +kernel
theorem dX7_shutNow_24 : decode cX7_shutNow 24 = .ok (.ishl, 1) := by decide +kernel
theorem dX7_shutNow_25 : decode cX7_shutNow 25 = .ok (.goto 4, 3) := by decide +kernel
theorem dX7_shutNow_28 : decode cX7_shutNow 28 = .ok (.iconst 0, 1) := by decide +kernel
theorem dX7_shutNow_29 : decode cX7_shutNow 29 = .ok (.ior, 1) := by decide +kernel
theorem dX7_shutNow_30 : decode cX7_shutNow 30 = .ok (.istore_n 1, 1) := by decide +kernel
theorem dX7_shutNow_31 : decode cX7_shutNow 31 = .ok (.iinc 2 1, 3) := by decide +kernel
theorem dX7_shutNow_34 : decode cX7_shutNow 34 = .ok (.goto (-30), 3) := by decide +kernel
theorem dX7_shutNow_37 : decode cX7_shutNow 37 = .ok (.iload_n 1, 1) := by decide +kernel
theorem dX7_shutNow_38 : decode cX7_shutNow 38 = .ok (.ireturn, 1) := by decide +kernel
theorem dX7_day_0 : decode cX7_day 0 = .ok (.aload_n 0, 1) := by decide +kernel
theorem dX7_day_1 : decode cX7_day 1 = .ok (.invokevirtual 132, 3) := by decide +kernel
theorem dX7_day_4 : decode cX7_day 4 = .ok (.aload_n 0, 1) := by decide +kernel
theorem dX7_day_5 : decode cX7_day 5 = .ok (.iconst 0, 1) := by decide +kernel
theorem dX7_day_6 : decode cX7_day 6 = .ok (.invokevirtual 135, 3) := by decide +kernel
theorem dX7_day_9 : decode cX7_day 9 = .ok (.aload_n 0, 1) := by decide +kernel
theorem dX7_day_10 : decode cX7_day 10 = .ok (.invokevirtual 138, 3) := by decide +kernel
theorem dX7_day_13 : decode cX7_day 13 = .ok (.invokestatic 141, 3) := by decide +kernel
theorem dX7_day_16 : decode cX7_day 16 = .ok (.ireturn, 1) := by decide +kernel
theorem dX7_pay_0 : decode cX7_pay 0 = .ok (.aload_n 0, 1) := by decide +kernel
theorem dX7_pay_1 : decode cX7_pay 1 = .ok (.iload_n 1, 1) := by decide +kernel
theorem dX7_pay_2 : decode cX7_pay 2 = .ok (.invokevirtual 100, 3) := by decide +kernel
theorem dX7_pay_5 : decode cX7_pay 5 = .ok (.ifCond .eq 11, 3) := by decide +kernel
theorem dX7_pay_8 : decode cX7_pay 8 = .ok (.aload_n 0, 1) := by decide +kernel
theorem dX7_pay_9 : decode cX7_pay 9 = .ok (.iload_n 2, 1) := by decide +kernel
theorem dX7_pay_10 : decode cX7_pay 10 = .ok (.invokevirtual 100, 3) := by decide +kernel
theorem dX7_pay_13 : decode cX7_pay 13 = .ok (.ifCond .ne 5, 3) := by decide +kernel
theorem dX7_pay_16 : decode cX7_pay 16 = .ok (.iconst (-1), 1) := by decide +kernel
theorem dX7_pay_17 : decode cX7_pay 17 = .ok (.ireturn, 1) := by decide +kernel
theorem dX7_pay_18 : decode cX7_pay 18 = .ok (.iload_n 1, 1) := by decide +kernel
theorem dX7_pay_19 : decode cX7_pay 19 = .ok (.iload_n 2, 1) := by decide +kernel
theorem dX7_pay_20 : decode cX7_pay 20 = .ok (.if_icmp .eq 15, 3) := by decide +kernel
theorem dX7_pay_23 : decode cX7_pay 23 = .ok (.iload_n 3, 1) := by decide +kernel
theorem dX7_pay_24 : decode cX7_pay 24 = .ok (.i2l, 1) := by decide +kernel
theorem dX7_pay_25 : decode cX7_pay 25 = .ok (.lconst 1, 1) := by decide +kernel
theorem dX7_pay_26 : decode cX7_pay 26 = .ok (.ldc2_w 60, 3) := by decide +kernel
theorem dX7_pay_29 : decode cX7_pay 29 = .ok (.invokestatic 47, 3) := by decide +kernel
theorem dX7_pay_32 : decode cX7_pay 32 = .ok (.ifCond .ne 6, 3) := by decide +kernel
theorem dX7_pay_35 : decode cX7_pay 35 = .ok (.bipush (-2), 2) := by decide +kernel
theorem dX7_pay_37 : decode cX7_pay 37 = .ok (.ireturn, 1) := by decide +kernel
theorem dX7_pay_38 : decode cX7_pay 38 = .ok (.aload_n 0, 1) := by decide +kernel
theorem dX7_pay_39 : decode cX7_pay 39 = .ok (.getfield 13, 3) := by decide +kernel
theorem dX7_pay_42 : decode cX7_pay 42 = .ok (.iconst 0, 1) := by decide +kernel
theorem dX7_pay_43 : decode cX7_pay 43 = .ok (.iload_n 1, 1) := by decide +kernel
theorem dX7_pay_44 : decode cX7_pay 44 = .ok (.iload_n 2, 1) := by decide +kernel
theorem dX7_pay_45 : decode cX7_pay 45 = .ok (.invokestatic 104, 3) := by decide +kernel
theorem dX7_pay_48 : decode cX7_pay 48 = .ok (.iaload, 1) := by decide +kernel
theorem dX7_pay_49 : decode cX7_pay 49 = .ok (.iload_n 3, 1) := by decide +kernel
theorem dX7_pay_50 : decode cX7_pay 50 = .ok (.if_icmp .lt 15, 3) := by decide +kernel
theorem dX7_pay_53 : decode cX7_pay 53 = .ok (.aload_n 0, 1) := by decide +kernel
theorem dX7_pay_54 : decode cX7_pay 54 = .ok (.getfield 13, 3) := by decide +kernel
theorem dX7_pay_57 : decode cX7_pay 57 = .ok (.iconst 4, 1) := by decide +kernel
theorem dX7_pay_58 : decode cX7_pay 58 = .ok (.iload_n 1, 1) := by decide +kernel
theorem dX7_pay_59 : decode cX7_pay 59 = .ok (.iadd, 1) := by decide +kernel
theorem dX7_pay_60 : decode cX7_pay 60 = .ok (.iaload, 1) := by decide +kernel
theorem dX7_pay_61 : decode cX7_pay 61 = .ok (.iload_n 3, 1) := by decide +kernel
theorem dX7_pay_62 : decode cX7_pay 62 = .ok (.if_icmp .ge 6, 3) := by decide +kernel
theorem dX7_pay_65 : decode cX7_pay 65 = .ok (.bipush (-3), 2) := by decide +kernel
theorem dX7_pay_67 : decode cX7_pay 67 = .ok (.ireturn, 1) := by decide +kernel
theorem dX7_pay_68 : decode cX7_pay 68 = .ok (.aload_n 0, 1) := by decide +kernel
theorem dX7_pay_69 : decode cX7_pay 69 = .ok (.invokevirtual 132, 3) := by decide +kernel
theorem dX7_pay_72 : decode cX7_pay 72 = .ok (.aload_n 0, 1) := by decide +kernel
theorem dX7_pay_73 : decode cX7_pay 73 = .ok (.getfield 13, 3) := by decide +kernel
theorem dX7_pay_76 : decode cX7_pay 76 = .ok (.iconst 4, 1) := by decide +kernel
theorem dX7_pay_77 : decode cX7_pay 77 = .ok (.iload_n 1, 1) := by decide +kernel
theorem dX7_pay_78 : decode cX7_pay 78 = .ok (.iadd, 1) := by decide +kernel
theorem dX7_pay_79 : decode cX7_pay 79 = .ok (.dup2, 1) := by decide +kernel
theorem dX7_pay_80 : decode cX7_pay 80 = .ok (.iaload, 1) := by decide +kernel
theorem dX7_pay_81 : decode cX7_pay 81 = .ok (.iload_n 3, 1) := by decide +kernel
theorem dX7_pay_82 : decode cX7_pay 82 = .ok (.isub, 1) := by decide +kernel
theorem dX7_pay_83 : decode cX7_pay 83 = .ok (.iastore, 1) := by decide +kernel
theorem dX7_pay_84 : decode cX7_pay 84 = .ok (.aload_n 0, 1) := by decide +kernel
theorem dX7_pay_85 : decode cX7_pay 85 = .ok (.getfield 13, 3) := by decide +kernel
theorem dX7_pay_88 : decode cX7_pay 88 = .ok (.iconst 4, 1) := by decide +kernel
theorem dX7_pay_89 : decode cX7_pay 89 = .ok (.iload_n 2, 1) := by decide +kernel
theorem dX7_pay_90 : decode cX7_pay 90 = .ok (.iadd, 1) := by decide +kernel
theorem dX7_pay_91 : decode cX7_pay 91 = .ok (.dup2, 1) := by decide +kernel
theorem dX7_pay_92 : decode cX7_pay 92 = .ok (.iaload, 1) := by decide +kernel
theorem dX7_pay_93 : decode cX7_pay 93 = .ok (.iload_n 3, 1) := by decide +kernel
theorem dX7_pay_94 : decode cX7_pay 94 = .ok (.iadd, 1) := by decide +kernel
theorem dX7_pay_95 : decode cX7_pay 95 = .ok (.iastore, 1) := by decide +kernel
theorem dX7_pay_96 : decode cX7_pay 96 = .ok (.aload_n 0, 1) := by decide +kernel
theorem dX7_pay_97 : decode cX7_pay 97 = .ok (.getfield 13, 3) := by decide +kernel
theorem dX7_pay_100 : decode cX7_pay 100 = .ok (.iconst 0, 1) := by decide +kernel
theorem dX7_pay_101 : decode cX7_pay 101 = .ok (.iload_n 1, 1) := by decide +kernel
theorem dX7_pay_102 : decode cX7_pay 102 = .ok (.iload_n 2, 1) := by decide +kernel
theorem dX7_pay_103 : decode cX7_pay 103 = .ok (.invokestatic 104, 3) := by decide +kernel
theorem dX7_pay_106 : decode cX7_pay 106 = .ok (.dup2, 1) := by decide +kernel
theorem dX7_pay_107 : decode cX7_pay 107 = .ok (.iaload, 1) := by decide +kernel
theorem dX7_pay_108 : decode cX7_pay 108 = .ok (.iload_n 3, 1) := by decide +kernel
theorem dX7_pay_109 : decode cX7_pay 109 = .ok (.isub, 1) := by decide +kernel
theorem dX7_pay_110 : decode cX7_pay 110 = .ok (.iastore, 1) := by decide +kernel
theorem dX7_pay_111 : decode cX7_pay 111 = .ok (.iconst 0, 1) := by decide +kernel
theorem dX7_pay_112 : decode cX7_pay 112 = .ok (.istore 4, 2) := by decide +kernel
theorem dX7_pay_114 : decode cX7_pay 114 = .ok (.iload 4, 2) := by decide +kernel
theorem dX7_pay_116 : decode cX7_pay 116 = .ok (.aload_n 0, 1) := by decide +kernel
theorem dX7_pay_117 : decode cX7_pay 117 = .ok (.getfield 94, 3) := by decide +kernel
theorem dX7_pay_120 : decode cX7_pay 120 = .ok (.if_icmp .ge 60, 3) := by decide +kernel
theorem dX7_pay_123 : decode cX7_pay 123 = .ok (.aload_n 0, 1) := by decide +kernel
theorem dX7_pay_124 : decode cX7_pay 124 = .ok (.getfield 13, 3) := by decide +kernel
theorem dX7_pay_127 : decode cX7_pay 127 = .ok (.iconst 0, 1) := by decide +kernel
theorem dX7_pay_128 : decode cX7_pay 128 = .ok (.iload_n 1, 1) := by decide +kernel
theorem dX7_pay_129 : decode cX7_pay 129 = .ok (.iload_n 2, 1) := by decide +kernel
theorem dX7_pay_130 : decode cX7_pay 130 = .ok (.invokestatic 104, 3) := by decide +kernel
theorem dX7_pay_133 : decode cX7_pay 133 = .ok (.iaload, 1) := by decide +kernel
theorem dX7_pay_134 : decode cX7_pay 134 = .ok (.ifCond .ne 40, 3) := by decide +kernel
theorem dX7_pay_137 : decode cX7_pay 137 = .ok (.aload_n 0, 1) := by decide +kernel
theorem dX7_pay_138 : decode cX7_pay 138 = .ok (.getfield 13, 3) := by decide +kernel
theorem dX7_pay_141 : decode cX7_pay 141 = .ok (.bipush 8, 2) := by decide +kernel
theorem dX7_pay_143 : decode cX7_pay 143 = .ok (.iload 4, 2) := by decide +kernel
theorem dX7_pay_145 : decode cX7_pay 145 = .ok (.iadd, 1) := by decide +kernel
theorem dX7_pay_146 : decode cX7_pay 146 = .ok (.iaload, 1) := by decide +kernel
theorem dX7_pay_147 : decode cX7_pay 147 = .ok (.iload_n 1, 1) := by decide +kernel
theorem dX7_pay_148 : decode cX7_pay 148 = .ok (.if_icmp .ne 26, 3) := by decide +kernel
theorem dX7_pay_151 : decode cX7_pay 151 = .ok (.aload_n 0, 1) := by decide +kernel
theorem dX7_pay_152 : decode cX7_pay 152 = .ok (.getfield 13, 3) := by decide +kernel
theorem dX7_pay_155 : decode cX7_pay 155 = .ok (.bipush 18, 2) := by decide +kernel
theorem dX7_pay_157 : decode cX7_pay 157 = .ok (.iload 4, 2) := by decide +kernel
theorem dX7_pay_159 : decode cX7_pay 159 = .ok (.iadd, 1) := by decide +kernel
theorem dX7_pay_160 : decode cX7_pay 160 = .ok (.iaload, 1) := by decide +kernel
theorem dX7_pay_161 : decode cX7_pay 161 = .ok (.iload_n 2, 1) := by decide +kernel
theorem dX7_pay_162 : decode cX7_pay 162 = .ok (.if_icmp .ne 12, 3) := by decide +kernel
theorem dX7_pay_165 : decode cX7_pay 165 = .ok (.aload_n 0, 1) := by decide +kernel
theorem dX7_pay_166 : decode cX7_pay 166 = .ok (.iconst 0, 1) := by decide +kernel
theorem dX7_pay_167 : decode cX7_pay 167 = .ok (.iload 4, 2) := by decide +kernel
theorem dX7_pay_169 : decode cX7_pay 169 = .ok (.bipush (-9), 2) := by decide +kernel
theorem dX7_pay_171 : decode cX7_pay 171 = .ok (.invokevirtual 114, 3) := by decide +kernel
theorem dX7_pay_174 : decode cX7_pay 174 = .ok (.iinc 4 1, 3) := by decide +kernel
theorem dX7_pay_177 : decode cX7_pay 177 = .ok (.goto (-63), 3) := by decide +kernel
theorem dX7_pay_180 : decode cX7_pay 180 = .ok (.aload_n 0, 1) := by decide +kernel
theorem dX7_pay_181 : decode cX7_pay 181 = .ok (.getfield 13, 3) := by decide +kernel
theorem dX7_pay_184 : decode cX7_pay 184 = .ok (.iconst 0, 1) := by decide +kernel
theorem dX7_pay_185 : decode cX7_pay 185 = .ok (.iload_n 1, 1) := by decide +kernel
theorem dX7_pay_186 : decode cX7_pay 186 = .ok (.iload_n 2, 1) := by decide +kernel
theorem dX7_pay_187 : decode cX7_pay 187 = .ok (.invokestatic 104, 3) := by decide +kernel
theorem dX7_pay_190 : decode cX7_pay 190 = .ok (.iaload, 1) := by decide +kernel
theorem dX7_pay_191 : decode cX7_pay 191 = .ok (.ireturn, 1) := by decide +kernel
theorem dX7_breakOut_0 : decode cX7_breakOut 0 = .ok (.aload_n 0, 1) := by decide +kernel
theorem dX7_breakOut_1 : decode cX7_breakOut 1 = .ok (.iload_n 1, 1) := by decide +kernel
theorem dX7_breakOut_2 : decode cX7_breakOut 2 = .ok (.invokevirtual 108, 3) := by decide +kernel
theorem dX7_breakOut_5 : decode cX7_breakOut 5 = .ok (.ifCond .ne 5, 3) := by decide +kernel
theorem dX7_breakOut_8 : decode cX7_breakOut 8 = .ok (.iconst (-1), 1) := by decide +kernel
theorem dX7_breakOut_9 : decode cX7_breakOut 9 = .ok (.ireturn, 1) := by decide +kernel
theorem dX7_breakOut_10 : decode cX7_breakOut 10 = .ok (.aload_n 0, 1) := by decide +kernel
theorem dX7_breakOut_11 : decode cX7_breakOut 11 = .ok (.iconst 0, 1) := by decide +kernel
theorem dX7_breakOut_12 : decode cX7_breakOut 12 = .ok (.iload_n 1, 1) := by decide +kernel
theorem dX7_breakOut_13 : decode cX7_breakOut 13 = .ok (.invokevirtual 111, 3) := by decide +kernel
theorem dX7_breakOut_16 : decode cX7_breakOut 16 = .ok (.ifCond .ne 6, 3) := by decide +kernel
theorem dX7_breakOut_19 : decode cX7_breakOut 19 = .ok (.bipush (-3), 2) := by decide +kernel
theorem dX7_breakOut_21 : decode cX7_breakOut 21 = .ok (.ireturn, 1) := by decide +kernel
theorem dX7_breakOut_22 : decode cX7_breakOut 22 = .ok (.aload_n 0, 1) := by decide +kernel
theorem dX7_breakOut_23 : decode cX7_breakOut 23 = .ok (.invokevirtual 132, 3) := by decide +kernel
theorem dX7_breakOut_26 : decode cX7_breakOut 26 = .ok (.aload_n 0, 1) := by decide +kernel
theorem dX7_breakOut_27 : decode cX7_breakOut 27 = .ok (.getfield 13, 3) := by decide +kernel
theorem dX7_breakOut_30 : decode cX7_breakOut 30 = .ok (.bipush 18, 2) := by decide +kernel
theorem dX7_breakOut_32 : decode cX7_breakOut 32 = .ok (.iload_n 1, 1) := by decide +kernel
theorem dX7_breakOut_33 : decode cX7_breakOut 33 = .ok (.iadd, 1) := by decide +kernel
theorem dX7_breakOut_34 : decode cX7_breakOut 34 = .ok (.iaload, 1) := by decide +kernel
theorem dX7_breakOut_35 : decode cX7_breakOut 35 = .ok (.istore_n 2, 1) := by decide +kernel
theorem dX7_breakOut_36 : decode cX7_breakOut 36 = .ok (.aload_n 0, 1) := by decide +kernel
theorem dX7_breakOut_37 : decode cX7_breakOut 37 = .ok (.iconst 0, 1) := by decide +kernel
theorem dX7_breakOut_38 : decode cX7_breakOut 38 = .ok (.iload_n 1, 1) := by decide +kernel
theorem dX7_breakOut_39 : decode cX7_breakOut 39 = .ok (.invokevirtual 144, 3) := by decide +kernel
theorem dX7_breakOut_42 : decode cX7_breakOut 42 = .ok (.iload_n 2, 1) := by decide +kernel
theorem dX7_breakOut_43 : decode cX7_breakOut 43 = .ok (.ireturn, 1) := by decide +kernel
theorem dX7_forfeit_0 : decode cX7_forfeit 0 = .ok (.aload_n 0, 1) := by decide +kernel
theorem dX7_forfeit_1 : decode cX7_forfeit 1 = .ok (.iload_n 1, 1) := by decide +kernel
theorem dX7_forfeit_2 : decode cX7_forfeit 2 = .ok (.invokevirtual 108, 3) := by decide +kernel
theorem dX7_forfeit_5 : decode cX7_forfeit 5 = .ok (.ifCond .ne 5, 3) := by decide +kernel
theorem dX7_forfeit_8 : decode cX7_forfeit 8 = .ok (.iconst (-1), 1) := by decide +kernel
theorem dX7_forfeit_9 : decode cX7_forfeit 9 = .ok (.ireturn, 1) := by decide +kernel
theorem dX7_forfeit_10 : decode cX7_forfeit 10 = .ok (.aload_n 0, 1) := by decide +kernel
theorem dX7_forfeit_11 : decode cX7_forfeit 11 = .ok (.iconst 0, 1) := by decide +kernel
theorem dX7_forfeit_12 : decode cX7_forfeit 12 = .ok (.iload_n 1, 1) := by decide +kernel
theorem dX7_forfeit_13 : decode cX7_forfeit 13 = .ok (.invokevirtual 147, 3) := by decide +kernel
theorem dX7_forfeit_16 : decode cX7_forfeit 16 = .ok (.ifCond .ne 6, 3) := by decide +kernel
theorem dX7_forfeit_19 : decode cX7_forfeit 19 = .ok (.bipush (-3), 2) := by decide +kernel
theorem dX7_forfeit_21 : decode cX7_forfeit 21 = .ok (.ireturn, 1) := by decide +kernel
theorem dX7_forfeit_22 : decode cX7_forfeit 22 = .ok (.aload_n 0, 1) := by decide +kernel
theorem dX7_forfeit_23 : decode cX7_forfeit 23 = .ok (.invokevirtual 132, 3) := by decide +kernel
theorem dX7_forfeit_26 : decode cX7_forfeit 26 = .ok (.aload_n 0, 1) := by decide +kernel
theorem dX7_forfeit_27 : decode cX7_forfeit 27 = .ok (.getfield 13, 3) := by decide +kernel
theorem dX7_forfeit_30 : decode cX7_forfeit 30 = .ok (.bipush 8, 2) := by decide +kernel
theorem dX7_forfeit_32 : decode cX7_forfeit 32 = .ok (.iload_n 1, 1) := by decide +kernel
theorem dX7_forfeit_33 : decode cX7_forfeit 33 = .ok (.iadd, 1) := by decide +kernel
theorem dX7_forfeit_34 : decode cX7_forfeit 34 = .ok (.iaload, 1) := by decide +kernel
theorem dX7_forfeit_35 : decode cX7_forfeit 35 = .ok (.istore_n 2, 1) := by decide +kernel
theorem dX7_forfeit_36 : decode cX7_forfeit 36 = .ok (.aload_n 0, 1) := by decide +kernel
theorem dX7_forfeit_37 : decode cX7_forfeit 37 = .ok (.iconst 0, 1) := by decide +kernel
theorem dX7_forfeit_38 : decode cX7_forfeit 38 = .ok (.iload_n 1, 1) := by decide +kernel
theorem dX7_forfeit_39 : decode cX7_forfeit 39 = .ok (.invokevirtual 150, 3) := by decide +kernel
theorem dX7_forfeit_42 : decode cX7_forfeit 42 = .ok (.iload_n 2, 1) := by decide +kernel
theorem dX7_forfeit_43 : decode cX7_forfeit 43 = .ok (.ireturn, 1) := by decide +kernel
theorem dX7_undo_0 : decode cX7_undo 0 = .ok (.aload_n 0, 1) := by decide +kernel
theorem dX7_undo_1 : decode cX7_undo 1 = .ok (.getfield 97, 3) := by decide +kernel
theorem dX7_undo_4 : decode cX7_undo 4 = .ok (.ifCond .ne 6, 3) := by decide +kernel
theorem dX7_undo_7 : decode cX7_undo 7 = .ok (.bipush (-3), 2) := by decide +kernel
theorem dX7_undo_9 : decode cX7_undo 9 = .ok (.ireturn, 1) := by decide +kernel
theorem dX7_undo_10 : decode cX7_undo 10 = .ok (.aload_n 0, 1) := by decide +kernel
theorem dX7_undo_11 : decode cX7_undo 11 = .ok (.dup, 1) := by decide +kernel
theorem dX7_undo_12 : decode cX7_undo 12 = .ok (.getfield 97, 3) := by decide +kernel
theorem dX7_undo_15 : decode cX7_undo 15 = .ok (.iconst 1, 1) := by decide +kernel
theorem dX7_undo_16 : decode cX7_undo 16 = .ok (.isub, 1) := by decide +kernel
theorem dX7_undo_17 : decode cX7_undo 17 = .ok (.putfield 97, 3) := by decide +kernel
theorem dX7_undo_20 : decode cX7_undo 20 = .ok (.aload_n 0, 1) := by decide +kernel
theorem dX7_undo_21 : decode cX7_undo 21 = .ok (.aload_n 0, 1) := by decide +kernel
theorem dX7_undo_22 : decode cX7_undo 22 = .ok (.getfield 126, 3) := by decide +kernel
theorem dX7_undo_25 : decode cX7_undo 25 = .ok (.bipush 13, 2) := by decide +kernel
theorem dX7_undo_27 : decode cX7_undo 27 = .ok (.iadd, 1) := by decide +kernel
theorem dX7_undo_28 : decode cX7_undo 28 = .ok (.bipush 14, 2) := by decide +kernel
theorem dX7_undo_30 : decode cX7_undo 30 = .ok (.irem, 1) := by decide +kernel
theorem dX7_undo_31 : decode cX7_undo 31 = .ok (.putfield 126, 3) := by decide +kernel
theorem dX7_undo_34 : decode cX7_undo 34 = .ok (.iconst 0, 1) := by decide +kernel
theorem dX7_undo_35 : decode cX7_undo 35 = .ok (.istore_n 1, 1) := by decide +kernel
theorem dX7_undo_36 : decode cX7_undo 36 = .ok (.iload_n 1, 1) := by decide +kernel
theorem dX7_undo_37 : decode cX7_undo 37 = .ok (.bipush 45, 2) := by decide +kernel
theorem dX7_undo_39 : decode cX7_undo 39 = .ok (.if_icmp .ge 29, 3) := by decide +kernel
theorem dX7_undo_42 : decode cX7_undo 42 = .ok (.aload_n 0, 1) := by decide +kernel
theorem dX7_undo_43 : decode cX7_undo 43 = .ok (.getfield 13, 3) := by decide +kernel
theorem dX7_undo_46 : decode cX7_undo 46 = .ok (.iload_n 1, 1) := by decide +kernel
theorem dX7_undo_47 : decode cX7_undo 47 = .ok (.aload_n 0, 1) := by decide +kernel
theorem dX7_undo_48 : decode cX7_undo 48 = .ok (.getfield 25, 3) := by decide +kernel
theorem dX7_undo_51 : decode cX7_undo 51 = .ok (.bipush 45, 2) := by decide +kernel
theorem dX7_undo_53 : decode cX7_undo 53 = .ok (.aload_n 0, 1) := by decide +kernel
theorem dX7_undo_54 : decode cX7_undo 54 = .ok (.getfield 126, 3) := by decide +kernel
theorem dX7_undo_57 : decode cX7_undo 57 = .ok (.imul, 1) := by decide +kernel
theorem dX7_undo_58 : decode cX7_undo 58 = .ok (.iload_n 1, 1) := by decide +kernel
theorem dX7_undo_59 : decode cX7_undo 59 = .ok (.iadd, 1) := by decide +kernel
theorem dX7_undo_60 : decode cX7_undo 60 = .ok (.iaload, 1) := by decide +kernel
theorem dX7_undo_61 : decode cX7_undo 61 = .ok (.iastore, 1) := by decide +kernel
theorem dX7_undo_62 : decode cX7_undo 62 = .ok (.iinc 1 1, 3) := by decide +kernel
theorem dX7_undo_65 : decode cX7_undo 65 = .ok (.goto (-29), 3) := by decide +kernel
theorem dX7_undo_68 : decode cX7_undo 68 = .ok (.aload_n 0, 1) := by decide +kernel
theorem dX7_undo_69 : decode cX7_undo 69 = .ok (.getfield 97, 3) := by decide +kernel
theorem dX7_undo_72 : decode cX7_undo 72 = .ok (.ireturn, 1) := by decide +kernel
theorem dX7_layTrial_0 : decode cX7_layTrial 0 = .ok (.iconst 0, 1) := by decide +kernel
theorem dX7_layTrial_1 : decode cX7_layTrial 1 = .ok (.istore_n 1, 1) := by decide +kernel
theorem dX7_layTrial_2 : decode cX7_layTrial 2 = .ok (.iload_n 1, 1) := by decide +kernel
theorem dX7_layTrial_3 : decode cX7_layTrial 3 = .ok (.bipush 45, 2) := by decide +kernel
theorem dX7_layTrial_5 : decode cX7_layTrial 5 = .ok (.if_icmp .ge 24, 3) := by decide +kernel
theorem dX7_layTrial_8 : decode cX7_layTrial 8 = .ok (.aload_n 0, 1) := by decide +kernel
theorem dX7_layTrial_9 : decode cX7_layTrial 9 = .ok (.getfield 13, 3) := by decide +kernel
theorem dX7_layTrial_12 : decode cX7_layTrial 12 = .ok (.bipush 45, 2) := by decide +kernel
theorem dX7_layTrial_14 : decode cX7_layTrial 14 = .ok (.iload_n 1, 1) := by decide +kernel
theorem dX7_layTrial_15 : decode cX7_layTrial 15 = .ok (.iadd, 1) := by decide +kernel
theorem dX7_layTrial_16 : decode cX7_layTrial 16 = .ok (.aload_n 0, 1) := by decide +kernel
theorem dX7_layTrial_17 : decode cX7_layTrial 17 = .ok (.getfield 13, 3) := by decide +kernel
theorem dX7_layTrial_20 : decode cX7_layTrial 20 = .ok (.iload_n 1, 1) := by decide +kernel
theorem dX7_layTrial_21 : decode cX7_layTrial 21 = .ok (.iaload, 1) := by decide +kernel
theorem dX7_layTrial_22 : decode cX7_layTrial 22 = .ok (.iastore, 1) := by decide +kernel
theorem dX7_layTrial_23 : decode cX7_layTrial 23 = .ok (.iinc 1 1, 3) := by decide +kernel
theorem dX7_layTrial_26 : decode cX7_layTrial 26 = .ok (.goto (-24), 3) := by decide +kernel
theorem dX7_layTrial_29 : decode cX7_layTrial 29 = .ok (.return_, 1) := by decide +kernel
theorem dX7_clause_0 : decode cX7_clause 0 = .ok (.aload_n 0, 1) := by decide +kernel
theorem dX7_clause_1 : decode cX7_clause 1 = .ok (.iload_n 1, 1) := by decide +kernel
theorem dX7_clause_2 : decode cX7_clause 2 = .ok (.invokevirtual 100, 3) := by decide +kernel
theorem dX7_clause_5 : decode cX7_clause 5 = .ok (.ifCond .eq 21, 3) := by decide +kernel
theorem dX7_clause_8 : decode cX7_clause 8 = .ok (.aload_n 0, 1) := by decide +kernel
theorem dX7_clause_9 : decode cX7_clause 9 = .ok (.iload_n 2, 1) := by decide +kernel
theorem dX7_clause_10 : decode cX7_clause 10 = .ok (.invokevirtual 108, 3) := by decide +kernel
theorem dX7_clause_13 : decode cX7_clause 13 = .ok (.ifCond .eq 13, 3) := by decide +kernel
theorem dX7_clause_16 : decode cX7_clause 16 = .ok (.aload_n 0, 1) := by decide +kernel
theorem dX7_clause_17 : decode cX7_clause 17 = .ok (.iconst 0, 1) := by decide +kernel
theorem dX7_clause_18 : decode cX7_clause 18 = .ok (.iload_n 1, 1) := by decide +kernel
theorem dX7_clause_19 : decode cX7_clause 19 = .ok (.iload_n 2, 1) := by decide +kernel
theorem dX7_clause_20 : decode cX7_clause 20 = .ok (.invokevirtual 129, 3) := by decide +kernel
theorem dX7_clause_23 : decode cX7_clause 23 = .ok (.goto 4, 3) := by decide +kernel
theorem dX7_clause_26 : decode cX7_clause 26 = .ok (.iconst (-1), 1) := by decide +kernel
theorem dX7_clause_27 : decode cX7_clause 27 = .ok (.ireturn, 1) := by decide +kernel
theorem dX7_worth_0 : decode cX7_worth 0 = .ok (.aload_n 0, 1) := by decide +kernel
theorem dX7_worth_1 : decode cX7_worth 1 = .ok (.iload_n 1, 1) := by decide +kernel
theorem dX7_worth_2 : decode cX7_worth 2 = .ok (.invokevirtual 108, 3) := by decide +kernel
theorem dX7_worth_5 : decode cX7_worth 5 = .ok (.ifCond .ne 5, 3) := by decide +kernel
theorem dX7_worth_8 : decode cX7_worth 8 = .ok (.iconst (-1), 1) := by decide +kernel
theorem dX7_worth_9 : decode cX7_worth 9 = .ok (.ireturn, 1) := by decide +kernel
theorem dX7_worth_10 : decode cX7_worth 10 = .ok (.iload_n 2, 1) := by decide +kernel
theorem dX7_worth_11 : decode cX7_worth 11 = .ok (.i2l, 1) := by decide +kernel
theorem dX7_worth_12 : decode cX7_worth 12 = .ok (.lconst 0, 1) := by decide +kernel
theorem dX7_worth_13 : decode cX7_worth 13 = .ok (.ldc2_w 60, 3) := by decide +kernel
theorem dX7_worth_16 : decode cX7_worth 16 = .ok (.invokestatic 47, 3) := by decide +kernel
theorem dX7_worth_19 : decode cX7_worth 19 = .ok (.ifCond .ne 6, 3) := by decide +kernel
theorem dX7_worth_22 : decode cX7_worth 22 = .ok (.bipush (-2), 2) := by decide +kernel
theorem dX7_worth_24 : decode cX7_worth 24 = .ok (.ireturn, 1) := by decide +kernel
theorem dX7_worth_25 : decode cX7_worth 25 = .ok (.aload_n 0, 1) := by decide +kernel
theorem dX7_worth_26 : decode cX7_worth 26 = .ok (.invokevirtual 153, 3) := by decide +kernel
theorem dX7_worth_29 : decode cX7_worth 29 = .ok (.iconst 0, 1) := by decide +kernel
theorem dX7_worth_30 : decode cX7_worth 30 = .ok (.istore_n 3, 1) := by decide +kernel
theorem dX7_worth_31 : decode cX7_worth 31 = .ok (.iload_n 3, 1) := by decide +kernel
theorem dX7_worth_32 : decode cX7_worth 32 = .ok (.iload_n 2, 1) := by decide +kernel
theorem dX7_worth_33 : decode cX7_worth 33 = .ok (.if_icmp .ge 14, 3) := by decide +kernel
theorem dX7_worth_36 : decode cX7_worth 36 = .ok (.aload_n 0, 1) := by decide +kernel
theorem dX7_worth_37 : decode cX7_worth 37 = .ok (.iconst 1, 1) := by decide +kernel
theorem dX7_worth_38 : decode cX7_worth 38 = .ok (.invokevirtual 135, 3) := by decide +kernel
theorem dX7_worth_41 : decode cX7_worth 41 = .ok (.iinc 3 1, 3) := by decide +kernel
theorem dX7_worth_44 : decode cX7_worth 44 = .ok (.goto (-13), 3) := by decide +kernel
theorem dX7_worth_47 : decode cX7_worth 47 = .ok (.aload_n 0, 1) := by decide +kernel
theorem dX7_worth_48 : decode cX7_worth 48 = .ok (.getfield 13, 3) := by decide +kernel
theorem dX7_worth_51 : decode cX7_worth 51 = .ok (.bipush 58, 2) := by decide +kernel
theorem dX7_worth_53 : decode cX7_worth 53 = .ok (.iload_n 1, 1) := by decide +kernel
theorem dX7_worth_54 : decode cX7_worth 54 = .ok (.iadd, 1) := by decide +kernel
theorem dX7_worth_55 : decode cX7_worth 55 = .ok (.iaload, 1) := by decide +kernel
theorem dX7_worth_56 : decode cX7_worth 56 = .ok (.ireturn, 1) := by decide +kernel
theorem dX7_owedIf_0 : decode cX7_owedIf 0 = .ok (.aload_n 0, 1) := by decide +kernel
theorem dX7_owedIf_1 : decode cX7_owedIf 1 = .ok (.invokevirtual 153, 3) := by decide +kernel
theorem dX7_owedIf_4 : decode cX7_owedIf 4 = .ok (.aload_n 0, 1) := by decide +kernel
theorem dX7_owedIf_5 : decode cX7_owedIf 5 = .ok (.iconst 1, 1) := by decide +kernel
theorem dX7_owedIf_6 : decode cX7_owedIf 6 = .ok (.iload_n 3, 1) := by decide +kernel
theorem dX7_owedIf_7 : decode cX7_owedIf 7 = .ok (.iload_n 1, 1) := by decide +kernel
theorem dX7_owedIf_8 : decode cX7_owedIf 8 = .ok (.invokevirtual 114, 3) := by decide +kernel
theorem dX7_owedIf_11 : decode cX7_owedIf 11 = .ok (.iconst 0, 1) := by decide +kernel
theorem dX7_owedIf_12 : decode cX7_owedIf 12 = .ok (.istore 4, 2) := by decide +kernel
theorem dX7_owedIf_14 : decode cX7_owedIf 14 = .ok (.iload 4, 2) := by decide +kernel
theorem dX7_owedIf_16 : decode cX7_owedIf 16 = .ok (.iconst 3, 1) := by decide +kernel
theorem dX7_owedIf_17 : decode cX7_owedIf 17 = .ok (.if_icmp .ge 14, 3) := by decide +kernel
theorem dX7_owedIf_20 : decode cX7_owedIf 20 = .ok (.aload_n 0, 1) := by decide +kernel
theorem dX7_owedIf_21 : decode cX7_owedIf 21 = .ok (.iconst 1, 1) := by decide +kernel
theorem dX7_owedIf_22 : decode cX7_owedIf 22 = .ok (.invokevirtual 135, 3) := by decide +kernel
theorem dX7_owedIf_25 : decode cX7_owedIf 25 = .ok (.iinc 4 1, 3) := by decide +kernel
theorem dX7_owedIf_28 : decode cX7_owedIf 28 = .ok (.goto (-14), 3) := by decide +kernel
theorem dX7_owedIf_31 : decode cX7_owedIf 31 = .ok (.aload_n 0, 1) := by decide +kernel
theorem dX7_owedIf_32 : decode cX7_owedIf 32 = .ok (.getfield 13, 3) := by decide +kernel
theorem dX7_owedIf_35 : decode cX7_owedIf 35 = .ok (.iconst 0, 1) := by decide +kernel
theorem dX7_owedIf_36 : decode cX7_owedIf 36 = .ok (.iload_n 2, 1) := by decide +kernel
theorem dX7_owedIf_37 : decode cX7_owedIf 37 = .ok (.iload_n 1, 1) := by decide +kernel
theorem dX7_owedIf_38 : decode cX7_owedIf 38 = .ok (.invokestatic 104, 3) := by decide +kernel
theorem dX7_owedIf_41 : decode cX7_owedIf 41 = .ok (.iaload, 1) := by decide +kernel
theorem dX7_owedIf_42 : decode cX7_owedIf 42 = .ok (.aload_n 0, 1) := by decide +kernel
theorem dX7_owedIf_43 : decode cX7_owedIf 43 = .ok (.getfield 13, 3) := by decide +kernel
theorem dX7_owedIf_46 : decode cX7_owedIf 46 = .ok (.bipush 58, 2) := by decide +kernel
theorem dX7_owedIf_48 : decode cX7_owedIf 48 = .ok (.iload_n 3, 1) := by decide +kernel
theorem dX7_owedIf_49 : decode cX7_owedIf 49 = .ok (.iadd, 1) := by decide +kernel
theorem dX7_owedIf_50 : decode cX7_owedIf 50 = .ok (.iaload, 1) := by decide +kernel
theorem dX7_owedIf_51 : decode cX7_owedIf 51 = .ok (.isub, 1) := by decide +kernel
theorem dX7_owedIf_52 : decode cX7_owedIf 52 = .ok (.istore 4, 2) := by decide +kernel
theorem dX7_owedIf_54 : decode cX7_owedIf 54 = .ok (.iload 4, 2) := by decide +kernel
theorem dX7_owedIf_56 : decode cX7_owedIf 56 = .ok (.ifCond .ge 7, 3) := by decide +kernel
theorem dX7_owedIf_59 : decode cX7_owedIf 59 = .ok (.iconst 0, 1) := by decide +kernel
theorem dX7_owedIf_60 : decode cX7_owedIf 60 = .ok (.goto 5, 3) := by decide +kernel
theorem dX7_owedIf_63 : decode cX7_owedIf 63 = .ok (.iload 4, 2) := by decide +kernel
theorem dX7_owedIf_65 : decode cX7_owedIf 65 = .ok (.ireturn, 1) := by decide +kernel
theorem dX7_take_0 : decode cX7_take 0 = .ok (.aload_n 0, 1) := by decide +kernel
theorem dX7_take_1 : decode cX7_take 1 = .ok (.iload_n 1, 1) := by decide +kernel
theorem dX7_take_2 : decode cX7_take 2 = .ok (.invokevirtual 100, 3) := by decide +kernel
theorem dX7_take_5 : decode cX7_take 5 = .ok (.ifCond .eq 11, 3) := by decide +kernel
theorem dX7_take_8 : decode cX7_take 8 = .ok (.aload_n 0, 1) := by decide +kernel
theorem dX7_take_9 : decode cX7_take 9 = .ok (.iload_n 2, 1) := by decide +kernel
theorem dX7_take_10 : decode cX7_take 10 = .ok (.invokevirtual 100, 3) := by decide +kernel
theorem dX7_take_13 : decode cX7_take 13 = .ok (.ifCond .ne 5, 3) := by decide +kernel
theorem dX7_take_16 : decode cX7_take 16 = .ok (.iconst (-1), 1) := by decide +kernel
theorem dX7_take_17 : decode cX7_take 17 = .ok (.ireturn, 1) := by decide +kernel
theorem dX7_take_18 : decode cX7_take 18 = .ok (.iload_n 1, 1) := by decide +kernel
theorem dX7_take_19 : decode cX7_take 19 = .ok (.iload_n 2, 1) := by decide +kernel
theorem dX7_take_20 : decode cX7_take 20 = .ok (.if_icmp .ne 6, 3) := by decide +kernel
theorem dX7_take_23 : decode cX7_take 23 = .ok (.bipush (-2), 2) := by decide +kernel
theorem dX7_take_25 : decode cX7_take 25 = .ok (.ireturn, 1) := by decide +kernel
theorem dX7_take_26 : decode cX7_take 26 = .ok (.bipush (-9), 2) := by decide +kernel
theorem dX7_take_28 : decode cX7_take 28 = .ok (.istore 4, 2) := by decide +kernel
theorem dX7_take_30 : decode cX7_take 30 = .ok (.bipush (-9), 2) := by decide +kernel
theorem dX7_take_32 : decode cX7_take 32 = .ok (.istore 5, 2) := by decide +kernel
theorem dX7_take_34 : decode cX7_take 34 = .ok (.iconst 0, 1) := by decide +kernel
theorem dX7_take_35 : decode cX7_take 35 = .ok (.istore 6, 2) := by decide +kernel
theorem dX7_take_37 : decode cX7_take 37 = .ok (.iload 6, 2) := by decide +kernel
theorem dX7_take_39 : decode cX7_take 39 = .ok (.aload_n 0, 1) := by decide +kernel
theorem dX7_take_40 : decode cX7_take 40 = .ok (.getfield 94, 3) := by decide +kernel
theorem dX7_take_43 : decode cX7_take 43 = .ok (.if_icmp .ge 123, 3) := by decide +kernel
theorem dX7_take_46 : decode cX7_take 46 = .ok (.aload_n 0, 1) := by decide +kernel
theorem dX7_take_47 : decode cX7_take 47 = .ok (.getfield 13, 3) := by decide +kernel
theorem dX7_take_50 : decode cX7_take 50 = .ok (.bipush 8, 2) := by decide +kernel
theorem dX7_take_52 : decode cX7_take 52 = .ok (.iload 6, 2) := by decide +kernel
theorem dX7_take_54 : decode cX7_take 54 = .ok (.iadd, 1) := by decide +kernel
theorem dX7_take_55 : decode cX7_take 55 = .ok (.iaload, 1) := by decide +kernel
theorem dX7_take_56 : decode cX7_take 56 = .ok (.iload_n 2, 1) := by decide +kernel
theorem dX7_take_57 : decode cX7_take 57 = .ok (.if_icmp .ne 103, 3) := by decide +kernel
theorem dX7_take_60 : decode cX7_take 60 = .ok (.aload_n 0, 1) := by decide +kernel
theorem dX7_take_61 : decode cX7_take 61 = .ok (.iconst 0, 1) := by decide +kernel
theorem dX7_take_62 : decode cX7_take 62 = .ok (.iload_n 1, 1) := by decide +kernel
theorem dX7_take_63 : decode cX7_take 63 = .ok (.iload 6, 2) := by decide +kernel
theorem dX7_take_65 : decode cX7_take 65 = .ok (.invokevirtual 129, 3) := by decide +kernel
theorem dX7_take_68 : decode cX7_take 68 = .ok (.ifCond .ne 92, 3) := by decide +kernel
theorem dX7_take_71 : decode cX7_take 71 = .ok (.aload_n 0, 1) := by decide +kernel
theorem dX7_take_72 : decode cX7_take 72 = .ok (.iload_n 1, 1) := by decide +kernel
theorem dX7_take_73 : decode cX7_take 73 = .ok (.iload_n 2, 1) := by decide +kernel
theorem dX7_take_74 : decode cX7_take 74 = .ok (.iload 6, 2) := by decide +kernel
theorem dX7_take_76 : decode cX7_take 76 = .ok (.invokevirtual 156, 3) := by decide +kernel
theorem dX7_take_79 : decode cX7_take 79 = .ok (.istore 7, 2) := by decide +kernel
theorem dX7_take_81 : decode cX7_take 81 = .ok (.iload 4, 2) := by decide +kernel
theorem dX7_take_83 : decode cX7_take 83 = .ok (.bipush (-9), 2) := by decide +kernel
theorem dX7_take_85 : decode cX7_take 85 = .ok (.if_icmp .eq 40, 3) := by decide +kernel
theorem dX7_take_88 : decode cX7_take 88 = .ok (.iload 7, 2) := by decide +kernel
theorem dX7_take_90 : decode cX7_take 90 = .ok (.iload 5, 2) := by decide +kernel
theorem dX7_take_92 : decode cX7_take 92 = .ok (.if_icmp .lt 33, 3) := by decide +kernel
theorem dX7_take_95 : decode cX7_take 95 = .ok (.iload 7, 2) := by decide +kernel
theorem dX7_take_97 : decode cX7_take 97 = .ok (.iload 5, 2) := by decide +kernel
theorem dX7_take_99 : decode cX7_take 99 = .ok (.if_icmp .ne 30, 3) := by decide +kernel
theorem dX7_take_102 : decode cX7_take 102 = .ok (.aload_n 0, 1) := by decide +kernel
theorem dX7_take_103 : decode cX7_take 103 = .ok (.getfield 13, 3) := by decide +kernel
theorem dX7_take_106 : decode cX7_take 106 = .ok (.bipush 13, 2) := by decide +kernel
theorem dX7_take_108 : decode cX7_take 108 = .ok (.iload 6, 2) := by decide +kernel
theorem dX7_take_110 : decode cX7_take 110 = .ok (.iadd, 1) := by decide +kernel
theorem dX7_take_111 : decode cX7_take 111 = .ok (.iaload, 1) := by decide +kernel
theorem dX7_take_112 : decode cX7_take 112 = .ok (.aload_n 0, 1) := by decide +kernel
theorem dX7_take_113 : decode cX7_take 113 = .ok (.getfield 13, 3) := by decide +kernel
theorem dX7_take_116 : decode cX7_take 116 = .ok (.bipush 13, 2) := by decide +kernel
theorem dX7_take_118 : decode cX7_take 118 = .ok (.iload 4, 2) := by decide +kernel
theorem dX7_take_120 : decode cX7_take 120 = .ok (.iadd, 1) := by decide +kernel
theorem dX7_take_121 : decode cX7_take 121 = .ok (.iaload, 1) := by decide +kernel
theorem dX7_take_122 : decode cX7_take 122 = .ok (.if_icmp .ge 7, 3) := by decide +kernel
theorem dX7_take_125 : decode cX7_take 125 = .ok (.iconst 1, 1) := by decide +kernel
theorem dX7_take_126 : decode cX7_take 126 = .ok (.goto 4, 3) := by decide +kernel
theorem dX7_take_129 : decode cX7_take 129 = .ok (.iconst 0, 1) := by decide +kernel
theorem dX7_take_130 : decode cX7_take 130 = .ok (.istore 8, 2) := by decide +kernel
theorem dX7_take_132 : decode cX7_take 132 = .ok (.iload 8, 2) := by decide +kernel
theorem dX7_take_134 : decode cX7_take 134 = .ok (.ifCond .eq 8, 3) := by decide +kernel
theorem dX7_take_137 : decode cX7_take 137 = .ok (.iload 6, 2) := by decide +kernel
theorem dX7_take_139 : decode cX7_take 139 = .ok (.goto 5, 3) := by decide +kernel
theorem dX7_take_142 : decode cX7_take 142 = .ok (.iload 4, 2) := by decide +kernel
theorem dX7_take_144 : decode cX7_take 144 = .ok (.istore 4, 2) := by decide +kernel
theorem dX7_take_146 : decode cX7_take 146 = .ok (.iload 8, 2) := by decide +kernel
theorem dX7_take_148 : decode cX7_take 148 = .ok (.ifCond .eq 8, 3) := by decide +kernel
theorem dX7_take_151 : decode cX7_take 151 = .ok (.iload 7, 2) := by decide +kernel
theorem dX7_take_153 : decode cX7_take 153 = .ok (.goto 5, 3) := by decide +kernel
theorem dX7_take_156 : decode cX7_take 156 = .ok (.iload 5, 2) := by decide +kernel
theorem dX7_take_158 : decode cX7_take 158 = .ok (.istore 5, 2) := by decide +kernel
theorem dX7_take_160 : decode cX7_take 160 = .ok (.iinc 6 1, 3) := by decide +kernel
theorem dX7_take_163 : decode cX7_take 163 = .ok (.goto (-126), 3) := by decide +kernel
theorem dX7_take_166 : decode cX7_take 166 = .ok (.iload_n 3, 1) := by decide +kernel
theorem dX7_take_167 : decode cX7_take 167 = .ok (.ifCond .eq 8, 3) := by decide +kernel
theorem dX7_take_170 : decode cX7_take 170 = .ok (.iload 5, 2) := by decide +kernel
theorem dX7_take_172 : decode cX7_take 172 = .ok (.goto 5, 3) := by decide +kernel
theorem dX7_take_175 : decode cX7_take 175 = .ok (.iload 4, 2) := by decide +kernel
theorem dX7_take_177 : decode cX7_take 177 = .ok (.ireturn, 1) := by decide +kernel
theorem dX7_power_0 : decode cX7_power 0 = .ok (.iconst 1, 1) := by decide +kernel
theorem dX7_power_1 : decode cX7_power 1 = .ok (.istore_n 2, 1) := by decide +kernel
theorem dX7_power_2 : decode cX7_power 2 = .ok (.iconst 0, 1) := by decide +kernel
theorem dX7_power_3 : decode cX7_power 3 = .ok (.istore_n 3, 1) := by decide +kernel
theorem dX7_power_4 : decode cX7_power 4 = .ok (.iload_n 3, 1) := by decide +kernel
theorem dX7_power_5 : decode cX7_power 5 = .ok (.iload_n 1, 1) := by decide +kernel
theorem dX7_power_6 : decode cX7_power 6 = .ok (.if_icmp .ge 13, 3) := by decide +kernel
theorem dX7_power_9 : decode cX7_power 9 = .ok (.iload_n 2, 1) := by decide +kernel
theorem dX7_power_10 : decode cX7_power 10 = .ok (.iload_n 0, 1) := by decide +kernel
theorem dX7_power_11 : decode cX7_power 11 = .ok (.imul, 1) := by decide +kernel
theorem dX7_power_12 : decode cX7_power 12 = .ok (.istore_n 2, 1) := by decide +kernel
theorem dX7_power_13 : decode cX7_power 13 = .ok (.iinc 3 1, 3) := by decide +kernel
theorem dX7_power_16 : decode cX7_power 16 = .ok (.goto (-12), 3) := by decide +kernel
theorem dX7_power_19 : decode cX7_power 19 = .ok (.iload_n 2, 1) := by decide +kernel
theorem dX7_power_20 : decode cX7_power 20 = .ok (.ireturn, 1) := by decide +kernel
theorem dX7_wayOf_0 : decode cX7_wayOf 0 = .ok (.iconst 0, 1) := by decide +kernel
theorem dX7_wayOf_1 : decode cX7_wayOf 1 = .ok (.istore_n 2, 1) := by decide +kernel
theorem dX7_wayOf_2 : decode cX7_wayOf 2 = .ok (.iconst 0, 1) := by decide +kernel
theorem dX7_wayOf_3 : decode cX7_wayOf 3 = .ok (.istore_n 3, 1) := by decide +kernel
theorem dX7_wayOf_4 : decode cX7_wayOf 4 = .ok (.iload_n 3, 1) := by decide +kernel
theorem dX7_wayOf_5 : decode cX7_wayOf 5 = .ok (.aload_n 0, 1) := by decide +kernel
theorem dX7_wayOf_6 : decode cX7_wayOf 6 = .ok (.getfield 41, 3) := by decide +kernel
theorem dX7_wayOf_9 : decode cX7_wayOf 9 = .ok (.if_icmp .ge 41, 3) := by decide +kernel
theorem dX7_wayOf_12 : decode cX7_wayOf 12 = .ok (.bipush 10, 2) := by decide +kernel
theorem dX7_wayOf_14 : decode cX7_wayOf 14 = .ok (.iload_n 2, 1) := by decide +kernel
theorem dX7_wayOf_15 : decode cX7_wayOf 15 = .ok (.imul, 1) := by decide +kernel
theorem dX7_wayOf_16 : decode cX7_wayOf 16 = .ok (.iload_n 1, 1) := by decide +kernel
theorem dX7_wayOf_17 : decode cX7_wayOf 17 = .ok (.aload_n 0, 1) := by decide +kernel
theorem dX7_wayOf_18 : decode cX7_wayOf 18 = .ok (.getfield 94, 3) := by decide +kernel
theorem dX7_wayOf_21 : decode cX7_wayOf 21 = .ok (.iconst 1, 1) := by decide +kernel
theorem dX7_wayOf_22 : decode cX7_wayOf 22 = .ok (.iadd, 1) := by decide +kernel
theorem dX7_wayOf_23 : decode cX7_wayOf 23 = .ok (.aload_n 0, 1) := by decide +kernel
theorem dX7_wayOf_24 : decode cX7_wayOf 24 = .ok (.getfield 41, 3) := by decide +kernel
theorem dX7_wayOf_27 : decode cX7_wayOf 27 = .ok (.iconst 1, 1) := by decide +kernel
theorem dX7_wayOf_28 : decode cX7_wayOf 28 = .ok (.isub, 1) := by decide +kernel
theorem dX7_wayOf_29 : decode cX7_wayOf 29 = .ok (.iload_n 3, 1) := by decide +kernel
theorem dX7_wayOf_30 : decode cX7_wayOf 30 = .ok (.isub, 1) := by decide +kernel
theorem dX7_wayOf_31 : decode cX7_wayOf 31 = .ok (.invokestatic 159, 3) := by decide +kernel
theorem dX7_wayOf_34 : decode cX7_wayOf 34 = .ok (.idiv, 1) := by decide +kernel
theorem dX7_wayOf_35 : decode cX7_wayOf 35 = .ok (.aload_n 0, 1) := by decide +kernel
theorem dX7_wayOf_36 : decode cX7_wayOf 36 = .ok (.getfield 94, 3) := by decide +kernel
theorem dX7_wayOf_39 : decode cX7_wayOf 39 = .ok (.iconst 1, 1) := by decide +kernel
theorem dX7_wayOf_40 : decode cX7_wayOf 40 = .ok (.iadd, 1) := by decide +kernel
theorem dX7_wayOf_41 : decode cX7_wayOf 41 = .ok (.irem, 1) := by decide +kernel
theorem dX7_wayOf_42 : decode cX7_wayOf 42 = .ok (.iadd, 1) := by decide +kernel
theorem dX7_wayOf_43 : decode cX7_wayOf 43 = .ok (.istore_n 2, 1) := by decide +kernel
theorem dX7_wayOf_44 : decode cX7_wayOf 44 = .ok (.iinc 3 1, 3) := by decide +kernel
theorem dX7_wayOf_47 : decode cX7_wayOf 47 = .ok (.goto (-43), 3) := by decide +kernel
theorem dX7_wayOf_50 : decode cX7_wayOf 50 = .ok (.iload_n 2, 1) := by decide +kernel
theorem dX7_wayOf_51 : decode cX7_wayOf 51 = .ok (.ireturn, 1) := by decide +kernel
theorem dX7_getBy_0 : decode cX7_getBy 0 = .ok (.iconst 0, 1) := by decide +kernel
theorem dX7_getBy_1 : decode cX7_getBy 1 = .ok (.istore_n 3, 1) := by decide +kernel
theorem dX7_getBy_2 : decode cX7_getBy 2 = .ok (.iconst 0, 1) := by decide +kernel
theorem dX7_getBy_3 : decode cX7_getBy 3 = .ok (.istore 4, 2) := by decide +kernel
theorem dX7_getBy_5 : decode cX7_getBy 5 = .ok (.iload 4, 2) := by decide +kernel
theorem dX7_getBy_7 : decode cX7_getBy 7 = .ok (.aload_n 0, 1) := by decide +kernel
theorem dX7_getBy_8 : decode cX7_getBy 8 = .ok (.getfield 41, 3) := by decide +kernel
theorem dX7_getBy_11 : decode cX7_getBy 11 = .ok (.if_icmp .ge 85, 3) := by decide +kernel
theorem dX7_getBy_14 : decode cX7_getBy 14 = .ok (.iload_n 1, 1) := by decide +kernel
theorem dX7_getBy_15 : decode cX7_getBy 15 = .ok (.aload_n 0, 1) := by decide +kernel
theorem dX7_getBy_16 : decode cX7_getBy 16 = .ok (.getfield 94, 3) := by decide +kernel
theorem dX7_getBy_19 : decode cX7_getBy 19 = .ok (.iconst 1, 1) := by decide +kernel
theorem dX7_getBy_20 : decode cX7_getBy 20 = .ok (.iadd, 1) := by decide +kernel
theorem dX7_getBy_21 : decode cX7_getBy 21 = .ok (.aload_n 0, 1) := by decide +kernel
theorem dX7_getBy_22 : decode cX7_getBy 22 = .ok (.getfield 41, 3) := by decide +kernel
theorem dX7_getBy_25 : decode cX7_getBy 25 = .ok (.iconst 1, 1) := by decide +kernel
theorem dX7_getBy_26 : decode cX7_getBy 26 = .ok (.isub, 1) := by decide +kernel
theorem dX7_getBy_27 : decode cX7_getBy 27 = .ok (.iload 4, 2) := by decide +kernel
theorem dX7_getBy_29 : decode cX7_getBy 29 = .ok (.isub, 1) := by decide +kernel
theorem dX7_getBy_30 : decode cX7_getBy 30 = .ok (.invokestatic 159, 3) := by decide +kernel
theorem dX7_getBy_33 : decode cX7_getBy 33 = .ok (.idiv, 1) := by decide +kernel
theorem dX7_getBy_34 : decode cX7_getBy 34 = .ok (.aload_n 0, 1) := by decide +kernel
theorem dX7_getBy_35 : decode cX7_getBy 35 = .ok (.getfield 94, 3) := by decide +kernel
theorem dX7_getBy_38 : decode cX7_getBy 38 = .ok (.iconst 1, 1) := by decide +kernel
theorem dX7_getBy_39 : decode cX7_getBy 39 = .ok (.iadd, 1) := by decide +kernel
theorem dX7_getBy_40 : decode cX7_getBy 40 = .ok (.irem, 1) := by decide +kernel
theorem dX7_getBy_41 : decode cX7_getBy 41 = .ok (.iconst 1, 1) := by decide +kernel
theorem dX7_getBy_42 : decode cX7_getBy 42 = .ok (.isub, 1) := by decide +kernel
theorem dX7_getBy_43 : decode cX7_getBy 43 = .ok (.istore 5, 2) := by decide +kernel
theorem dX7_getBy_45 : decode cX7_getBy 45 = .ok (.iload 5, 2) := by decide +kernel
theorem dX7_getBy_47 : decode cX7_getBy 47 = .ok (.ifCond .lt 43, 3) := by decide +kernel
theorem dX7_getBy_50 : decode cX7_getBy 50 = .ok (.iload_n 2, 1) := by decide +kernel
theorem dX7_getBy_51 : decode cX7_getBy 51 = .ok (.iload 4, 2) := by decide +kernel
theorem dX7_getBy_53 : decode cX7_getBy 53 = .ok (.invokestatic 62, 3) := by decide +kernel
theorem dX7_getBy_56 : decode cX7_getBy 56 = .ok (.ifCond .eq 24, 3) := by decide +kernel
theorem dX7_getBy_59 : decode cX7_getBy 59 = .ok (.iload_n 3, 1) := by decide +kernel
theorem dX7_getBy_60 : decode cX7_getBy 60 = .ok (.iload 5, 2) := by decide +kernel
theorem dX7_getBy_62 : decode cX7_getBy 62 = .ok (.invokestatic 62, 3) := by decide +kernel
theorem dX7_getBy_65 : decode cX7_getBy 65 = .ok (.ifCond .ne 15, 3) := by decide +kernel
theorem dX7_getBy_68 : decode cX7_getBy 68 = .ok (.aload_n 0, 1) := by decide +kernel
theorem dX7_getBy_69 : decode cX7_getBy 69 = .ok (.iconst 0, 1) := by decide +kernel
theorem dX7_getBy_70 : decode cX7_getBy 70 = .ok (.iload 4, 2) := by decide +kernel
theorem dX7_getBy_72 : decode cX7_getBy 72 = .ok (.iload 5, 2) := by decide +kernel
theorem dX7_getBy_74 : decode cX7_getBy 74 = .ok (.invokevirtual 129, 3) := by decide +kernel
theorem dX7_getBy_77 : decode cX7_getBy 77 = .ok (.ifCond .eq 6, 3) := by decide +kernel
theorem dX7_getBy_80 : decode cX7_getBy 80 = .ok (.bipush (-9), 2) := by decide +kernel
theorem dX7_getBy_82 : decode cX7_getBy 82 = .ok (.ireturn, 1) := by decide +kernel
theorem dX7_getBy_83 : decode cX7_getBy 83 = .ok (.iload_n 3, 1) := by decide +kernel
theorem dX7_getBy_84 : decode cX7_getBy 84 = .ok (.iconst 1, 1) := by decide +kernel
theorem dX7_getBy_85 : decode cX7_getBy 85 = .ok (.iload 5, 2) := by decide +kernel
theorem dX7_getBy_87 : decode cX7_getBy 87 = .ok (.ishl, 1) := by decide +kernel
theorem dX7_getBy_88 : decode cX7_getBy 88 = .ok (.ior, 1) := by decide +kernel
theorem dX7_getBy_89 : decode cX7_getBy 89 = .ok (.istore_n 3, 1) := by decide +kernel
theorem dX7_getBy_90 : decode cX7_getBy 90 = .ok (.iinc 4 1, 3) := by decide +kernel
theorem dX7_getBy_93 : decode cX7_getBy 93 = .ok (.goto (-88), 3) := by decide +kernel
theorem dX7_getBy_96 : decode cX7_getBy 96 = .ok (.iload_n 3, 1) := by decide +kernel
theorem dX7_getBy_97 : decode cX7_getBy 97 = .ok (.invokestatic 141, 3) := by decide +kernel
theorem dX7_getBy_100 : decode cX7_getBy 100 = .ok (.ireturn, 1) := by decide +kernel
theorem dX7_mostBy_0 : decode cX7_mostBy 0 = .ok (.bipush (-9), 2) := by decide +kernel
theorem dX7_mostBy_2 : decode cX7_mostBy 2 = .ok (.istore_n 2, 1) := by decide +kernel
theorem dX7_mostBy_3 : decode cX7_mostBy 3 = .ok (.iconst 0, 1) := by decide +kernel
theorem dX7_mostBy_4 : decode cX7_mostBy 4 = .ok (.istore_n 3, 1) := by decide +kernel
theorem dX7_mostBy_5 : decode cX7_mostBy 5 = .ok (.iload_n 3, 1) := by decide +kernel
theorem dX7_mostBy_6 : decode cX7_mostBy 6 = .ok (.aload_n 0, 1) := by decide +kernel
theorem dX7_mostBy_7 : decode cX7_mostBy 7 = .ok (.getfield 94, 3) := by decide +kernel
theorem dX7_mostBy_10 : decode cX7_mostBy 10 = .ok (.iconst 1, 1) := by decide +kernel
theorem dX7_mostBy_11 : decode cX7_mostBy 11 = .ok (.iadd, 1) := by decide +kernel
theorem dX7_mostBy_12 : decode cX7_mostBy 12 = .ok (.aload_n 0, 1) := by decide +kernel
theorem dX7_mostBy_13 : decode cX7_mostBy 13 = .ok (.getfield 41, 3) := by decide +kernel
theorem dX7_mostBy_16 : decode cX7_mostBy 16 = .ok (.invokestatic 159, 3) := by decide +kernel
theorem dX7_mostBy_19 : decode cX7_mostBy 19 = .ok (.if_icmp .ge 48, 3) := by decide +kernel
theorem dX7_mostBy_22 : decode cX7_mostBy 22 = .ok (.aload_n 0, 1) := by decide +kernel
theorem dX7_mostBy_23 : decode cX7_mostBy 23 = .ok (.iload_n 3, 1) := by decide +kernel
theorem dX7_mostBy_24 : decode cX7_mostBy 24 = .ok (.iload_n 1, 1) := by decide +kernel
theorem dX7_mostBy_25 : decode cX7_mostBy 25 = .ok (.invokevirtual 162, 3) := by decide +kernel
theorem dX7_mostBy_28 : decode cX7_mostBy 28 = .ok (.istore 4, 2) := by decide +kernel
theorem dX7_mostBy_30 : decode cX7_mostBy 30 = .ok (.aload_n 0, 1) := by decide +kernel
theorem dX7_mostBy_31 : decode cX7_mostBy 31 = .ok (.iload 4, 2) := by decide +kernel
theorem dX7_mostBy_33 : decode cX7_mostBy 33 = .ok (.iload_n 2, 1) := by decide +kernel
theorem dX7_mostBy_34 : decode cX7_mostBy 34 = .ok (.if_icmp .le 7, 3) := by decide +kernel
theorem dX7_mostBy_37 : decode cX7_mostBy 37 = .ok (.iload_n 3, 1) := by decide +kernel
theorem dX7_mostBy_38 : decode cX7_mostBy 38 = .ok (.goto 7, 3) := by decide +kernel
theorem dX7_mostBy_41 : decode cX7_mostBy 41 = .ok (.aload_n 0, 1) := by decide +kernel
theorem dX7_mostBy_42 : decode cX7_mostBy 42 = .ok (.getfield 165, 3) := by decide +kernel
theorem dX7_mostBy_45 : decode cX7_mostBy 45 = .ok (.putfield 165, 3) := by decide +kernel
theorem dX7_mostBy_48 : decode cX7_mostBy 48 = .ok (.iload 4, 2) := by decide +kernel
theorem dX7_mostBy_50 : decode cX7_mostBy 50 = .ok (.iload_n 2, 1) := by decide +kernel
theorem dX7_mostBy_51 : decode cX7_mostBy 51 = .ok (.if_icmp .le 8, 3) := by decide +kernel
theorem dX7_mostBy_54 : decode cX7_mostBy 54 = .ok (.iload 4, 2) := by decide +kernel
theorem dX7_mostBy_56 : decode cX7_mostBy 56 = .ok (.goto 4, 3) := by decide +kernel
theorem dX7_mostBy_59 : decode cX7_mostBy 59 = .ok (.iload_n 2, 1) := by decide +kernel
theorem dX7_mostBy_60 : decode cX7_mostBy 60 = .ok (.istore_n 2, 1) := by decide +kernel
theorem dX7_mostBy_61 : decode cX7_mostBy 61 = .ok (.iinc 3 1, 3) := by decide +kernel
theorem dX7_mostBy_64 : decode cX7_mostBy 64 = .ok (.goto (-59), 3) := by decide +kernel
theorem dX7_mostBy_67 : decode cX7_mostBy 67 = .ok (.iload_n 2, 1) := by decide +kernel
theorem dX7_mostBy_68 : decode cX7_mostBy 68 = .ok (.ireturn, 1) := by decide +kernel
theorem dX7_each_0 : decode cX7_each 0 = .ok (.aload_n 0, 1) := by decide +kernel
theorem dX7_each_1 : decode cX7_each 1 = .ok (.iconst 1, 1) := by decide +kernel
theorem dX7_each_2 : decode cX7_each 2 = .ok (.aload_n 0, 1) := by decide +kernel
theorem dX7_each_3 : decode cX7_each 3 = .ok (.getfield 41, 3) := by decide +kernel
theorem dX7_each_6 : decode cX7_each 6 = .ok (.ishl, 1) := by decide +kernel
theorem dX7_each_7 : decode cX7_each 7 = .ok (.iconst 1, 1) := by decide +kernel
theorem dX7_each_8 : decode cX7_each 8 = .ok (.isub, 1) := by decide +kernel
theorem dX7_each_9 : decode cX7_each 9 = .ok (.invokevirtual 168, 3) := by decide +kernel
theorem dX7_each_12 : decode cX7_each 12 = .ok (.istore_n 2, 1) := by decide +kernel
theorem dX7_each_13 : decode cX7_each 13 = .ok (.iload_n 1, 1) := by decide +kernel
theorem dX7_each_14 : decode cX7_each 14 = .ok (.ifCond .eq 14, 3) := by decide +kernel
theorem dX7_each_17 : decode cX7_each 17 = .ok (.aload_n 0, 1) := by decide +kernel
theorem dX7_each_18 : decode cX7_each 18 = .ok (.aload_n 0, 1) := by decide +kernel
theorem dX7_each_19 : decode cX7_each 19 = .ok (.getfield 165, 3) := by decide +kernel
theorem dX7_each_22 : decode cX7_each 22 = .ok (.invokevirtual 171, 3) := by decide +kernel
theorem dX7_each_25 : decode cX7_each 25 = .ok (.goto 4, 3) := by decide +kernel
theorem dX7_each_28 : decode cX7_each 28 = .ok (.iload_n 2, 1) := by decide +kernel
theorem dX7_each_29 : decode cX7_each 29 = .ok (.ireturn, 1) := by decide +kernel
theorem dX7_factorial_0 : decode cX7_factorial 0 = .ok (.iconst 1, 1) := by decide +kernel
theorem dX7_factorial_1 : decode cX7_factorial 1 = .ok (.istore_n 1, 1) := by decide +kernel
theorem dX7_factorial_2 : decode cX7_factorial 2 = .ok (.iconst 2, 1) := by decide +kernel
theorem dX7_factorial_3 : decode cX7_factorial 3 = .ok (.istore_n 2, 1) := by decide +kernel
theorem dX7_factorial_4 : decode cX7_factorial 4 = .ok (.iload_n 2, 1) := by decide +kernel
theorem dX7_factorial_5 : decode cX7_factorial 5 = .ok (.iload_n 0, 1) := by decide +kernel
theorem dX7_factorial_6 : decode cX7_factorial 6 = .ok (.if_icmp .gt 13, 3) := by decide +kernel
theorem dX7_factorial_9 : decode cX7_factorial 9 = .ok (.iload_n 1, 1) := by decide +kernel
theorem dX7_factorial_10 : decode cX7_factorial 10 = .ok (.iload_n 2, 1) := by decide +kernel
theorem dX7_factorial_11 : decode cX7_factorial 11 = .ok (.imul, 1) := by decide +kernel
theorem dX7_factorial_12 : decode cX7_factorial 12 = .ok (.istore_n 1, 1) := by decide +kernel
theorem dX7_factorial_13 : decode cX7_factorial 13 = .ok (.iinc 2 1, 3) := by decide +kernel
theorem dX7_factorial_16 : decode cX7_factorial 16 = .ok (.goto (-12), 3) := by decide +kernel
theorem dX7_factorial_19 : decode cX7_factorial 19 = .ok (.iload_n 1, 1) := by decide +kernel
theorem dX7_factorial_20 : decode cX7_factorial 20 = .ok (.ireturn, 1) := by decide +kernel
theorem dX7_common_0 : decode cX7_common 0 = .ok (.iload_n 0, 1) := by decide +kernel
theorem dX7_common_1 : decode cX7_common 1 = .ok (.ifCond .ge 8, 3) := by decide +kernel
theorem dX7_common_4 : decode cX7_common 4 = .ok (.iload_n 0, 1) := by decide +kernel
theorem dX7_common_5 : decode cX7_common 5 = .ok (.ineg, 1) := by decide +kernel
theorem dX7_common_6 : decode cX7_common 6 = .ok (.goto 4, 3) := by decide +kernel
theorem dX7_common_9 : decode cX7_common 9 = .ok (.iload_n 0, 1) := by decide +kernel
theorem dX7_common_10 : decode cX7_common 10 = .ok (.istore_n 2, 1) := by decide +kernel
theorem dX7_common_11 : decode cX7_common 11 = .ok (.iload_n 1, 1) := by decide +kernel
theorem dX7_common_12 : decode cX7_common 12 = .ok (.istore_n 3, 1) := by decide +kernel
theorem dX7_common_13 : decode cX7_common 13 = .ok (.iload_n 3, 1) := by decide +kernel
theorem dX7_common_14 : decode cX7_common 14 = .ok (.ifCond .eq 16, 3) := by decide +kernel
theorem dX7_common_17 : decode cX7_common 17 = .ok (.iload_n 2, 1) := by decide +kernel
theorem dX7_common_18 : decode cX7_common 18 = .ok (.iload_n 3, 1) := by decide +kernel
theorem dX7_common_19 : decode cX7_common 19 = .ok (.irem, 1) := by decide +kernel
theorem dX7_common_20 : decode cX7_common 20 = .ok (.istore 4, 2) := by decide +kernel
theorem dX7_common_22 : decode cX7_common 22 = .ok (.iload_n 3, 1) := by decide +kernel
theorem dX7_common_23 : decode cX7_common 23 = .ok (.istore_n 2, 1) := by decide +kernel
theorem dX7_common_24 : decode cX7_common 24 = .ok (.iload 4, 2) := by decide +kernel
theorem dX7_common_26 : decode cX7_common 26 = .ok (.istore_n 3, 1) := by decide +kernel
theorem dX7_common_27 : decode cX7_common 27 = .ok (.goto (-14), 3) := by decide +kernel
theorem dX7_common_30 : decode cX7_common 30 = .ok (.iload_n 2, 1) := by decide +kernel
theorem dX7_common_31 : decode cX7_common 31 = .ok (.ireturn, 1) := by decide +kernel
theorem dX7_share_0 : decode cX7_share 0 = .ok (.aload_n 0, 1) := by decide +kernel
theorem dX7_share_1 : decode cX7_share 1 = .ok (.iload_n 1, 1) := by decide +kernel
theorem dX7_share_2 : decode cX7_share 2 = .ok (.invokevirtual 100, 3) := by decide +kernel
theorem dX7_share_5 : decode cX7_share 5 = .ok (.ifCond .ne 5, 3) := by decide +kernel
theorem dX7_share_8 : decode cX7_share 8 = .ok (.iconst (-1), 1) := by decide +kernel
theorem dX7_share_9 : decode cX7_share 9 = .ok (.ireturn, 1) := by decide +kernel
theorem dX7_share_10 : decode cX7_share 10 = .ok (.iconst 0, 1) := by decide +kernel
theorem dX7_share_11 : decode cX7_share 11 = .ok (.istore_n 3, 1) := by decide +kernel
theorem dX7_share_12 : decode cX7_share 12 = .ok (.iconst 0, 1) := by decide +kernel
theorem dX7_share_13 : decode cX7_share 13 = .ok (.istore 4, 2) := by decide +kernel
theorem dX7_share_15 : decode cX7_share 15 = .ok (.iload 4, 2) := by decide +kernel
theorem dX7_share_17 : decode cX7_share 17 = .ok (.iconst 1, 1) := by decide +kernel
theorem dX7_share_18 : decode cX7_share 18 = .ok (.aload_n 0, 1) := by decide +kernel
theorem dX7_share_19 : decode cX7_share 19 = .ok (.getfield 41, 3) := by decide +kernel
theorem dX7_share_22 : decode cX7_share 22 = .ok (.ishl, 1) := by decide +kernel
theorem dX7_share_23 : decode cX7_share 23 = .ok (.if_icmp .ge 67, 3) := by decide +kernel
theorem dX7_share_26 : decode cX7_share 26 = .ok (.iload 4, 2) := by decide +kernel
theorem dX7_share_28 : decode cX7_share 28 = .ok (.iload_n 1, 1) := by decide +kernel
theorem dX7_share_29 : decode cX7_share 29 = .ok (.invokestatic 62, 3) := by decide +kernel
theorem dX7_share_32 : decode cX7_share 32 = .ok (.ifCond .ne 52, 3) := by decide +kernel
theorem dX7_share_35 : decode cX7_share 35 = .ok (.iload 4, 2) := by decide +kernel
theorem dX7_share_37 : decode cX7_share 37 = .ok (.invokestatic 141, 3) := by decide +kernel
theorem dX7_share_40 : decode cX7_share 40 = .ok (.invokestatic 174, 3) := by decide +kernel
theorem dX7_share_43 : decode cX7_share 43 = .ok (.aload_n 0, 1) := by decide +kernel
theorem dX7_share_44 : decode cX7_share 44 = .ok (.getfield 41, 3) := by decide +kernel
theorem dX7_share_47 : decode cX7_share 47 = .ok (.iconst 1, 1) := by decide +kernel
theorem dX7_share_48 : decode cX7_share 48 = .ok (.isub, 1) := by decide +kernel
theorem dX7_share_49 : decode cX7_share 49 = .ok (.iload 4, 2) := by decide +kernel
theorem dX7_share_51 : decode cX7_share 51 = .ok (.invokestatic 141, 3) := by decide +kernel
theorem dX7_share_54 : decode cX7_share 54 = .ok (.isub, 1) := by decide +kernel
theorem dX7_share_55 : decode cX7_share 55 = .ok (.invokestatic 174, 3) := by decide +kernel
theorem dX7_share_58 : decode cX7_share 58 = .ok (.imul, 1) := by decide +kernel
theorem dX7_share_59 : decode cX7_share 59 = .ok (.istore 5, 2) := by decide +kernel
theorem dX7_share_61 : decode cX7_share 61 = .ok (.iload_n 3, 1) := by decide +kernel
theorem dX7_share_62 : decode cX7_share 62 = .ok (.iload 5, 2) := by decide +kernel
theorem dX7_share_64 : decode cX7_share 64 = .ok (.aload_n 0, 1) := by decide +kernel
theorem dX7_share_65 : decode cX7_share 65 = .ok (.iload 4, 2) := by decide +kernel
theorem dX7_share_67 : decode cX7_share 67 = .ok (.iconst 1, 1) := by decide +kernel
theorem dX7_share_68 : decode cX7_share 68 = .ok (.iload_n 1, 1) := by decide +kernel
theorem dX7_share_69 : decode cX7_share 69 = .ok (.ishl, 1) := by decide +kernel
theorem dX7_share_70 : decode cX7_share 70 = .ok (.ior, 1) := by decide +kernel
theorem dX7_share_71 : decode cX7_share 71 = .ok (.invokevirtual 168, 3) := by decide +kernel
theorem dX7_share_74 : decode cX7_share 74 = .ok (.aload_n 0, 1) := by decide +kernel
theorem dX7_share_75 : decode cX7_share 75 = .ok (.iload 4, 2) := by decide +kernel
theorem dX7_share_77 : decode cX7_share 77 = .ok (.invokevirtual 168, 3) := by decide +kernel
theorem dX7_share_80 : decode cX7_share 80 = .ok (.isub, 1) := by decide +kernel
theorem dX7_share_81 : decode cX7_share 81 = .ok (.imul, 1) := by decide +kernel
theorem dX7_share_82 : decode cX7_share 82 = .ok (.iadd, 1) := by decide +kernel
theorem dX7_share_83 : decode cX7_share 83 = .ok (.istore_n 3, 1) := by decide +kernel
theorem dX7_share_84 : decode cX7_share 84 = .ok (.iinc 4 1, 3) := by decide +kernel
theorem dX7_share_87 : decode cX7_share 87 = .ok (.goto (-72), 3) := by decide +kernel
theorem dX7_share_90 : decode cX7_share 90 = .ok (.iload_n 3, 1) := by decide +kernel
theorem dX7_share_91 : decode cX7_share 91 = .ok (.aload_n 0, 1) := by decide +kernel
theorem dX7_share_92 : decode cX7_share 92 = .ok (.getfield 41, 3) := by decide +kernel
theorem dX7_share_95 : decode cX7_share 95 = .ok (.invokestatic 174, 3) := by decide +kernel
theorem dX7_share_98 : decode cX7_share 98 = .ok (.invokestatic 177, 3) := by decide +kernel
theorem dX7_share_101 : decode cX7_share 101 = .ok (.istore 4, 2) := by decide +kernel
theorem dX7_share_103 : decode cX7_share 103 = .ok (.iload_n 2, 1) := by decide +kernel
theorem dX7_share_104 : decode cX7_share 104 = .ok (.ifCond .eq 10, 3) := by decide +kernel
theorem dX7_share_107 : decode cX7_share 107 = .ok (.iload_n 3, 1) := by decide +kernel
theorem dX7_share_108 : decode cX7_share 108 = .ok (.iload 4, 2) := by decide +kernel
theorem dX7_share_110 : decode cX7_share 110 = .ok (.idiv, 1) := by decide +kernel
theorem dX7_share_111 : decode cX7_share 111 = .ok (.goto 13, 3) := by decide +kernel
theorem dX7_share_114 : decode cX7_share 114 = .ok (.aload_n 0, 1) := by decide +kernel
theorem dX7_share_115 : decode cX7_share 115 = .ok (.getfield 41, 3) := by decide +kernel
theorem dX7_share_118 : decode cX7_share 118 = .ok (.invokestatic 174, 3) := by decide +kernel
theorem dX7_share_121 : decode cX7_share 121 = .ok (.iload 4, 2) := by decide +kernel
theorem dX7_share_123 : decode cX7_share 123 = .ok (.idiv, 1) := by decide +kernel
theorem dX7_share_124 : decode cX7_share 124 = .ok (.ireturn, 1) := by decide +kernel
theorem dX7_leastOf_0 : decode cX7_leastOf 0 = .ok (.iconst 0, 1) := by decide +kernel
theorem dX7_leastOf_1 : decode cX7_leastOf 1 = .ok (.istore 4, 2) := by decide +kernel
theorem dX7_leastOf_3 : decode cX7_leastOf 3 = .ok (.bipush 100, 2) := by decide +kernel
theorem dX7_leastOf_5 : decode cX7_leastOf 5 = .ok (.istore 5, 2) := by decide +kernel
theorem dX7_leastOf_7 : decode cX7_leastOf 7 = .ok (.iconst 0, 1) := by decide +kernel
theorem dX7_leastOf_8 : decode cX7_leastOf 8 = .ok (.istore 6, 2) := by decide +kernel
theorem dX7_leastOf_10 : decode cX7_leastOf 10 = .ok (.iload 6, 2) := by decide +kernel
theorem dX7_leastOf_12 : decode cX7_leastOf 12 = .ok (.iload_n 3, 1) := by decide +kernel
theorem dX7_leastOf_13 : decode cX7_leastOf 13 = .ok (.if_icmp .ge 155, 3) := by decide +kernel
theorem dX7_leastOf_16 : decode cX7_leastOf 16 = .ok (.iload_n 2, 1) := by decide +kernel
theorem dX7_leastOf_17 : decode cX7_leastOf 17 = .ok (.bipush 10, 2) := by decide +kernel
theorem dX7_leastOf_19 : decode cX7_leastOf 19 = .ok (.iload_n 3, 1) := by decide +kernel
theorem dX7_leastOf_20 : decode cX7_leastOf 20 = .ok (.iconst 1, 1) := by decide +kernel
theorem dX7_leastOf_21 : decode cX7_leastOf 21 = .ok (.isub, 1) := by decide +kernel
theorem dX7_leastOf_22 : decode cX7_leastOf 22 = .ok (.iload 6, 2) := by decide +kernel
theorem dX7_leastOf_24 : decode cX7_leastOf 24 = .ok (.isub, 1) := by decide +kernel
theorem dX7_leastOf_25 : decode cX7_leastOf 25 = .ok (.invokestatic 159, 3) := by decide +kernel
theorem dX7_leastOf_28 : decode cX7_leastOf 28 = .ok (.idiv, 1) := by decide +kernel
theorem dX7_leastOf_29 : decode cX7_leastOf 29 = .ok (.bipush 10, 2) := by decide +kernel
theorem dX7_leastOf_31 : decode cX7_leastOf 31 = .ok (.irem, 1) := by decide +kernel
theorem dX7_leastOf_32 : decode cX7_leastOf 32 = .ok (.iconst 1, 1) := by decide +kernel
theorem dX7_leastOf_33 : decode cX7_leastOf 33 = .ok (.isub, 1) := by decide +kernel
theorem dX7_leastOf_34 : decode cX7_leastOf 34 = .ok (.istore 7, 2) := by decide +kernel
theorem dX7_leastOf_36 : decode cX7_leastOf 36 = .ok (.iload 6, 2) := by decide +kernel
theorem dX7_leastOf_38 : decode cX7_leastOf 38 = .ok (.iload_n 3, 1) := by decide +kernel
theorem dX7_leastOf_39 : decode cX7_leastOf 39 = .ok (.iconst 1, 1) := by decide +kernel
theorem dX7_leastOf_40 : decode cX7_leastOf 40 = .ok (.isub, 1) := by decide +kernel
theorem dX7_leastOf_41 : decode cX7_leastOf 41 = .ok (.if_icmp .ne 7, 3) := by decide +kernel
theorem dX7_leastOf_44 : decode cX7_leastOf 44 = .ok (.iload_n 1, 1) := by decide +kernel
theorem dX7_leastOf_45 : decode cX7_leastOf 45 = .ok (.goto 21, 3) := by decide +kernel
theorem dX7_leastOf_48 : decode cX7_leastOf 48 = .ok (.iload_n 2, 1) := by decide +kernel
theorem dX7_leastOf_49 : decode cX7_leastOf 49 = .ok (.bipush 10, 2) := by decide +kernel
theorem dX7_leastOf_51 : decode cX7_leastOf 51 = .ok (.iload_n 3, 1) := by decide +kernel
theorem dX7_leastOf_52 : decode cX7_leastOf 52 = .ok (.iconst 2, 1) := by decide +kernel
theorem dX7_leastOf_53 : decode cX7_leastOf 53 = .ok (.isub, 1) := by decide +kernel
theorem dX7_leastOf_54 : decode cX7_leastOf 54 = .ok (.iload 6, 2) := by decide +kernel
theorem dX7_leastOf_56 : decode cX7_leastOf 56 = .ok (.isub, 1) := by decide +kernel
theorem dX7_leastOf_57 : decode cX7_leastOf 57 = .ok (.invokestatic 159, 3) := by decide +kernel
theorem dX7_leastOf_60 : decode cX7_leastOf 60 = .ok (.idiv, 1) := by decide +kernel
theorem dX7_leastOf_61 : decode cX7_leastOf 61 = .ok (.bipush 10, 2) := by decide +kernel
theorem dX7_leastOf_63 : decode cX7_leastOf 63 = .ok (.irem, 1) := by decide +kernel
theorem dX7_leastOf_64 : decode cX7_leastOf 64 = .ok (.iconst 1, 1) := by decide +kernel
theorem dX7_leastOf_65 : decode cX7_leastOf 65 = .ok (.isub, 1) := by decide +kernel
theorem dX7_leastOf_66 : decode cX7_leastOf 66 = .ok (.istore 8, 2) := by decide +kernel
theorem dX7_leastOf_68 : decode cX7_leastOf 68 = .ok (.aload_n 0, 1) := by decide +kernel
theorem dX7_leastOf_69 : decode cX7_leastOf 69 = .ok (.iload 7, 2) := by decide +kernel
theorem dX7_leastOf_71 : decode cX7_leastOf 71 = .ok (.invokevirtual 100, 3) := by decide +kernel
theorem dX7_leastOf_74 : decode cX7_leastOf 74 = .ok (.ifCond .eq 38, 3) := by decide +kernel
theorem dX7_leastOf_77 : decode cX7_leastOf 77 = .ok (.aload_n 0, 1) := by decide +kernel
theorem dX7_leastOf_78 : decode cX7_leastOf 78 = .ok (.iload 8, 2) := by decide +kernel
theorem dX7_leastOf_80 : decode cX7_leastOf 80 = .ok (.invokevirtual 100, 3) := by decide +kernel
theorem dX7_leastOf_83 : decode cX7_leastOf 83 = .ok (.ifCond .eq 29, 3) := by decide +kernel
theorem dX7_leastOf_86 : decode cX7_leastOf 86 = .ok (.iload 4, 2) := by decide +kernel
theorem dX7_leastOf_88 : decode cX7_leastOf 88 = .ok (.iload 7, 2) := by decide +kernel
theorem dX7_leastOf_90 : decode cX7_leastOf 90 = .ok (.invokestatic 62, 3) := by decide +kernel
theorem dX7_leastOf_93 : decode cX7_leastOf 93 = .ok (.ifCond .ne 19, 3) := by decide +kernel
theorem dX7_leastOf_96 : decode cX7_leastOf 96 = .ok (.aload_n 0, 1) := by decide +kernel
theorem dX7_leastOf_97 : decode cX7_leastOf 97 = .ok (.getfield 13, 3) := by decide +kernel
theorem dX7_leastOf_100 : decode cX7_leastOf 100 = .ok (.iconst 0, 1) := by decide +kernel
theorem dX7_leastOf_101 : decode cX7_leastOf 101 = .ok (.iload 7, 2) := by decide +kernel
theorem dX7_leastOf_103 : decode cX7_leastOf 103 = .ok (.iload 8, 2) := by decide +kernel
theorem dX7_leastOf_105 : decode cX7_leastOf 105 = .ok (.invokestatic 104, 3) := by decide +kernel
theorem dX7_leastOf_108 : decode cX7_leastOf 108 = .ok (.iaload, 1) := by decide +kernel
theorem dX7_leastOf_109 : decode cX7_leastOf 109 = .ok (.ifCond .ne 6, 3) := by decide +kernel
theorem dX7_leastOf_112 : decode cX7_leastOf 112 = .ok (.bipush (-9), 2) := by decide +kernel
theorem dX7_leastOf_114 : decode cX7_leastOf 114 = .ok (.ireturn, 1) := by decide +kernel
theorem dX7_leastOf_115 : decode cX7_leastOf 115 = .ok (.iload 4, 2) := by decide +kernel
theorem dX7_leastOf_117 : decode cX7_leastOf 117 = .ok (.iconst 1, 1) := by decide +kernel
theorem dX7_leastOf_118 : decode cX7_leastOf 118 = .ok (.iload 7, 2) := by decide +kernel
theorem dX7_leastOf_120 : decode cX7_leastOf 120 = .ok (.ishl, 1) := by decide +kernel
theorem dX7_leastOf_121 : decode cX7_leastOf 121 = .ok (.ior, 1) := by decide +kernel
theorem dX7_leastOf_122 : decode cX7_leastOf 122 = .ok (.istore 4, 2) := by decide +kernel
theorem dX7_leastOf_124 : decode cX7_leastOf 124 = .ok (.aload_n 0, 1) := by decide +kernel
theorem dX7_leastOf_125 : decode cX7_leastOf 125 = .ok (.getfield 13, 3) := by decide +kernel
theorem dX7_leastOf_128 : decode cX7_leastOf 128 = .ok (.iconst 0, 1) := by decide +kernel
theorem dX7_leastOf_129 : decode cX7_leastOf 129 = .ok (.iload 7, 2) := by decide +kernel
theorem dX7_leastOf_131 : decode cX7_leastOf 131 = .ok (.iload 8, 2) := by decide +kernel
theorem dX7_leastOf_133 : decode cX7_leastOf 133 = .ok (.invokestatic 104, 3) := by decide +kernel
theorem dX7_leastOf_136 : decode cX7_leastOf 136 = .ok (.iaload, 1) := by decide +kernel
theorem dX7_leastOf_137 : decode cX7_leastOf 137 = .ok (.iload 5, 2) := by decide +kernel
theorem dX7_leastOf_139 : decode cX7_leastOf 139 = .ok (.if_icmp .ge 19, 3) := by decide +kernel
theorem dX7_leastOf_142 : decode cX7_leastOf 142 = .ok (.aload_n 0, 1) := by decide +kernel
theorem dX7_leastOf_143 : decode cX7_leastOf 143 = .ok (.getfield 13, 3) := by decide +kernel
theorem dX7_leastOf_146 : decode cX7_leastOf 146 = .ok (.iconst 0, 1) := by decide +kernel
theorem dX7_leastOf_147 : decode cX7_leastOf 147 = .ok (.iload 7, 2) := by decide +kernel
theorem dX7_leastOf_149 : decode cX7_leastOf 149 = .ok (.iload 8, 2) := by decide +kernel
theorem dX7_leastOf_151 : decode cX7_leastOf 151 = .ok (.invokestatic 104, 3) := by decide +kernel
theorem dX7_leastOf_154 : decode cX7_leastOf 154 = .ok (.iaload, 1) := by decide +kernel
theorem dX7_leastOf_155 : decode cX7_leastOf 155 = .ok (.goto 5, 3) := by decide +kernel
theorem dX7_leastOf_158 : decode cX7_leastOf 158 = .ok (.iload 5, 2) := by decide +kernel
theorem dX7_leastOf_160 : decode cX7_leastOf 160 = .ok (.istore 5, 2) := by decide +kernel
theorem dX7_leastOf_162 : decode cX7_leastOf 162 = .ok (.iinc 6 1, 3) := by decide +kernel
theorem dX7_leastOf_165 : decode cX7_leastOf 165 = .ok (.goto (-155), 3) := by decide +kernel
theorem dX7_leastOf_168 : decode cX7_leastOf 168 = .ok (.iload 5, 2) := by decide +kernel
theorem dX7_leastOf_170 : decode cX7_leastOf 170 = .ok (.ireturn, 1) := by decide +kernel
theorem dX7_layRing_0 : decode cX7_layRing 0 = .ok (.iconst 2, 1) := by decide +kernel
theorem dX7_layRing_1 : decode cX7_layRing 1 = .ok (.istore_n 2, 1) := by decide +kernel
theorem dX7_layRing_2 : decode cX7_layRing 2 = .ok (.iload_n 2, 1) := by decide +kernel
theorem dX7_layRing_3 : decode cX7_layRing 3 = .ok (.iconst 5, 1) := by decide +kernel
theorem dX7_layRing_4 : decode cX7_layRing 4 = .ok (.if_icmp .ge 70, 3) := by decide +kernel
theorem dX7_layRing_7 : decode cX7_layRing 7 = .ok (.iload_n 1, 1) := by decide +kernel
theorem dX7_layRing_8 : decode cX7_layRing 8 = .ok (.iconst 1, 1) := by decide +kernel
theorem dX7_layRing_9 : decode cX7_layRing 9 = .ok (.iadd, 1) := by decide +kernel
theorem dX7_layRing_10 : decode cX7_layRing 10 = .ok (.bipush 10, 2) := by decide +kernel
theorem dX7_layRing_12 : decode cX7_layRing 12 = .ok (.iload_n 2, 1) := by decide +kernel
theorem dX7_layRing_13 : decode cX7_layRing 13 = .ok (.iconst 1, 1) := by decide +kernel
theorem dX7_layRing_14 : decode cX7_layRing 14 = .ok (.isub, 1) := by decide +kernel
theorem dX7_layRing_15 : decode cX7_layRing 15 = .ok (.invokestatic 159, 3) := by decide +kernel
theorem dX7_layRing_18 : decode cX7_layRing 18 = .ok (.imul, 1) := by decide +kernel
theorem dX7_layRing_19 : decode cX7_layRing 19 = .ok (.istore_n 3, 1) := by decide +kernel
theorem dX7_layRing_20 : decode cX7_layRing 20 = .ok (.iload_n 3, 1) := by decide +kernel
theorem dX7_layRing_21 : decode cX7_layRing 21 = .ok (.istore 4, 2) := by decide +kernel
theorem dX7_layRing_23 : decode cX7_layRing 23 = .ok (.iload 4, 2) := by decide +kernel
theorem dX7_layRing_25 : decode cX7_layRing 25 = .ok (.iload_n 3, 1) := by decide +kernel
theorem dX7_layRing_26 : decode cX7_layRing 26 = .ok (.bipush 10, 2) := by decide +kernel
theorem dX7_layRing_28 : decode cX7_layRing 28 = .ok (.iload_n 2, 1) := by decide +kernel
theorem dX7_layRing_29 : decode cX7_layRing 29 = .ok (.iconst 1, 1) := by decide +kernel
theorem dX7_layRing_30 : decode cX7_layRing 30 = .ok (.isub, 1) := by decide +kernel
theorem dX7_layRing_31 : decode cX7_layRing 31 = .ok (.invokestatic 159, 3) := by decide +kernel
theorem dX7_layRing_34 : decode cX7_layRing 34 = .ok (.iadd, 1) := by decide +kernel
theorem dX7_layRing_35 : decode cX7_layRing 35 = .ok (.if_icmp .ge 33, 3) := by decide +kernel
theorem dX7_layRing_38 : decode cX7_layRing 38 = .ok (.aload_n 0, 1) := by decide +kernel
theorem dX7_layRing_39 : decode cX7_layRing 39 = .ok (.aload_n 0, 1) := by decide +kernel
theorem dX7_layRing_40 : decode cX7_layRing 40 = .ok (.iload_n 1, 1) := by decide +kernel
theorem dX7_layRing_41 : decode cX7_layRing 41 = .ok (.iload 4, 2) := by decide +kernel
theorem dX7_layRing_43 : decode cX7_layRing 43 = .ok (.iload_n 2, 1) := by decide +kernel
theorem dX7_layRing_44 : decode cX7_layRing 44 = .ok (.invokevirtual 180, 3) := by decide +kernel
theorem dX7_layRing_47 : decode cX7_layRing 47 = .ok (.putfield 183, 3) := by decide +kernel
theorem dX7_layRing_50 : decode cX7_layRing 50 = .ok (.aload_n 0, 1) := by decide +kernel
theorem dX7_layRing_51 : decode cX7_layRing 51 = .ok (.getfield 183, 3) := by decide +kernel
theorem dX7_layRing_54 : decode cX7_layRing 54 = .ok (.bipush (-9), 2) := by decide +kernel
theorem dX7_layRing_56 : decode cX7_layRing 56 = .ok (.if_icmp .eq 6, 3) := by decide +kernel
theorem dX7_layRing_59 : decode cX7_layRing 59 = .ok (.iload 4, 2) := by decide +kernel
theorem dX7_layRing_61 : decode cX7_layRing 61 = .ok (.ireturn, 1) := by decide +kernel
theorem dX7_layRing_62 : decode cX7_layRing 62 = .ok (.iinc 4 1, 3) := by decide +kernel
theorem dX7_layRing_65 : decode cX7_layRing 65 = .ok (.goto (-42), 3) := by decide +kernel
theorem dX7_layRing_68 : decode cX7_layRing 68 = .ok (.iinc 2 1, 3) := by decide +kernel
theorem dX7_layRing_71 : decode cX7_layRing 71 = .ok (.goto (-69), 3) := by decide +kernel
theorem dX7_layRing_74 : decode cX7_layRing 74 = .ok (.aload_n 0, 1) := by decide +kernel
theorem dX7_layRing_75 : decode cX7_layRing 75 = .ok (.bipush (-9), 2) := by decide +kernel
theorem dX7_layRing_77 : decode cX7_layRing 77 = .ok (.putfield 183, 3) := by decide +kernel
theorem dX7_layRing_80 : decode cX7_layRing 80 = .ok (.bipush (-9), 2) := by decide +kernel
theorem dX7_layRing_82 : decode cX7_layRing 82 = .ok (.ireturn, 1) := by decide +kernel
theorem dX7_ring_0 : decode cX7_ring 0 = .ok (.aload_n 0, 1) := by decide +kernel
theorem dX7_ring_1 : decode cX7_ring 1 = .ok (.iload_n 1, 1) := by decide +kernel
theorem dX7_ring_2 : decode cX7_ring 2 = .ok (.invokevirtual 100, 3) := by decide +kernel
theorem dX7_ring_5 : decode cX7_ring 5 = .ok (.ifCond .eq 11, 3) := by decide +kernel
theorem dX7_ring_8 : decode cX7_ring 8 = .ok (.aload_n 0, 1) := by decide +kernel
theorem dX7_ring_9 : decode cX7_ring 9 = .ok (.iload_n 1, 1) := by decide +kernel
theorem dX7_ring_10 : decode cX7_ring 10 = .ok (.invokevirtual 186, 3) := by decide +kernel
theorem dX7_ring_13 : decode cX7_ring 13 = .ok (.goto 4, 3) := by decide +kernel
theorem dX7_ring_16 : decode cX7_ring 16 = .ok (.iconst (-1), 1) := by decide +kernel
theorem dX7_ring_17 : decode cX7_ring 17 = .ok (.ireturn, 1) := by decide +kernel
theorem dX7_close_0 : decode cX7_close 0 = .ok (.aload_n 0, 1) := by decide +kernel
theorem dX7_close_1 : decode cX7_close 1 = .ok (.iload_n 1, 1) := by decide +kernel
theorem dX7_close_2 : decode cX7_close 2 = .ok (.invokevirtual 100, 3) := by decide +kernel
theorem dX7_close_5 : decode cX7_close 5 = .ok (.ifCond .ne 5, 3) := by decide +kernel
theorem dX7_close_8 : decode cX7_close 8 = .ok (.iconst (-1), 1) := by decide +kernel
theorem dX7_close_9 : decode cX7_close 9 = .ok (.ireturn, 1) := by decide +kernel
theorem dX7_close_10 : decode cX7_close 10 = .ok (.aload_n 0, 1) := by decide +kernel
theorem dX7_close_11 : decode cX7_close 11 = .ok (.iload_n 1, 1) := by decide +kernel
theorem dX7_close_12 : decode cX7_close 12 = .ok (.invokevirtual 186, 3) := by decide +kernel
theorem dX7_close_15 : decode cX7_close 15 = .ok (.pop, 1) := by decide +kernel
theorem dX7_close_16 : decode cX7_close 16 = .ok (.aload_n 0, 1) := by decide +kernel
theorem dX7_close_17 : decode cX7_close 17 = .ok (.getfield 183, 3) := by decide +kernel
theorem dX7_close_20 : decode cX7_close 20 = .ok (.ireturn, 1) := by decide +kernel
theorem dX7_tenTo_0 : decode cX7_tenTo 0 = .ok (.lconst 1, 1) := by decide +kernel
theorem dX7_tenTo_1 : decode cX7_tenTo 1 = .ok (.lstore_n 1, 1) := by decide +kernel
theorem dX7_tenTo_2 : decode cX7_tenTo 2 = .ok (.iconst 0, 1) := by decide +kernel
theorem dX7_tenTo_3 : decode cX7_tenTo 3 = .ok (.istore_n 3, 1) := by decide +kernel
theorem dX7_tenTo_4 : decode cX7_tenTo 4 = .ok (.iload_n 3, 1) := by decide +kernel
theorem dX7_tenTo_5 : decode cX7_tenTo 5 = .ok (.iload_n 0, 1) := by decide +kernel
theorem dX7_tenTo_6 : decode cX7_tenTo 6 = .ok (.if_icmp .ge 15, 3) := by decide +kernel
theorem dX7_tenTo_9 : decode cX7_tenTo 9 = .ok (.lload_n 1, 1) := by decide +kernel
theorem dX7_tenTo_10 : decode cX7_tenTo 10 = .ok (.ldc2_w 189, 3) := by decide +kernel
theorem dX7_tenTo_13 : decode cX7_tenTo 13 = .ok (.lmul, 1) := by decide +kernel
theorem dX7_tenTo_14 : decode cX7_tenTo 14 = .ok (.lstore_n 1, 1) := by decide +kernel
theorem dX7_tenTo_15 : decode cX7_tenTo 15 = .ok (.iinc 3 1, 3) := by decide +kernel
theorem dX7_tenTo_18 : decode cX7_tenTo 18 = .ok (.goto (-14), 3) := by decide +kernel
theorem dX7_tenTo_21 : decode cX7_tenTo 21 = .ok (.lload_n 1, 1) := by decide +kernel
theorem dX7_tenTo_22 : decode cX7_tenTo 22 = .ok (.lreturn, 1) := by decide +kernel
theorem dX7_tryThing_0 : decode cX7_tryThing 0 = .ok (.iload_n 1, 1) := by decide +kernel
theorem dX7_tryThing_1 : decode cX7_tryThing 1 = .ok (.bipush 100, 2) := by decide +kernel
theorem dX7_tryThing_3 : decode cX7_tryThing 3 = .ok (.idiv, 1) := by decide +kernel
theorem dX7_tryThing_4 : decode cX7_tryThing 4 = .ok (.iconst 1, 1) := by decide +kernel
theorem dX7_tryThing_5 : decode cX7_tryThing 5 = .ok (.isub, 1) := by decide +kernel
theorem dX7_tryThing_6 : decode cX7_tryThing 6 = .ok (.istore_n 2, 1) := by decide +kernel
theorem dX7_tryThing_7 : decode cX7_tryThing 7 = .ok (.iload_n 1, 1) := by decide +kernel
theorem dX7_tryThing_8 : decode cX7_tryThing 8 = .ok (.bipush 10, 2) := by decide +kernel
theorem dX7_tryThing_10 : decode cX7_tryThing 10 = .ok (.idiv, 1) := by decide +kernel
theorem dX7_tryThing_11 : decode cX7_tryThing 11 = .ok (.bipush 10, 2) := by decide +kernel
theorem dX7_tryThing_13 : decode cX7_tryThing 13 = .ok (.irem, 1) := by decide +kernel
theorem dX7_tryThing_14 : decode cX7_tryThing 14 = .ok (.iconst 1, 1) := by decide +kernel
theorem dX7_tryThing_15 : decode cX7_tryThing 15 = .ok (.isub, 1) := by decide +kernel
theorem dX7_tryThing_16 : decode cX7_tryThing 16 = .ok (.istore_n 3, 1) := by decide +kernel
theorem dX7_tryThing_17 : decode cX7_tryThing 17 = .ok (.iload_n 1, 1) := by decide +kernel
theorem dX7_tryThing_18 : decode cX7_tryThing 18 = .ok (.bipush 10, 2) := by decide +kernel
theorem dX7_tryThing_20 : decode cX7_tryThing 20 = .ok (.irem, 1) := by decide +kernel
theorem dX7_tryThing_21 : decode cX7_tryThing 21 = .ok (.istore 4, 2) := by decide +kernel
theorem dX7_tryThing_23 : decode cX7_tryThing 23 = .ok (.iload_n 1, 1) := by decide +kernel
theorem dX7_tryThing_24 : decode cX7_tryThing 24 = .ok (.iconst 3, 1) := by decide +kernel
theorem dX7_tryThing_25 : decode cX7_tryThing 25 = .ok (.if_icmp .ne 10, 3) := by decide +kernel
theorem dX7_tryThing_28 : decode cX7_tryThing 28 = .ok (.aload_n 0, 1) := by decide +kernel
theorem dX7_tryThing_29 : decode cX7_tryThing 29 = .ok (.iconst 1, 1) := by decide +kernel
theorem dX7_tryThing_30 : decode cX7_tryThing 30 = .ok (.invokevirtual 135, 3) := by decide +kernel
theorem dX7_tryThing_33 : decode cX7_tryThing 33 = .ok (.iconst 1, 1) := by decide +kernel
theorem dX7_tryThing_34 : decode cX7_tryThing 34 = .ok (.ireturn, 1) := by decide +kernel
theorem dX7_tryThing_35 : decode cX7_tryThing 35 = .ok (.aload_n 0, 1) := by decide +kernel
theorem dX7_tryThing_36 : decode cX7_tryThing 36 = .ok (.iload_n 3, 1) := by decide +kernel
theorem dX7_tryThing_37 : decode cX7_tryThing 37 = .ok (.invokevirtual 108, 3) := by decide +kernel
theorem dX7_tryThing_40 : decode cX7_tryThing 40 = .ok (.ifCond .ne 5, 3) := by decide +kernel
theorem dX7_tryThing_43 : decode cX7_tryThing 43 = .ok (.iconst 0, 1) := by decide +kernel
theorem dX7_tryThing_44 : decode cX7_tryThing 44 = .ok (.ireturn, 1) := by decide +kernel
theorem dX7_tryThing_45 : decode cX7_tryThing 45 = .ok (.iload 4, 2) := by decide +kernel
theorem dX7_tryThing_47 : decode cX7_tryThing 47 = .ok (.ifCond .ne 30, 3) := by decide +kernel
theorem dX7_tryThing_50 : decode cX7_tryThing 50 = .ok (.aload_n 0, 1) := by decide +kernel
theorem dX7_tryThing_51 : decode cX7_tryThing 51 = .ok (.iload_n 2, 1) := by decide +kernel
theorem dX7_tryThing_52 : decode cX7_tryThing 52 = .ok (.invokevirtual 100, 3) := by decide +kernel
theorem dX7_tryThing_55 : decode cX7_tryThing 55 = .ok (.ifCond .eq 22, 3) := by decide +kernel
theorem dX7_tryThing_58 : decode cX7_tryThing 58 = .ok (.aload_n 0, 1) := by decide +kernel
theorem dX7_tryThing_59 : decode cX7_tryThing 59 = .ok (.iconst 1, 1) := by decide +kernel
theorem dX7_tryThing_60 : decode cX7_tryThing 60 = .ok (.iload_n 2, 1) := by decide +kernel
theorem dX7_tryThing_61 : decode cX7_tryThing 61 = .ok (.iload_n 3, 1) := by decide +kernel
theorem dX7_tryThing_62 : decode cX7_tryThing 62 = .ok (.invokevirtual 129, 3) := by decide +kernel
theorem dX7_tryThing_65 : decode cX7_tryThing 65 = .ok (.ifCond .ne 12, 3) := by decide +kernel
theorem dX7_tryThing_68 : decode cX7_tryThing 68 = .ok (.aload_n 0, 1) := by decide +kernel
theorem dX7_tryThing_69 : decode cX7_tryThing 69 = .ok (.iconst 1, 1) := by decide +kernel
theorem dX7_tryThing_70 : decode cX7_tryThing 70 = .ok (.iload_n 3, 1) := by decide +kernel
theorem dX7_tryThing_71 : decode cX7_tryThing 71 = .ok (.iload_n 2, 1) := by decide +kernel
theorem dX7_tryThing_72 : decode cX7_tryThing 72 = .ok (.invokevirtual 114, 3) := by decide +kernel
theorem dX7_tryThing_75 : decode cX7_tryThing 75 = .ok (.iconst 1, 1) := by decide +kernel
theorem dX7_tryThing_76 : decode cX7_tryThing 76 = .ok (.ireturn, 1) := by decide +kernel
theorem dX7_tryThing_77 : decode cX7_tryThing 77 = .ok (.iload 4, 2) := by decide +kernel
theorem dX7_tryThing_79 : decode cX7_tryThing 79 = .ok (.iconst 1, 1) := by decide +kernel
theorem dX7_tryThing_80 : decode cX7_tryThing 80 = .ok (.if_icmp .ne 25, 3) := by decide +kernel
theorem dX7_tryThing_83 : decode cX7_tryThing 83 = .ok (.iload_n 2, 1) := by decide +kernel
theorem dX7_tryThing_84 : decode cX7_tryThing 84 = .ok (.iconst (-1), 1) := by decide +kernel
theorem dX7_tryThing_85 : decode cX7_tryThing 85 = .ok (.if_icmp .ne 20, 3) := by decide +kernel
theorem dX7_tryThing_88 : decode cX7_tryThing 88 = .ok (.aload_n 0, 1) := by decide +kernel
theorem dX7_tryThing_89 : decode cX7_tryThing 89 = .ok (.iconst 1, 1) := by decide +kernel
theorem dX7_tryThing_90 : decode cX7_tryThing 90 = .ok (.iload_n 3, 1) := by decide +kernel
theorem dX7_tryThing_91 : decode cX7_tryThing 91 = .ok (.invokevirtual 111, 3) := by decide +kernel
theorem dX7_tryThing_94 : decode cX7_tryThing 94 = .ok (.ifCond .eq 11, 3) := by decide +kernel
theorem dX7_tryThing_97 : decode cX7_tryThing 97 = .ok (.aload_n 0, 1) := by decide +kernel
theorem dX7_tryThing_98 : decode cX7_tryThing 98 = .ok (.iconst 1, 1) := by decide +kernel
theorem dX7_tryThing_99 : decode cX7_tryThing 99 = .ok (.iload_n 3, 1) := by decide +kernel
theorem dX7_tryThing_100 : decode cX7_tryThing 100 = .ok (.invokevirtual 144, 3) := by decide +kernel
theorem dX7_tryThing_103 : decode cX7_tryThing 103 = .ok (.iconst 1, 1) := by decide +kernel
theorem dX7_tryThing_104 : decode cX7_tryThing 104 = .ok (.ireturn, 1) := by decide +kernel
theorem dX7_tryThing_105 : decode cX7_tryThing 105 = .ok (.iload 4, 2) := by decide +kernel
theorem dX7_tryThing_107 : decode cX7_tryThing 107 = .ok (.iconst 2, 1) := by decide +kernel
theorem dX7_tryThing_108 : decode cX7_tryThing 108 = .ok (.if_icmp .ne 25, 3) := by decide +kernel
theorem dX7_tryThing_111 : decode cX7_tryThing 111 = .ok (.iload_n 2, 1) := by decide +kernel
theorem dX7_tryThing_112 : decode cX7_tryThing 112 = .ok (.iconst (-1), 1) := by decide +kernel
theorem dX7_tryThing_113 : decode cX7_tryThing 113 = .ok (.if_icmp .ne 20, 3) := by decide +kernel
theorem dX7_tryThing_116 : decode cX7_tryThing 116 = .ok (.aload_n 0, 1) := by decide +kernel
theorem dX7_tryThing_117 : decode cX7_tryThing 117 = .ok (.iconst 1, 1) := by decide +kernel
theorem dX7_tryThing_118 : decode cX7_tryThing 118 = .ok (.iload_n 3, 1) := by decide +kernel
theorem dX7_tryThing_119 : decode cX7_tryThing 119 = .ok (.invokevirtual 147, 3) := by decide +kernel
theorem dX7_tryThing_122 : decode cX7_tryThing 122 = .ok (.ifCond .eq 11, 3) := by decide +kernel
theorem dX7_tryThing_125 : decode cX7_tryThing 125 = .ok (.aload_n 0, 1) := by decide +kernel
theorem dX7_tryThing_126 : decode cX7_tryThing 126 = .ok (.iconst 1, 1) := by decide +kernel
theorem dX7_tryThing_127 : decode cX7_tryThing 127 = .ok (.iload_n 3, 1) := by decide +kernel
theorem dX7_tryThing_128 : decode cX7_tryThing 128 = .ok (.invokevirtual 150, 3) := by decide +kernel
theorem dX7_tryThing_131 : decode cX7_tryThing 131 = .ok (.iconst 1, 1) := by decide +kernel
theorem dX7_tryThing_132 : decode cX7_tryThing 132 = .ok (.ireturn, 1) := by decide +kernel
theorem dX7_tryThing_133 : decode cX7_tryThing 133 = .ok (.iconst 0, 1) := by decide +kernel
theorem dX7_tryThing_134 : decode cX7_tryThing 134 = .ok (.ireturn, 1) := by decide +kernel
theorem dX7_judge_0 : decode cX7_judge 0 = .ok (.iload_n 1, 1) := by decide +kernel
theorem dX7_judge_1 : decode cX7_judge 1 = .ok (.i2l, 1) := by decide +kernel
theorem dX7_judge_2 : decode cX7_judge 2 = .ok (.lconst 1, 1) := by decide +kernel
theorem dX7_judge_3 : decode cX7_judge 3 = .ok (.ldc2_w 191, 3) := by decide +kernel
theorem dX7_judge_6 : decode cX7_judge 6 = .ok (.invokestatic 47, 3) := by decide +kernel
theorem dX7_judge_9 : decode cX7_judge 9 = .ok (.ifCond .eq 19, 3) := by decide +kernel
theorem dX7_judge_12 : decode cX7_judge 12 = .ok (.lload_n 2, 1) := by decide +kernel
theorem dX7_judge_13 : decode cX7_judge 13 = .ok (.lconst 0, 1) := by decide +kernel
theorem dX7_judge_14 : decode cX7_judge 14 = .ok (.iconst 3, 1) := by decide +kernel
theorem dX7_judge_15 : decode cX7_judge 15 = .ok (.iload_n 1, 1) := by decide +kernel
theorem dX7_judge_16 : decode cX7_judge 16 = .ok (.imul, 1) := by decide +kernel
theorem dX7_judge_17 : decode cX7_judge 17 = .ok (.invokestatic 193, 3) := by decide +kernel
theorem dX7_judge_20 : decode cX7_judge 20 = .ok (.lconst 1, 1) := by decide +kernel
theorem dX7_judge_21 : decode cX7_judge 21 = .ok (.lsub, 1) := by decide +kernel
theorem dX7_judge_22 : decode cX7_judge 22 = .ok (.invokestatic 47, 3) := by decide +kernel
theorem dX7_judge_25 : decode cX7_judge 25 = .ok (.ifCond .ne 6, 3) := by decide +kernel
theorem dX7_judge_28 : decode cX7_judge 28 = .ok (.bipush (-2), 2) := by decide +kernel
theorem dX7_judge_30 : decode cX7_judge 30 = .ok (.ireturn, 1) := by decide +kernel
theorem dX7_judge_31 : decode cX7_judge 31 = .ok (.aload_n 0, 1) := by decide +kernel
theorem dX7_judge_32 : decode cX7_judge 32 = .ok (.invokevirtual 153, 3) := by decide +kernel
theorem dX7_judge_35 : decode cX7_judge 35 = .ok (.iconst 0, 1) := by decide +kernel
theorem dX7_judge_36 : decode cX7_judge 36 = .ok (.istore 4, 2) := by decide +kernel
theorem dX7_judge_38 : decode cX7_judge 38 = .ok (.iload 4, 2) := by decide +kernel
theorem dX7_judge_40 : decode cX7_judge 40 = .ok (.iload_n 1, 1) := by decide +kernel
theorem dX7_judge_41 : decode cX7_judge 41 = .ok (.if_icmp .ge 37, 3) := by decide +kernel
theorem dX7_judge_44 : decode cX7_judge 44 = .ok (.aload_n 0, 1) := by decide +kernel
theorem dX7_judge_45 : decode cX7_judge 45 = .ok (.lload_n 2, 1) := by decide +kernel
theorem dX7_judge_46 : decode cX7_judge 46 = .ok (.iconst 3, 1) := by decide +kernel
theorem dX7_judge_47 : decode cX7_judge 47 = .ok (.iload_n 1, 1) := by decide +kernel
theorem dX7_judge_48 : decode cX7_judge 48 = .ok (.iconst 1, 1) := by decide +kernel
theorem dX7_judge_49 : decode cX7_judge 49 = .ok (.isub, 1) := by decide +kernel
theorem dX7_judge_50 : decode cX7_judge 50 = .ok (.iload 4, 2) := by decide +kernel
theorem dX7_judge_52 : decode cX7_judge 52 = .ok (.isub, 1) := by decide +kernel
theorem dX7_judge_53 : decode cX7_judge 53 = .ok (.imul, 1) := by decide +kernel
theorem dX7_judge_54 : decode cX7_judge 54 = .ok (.invokestatic 193, 3) := by decide +kernel
theorem dX7_judge_57 : decode cX7_judge 57 = .ok (.ldiv, 1) := by decide +kernel
theorem dX7_judge_58 : decode cX7_judge 58 = .ok (.ldc2_w 197, 3) := by decide +kernel
theorem dX7_judge_61 : decode cX7_judge 61 = .ok (.lrem, 1) := by decide +kernel
theorem dX7_judge_62 : decode cX7_judge 62 = .ok (.l2i, 1) := by decide +kernel
theorem dX7_judge_63 : decode cX7_judge 63 = .ok (.invokevirtual 199, 3) := by decide +kernel
theorem dX7_judge_66 : decode cX7_judge 66 = .ok (.ifCond .ne 6, 3) := by decide +kernel
theorem dX7_judge_69 : decode cX7_judge 69 = .ok (.iload 4, 2) := by decide +kernel
theorem dX7_judge_71 : decode cX7_judge 71 = .ok (.ireturn, 1) := by decide +kernel
theorem dX7_judge_72 : decode cX7_judge 72 = .ok (.iinc 4 1, 3) := by decide +kernel
theorem dX7_judge_75 : decode cX7_judge 75 = .ok (.goto (-37), 3) := by decide +kernel
theorem dX7_judge_78 : decode cX7_judge 78 = .ok (.bipush (-9), 2) := by decide +kernel
theorem dX7_judge_80 : decode cX7_judge 80 = .ok (.ireturn, 1) := by decide +kernel
theorem dX7_mayTake_0 : decode cX7_mayTake 0 = .ok (.iconst 0, 1) := by decide +kernel
theorem dX7_mayTake_1 : decode cX7_mayTake 1 = .ok (.istore_n 3, 1) := by decide +kernel
theorem dX7_mayTake_2 : decode cX7_mayTake 2 = .ok (.iconst 0, 1) := by decide +kernel
theorem dX7_mayTake_3 : decode cX7_mayTake 3 = .ok (.istore 4, 2) := by decide +kernel
theorem dX7_mayTake_5 : decode cX7_mayTake 5 = .ok (.iload 4, 2) := by decide +kernel
theorem dX7_mayTake_7 : decode cX7_mayTake 7 = .ok (.aload_n 0, 1) := by decide +kernel
theorem dX7_mayTake_8 : decode cX7_mayTake 8 = .ok (.getfield 94, 3) := by decide +kernel
theorem dX7_mayTake_11 : decode cX7_mayTake 11 = .ok (.if_icmp .ge 40, 3) := by decide +kernel
theorem dX7_mayTake_14 : decode cX7_mayTake 14 = .ok (.iload_n 3, 1) := by decide +kernel
theorem dX7_mayTake_15 : decode cX7_mayTake 15 = .ok (.iload_n 2, 1) := by decide +kernel
theorem dX7_mayTake_16 : decode cX7_mayTake 16 = .ok (.iload 4, 2) := by decide +kernel
theorem dX7_mayTake_18 : decode cX7_mayTake 18 = .ok (.invokestatic 62, 3) := by decide +kernel
theorem dX7_mayTake_21 : decode cX7_mayTake 21 = .ok (.ifCond .eq 21, 3) := by decide +kernel
theorem dX7_mayTake_24 : decode cX7_mayTake 24 = .ok (.aload_n 0, 1) := by decide +kernel
theorem dX7_mayTake_25 : decode cX7_mayTake 25 = .ok (.iconst 0, 1) := by decide +kernel
theorem dX7_mayTake_26 : decode cX7_mayTake 26 = .ok (.iload_n 1, 1) := by decide +kernel
theorem dX7_mayTake_27 : decode cX7_mayTake 27 = .ok (.iload 4, 2) := by decide +kernel
theorem dX7_mayTake_29 : decode cX7_mayTake 29 = .ok (.invokevirtual 129, 3) := by decide +kernel
theorem dX7_mayTake_32 : decode cX7_mayTake 32 = .ok (.ifCond .ne 10, 3) := by decide +kernel
theorem dX7_mayTake_35 : decode cX7_mayTake 35 = .ok (.iconst 1, 1) := by decide +kernel
theorem dX7_mayTake_36 : decode cX7_mayTake 36 = .ok (.iload 4, 2) := by decide +kernel
theorem dX7_mayTake_38 : decode cX7_mayTake 38 = .ok (.ishl, 1) := by decide +kernel
theorem dX7_mayTake_39 : decode cX7_mayTake 39 = .ok (.goto 4, 3) := by decide +kernel
theorem dX7_mayTake_42 : decode cX7_mayTake 42 = .ok (.iconst 0, 1) := by decide +kernel
theorem dX7_mayTake_43 : decode cX7_mayTake 43 = .ok (.ior, 1) := by decide +kernel
theorem dX7_mayTake_44 : decode cX7_mayTake 44 = .ok (.istore_n 3, 1) := by decide +kernel
theorem dX7_mayTake_45 : decode cX7_mayTake 45 = .ok (.iinc 4 1, 3) := by decide +kernel
theorem dX7_mayTake_48 : decode cX7_mayTake 48 = .ok (.goto (-43), 3) := by decide +kernel
theorem dX7_mayTake_51 : decode cX7_mayTake 51 = .ok (.iload_n 3, 1) := by decide +kernel
theorem dX7_mayTake_52 : decode cX7_mayTake 52 = .ok (.ireturn, 1) := by decide +kernel
theorem dX7_who_0 : decode cX7_who 0 = .ok (.iload_n 1, 1) := by decide +kernel
theorem dX7_who_1 : decode cX7_who 1 = .ok (.i2l, 1) := by decide +kernel
theorem dX7_who_2 : decode cX7_who 2 = .ok (.lconst 0, 1) := by decide +kernel
theorem dX7_who_3 : decode cX7_who 3 = .ok (.iconst 1, 1) := by decide +kernel
theorem dX7_who_4 : decode cX7_who 4 = .ok (.aload_n 0, 1) := by decide +kernel
theorem dX7_who_5 : decode cX7_who 5 = .ok (.getfield 94, 3) := by decide +kernel
theorem dX7_who_8 : decode cX7_who 8 = .ok (.ishl, 1) := by decide +kernel
theorem dX7_who_9 : decode cX7_who 9 = .ok (.iconst 1, 1) := by decide +kernel
theorem dX7_who_10 : decode cX7_who 10 = .ok (.isub, 1) := by decide +kernel
