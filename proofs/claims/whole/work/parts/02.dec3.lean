theorem dX7_who_11 : decode cX7_who 11 = .ok (.i2l, 1) := by decide +kernel
theorem dX7_who_12 : decode cX7_who 12 = .ok (.invokestatic 47, 3) := by decide +kernel
theorem dX7_who_15 : decode cX7_who 15 = .ok (.ifCond .ne 6, 3) := by decide +kernel
theorem dX7_who_18 : decode cX7_who 18 = .ok (.bipush (-2), 2) := by decide +kernel
theorem dX7_who_20 : decode cX7_who 20 = .ok (.ireturn, 1) := by decide +kernel
theorem dX7_who_21 : decode cX7_who 21 = .ok (.iconst 0, 1) := by decide +kernel
theorem dX7_who_22 : decode cX7_who 22 = .ok (.istore_n 2, 1) := by decide +kernel
theorem dX7_who_23 : decode cX7_who 23 = .ok (.iconst 0, 1) := by decide +kernel
theorem dX7_who_24 : decode cX7_who 24 = .ok (.istore_n 3, 1) := by decide +kernel
theorem dX7_who_25 : decode cX7_who 25 = .ok (.iload_n 3, 1) := by decide +kernel
theorem dX7_who_26 : decode cX7_who 26 = .ok (.aload_n 0, 1) := by decide +kernel
theorem dX7_who_27 : decode cX7_who 27 = .ok (.getfield 41, 3) := by decide +kernel
theorem dX7_who_30 : decode cX7_who 30 = .ok (.if_icmp .ge 29, 3) := by decide +kernel
theorem dX7_who_33 : decode cX7_who 33 = .ok (.iload_n 2, 1) := by decide +kernel
theorem dX7_who_34 : decode cX7_who 34 = .ok (.aload_n 0, 1) := by decide +kernel
theorem dX7_who_35 : decode cX7_who 35 = .ok (.iload_n 3, 1) := by decide +kernel
theorem dX7_who_36 : decode cX7_who 36 = .ok (.iload_n 1, 1) := by decide +kernel
theorem dX7_who_37 : decode cX7_who 37 = .ok (.invokevirtual 202, 3) := by decide +kernel
theorem dX7_who_40 : decode cX7_who 40 = .ok (.iload_n 1, 1) := by decide +kernel
theorem dX7_who_41 : decode cX7_who 41 = .ok (.if_icmp .ne 9, 3) := by decide +kernel
theorem dX7_who_44 : decode cX7_who 44 = .ok (.iconst 1, 1) := by decide +kernel
theorem dX7_who_45 : decode cX7_who 45 = .ok (.iload_n 3, 1) := by decide +kernel
theorem dX7_who_46 : decode cX7_who 46 = .ok (.ishl, 1) := by decide +kernel
theorem dX7_who_47 : decode cX7_who 47 = .ok (.goto 4, 3) := by decide +kernel
theorem dX7_who_50 : decode cX7_who 50 = .ok (.iconst 0, 1) := by decide +kernel
theorem dX7_who_51 : decode cX7_who 51 = .ok (.ior, 1) := by decide +kernel
theorem dX7_who_52 : decode cX7_who 52 = .ok (.istore_n 2, 1) := by decide +kernel
theorem dX7_who_53 : decode cX7_who 53 = .ok (.iinc 3 1, 3) := by decide +kernel
theorem dX7_who_56 : decode cX7_who 56 = .ok (.goto (-31), 3) := by decide +kernel
theorem dX7_who_59 : decode cX7_who 59 = .ok (.iload_n 2, 1) := by decide +kernel
theorem dX7_who_60 : decode cX7_who 60 = .ok (.ireturn, 1) := by decide +kernel
theorem dX7_areSuspects_0 : decode cX7_areSuspects 0 = .ok (.iconst 0, 1) := by decide +kernel
theorem dX7_areSuspects_1 : decode cX7_areSuspects 1 = .ok (.istore_n 3, 1) := by decide +kernel
theorem dX7_areSuspects_2 : decode cX7_areSuspects 2 = .ok (.iconst 0, 1) := by decide +kernel
theorem dX7_areSuspects_3 : decode cX7_areSuspects 3 = .ok (.istore 4, 2) := by decide +kernel
theorem dX7_areSuspects_5 : decode cX7_areSuspects 5 = .ok (.iload 4, 2) := by decide +kernel
theorem dX7_areSuspects_7 : decode cX7_areSuspects 7 = .ok (.aload_n 0, 1) := by decide +kernel
theorem dX7_areSuspects_8 : decode cX7_areSuspects 8 = .ok (.getfield 41, 3) := by decide +kernel
theorem dX7_areSuspects_11 : decode cX7_areSuspects 11 = .ok (.if_icmp .ge 40, 3) := by decide +kernel
theorem dX7_areSuspects_14 : decode cX7_areSuspects 14 = .ok (.iload_n 1, 1) := by decide +kernel
theorem dX7_areSuspects_15 : decode cX7_areSuspects 15 = .ok (.iload 4, 2) := by decide +kernel
theorem dX7_areSuspects_17 : decode cX7_areSuspects 17 = .ok (.invokestatic 62, 3) := by decide +kernel
theorem dX7_areSuspects_20 : decode cX7_areSuspects 20 = .ok (.ifCond .eq 25, 3) := by decide +kernel
theorem dX7_areSuspects_23 : decode cX7_areSuspects 23 = .ok (.aload_n 0, 1) := by decide +kernel
theorem dX7_areSuspects_24 : decode cX7_areSuspects 24 = .ok (.iload 4, 2) := by decide +kernel
theorem dX7_areSuspects_26 : decode cX7_areSuspects 26 = .ok (.iload_n 2, 1) := by decide +kernel
theorem dX7_areSuspects_27 : decode cX7_areSuspects 27 = .ok (.invokevirtual 202, 3) := by decide +kernel
theorem dX7_areSuspects_30 : decode cX7_areSuspects 30 = .ok (.ifCond .ne 5, 3) := by decide +kernel
theorem dX7_areSuspects_33 : decode cX7_areSuspects 33 = .ok (.iconst 0, 1) := by decide +kernel
theorem dX7_areSuspects_34 : decode cX7_areSuspects 34 = .ok (.ireturn, 1) := by decide +kernel
theorem dX7_areSuspects_35 : decode cX7_areSuspects 35 = .ok (.iload_n 3, 1) := by decide +kernel
theorem dX7_areSuspects_36 : decode cX7_areSuspects 36 = .ok (.aload_n 0, 1) := by decide +kernel
theorem dX7_areSuspects_37 : decode cX7_areSuspects 37 = .ok (.iload 4, 2) := by decide +kernel
theorem dX7_areSuspects_39 : decode cX7_areSuspects 39 = .ok (.iload_n 2, 1) := by decide +kernel
theorem dX7_areSuspects_40 : decode cX7_areSuspects 40 = .ok (.invokevirtual 202, 3) := by decide +kernel
theorem dX7_areSuspects_43 : decode cX7_areSuspects 43 = .ok (.ior, 1) := by decide +kernel
theorem dX7_areSuspects_44 : decode cX7_areSuspects 44 = .ok (.istore_n 3, 1) := by decide +kernel
theorem dX7_areSuspects_45 : decode cX7_areSuspects 45 = .ok (.iinc 4 1, 3) := by decide +kernel
theorem dX7_areSuspects_48 : decode cX7_areSuspects 48 = .ok (.goto (-43), 3) := by decide +kernel
theorem dX7_areSuspects_51 : decode cX7_areSuspects 51 = .ok (.iload_n 3, 1) := by decide +kernel
theorem dX7_areSuspects_52 : decode cX7_areSuspects 52 = .ok (.iload_n 2, 1) := by decide +kernel
theorem dX7_areSuspects_53 : decode cX7_areSuspects 53 = .ok (.if_icmp .ne 7, 3) := by decide +kernel
theorem dX7_areSuspects_56 : decode cX7_areSuspects 56 = .ok (.iconst 1, 1) := by decide +kernel
theorem dX7_areSuspects_57 : decode cX7_areSuspects 57 = .ok (.goto 4, 3) := by decide +kernel
theorem dX7_areSuspects_60 : decode cX7_areSuspects 60 = .ok (.iconst 0, 1) := by decide +kernel
theorem dX7_areSuspects_61 : decode cX7_areSuspects 61 = .ok (.ireturn, 1) := by decide +kernel
theorem dX7_suspects_0 : decode cX7_suspects 0 = .ok (.iload_n 1, 1) := by decide +kernel
theorem dX7_suspects_1 : decode cX7_suspects 1 = .ok (.i2l, 1) := by decide +kernel
theorem dX7_suspects_2 : decode cX7_suspects 2 = .ok (.lconst 0, 1) := by decide +kernel
theorem dX7_suspects_3 : decode cX7_suspects 3 = .ok (.iconst 1, 1) := by decide +kernel
theorem dX7_suspects_4 : decode cX7_suspects 4 = .ok (.aload_n 0, 1) := by decide +kernel
theorem dX7_suspects_5 : decode cX7_suspects 5 = .ok (.getfield 94, 3) := by decide +kernel
theorem dX7_suspects_8 : decode cX7_suspects 8 = .ok (.ishl, 1) := by decide +kernel
theorem dX7_suspects_9 : decode cX7_suspects 9 = .ok (.iconst 1, 1) := by decide +kernel
theorem dX7_suspects_10 : decode cX7_suspects 10 = .ok (.isub, 1) := by decide +kernel
theorem dX7_suspects_11 : decode cX7_suspects 11 = .ok (.i2l, 1) := by decide +kernel
theorem dX7_suspects_12 : decode cX7_suspects 12 = .ok (.invokestatic 47, 3) := by decide +kernel
theorem dX7_suspects_15 : decode cX7_suspects 15 = .ok (.ifCond .eq 15, 3) := by decide +kernel
theorem dX7_suspects_18 : decode cX7_suspects 18 = .ok (.iload_n 2, 1) := by decide +kernel
theorem dX7_suspects_19 : decode cX7_suspects 19 = .ok (.i2l, 1) := by decide +kernel
theorem dX7_suspects_20 : decode cX7_suspects 20 = .ok (.lconst 0, 1) := by decide +kernel
theorem dX7_suspects_21 : decode cX7_suspects 21 = .ok (.ldc2_w 205, 3) := by decide +kernel
theorem dX7_suspects_24 : decode cX7_suspects 24 = .ok (.invokestatic 47, 3) := by decide +kernel
theorem dX7_suspects_27 : decode cX7_suspects 27 = .ok (.ifCond .ne 6, 3) := by decide +kernel
theorem dX7_suspects_30 : decode cX7_suspects 30 = .ok (.bipush (-2), 2) := by decide +kernel
theorem dX7_suspects_32 : decode cX7_suspects 32 = .ok (.ireturn, 1) := by decide +kernel
theorem dX7_suspects_33 : decode cX7_suspects 33 = .ok (.iconst 0, 1) := by decide +kernel
theorem dX7_suspects_34 : decode cX7_suspects 34 = .ok (.istore_n 3, 1) := by decide +kernel
theorem dX7_suspects_35 : decode cX7_suspects 35 = .ok (.iconst 1, 1) := by decide +kernel
theorem dX7_suspects_36 : decode cX7_suspects 36 = .ok (.aload_n 0, 1) := by decide +kernel
theorem dX7_suspects_37 : decode cX7_suspects 37 = .ok (.getfield 41, 3) := by decide +kernel
theorem dX7_suspects_40 : decode cX7_suspects 40 = .ok (.ishl, 1) := by decide +kernel
theorem dX7_suspects_41 : decode cX7_suspects 41 = .ok (.iconst 1, 1) := by decide +kernel
theorem dX7_suspects_42 : decode cX7_suspects 42 = .ok (.isub, 1) := by decide +kernel
theorem dX7_suspects_43 : decode cX7_suspects 43 = .ok (.istore 4, 2) := by decide +kernel
theorem dX7_suspects_45 : decode cX7_suspects 45 = .ok (.iconst 0, 1) := by decide +kernel
theorem dX7_suspects_46 : decode cX7_suspects 46 = .ok (.istore 5, 2) := by decide +kernel
theorem dX7_suspects_48 : decode cX7_suspects 48 = .ok (.iconst 0, 1) := by decide +kernel
theorem dX7_suspects_49 : decode cX7_suspects 49 = .ok (.istore 6, 2) := by decide +kernel
theorem dX7_suspects_51 : decode cX7_suspects 51 = .ok (.iload 6, 2) := by decide +kernel
theorem dX7_suspects_53 : decode cX7_suspects 53 = .ok (.iconst 1, 1) := by decide +kernel
theorem dX7_suspects_54 : decode cX7_suspects 54 = .ok (.aload_n 0, 1) := by decide +kernel
theorem dX7_suspects_55 : decode cX7_suspects 55 = .ok (.getfield 41, 3) := by decide +kernel
theorem dX7_suspects_58 : decode cX7_suspects 58 = .ok (.ishl, 1) := by decide +kernel
theorem dX7_suspects_59 : decode cX7_suspects 59 = .ok (.if_icmp .ge 36, 3) := by decide +kernel
theorem dX7_suspects_62 : decode cX7_suspects 62 = .ok (.aload_n 0, 1) := by decide +kernel
theorem dX7_suspects_63 : decode cX7_suspects 63 = .ok (.iload 6, 2) := by decide +kernel
theorem dX7_suspects_65 : decode cX7_suspects 65 = .ok (.iload_n 1, 1) := by decide +kernel
theorem dX7_suspects_66 : decode cX7_suspects 66 = .ok (.invokevirtual 207, 3) := by decide +kernel
theorem dX7_suspects_69 : decode cX7_suspects 69 = .ok (.ifCond .eq 20, 3) := by decide +kernel
theorem dX7_suspects_72 : decode cX7_suspects 72 = .ok (.iinc 3 1, 3) := by decide +kernel
theorem dX7_suspects_75 : decode cX7_suspects 75 = .ok (.iload 4, 2) := by decide +kernel
theorem dX7_suspects_77 : decode cX7_suspects 77 = .ok (.iload 6, 2) := by decide +kernel
theorem dX7_suspects_79 : decode cX7_suspects 79 = .ok (.iand, 1) := by decide +kernel
theorem dX7_suspects_80 : decode cX7_suspects 80 = .ok (.istore 4, 2) := by decide +kernel
theorem dX7_suspects_82 : decode cX7_suspects 82 = .ok (.iload 5, 2) := by decide +kernel
theorem dX7_suspects_84 : decode cX7_suspects 84 = .ok (.iload 6, 2) := by decide +kernel
theorem dX7_suspects_86 : decode cX7_suspects 86 = .ok (.ior, 1) := by decide +kernel
theorem dX7_suspects_87 : decode cX7_suspects 87 = .ok (.istore 5, 2) := by decide +kernel
theorem dX7_suspects_89 : decode cX7_suspects 89 = .ok (.iinc 6 1, 3) := by decide +kernel
theorem dX7_suspects_92 : decode cX7_suspects 92 = .ok (.goto (-41), 3) := by decide +kernel
theorem dX7_suspects_95 : decode cX7_suspects 95 = .ok (.iload_n 2, 1) := by decide +kernel
theorem dX7_suspects_96 : decode cX7_suspects 96 = .ok (.ifCond .ne 7, 3) := by decide +kernel
theorem dX7_suspects_99 : decode cX7_suspects 99 = .ok (.iload_n 3, 1) := by decide +kernel
theorem dX7_suspects_100 : decode cX7_suspects 100 = .ok (.goto 35, 3) := by decide +kernel
theorem dX7_suspects_103 : decode cX7_suspects 103 = .ok (.iload_n 3, 1) := by decide +kernel
theorem dX7_suspects_104 : decode cX7_suspects 104 = .ok (.ifCond .ne 8, 3) := by decide +kernel
theorem dX7_suspects_107 : decode cX7_suspects 107 = .ok (.bipush (-9), 2) := by decide +kernel
theorem dX7_suspects_109 : decode cX7_suspects 109 = .ok (.goto 26, 3) := by decide +kernel
theorem dX7_suspects_112 : decode cX7_suspects 112 = .ok (.iload_n 2, 1) := by decide +kernel
theorem dX7_suspects_113 : decode cX7_suspects 113 = .ok (.iconst 1, 1) := by decide +kernel
theorem dX7_suspects_114 : decode cX7_suspects 114 = .ok (.if_icmp .ne 8, 3) := by decide +kernel
theorem dX7_suspects_117 : decode cX7_suspects 117 = .ok (.iload 4, 2) := by decide +kernel
theorem dX7_suspects_119 : decode cX7_suspects 119 = .ok (.goto 16, 3) := by decide +kernel
theorem dX7_suspects_122 : decode cX7_suspects 122 = .ok (.iconst 1, 1) := by decide +kernel
theorem dX7_suspects_123 : decode cX7_suspects 123 = .ok (.aload_n 0, 1) := by decide +kernel
theorem dX7_suspects_124 : decode cX7_suspects 124 = .ok (.getfield 41, 3) := by decide +kernel
theorem dX7_suspects_127 : decode cX7_suspects 127 = .ok (.ishl, 1) := by decide +kernel
theorem dX7_suspects_128 : decode cX7_suspects 128 = .ok (.iconst 1, 1) := by decide +kernel
theorem dX7_suspects_129 : decode cX7_suspects 129 = .ok (.isub, 1) := by decide +kernel
theorem dX7_suspects_130 : decode cX7_suspects 130 = .ok (.iload 5, 2) := by decide +kernel
theorem dX7_suspects_132 : decode cX7_suspects 132 = .ok (.iconst (-1), 1) := by decide +kernel
theorem dX7_suspects_133 : decode cX7_suspects 133 = .ok (.ixor, 1) := by decide +kernel
theorem dX7_suspects_134 : decode cX7_suspects 134 = .ok (.iand, 1) := by decide +kernel
theorem dX7_suspects_135 : decode cX7_suspects 135 = .ok (.ireturn, 1) := by decide +kernel
theorem dX7_isChoice_0 : decode cX7_isChoice 0 = .ok (.iload_n 3, 1) := by decide +kernel
theorem dX7_isChoice_1 : decode cX7_isChoice 1 = .ok (.bipush 6, 2) := by decide +kernel
theorem dX7_isChoice_3 : decode cX7_isChoice 3 = .ok (.irem, 1) := by decide +kernel
theorem dX7_isChoice_4 : decode cX7_isChoice 4 = .ok (.iconst 1, 1) := by decide +kernel
theorem dX7_isChoice_5 : decode cX7_isChoice 5 = .ok (.isub, 1) := by decide +kernel
theorem dX7_isChoice_6 : decode cX7_isChoice 6 = .ok (.istore 4, 2) := by decide +kernel
theorem dX7_isChoice_8 : decode cX7_isChoice 8 = .ok (.iload 4, 2) := by decide +kernel
theorem dX7_isChoice_10 : decode cX7_isChoice 10 = .ok (.ifCond .lt 37, 3) := by decide +kernel
theorem dX7_isChoice_13 : decode cX7_isChoice 13 = .ok (.aload_n 0, 1) := by decide +kernel
theorem dX7_isChoice_14 : decode cX7_isChoice 14 = .ok (.iload 4, 2) := by decide +kernel
theorem dX7_isChoice_16 : decode cX7_isChoice 16 = .ok (.invokevirtual 108, 3) := by decide +kernel
theorem dX7_isChoice_19 : decode cX7_isChoice 19 = .ok (.ifCond .eq 32, 3) := by decide +kernel
theorem dX7_isChoice_22 : decode cX7_isChoice 22 = .ok (.aload_n 0, 1) := by decide +kernel
theorem dX7_isChoice_23 : decode cX7_isChoice 23 = .ok (.getfield 13, 3) := by decide +kernel
theorem dX7_isChoice_26 : decode cX7_isChoice 26 = .ok (.bipush 8, 2) := by decide +kernel
theorem dX7_isChoice_28 : decode cX7_isChoice 28 = .ok (.iload 4, 2) := by decide +kernel
theorem dX7_isChoice_30 : decode cX7_isChoice 30 = .ok (.iadd, 1) := by decide +kernel
theorem dX7_isChoice_31 : decode cX7_isChoice 31 = .ok (.iaload, 1) := by decide +kernel
theorem dX7_isChoice_32 : decode cX7_isChoice 32 = .ok (.iload_n 1, 1) := by decide +kernel
theorem dX7_isChoice_33 : decode cX7_isChoice 33 = .ok (.if_icmp .ne 18, 3) := by decide +kernel
theorem dX7_isChoice_36 : decode cX7_isChoice 36 = .ok (.aload_n 0, 1) := by decide +kernel
theorem dX7_isChoice_37 : decode cX7_isChoice 37 = .ok (.iconst 0, 1) := by decide +kernel
theorem dX7_isChoice_38 : decode cX7_isChoice 38 = .ok (.iload_n 2, 1) := by decide +kernel
theorem dX7_isChoice_39 : decode cX7_isChoice 39 = .ok (.iload 4, 2) := by decide +kernel
theorem dX7_isChoice_41 : decode cX7_isChoice 41 = .ok (.invokevirtual 129, 3) := by decide +kernel
theorem dX7_isChoice_44 : decode cX7_isChoice 44 = .ok (.ifCond .ne 7, 3) := by decide +kernel
theorem dX7_isChoice_47 : decode cX7_isChoice 47 = .ok (.iconst 1, 1) := by decide +kernel
theorem dX7_isChoice_48 : decode cX7_isChoice 48 = .ok (.goto 4, 3) := by decide +kernel
theorem dX7_isChoice_51 : decode cX7_isChoice 51 = .ok (.iconst 0, 1) := by decide +kernel
theorem dX7_isChoice_52 : decode cX7_isChoice 52 = .ok (.istore 5, 2) := by decide +kernel
theorem dX7_isChoice_54 : decode cX7_isChoice 54 = .ok (.iload 5, 2) := by decide +kernel
theorem dX7_isChoice_56 : decode cX7_isChoice 56 = .ok (.ifCond .eq 25, 3) := by decide +kernel
theorem dX7_isChoice_59 : decode cX7_isChoice 59 = .ok (.iload_n 3, 1) := by decide +kernel
theorem dX7_isChoice_60 : decode cX7_isChoice 60 = .ok (.bipush 6, 2) := by decide +kernel
theorem dX7_isChoice_62 : decode cX7_isChoice 62 = .ok (.idiv, 1) := by decide +kernel
theorem dX7_isChoice_63 : decode cX7_isChoice 63 = .ok (.aload_n 0, 1) := by decide +kernel
theorem dX7_isChoice_64 : decode cX7_isChoice 64 = .ok (.getfield 13, 3) := by decide +kernel
theorem dX7_isChoice_67 : decode cX7_isChoice 67 = .ok (.iconst 0, 1) := by decide +kernel
theorem dX7_isChoice_68 : decode cX7_isChoice 68 = .ok (.iload_n 1, 1) := by decide +kernel
theorem dX7_isChoice_69 : decode cX7_isChoice 69 = .ok (.iload_n 2, 1) := by decide +kernel
theorem dX7_isChoice_70 : decode cX7_isChoice 70 = .ok (.invokestatic 104, 3) := by decide +kernel
theorem dX7_isChoice_73 : decode cX7_isChoice 73 = .ok (.iaload, 1) := by decide +kernel
theorem dX7_isChoice_74 : decode cX7_isChoice 74 = .ok (.if_icmp .gt 7, 3) := by decide +kernel
theorem dX7_isChoice_77 : decode cX7_isChoice 77 = .ok (.iconst 1, 1) := by decide +kernel
theorem dX7_isChoice_78 : decode cX7_isChoice 78 = .ok (.goto 4, 3) := by decide +kernel
theorem dX7_isChoice_81 : decode cX7_isChoice 81 = .ok (.iconst 0, 1) := by decide +kernel
theorem dX7_isChoice_82 : decode cX7_isChoice 82 = .ok (.ireturn, 1) := by decide +kernel
theorem dX7_layGains_0 : decode cX7_layGains 0 = .ok (.iconst 0, 1) := by decide +kernel
theorem dX7_layGains_1 : decode cX7_layGains 1 = .ok (.istore_n 3, 1) := by decide +kernel
theorem dX7_layGains_2 : decode cX7_layGains 2 = .ok (.iload_n 3, 1) := by decide +kernel
theorem dX7_layGains_3 : decode cX7_layGains 3 = .ok (.bipush 24, 2) := by decide +kernel
theorem dX7_layGains_5 : decode cX7_layGains 5 = .ok (.if_icmp .ge 130, 3) := by decide +kernel
theorem dX7_layGains_8 : decode cX7_layGains 8 = .ok (.aload_n 0, 1) := by decide +kernel
theorem dX7_layGains_9 : decode cX7_layGains 9 = .ok (.getfield 13, 3) := by decide +kernel
theorem dX7_layGains_12 : decode cX7_layGains 12 = .ok (.iconst 0, 1) := by decide +kernel
theorem dX7_layGains_13 : decode cX7_layGains 13 = .ok (.iload_n 1, 1) := by decide +kernel
theorem dX7_layGains_14 : decode cX7_layGains 14 = .ok (.iload_n 2, 1) := by decide +kernel
theorem dX7_layGains_15 : decode cX7_layGains 15 = .ok (.invokestatic 104, 3) := by decide +kernel
theorem dX7_layGains_18 : decode cX7_layGains 18 = .ok (.iaload, 1) := by decide +kernel
theorem dX7_layGains_19 : decode cX7_layGains 19 = .ok (.iload_n 3, 1) := by decide +kernel
theorem dX7_layGains_20 : decode cX7_layGains 20 = .ok (.bipush 6, 2) := by decide +kernel
theorem dX7_layGains_22 : decode cX7_layGains 22 = .ok (.idiv, 1) := by decide +kernel
theorem dX7_layGains_23 : decode cX7_layGains 23 = .ok (.isub, 1) := by decide +kernel
theorem dX7_layGains_24 : decode cX7_layGains 24 = .ok (.istore 4, 2) := by decide +kernel
theorem dX7_layGains_26 : decode cX7_layGains 26 = .ok (.iload_n 3, 1) := by decide +kernel
theorem dX7_layGains_27 : decode cX7_layGains 27 = .ok (.bipush 6, 2) := by decide +kernel
theorem dX7_layGains_29 : decode cX7_layGains 29 = .ok (.irem, 1) := by decide +kernel
theorem dX7_layGains_30 : decode cX7_layGains 30 = .ok (.ifCond .ne 7, 3) := by decide +kernel
theorem dX7_layGains_33 : decode cX7_layGains 33 = .ok (.iconst 0, 1) := by decide +kernel
theorem dX7_layGains_34 : decode cX7_layGains 34 = .ok (.goto 17, 3) := by decide +kernel
theorem dX7_layGains_37 : decode cX7_layGains 37 = .ok (.aload_n 0, 1) := by decide +kernel
theorem dX7_layGains_38 : decode cX7_layGains 38 = .ok (.getfield 13, 3) := by decide +kernel
theorem dX7_layGains_41 : decode cX7_layGains 41 = .ok (.bipush 13, 2) := by decide +kernel
theorem dX7_layGains_43 : decode cX7_layGains 43 = .ok (.iload_n 3, 1) := by decide +kernel
theorem dX7_layGains_44 : decode cX7_layGains 44 = .ok (.bipush 6, 2) := by decide +kernel
theorem dX7_layGains_46 : decode cX7_layGains 46 = .ok (.irem, 1) := by decide +kernel
theorem dX7_layGains_47 : decode cX7_layGains 47 = .ok (.iadd, 1) := by decide +kernel
theorem dX7_layGains_48 : decode cX7_layGains 48 = .ok (.iconst 1, 1) := by decide +kernel
theorem dX7_layGains_49 : decode cX7_layGains 49 = .ok (.isub, 1) := by decide +kernel
theorem dX7_layGains_50 : decode cX7_layGains 50 = .ok (.iaload, 1) := by decide +kernel
theorem dX7_layGains_51 : decode cX7_layGains 51 = .ok (.istore 5, 2) := by decide +kernel
theorem dX7_layGains_53 : decode cX7_layGains 53 = .ok (.aload_n 0, 1) := by decide +kernel
theorem dX7_layGains_54 : decode cX7_layGains 54 = .ok (.getfield 28, 3) := by decide +kernel
theorem dX7_layGains_57 : decode cX7_layGains 57 = .ok (.iload_n 3, 1) := by decide +kernel
theorem dX7_layGains_58 : decode cX7_layGains 58 = .ok (.iload_n 3, 1) := by decide +kernel
theorem dX7_layGains_59 : decode cX7_layGains 59 = .ok (.bipush 6, 2) := by decide +kernel
theorem dX7_layGains_61 : decode cX7_layGains 61 = .ok (.idiv, 1) := by decide +kernel
theorem dX7_layGains_62 : decode cX7_layGains 62 = .ok (.ineg, 1) := by decide +kernel
theorem dX7_layGains_63 : decode cX7_layGains 63 = .ok (.iload 4, 2) := by decide +kernel
theorem dX7_layGains_65 : decode cX7_layGains 65 = .ok (.ifCond .le 8, 3) := by decide +kernel
theorem dX7_layGains_68 : decode cX7_layGains 68 = .ok (.iload 5, 2) := by decide +kernel
theorem dX7_layGains_70 : decode cX7_layGains 70 = .ok (.goto 4, 3) := by decide +kernel
theorem dX7_layGains_73 : decode cX7_layGains 73 = .ok (.iconst 0, 1) := by decide +kernel
theorem dX7_layGains_74 : decode cX7_layGains 74 = .ok (.isub, 1) := by decide +kernel
theorem dX7_layGains_75 : decode cX7_layGains 75 = .ok (.iastore, 1) := by decide +kernel
theorem dX7_layGains_76 : decode cX7_layGains 76 = .ok (.aload_n 0, 1) := by decide +kernel
theorem dX7_layGains_77 : decode cX7_layGains 77 = .ok (.getfield 31, 3) := by decide +kernel
theorem dX7_layGains_80 : decode cX7_layGains 80 = .ok (.iload_n 3, 1) := by decide +kernel
theorem dX7_layGains_81 : decode cX7_layGains 81 = .ok (.iload_n 3, 1) := by decide +kernel
theorem dX7_layGains_82 : decode cX7_layGains 82 = .ok (.bipush 6, 2) := by decide +kernel
theorem dX7_layGains_84 : decode cX7_layGains 84 = .ok (.idiv, 1) := by decide +kernel
theorem dX7_layGains_85 : decode cX7_layGains 85 = .ok (.iload 4, 2) := by decide +kernel
theorem dX7_layGains_87 : decode cX7_layGains 87 = .ok (.iload 5, 2) := by decide +kernel
theorem dX7_layGains_89 : decode cX7_layGains 89 = .ok (.if_icmp .le 8, 3) := by decide +kernel
theorem dX7_layGains_92 : decode cX7_layGains 92 = .ok (.iload 5, 2) := by decide +kernel
theorem dX7_layGains_94 : decode cX7_layGains 94 = .ok (.goto 5, 3) := by decide +kernel
theorem dX7_layGains_97 : decode cX7_layGains 97 = .ok (.iload 4, 2) := by decide +kernel
theorem dX7_layGains_99 : decode cX7_layGains 99 = .ok (.iadd, 1) := by decide +kernel
theorem dX7_layGains_100 : decode cX7_layGains 100 = .ok (.iconst 1, 1) := by decide +kernel
theorem dX7_layGains_101 : decode cX7_layGains 101 = .ok (.isub, 1) := by decide +kernel
theorem dX7_layGains_102 : decode cX7_layGains 102 = .ok (.iastore, 1) := by decide +kernel
theorem dX7_layGains_103 : decode cX7_layGains 103 = .ok (.aload_n 0, 1) := by decide +kernel
theorem dX7_layGains_104 : decode cX7_layGains 104 = .ok (.getfield 31, 3) := by decide +kernel
theorem dX7_layGains_107 : decode cX7_layGains 107 = .ok (.iload_n 3, 1) := by decide +kernel
theorem dX7_layGains_108 : decode cX7_layGains 108 = .ok (.iload_n 3, 1) := by decide +kernel
theorem dX7_layGains_109 : decode cX7_layGains 109 = .ok (.bipush 6, 2) := by decide +kernel
theorem dX7_layGains_111 : decode cX7_layGains 111 = .ok (.irem, 1) := by decide +kernel
theorem dX7_layGains_112 : decode cX7_layGains 112 = .ok (.ifCond .ne 10, 3) := by decide +kernel
theorem dX7_layGains_115 : decode cX7_layGains 115 = .ok (.iload_n 3, 1) := by decide +kernel
theorem dX7_layGains_116 : decode cX7_layGains 116 = .ok (.bipush 6, 2) := by decide +kernel
theorem dX7_layGains_118 : decode cX7_layGains 118 = .ok (.idiv, 1) := by decide +kernel
theorem dX7_layGains_119 : decode cX7_layGains 119 = .ok (.goto 9, 3) := by decide +kernel
theorem dX7_layGains_122 : decode cX7_layGains 122 = .ok (.aload_n 0, 1) := by decide +kernel
theorem dX7_layGains_123 : decode cX7_layGains 123 = .ok (.getfield 31, 3) := by decide +kernel
theorem dX7_layGains_126 : decode cX7_layGains 126 = .ok (.iload_n 3, 1) := by decide +kernel
theorem dX7_layGains_127 : decode cX7_layGains 127 = .ok (.iaload, 1) := by decide +kernel
theorem dX7_layGains_128 : decode cX7_layGains 128 = .ok (.iastore, 1) := by decide +kernel
theorem dX7_layGains_129 : decode cX7_layGains 129 = .ok (.iinc 3 1, 3) := by decide +kernel
theorem dX7_layGains_132 : decode cX7_layGains 132 = .ok (.goto (-130), 3) := by decide +kernel
theorem dX7_layGains_135 : decode cX7_layGains 135 = .ok (.return_, 1) := by decide +kernel
theorem dX7_isRest_0 : decode cX7_isRest 0 = .ok (.aload_n 0, 1) := by decide +kernel
theorem dX7_isRest_1 : decode cX7_isRest 1 = .ok (.iload_n 1, 1) := by decide +kernel
theorem dX7_isRest_2 : decode cX7_isRest 2 = .ok (.iload_n 2, 1) := by decide +kernel
theorem dX7_isRest_3 : decode cX7_isRest 3 = .ok (.iload_n 3, 1) := by decide +kernel
theorem dX7_isRest_4 : decode cX7_isRest 4 = .ok (.invokevirtual 210, 3) := by decide +kernel
theorem dX7_isRest_7 : decode cX7_isRest 7 = .ok (.istore 4, 2) := by decide +kernel
theorem dX7_isRest_9 : decode cX7_isRest 9 = .ok (.iconst 0, 1) := by decide +kernel
theorem dX7_isRest_10 : decode cX7_isRest 10 = .ok (.istore 5, 2) := by decide +kernel
theorem dX7_isRest_12 : decode cX7_isRest 12 = .ok (.iload 5, 2) := by decide +kernel
theorem dX7_isRest_14 : decode cX7_isRest 14 = .ok (.iconst 4, 1) := by decide +kernel
theorem dX7_isRest_15 : decode cX7_isRest 15 = .ok (.if_icmp .ge 60, 3) := by decide +kernel
theorem dX7_isRest_18 : decode cX7_isRest 18 = .ok (.bipush 6, 2) := by decide +kernel
theorem dX7_isRest_20 : decode cX7_isRest 20 = .ok (.iload 5, 2) := by decide +kernel
theorem dX7_isRest_22 : decode cX7_isRest 22 = .ok (.imul, 1) := by decide +kernel
theorem dX7_isRest_23 : decode cX7_isRest 23 = .ok (.iload_n 3, 1) := by decide +kernel
theorem dX7_isRest_24 : decode cX7_isRest 24 = .ok (.bipush 6, 2) := by decide +kernel
theorem dX7_isRest_26 : decode cX7_isRest 26 = .ok (.irem, 1) := by decide +kernel
theorem dX7_isRest_27 : decode cX7_isRest 27 = .ok (.iadd, 1) := by decide +kernel
theorem dX7_isRest_28 : decode cX7_isRest 28 = .ok (.istore 6, 2) := by decide +kernel
theorem dX7_isRest_30 : decode cX7_isRest 30 = .ok (.iload 4, 2) := by decide +kernel
theorem dX7_isRest_32 : decode cX7_isRest 32 = .ok (.ifCond .eq 34, 3) := by decide +kernel
theorem dX7_isRest_35 : decode cX7_isRest 35 = .ok (.aload_n 0, 1) := by decide +kernel
theorem dX7_isRest_36 : decode cX7_isRest 36 = .ok (.iload_n 1, 1) := by decide +kernel
theorem dX7_isRest_37 : decode cX7_isRest 37 = .ok (.iload_n 2, 1) := by decide +kernel
theorem dX7_isRest_38 : decode cX7_isRest 38 = .ok (.iload 6, 2) := by decide +kernel
theorem dX7_isRest_40 : decode cX7_isRest 40 = .ok (.invokevirtual 210, 3) := by decide +kernel
theorem dX7_isRest_43 : decode cX7_isRest 43 = .ok (.ifCond .eq 19, 3) := by decide +kernel
theorem dX7_isRest_46 : decode cX7_isRest 46 = .ok (.aload_n 0, 1) := by decide +kernel
theorem dX7_isRest_47 : decode cX7_isRest 47 = .ok (.getfield 28, 3) := by decide +kernel
theorem dX7_isRest_50 : decode cX7_isRest 50 = .ok (.iload 6, 2) := by decide +kernel
theorem dX7_isRest_52 : decode cX7_isRest 52 = .ok (.iaload, 1) := by decide +kernel
theorem dX7_isRest_53 : decode cX7_isRest 53 = .ok (.aload_n 0, 1) := by decide +kernel
theorem dX7_isRest_54 : decode cX7_isRest 54 = .ok (.getfield 28, 3) := by decide +kernel
theorem dX7_isRest_57 : decode cX7_isRest 57 = .ok (.iload_n 3, 1) := by decide +kernel
theorem dX7_isRest_58 : decode cX7_isRest 58 = .ok (.iaload, 1) := by decide +kernel
theorem dX7_isRest_59 : decode cX7_isRest 59 = .ok (.if_icmp .gt 7, 3) := by decide +kernel
theorem dX7_isRest_62 : decode cX7_isRest 62 = .ok (.iconst 1, 1) := by decide +kernel
theorem dX7_isRest_63 : decode cX7_isRest 63 = .ok (.goto 4, 3) := by decide +kernel
theorem dX7_isRest_66 : decode cX7_isRest 66 = .ok (.iconst 0, 1) := by decide +kernel
theorem dX7_isRest_67 : decode cX7_isRest 67 = .ok (.istore 4, 2) := by decide +kernel
theorem dX7_isRest_69 : decode cX7_isRest 69 = .ok (.iinc 5 1, 3) := by decide +kernel
theorem dX7_isRest_72 : decode cX7_isRest 72 = .ok (.goto (-60), 3) := by decide +kernel
theorem dX7_isRest_75 : decode cX7_isRest 75 = .ok (.iconst 0, 1) := by decide +kernel
theorem dX7_isRest_76 : decode cX7_isRest 76 = .ok (.istore 5, 2) := by decide +kernel
theorem dX7_isRest_78 : decode cX7_isRest 78 = .ok (.iload 5, 2) := by decide +kernel
theorem dX7_isRest_80 : decode cX7_isRest 80 = .ok (.bipush 6, 2) := by decide +kernel
theorem dX7_isRest_82 : decode cX7_isRest 82 = .ok (.if_icmp .ge 59, 3) := by decide +kernel
theorem dX7_isRest_85 : decode cX7_isRest 85 = .ok (.iload_n 3, 1) := by decide +kernel
theorem dX7_isRest_86 : decode cX7_isRest 86 = .ok (.iload_n 3, 1) := by decide +kernel
theorem dX7_isRest_87 : decode cX7_isRest 87 = .ok (.bipush 6, 2) := by decide +kernel
theorem dX7_isRest_89 : decode cX7_isRest 89 = .ok (.irem, 1) := by decide +kernel
theorem dX7_isRest_90 : decode cX7_isRest 90 = .ok (.isub, 1) := by decide +kernel
theorem dX7_isRest_91 : decode cX7_isRest 91 = .ok (.iload 5, 2) := by decide +kernel
theorem dX7_isRest_93 : decode cX7_isRest 93 = .ok (.iadd, 1) := by decide +kernel
theorem dX7_isRest_94 : decode cX7_isRest 94 = .ok (.istore 6, 2) := by decide +kernel
theorem dX7_isRest_96 : decode cX7_isRest 96 = .ok (.iload 4, 2) := by decide +kernel
theorem dX7_isRest_98 : decode cX7_isRest 98 = .ok (.ifCond .eq 34, 3) := by decide +kernel
theorem dX7_isRest_101 : decode cX7_isRest 101 = .ok (.aload_n 0, 1) := by decide +kernel
theorem dX7_isRest_102 : decode cX7_isRest 102 = .ok (.iload_n 1, 1) := by decide +kernel
theorem dX7_isRest_103 : decode cX7_isRest 103 = .ok (.iload_n 2, 1) := by decide +kernel
theorem dX7_isRest_104 : decode cX7_isRest 104 = .ok (.iload 6, 2) := by decide +kernel
theorem dX7_isRest_106 : decode cX7_isRest 106 = .ok (.invokevirtual 210, 3) := by decide +kernel
theorem dX7_isRest_109 : decode cX7_isRest 109 = .ok (.ifCond .eq 19, 3) := by decide +kernel
theorem dX7_isRest_112 : decode cX7_isRest 112 = .ok (.aload_n 0, 1) := by decide +kernel
theorem dX7_isRest_113 : decode cX7_isRest 113 = .ok (.getfield 31, 3) := by decide +kernel
theorem dX7_isRest_116 : decode cX7_isRest 116 = .ok (.iload 6, 2) := by decide +kernel
theorem dX7_isRest_118 : decode cX7_isRest 118 = .ok (.iaload, 1) := by decide +kernel
theorem dX7_isRest_119 : decode cX7_isRest 119 = .ok (.aload_n 0, 1) := by decide +kernel
theorem dX7_isRest_120 : decode cX7_isRest 120 = .ok (.getfield 31, 3) := by decide +kernel
theorem dX7_isRest_123 : decode cX7_isRest 123 = .ok (.iload_n 3, 1) := by decide +kernel
theorem dX7_isRest_124 : decode cX7_isRest 124 = .ok (.iaload, 1) := by decide +kernel
theorem dX7_isRest_125 : decode cX7_isRest 125 = .ok (.if_icmp .gt 7, 3) := by decide +kernel
theorem dX7_isRest_128 : decode cX7_isRest 128 = .ok (.iconst 1, 1) := by decide +kernel
theorem dX7_isRest_129 : decode cX7_isRest 129 = .ok (.goto 4, 3) := by decide +kernel
theorem dX7_isRest_132 : decode cX7_isRest 132 = .ok (.iconst 0, 1) := by decide +kernel
theorem dX7_isRest_133 : decode cX7_isRest 133 = .ok (.istore 4, 2) := by decide +kernel
theorem dX7_isRest_135 : decode cX7_isRest 135 = .ok (.iinc 5 1, 3) := by decide +kernel
theorem dX7_isRest_138 : decode cX7_isRest 138 = .ok (.goto (-60), 3) := by decide +kernel
theorem dX7_isRest_141 : decode cX7_isRest 141 = .ok (.iload 4, 2) := by decide +kernel
theorem dX7_isRest_143 : decode cX7_isRest 143 = .ok (.ireturn, 1) := by decide +kernel
theorem dX7_rests_0 : decode cX7_rests 0 = .ok (.aload_n 0, 1) := by decide +kernel
theorem dX7_rests_1 : decode cX7_rests 1 = .ok (.iload_n 1, 1) := by decide +kernel
theorem dX7_rests_2 : decode cX7_rests 2 = .ok (.invokevirtual 100, 3) := by decide +kernel
theorem dX7_rests_5 : decode cX7_rests 5 = .ok (.ifCond .eq 11, 3) := by decide +kernel
theorem dX7_rests_8 : decode cX7_rests 8 = .ok (.aload_n 0, 1) := by decide +kernel
theorem dX7_rests_9 : decode cX7_rests 9 = .ok (.iload_n 2, 1) := by decide +kernel
theorem dX7_rests_10 : decode cX7_rests 10 = .ok (.invokevirtual 100, 3) := by decide +kernel
theorem dX7_rests_13 : decode cX7_rests 13 = .ok (.ifCond .ne 5, 3) := by decide +kernel
theorem dX7_rests_16 : decode cX7_rests 16 = .ok (.iconst (-1), 1) := by decide +kernel
theorem dX7_rests_17 : decode cX7_rests 17 = .ok (.ireturn, 1) := by decide +kernel
theorem dX7_rests_18 : decode cX7_rests 18 = .ok (.iload_n 1, 1) := by decide +kernel
theorem dX7_rests_19 : decode cX7_rests 19 = .ok (.iload_n 2, 1) := by decide +kernel
theorem dX7_rests_20 : decode cX7_rests 20 = .ok (.if_icmp .eq 13, 3) := by decide +kernel
theorem dX7_rests_23 : decode cX7_rests 23 = .ok (.iload_n 3, 1) := by decide +kernel
theorem dX7_rests_24 : decode cX7_rests 24 = .ok (.i2l, 1) := by decide +kernel
theorem dX7_rests_25 : decode cX7_rests 25 = .ok (.lconst 0, 1) := by decide +kernel
theorem dX7_rests_26 : decode cX7_rests 26 = .ok (.lconst 1, 1) := by decide +kernel
theorem dX7_rests_27 : decode cX7_rests 27 = .ok (.invokestatic 47, 3) := by decide +kernel
theorem dX7_rests_30 : decode cX7_rests 30 = .ok (.ifCond .ne 6, 3) := by decide +kernel
theorem dX7_rests_33 : decode cX7_rests 33 = .ok (.bipush (-2), 2) := by decide +kernel
theorem dX7_rests_35 : decode cX7_rests 35 = .ok (.ireturn, 1) := by decide +kernel
theorem dX7_rests_36 : decode cX7_rests 36 = .ok (.aload_n 0, 1) := by decide +kernel
theorem dX7_rests_37 : decode cX7_rests 37 = .ok (.getfield 13, 3) := by decide +kernel
theorem dX7_rests_40 : decode cX7_rests 40 = .ok (.iconst 0, 1) := by decide +kernel
theorem dX7_rests_41 : decode cX7_rests 41 = .ok (.iload_n 1, 1) := by decide +kernel
theorem dX7_rests_42 : decode cX7_rests 42 = .ok (.iload_n 2, 1) := by decide +kernel
theorem dX7_rests_43 : decode cX7_rests 43 = .ok (.invokestatic 104, 3) := by decide +kernel
theorem dX7_rests_46 : decode cX7_rests 46 = .ok (.iaload, 1) := by decide +kernel
theorem dX7_rests_47 : decode cX7_rests 47 = .ok (.ifCond .ne 6, 3) := by decide +kernel
theorem dX7_rests_50 : decode cX7_rests 50 = .ok (.bipush (-9), 2) := by decide +kernel
theorem dX7_rests_52 : decode cX7_rests 52 = .ok (.ireturn, 1) := by decide +kernel
theorem dX7_rests_53 : decode cX7_rests 53 = .ok (.aload_n 0, 1) := by decide +kernel
theorem dX7_rests_54 : decode cX7_rests 54 = .ok (.iload_n 1, 1) := by decide +kernel
theorem dX7_rests_55 : decode cX7_rests 55 = .ok (.iload_n 2, 1) := by decide +kernel
theorem dX7_rests_56 : decode cX7_rests 56 = .ok (.invokevirtual 214, 3) := by decide +kernel
theorem dX7_rests_59 : decode cX7_rests 59 = .ok (.iconst 0, 1) := by decide +kernel
theorem dX7_rests_60 : decode cX7_rests 60 = .ok (.istore 4, 2) := by decide +kernel
theorem dX7_rests_62 : decode cX7_rests 62 = .ok (.bipush (-9), 2) := by decide +kernel
theorem dX7_rests_64 : decode cX7_rests 64 = .ok (.istore 5, 2) := by decide +kernel
theorem dX7_rests_66 : decode cX7_rests 66 = .ok (.iconst 0, 1) := by decide +kernel
theorem dX7_rests_67 : decode cX7_rests 67 = .ok (.istore 6, 2) := by decide +kernel
theorem dX7_rests_69 : decode cX7_rests 69 = .ok (.iload 6, 2) := by decide +kernel
theorem dX7_rests_71 : decode cX7_rests 71 = .ok (.bipush 24, 2) := by decide +kernel
theorem dX7_rests_73 : decode cX7_rests 73 = .ok (.if_icmp .ge 49, 3) := by decide +kernel
theorem dX7_rests_76 : decode cX7_rests 76 = .ok (.aload_n 0, 1) := by decide +kernel
theorem dX7_rests_77 : decode cX7_rests 77 = .ok (.iload_n 1, 1) := by decide +kernel
theorem dX7_rests_78 : decode cX7_rests 78 = .ok (.iload_n 2, 1) := by decide +kernel
theorem dX7_rests_79 : decode cX7_rests 79 = .ok (.iload 6, 2) := by decide +kernel
theorem dX7_rests_81 : decode cX7_rests 81 = .ok (.invokevirtual 217, 3) := by decide +kernel
theorem dX7_rests_84 : decode cX7_rests 84 = .ok (.ifCond .eq 32, 3) := by decide +kernel
theorem dX7_rests_87 : decode cX7_rests 87 = .ok (.iload 4, 2) := by decide +kernel
theorem dX7_rests_89 : decode cX7_rests 89 = .ok (.ifCond .ne 20, 3) := by decide +kernel
theorem dX7_rests_92 : decode cX7_rests 92 = .ok (.bipush 10, 2) := by decide +kernel
theorem dX7_rests_94 : decode cX7_rests 94 = .ok (.iload 6, 2) := by decide +kernel
theorem dX7_rests_96 : decode cX7_rests 96 = .ok (.bipush 6, 2) := by decide +kernel
theorem dX7_rests_98 : decode cX7_rests 98 = .ok (.idiv, 1) := by decide +kernel
theorem dX7_rests_99 : decode cX7_rests 99 = .ok (.imul, 1) := by decide +kernel
theorem dX7_rests_100 : decode cX7_rests 100 = .ok (.iload 6, 2) := by decide +kernel
theorem dX7_rests_102 : decode cX7_rests 102 = .ok (.bipush 6, 2) := by decide +kernel
theorem dX7_rests_104 : decode cX7_rests 104 = .ok (.irem, 1) := by decide +kernel
theorem dX7_rests_105 : decode cX7_rests 105 = .ok (.iadd, 1) := by decide +kernel
theorem dX7_rests_106 : decode cX7_rests 106 = .ok (.goto 5, 3) := by decide +kernel
theorem dX7_rests_109 : decode cX7_rests 109 = .ok (.iload 5, 2) := by decide +kernel
theorem dX7_rests_111 : decode cX7_rests 111 = .ok (.istore 5, 2) := by decide +kernel
theorem dX7_rests_113 : decode cX7_rests 113 = .ok (.iinc 4 1, 3) := by decide +kernel
theorem dX7_rests_116 : decode cX7_rests 116 = .ok (.iinc 6 1, 3) := by decide +kernel
theorem dX7_rests_119 : decode cX7_rests 119 = .ok (.goto (-50), 3) := by decide +kernel
theorem dX7_rests_122 : decode cX7_rests 122 = .ok (.iload_n 3, 1) := by decide +kernel
theorem dX7_rests_123 : decode cX7_rests 123 = .ok (.ifCond .ne 8, 3) := by decide +kernel
theorem dX7_rests_126 : decode cX7_rests 126 = .ok (.iload 4, 2) := by decide +kernel
theorem dX7_rests_128 : decode cX7_rests 128 = .ok (.goto 5, 3) := by decide +kernel
theorem dX7_rests_131 : decode cX7_rests 131 = .ok (.iload 5, 2) := by decide +kernel
theorem dX7_rests_133 : decode cX7_rests 133 = .ok (.ireturn, 1) := by decide +kernel
theorem dX7_chance_0 : decode cX7_chance 0 = .ok (.iload_n 1, 1) := by decide +kernel
theorem dX7_chance_1 : decode cX7_chance 1 = .ok (.i2l, 1) := by decide +kernel
theorem dX7_chance_2 : decode cX7_chance 2 = .ok (.lconst 0, 1) := by decide +kernel
theorem dX7_chance_3 : decode cX7_chance 3 = .ok (.ldc2_w 220, 3) := by decide +kernel
theorem dX7_chance_6 : decode cX7_chance 6 = .ok (.invokestatic 47, 3) := by decide +kernel
theorem dX7_chance_9 : decode cX7_chance 9 = .ok (.ifCond .eq 15, 3) := by decide +kernel
theorem dX7_chance_12 : decode cX7_chance 12 = .ok (.iload_n 2, 1) := by decide +kernel
theorem dX7_chance_13 : decode cX7_chance 13 = .ok (.i2l, 1) := by decide +kernel
theorem dX7_chance_14 : decode cX7_chance 14 = .ok (.lconst 0, 1) := by decide +kernel
theorem dX7_chance_15 : decode cX7_chance 15 = .ok (.ldc2_w 189, 3) := by decide +kernel
theorem dX7_chance_18 : decode cX7_chance 18 = .ok (.invokestatic 47, 3) := by decide +kernel
theorem dX7_chance_21 : decode cX7_chance 21 = .ok (.ifCond .ne 6, 3) := by decide +kernel
theorem dX7_chance_24 : decode cX7_chance 24 = .ok (.bipush (-2), 2) := by decide +kernel
theorem dX7_chance_26 : decode cX7_chance 26 = .ok (.ireturn, 1) := by decide +kernel
theorem dX7_chance_27 : decode cX7_chance 27 = .ok (.aload_n 0, 1) := by decide +kernel
theorem dX7_chance_28 : decode cX7_chance 28 = .ok (.invokevirtual 138, 3) := by decide +kernel
theorem dX7_chance_31 : decode cX7_chance 31 = .ok (.invokestatic 141, 3) := by decide +kernel
theorem dX7_chance_34 : decode cX7_chance 34 = .ok (.istore 4, 2) := by decide +kernel
theorem dX7_chance_36 : decode cX7_chance 36 = .ok (.iconst 0, 1) := by decide +kernel
theorem dX7_chance_37 : decode cX7_chance 37 = .ok (.istore 5, 2) := by decide +kernel
theorem dX7_chance_39 : decode cX7_chance 39 = .ok (.iconst 0, 1) := by decide +kernel
theorem dX7_chance_40 : decode cX7_chance 40 = .ok (.istore 6, 2) := by decide +kernel
theorem dX7_chance_42 : decode cX7_chance 42 = .ok (.iconst 0, 1) := by decide +kernel
theorem dX7_chance_43 : decode cX7_chance 43 = .ok (.istore 7, 2) := by decide +kernel
theorem dX7_chance_45 : decode cX7_chance 45 = .ok (.iload 7, 2) := by decide +kernel
theorem dX7_chance_47 : decode cX7_chance 47 = .ok (.iconst 1, 1) := by decide +kernel
theorem dX7_chance_48 : decode cX7_chance 48 = .ok (.iload 4, 2) := by decide +kernel
theorem dX7_chance_50 : decode cX7_chance 50 = .ok (.ishl, 1) := by decide +kernel
theorem dX7_chance_51 : decode cX7_chance 51 = .ok (.if_icmp .ge 63, 3) := by decide +kernel
theorem dX7_chance_54 : decode cX7_chance 54 = .ok (.iload_n 2, 1) := by decide +kernel
theorem dX7_chance_55 : decode cX7_chance 55 = .ok (.iload 7, 2) := by decide +kernel
theorem dX7_chance_57 : decode cX7_chance 57 = .ok (.invokestatic 141, 3) := by decide +kernel
theorem dX7_chance_60 : decode cX7_chance 60 = .ok (.invokestatic 159, 3) := by decide +kernel
theorem dX7_chance_63 : decode cX7_chance 63 = .ok (.bipush 10, 2) := by decide +kernel
theorem dX7_chance_65 : decode cX7_chance 65 = .ok (.iload_n 2, 1) := by decide +kernel
theorem dX7_chance_66 : decode cX7_chance 66 = .ok (.isub, 1) := by decide +kernel
theorem dX7_chance_67 : decode cX7_chance 67 = .ok (.iload 4, 2) := by decide +kernel
theorem dX7_chance_69 : decode cX7_chance 69 = .ok (.iload 7, 2) := by decide +kernel
theorem dX7_chance_71 : decode cX7_chance 71 = .ok (.invokestatic 141, 3) := by decide +kernel
theorem dX7_chance_74 : decode cX7_chance 74 = .ok (.isub, 1) := by decide +kernel
theorem dX7_chance_75 : decode cX7_chance 75 = .ok (.invokestatic 159, 3) := by decide +kernel
theorem dX7_chance_78 : decode cX7_chance 78 = .ok (.imul, 1) := by decide +kernel
theorem dX7_chance_79 : decode cX7_chance 79 = .ok (.istore 8, 2) := by decide +kernel
theorem dX7_chance_81 : decode cX7_chance 81 = .ok (.iload 6, 2) := by decide +kernel
theorem dX7_chance_83 : decode cX7_chance 83 = .ok (.iload 8, 2) := by decide +kernel
theorem dX7_chance_85 : decode cX7_chance 85 = .ok (.iadd, 1) := by decide +kernel
theorem dX7_chance_86 : decode cX7_chance 86 = .ok (.istore 6, 2) := by decide +kernel
theorem dX7_chance_88 : decode cX7_chance 88 = .ok (.iload 5, 2) := by decide +kernel
theorem dX7_chance_90 : decode cX7_chance 90 = .ok (.iload 7, 2) := by decide +kernel
theorem dX7_chance_92 : decode cX7_chance 92 = .ok (.invokestatic 141, 3) := by decide +kernel
theorem dX7_chance_95 : decode cX7_chance 95 = .ok (.iload_n 1, 1) := by decide +kernel
theorem dX7_chance_96 : decode cX7_chance 96 = .ok (.if_icmp .ne 8, 3) := by decide +kernel
theorem dX7_chance_99 : decode cX7_chance 99 = .ok (.iload 8, 2) := by decide +kernel
theorem dX7_chance_101 : decode cX7_chance 101 = .ok (.goto 4, 3) := by decide +kernel
theorem dX7_chance_104 : decode cX7_chance 104 = .ok (.iconst 0, 1) := by decide +kernel
theorem dX7_chance_105 : decode cX7_chance 105 = .ok (.iadd, 1) := by decide +kernel
theorem dX7_chance_106 : decode cX7_chance 106 = .ok (.istore 5, 2) := by decide +kernel
theorem dX7_chance_108 : decode cX7_chance 108 = .ok (.iinc 7 1, 3) := by decide +kernel
theorem dX7_chance_111 : decode cX7_chance 111 = .ok (.goto (-66), 3) := by decide +kernel
theorem dX7_chance_114 : decode cX7_chance 114 = .ok (.iload 5, 2) := by decide +kernel
theorem dX7_chance_116 : decode cX7_chance 116 = .ok (.iload 6, 2) := by decide +kernel
theorem dX7_chance_118 : decode cX7_chance 118 = .ok (.invokestatic 177, 3) := by decide +kernel
theorem dX7_chance_121 : decode cX7_chance 121 = .ok (.istore 7, 2) := by decide +kernel
theorem dX7_chance_123 : decode cX7_chance 123 = .ok (.iload_n 3, 1) := by decide +kernel
theorem dX7_chance_124 : decode cX7_chance 124 = .ok (.ifCond .eq 11, 3) := by decide +kernel
theorem dX7_chance_127 : decode cX7_chance 127 = .ok (.iload 5, 2) := by decide +kernel
theorem dX7_chance_129 : decode cX7_chance 129 = .ok (.iload 7, 2) := by decide +kernel
theorem dX7_chance_131 : decode cX7_chance 131 = .ok (.idiv, 1) := by decide +kernel
theorem dX7_chance_132 : decode cX7_chance 132 = .ok (.goto 8, 3) := by decide +kernel
theorem dX7_chance_135 : decode cX7_chance 135 = .ok (.iload 6, 2) := by decide +kernel
theorem dX7_chance_137 : decode cX7_chance 137 = .ok (.iload 7, 2) := by decide +kernel
theorem dX7_chance_139 : decode cX7_chance 139 = .ok (.idiv, 1) := by decide +kernel
theorem dX7_chance_140 : decode cX7_chance 140 = .ok (.ireturn, 1) := by decide +kernel
theorem dX7_seed_0 : decode cX7_seed 0 = .ok (.aload_n 0, 1) := by decide +kernel
theorem dX7_seed_1 : decode cX7_seed 1 = .ok (.getfield 222, 3) := by decide +kernel
theorem dX7_seed_4 : decode cX7_seed 4 = .ok (.lstore_n 3, 1) := by decide +kernel
theorem dX7_seed_5 : decode cX7_seed 5 = .ok (.aload_n 0, 1) := by decide +kernel
theorem dX7_seed_6 : decode cX7_seed 6 = .ok (.lload_n 1, 1) := by decide +kernel
theorem dX7_seed_7 : decode cX7_seed 7 = .ok (.putfield 222, 3) := by decide +kernel
theorem dX7_seed_10 : decode cX7_seed 10 = .ok (.lload_n 3, 1) := by decide +kernel
theorem dX7_seed_11 : decode cX7_seed 11 = .ok (.lreturn, 1) := by decide +kernel
theorem dX7_allOwed_0 : decode cX7_allOwed 0 = .ok (.iconst 0, 1) := by decide +kernel
theorem dX7_allOwed_1 : decode cX7_allOwed 1 = .ok (.istore_n 2, 1) := by decide +kernel
theorem dX7_allOwed_2 : decode cX7_allOwed 2 = .ok (.iconst 0, 1) := by decide +kernel
theorem dX7_allOwed_3 : decode cX7_allOwed 3 = .ok (.istore_n 3, 1) := by decide +kernel
theorem dX7_allOwed_4 : decode cX7_allOwed 4 = .ok (.iload_n 3, 1) := by decide +kernel
theorem dX7_allOwed_5 : decode cX7_allOwed 5 = .ok (.bipush 16, 2) := by decide +kernel
theorem dX7_allOwed_7 : decode cX7_allOwed 7 = .ok (.if_icmp .ge 26, 3) := by decide +kernel
theorem dX7_allOwed_10 : decode cX7_allOwed 10 = .ok (.iload_n 2, 1) := by decide +kernel
theorem dX7_allOwed_11 : decode cX7_allOwed 11 = .ok (.aload_n 0, 1) := by decide +kernel
theorem dX7_allOwed_12 : decode cX7_allOwed 12 = .ok (.getfield 13, 3) := by decide +kernel
theorem dX7_allOwed_15 : decode cX7_allOwed 15 = .ok (.bipush 45, 2) := by decide +kernel
theorem dX7_allOwed_17 : decode cX7_allOwed 17 = .ok (.iload_n 1, 1) := by decide +kernel
theorem dX7_allOwed_18 : decode cX7_allOwed 18 = .ok (.imul, 1) := by decide +kernel
theorem dX7_allOwed_19 : decode cX7_allOwed 19 = .ok (.bipush 28, 2) := by decide +kernel
theorem dX7_allOwed_21 : decode cX7_allOwed 21 = .ok (.iadd, 1) := by decide +kernel
theorem dX7_allOwed_22 : decode cX7_allOwed 22 = .ok (.iload_n 3, 1) := by decide +kernel
theorem dX7_allOwed_23 : decode cX7_allOwed 23 = .ok (.iadd, 1) := by decide +kernel
theorem dX7_allOwed_24 : decode cX7_allOwed 24 = .ok (.iaload, 1) := by decide +kernel
theorem dX7_allOwed_25 : decode cX7_allOwed 25 = .ok (.iadd, 1) := by decide +kernel
theorem dX7_allOwed_26 : decode cX7_allOwed 26 = .ok (.istore_n 2, 1) := by decide +kernel
theorem dX7_allOwed_27 : decode cX7_allOwed 27 = .ok (.iinc 3 1, 3) := by decide +kernel
theorem dX7_allOwed_30 : decode cX7_allOwed 30 = .ok (.goto (-26), 3) := by decide +kernel
theorem dX7_allOwed_33 : decode cX7_allOwed 33 = .ok (.iload_n 2, 1) := by decide +kernel
theorem dX7_allOwed_34 : decode cX7_allOwed 34 = .ok (.ireturn, 1) := by decide +kernel
theorem dX7_villages_0 : decode cX7_villages 0 = .ok (.iload_n 1, 1) := by decide +kernel
theorem dX7_villages_1 : decode cX7_villages 1 = .ok (.i2l, 1) := by decide +kernel
theorem dX7_villages_2 : decode cX7_villages 2 = .ok (.lconst 1, 1) := by decide +kernel
theorem dX7_villages_3 : decode cX7_villages 3 = .ok (.ldc2_w 226, 3) := by decide +kernel
theorem dX7_villages_6 : decode cX7_villages 6 = .ok (.invokestatic 47, 3) := by decide +kernel
theorem dX7_villages_9 : decode cX7_villages 9 = .ok (.ifCond .ne 6, 3) := by decide +kernel
theorem dX7_villages_12 : decode cX7_villages 12 = .ok (.bipush (-2), 2) := by decide +kernel
theorem dX7_villages_14 : decode cX7_villages 14 = .ok (.ireturn, 1) := by decide +kernel
theorem dX7_villages_15 : decode cX7_villages 15 = .ok (.aload_n 0, 1) := by decide +kernel
theorem dX7_villages_16 : decode cX7_villages 16 = .ok (.invokevirtual 153, 3) := by decide +kernel
theorem dX7_villages_19 : decode cX7_villages 19 = .ok (.iconst 0, 1) := by decide +kernel
theorem dX7_villages_20 : decode cX7_villages 20 = .ok (.istore_n 2, 1) := by decide +kernel
theorem dX7_villages_21 : decode cX7_villages 21 = .ok (.iload_n 2, 1) := by decide +kernel
theorem dX7_villages_22 : decode cX7_villages 22 = .ok (.iload_n 1, 1) := by decide +kernel
theorem dX7_villages_23 : decode cX7_villages 23 = .ok (.if_icmp .ge 129, 3) := by decide +kernel
theorem dX7_villages_26 : decode cX7_villages 26 = .ok (.aload_n 0, 1) := by decide +kernel
theorem dX7_villages_27 : decode cX7_villages 27 = .ok (.aload_n 0, 1) := by decide +kernel
theorem dX7_villages_28 : decode cX7_villages 28 = .ok (.getfield 222, 3) := by decide +kernel
theorem dX7_villages_31 : decode cX7_villages 31 = .ok (.ldc2_w 228, 3) := by decide +kernel
theorem dX7_villages_34 : decode cX7_villages 34 = .ok (.lmul, 1) := by decide +kernel
theorem dX7_villages_35 : decode cX7_villages 35 = .ok (.ldc2_w 230, 3) := by decide +kernel
theorem dX7_villages_38 : decode cX7_villages 38 = .ok (.ladd, 1) := by decide +kernel
theorem dX7_villages_39 : decode cX7_villages 39 = .ok (.putfield 222, 3) := by decide +kernel
theorem dX7_villages_42 : decode cX7_villages 42 = .ok (.aload_n 0, 1) := by decide +kernel
theorem dX7_villages_43 : decode cX7_villages 43 = .ok (.getfield 222, 3) := by decide +kernel
theorem dX7_villages_46 : decode cX7_villages 46 = .ok (.bipush 33, 2) := by decide +kernel
theorem dX7_villages_48 : decode cX7_villages 48 = .ok (.lushr, 1) := by decide +kernel
theorem dX7_villages_49 : decode cX7_villages 49 = .ok (.ldc2_w 226, 3) := by decide +kernel
theorem dX7_villages_52 : decode cX7_villages 52 = .ok (.lrem, 1) := by decide +kernel
theorem dX7_villages_53 : decode cX7_villages 53 = .ok (.l2i, 1) := by decide +kernel
theorem dX7_villages_54 : decode cX7_villages 54 = .ok (.istore_n 3, 1) := by decide +kernel
theorem dX7_villages_55 : decode cX7_villages 55 = .ok (.aload_n 0, 1) := by decide +kernel
theorem dX7_villages_56 : decode cX7_villages 56 = .ok (.iload_n 3, 1) := by decide +kernel
theorem dX7_villages_57 : decode cX7_villages 57 = .ok (.bipush 6, 2) := by decide +kernel
theorem dX7_villages_59 : decode cX7_villages 59 = .ok (.idiv, 1) := by decide +kernel
theorem dX7_villages_60 : decode cX7_villages 60 = .ok (.invokevirtual 100, 3) := by decide +kernel
theorem dX7_villages_63 : decode cX7_villages 63 = .ok (.ifCond .eq 43, 3) := by decide +kernel
theorem dX7_villages_66 : decode cX7_villages 66 = .ok (.aload_n 0, 1) := by decide +kernel
theorem dX7_villages_67 : decode cX7_villages 67 = .ok (.iload_n 3, 1) := by decide +kernel
theorem dX7_villages_68 : decode cX7_villages 68 = .ok (.bipush 6, 2) := by decide +kernel
theorem dX7_villages_70 : decode cX7_villages 70 = .ok (.irem, 1) := by decide +kernel
theorem dX7_villages_71 : decode cX7_villages 71 = .ok (.invokevirtual 108, 3) := by decide +kernel
theorem dX7_villages_74 : decode cX7_villages 74 = .ok (.ifCond .eq 32, 3) := by decide +kernel
theorem dX7_villages_77 : decode cX7_villages 77 = .ok (.aload_n 0, 1) := by decide +kernel
theorem dX7_villages_78 : decode cX7_villages 78 = .ok (.iconst 1, 1) := by decide +kernel
theorem dX7_villages_79 : decode cX7_villages 79 = .ok (.iload_n 3, 1) := by decide +kernel
theorem dX7_villages_80 : decode cX7_villages 80 = .ok (.bipush 6, 2) := by decide +kernel
theorem dX7_villages_82 : decode cX7_villages 82 = .ok (.idiv, 1) := by decide +kernel
theorem dX7_villages_83 : decode cX7_villages 83 = .ok (.iload_n 3, 1) := by decide +kernel
theorem dX7_villages_84 : decode cX7_villages 84 = .ok (.bipush 6, 2) := by decide +kernel
theorem dX7_villages_86 : decode cX7_villages 86 = .ok (.irem, 1) := by decide +kernel
theorem dX7_villages_87 : decode cX7_villages 87 = .ok (.invokevirtual 129, 3) := by decide +kernel
theorem dX7_villages_90 : decode cX7_villages 90 = .ok (.ifCond .ne 16, 3) := by decide +kernel
theorem dX7_villages_93 : decode cX7_villages 93 = .ok (.aload_n 0, 1) := by decide +kernel
theorem dX7_villages_94 : decode cX7_villages 94 = .ok (.iconst 1, 1) := by decide +kernel
theorem dX7_villages_95 : decode cX7_villages 95 = .ok (.iload_n 3, 1) := by decide +kernel
theorem dX7_villages_96 : decode cX7_villages 96 = .ok (.bipush 6, 2) := by decide +kernel
theorem dX7_villages_98 : decode cX7_villages 98 = .ok (.irem, 1) := by decide +kernel
theorem dX7_villages_99 : decode cX7_villages 99 = .ok (.iload_n 3, 1) := by decide +kernel
theorem dX7_villages_100 : decode cX7_villages 100 = .ok (.bipush 6, 2) := by decide +kernel
theorem dX7_villages_102 : decode cX7_villages 102 = .ok (.idiv, 1) := by decide +kernel
theorem dX7_villages_103 : decode cX7_villages 103 = .ok (.invokevirtual 114, 3) := by decide +kernel
theorem dX7_villages_106 : decode cX7_villages 106 = .ok (.aload_n 0, 1) := by decide +kernel
theorem dX7_villages_107 : decode cX7_villages 107 = .ok (.iconst 1, 1) := by decide +kernel
theorem dX7_villages_108 : decode cX7_villages 108 = .ok (.invokevirtual 135, 3) := by decide +kernel
theorem dX7_villages_111 : decode cX7_villages 111 = .ok (.iconst 0, 1) := by decide +kernel
theorem dX7_villages_112 : decode cX7_villages 112 = .ok (.istore 4, 2) := by decide +kernel
theorem dX7_villages_114 : decode cX7_villages 114 = .ok (.iload 4, 2) := by decide +kernel
theorem dX7_villages_116 : decode cX7_villages 116 = .ok (.aload_n 0, 1) := by decide +kernel
theorem dX7_villages_117 : decode cX7_villages 117 = .ok (.getfield 94, 3) := by decide +kernel
theorem dX7_villages_120 : decode cX7_villages 120 = .ok (.if_icmp .ge 26, 3) := by decide +kernel
theorem dX7_villages_123 : decode cX7_villages 123 = .ok (.aload_n 0, 1) := by decide +kernel
theorem dX7_villages_124 : decode cX7_villages 124 = .ok (.iconst 1, 1) := by decide +kernel
theorem dX7_villages_125 : decode cX7_villages 125 = .ok (.iload 4, 2) := by decide +kernel
theorem dX7_villages_127 : decode cX7_villages 127 = .ok (.invokevirtual 147, 3) := by decide +kernel
theorem dX7_villages_130 : decode cX7_villages 130 = .ok (.ifCond .eq 10, 3) := by decide +kernel
theorem dX7_villages_133 : decode cX7_villages 133 = .ok (.aload_n 0, 1) := by decide +kernel
theorem dX7_villages_134 : decode cX7_villages 134 = .ok (.iconst 1, 1) := by decide +kernel
theorem dX7_villages_135 : decode cX7_villages 135 = .ok (.iload 4, 2) := by decide +kernel
theorem dX7_villages_137 : decode cX7_villages 137 = .ok (.invokevirtual 150, 3) := by decide +kernel
theorem dX7_villages_140 : decode cX7_villages 140 = .ok (.iinc 4 1, 3) := by decide +kernel
theorem dX7_villages_143 : decode cX7_villages 143 = .ok (.goto (-29), 3) := by decide +kernel
theorem dX7_villages_146 : decode cX7_villages 146 = .ok (.iinc 2 1, 3) := by decide +kernel
theorem dX7_villages_149 : decode cX7_villages 149 = .ok (.goto (-128), 3) := by decide +kernel
theorem dX7_villages_152 : decode cX7_villages 152 = .ok (.aload_n 0, 1) := by decide +kernel
theorem dX7_villages_153 : decode cX7_villages 153 = .ok (.iconst 1, 1) := by decide +kernel
theorem dX7_villages_154 : decode cX7_villages 154 = .ok (.invokevirtual 232, 3) := by decide +kernel
theorem dX7_villages_157 : decode cX7_villages 157 = .ok (.ireturn, 1) := by decide +kernel
theorem dX7_keep_0 : decode cX7_keep 0 = .ok (.iload_n 1, 1) := by decide +kernel
theorem dX7_keep_1 : decode cX7_keep 1 = .ok (.i2l, 1) := by decide +kernel
theorem dX7_keep_2 : decode cX7_keep 2 = .ok (.lconst 0, 1) := by decide +kernel
theorem dX7_keep_3 : decode cX7_keep 3 = .ok (.lconst 1, 1) := by decide +kernel
theorem dX7_keep_4 : decode cX7_keep 4 = .ok (.invokestatic 47, 3) := by decide +kernel
theorem dX7_keep_7 : decode cX7_keep 7 = .ok (.ifCond .ne 5, 3) := by decide +kernel
theorem dX7_keep_10 : decode cX7_keep 10 = .ok (.iconst (-1), 1) := by decide +kernel
theorem dX7_keep_11 : decode cX7_keep 11 = .ok (.ireturn, 1) := by decide +kernel
theorem dX7_keep_12 : decode cX7_keep 12 = .ok (.aload_n 0, 1) := by decide +kernel
theorem dX7_keep_13 : decode cX7_keep 13 = .ok (.getfield 34, 3) := by decide +kernel
theorem dX7_keep_16 : decode cX7_keep 16 = .ok (.iload_n 1, 1) := by decide +kernel
theorem dX7_keep_17 : decode cX7_keep 17 = .ok (.iconst 1, 1) := by decide +kernel
theorem dX7_keep_18 : decode cX7_keep 18 = .ok (.bastore, 1) := by decide +kernel
theorem dX7_keep_19 : decode cX7_keep 19 = .ok (.iconst 0, 1) := by decide +kernel
theorem dX7_keep_20 : decode cX7_keep 20 = .ok (.istore_n 2, 1) := by decide +kernel
theorem dX7_keep_21 : decode cX7_keep 21 = .ok (.iload_n 2, 1) := by decide +kernel
theorem dX7_keep_22 : decode cX7_keep 22 = .ok (.bipush 45, 2) := by decide +kernel
theorem dX7_keep_24 : decode cX7_keep 24 = .ok (.if_icmp .ge 26, 3) := by decide +kernel
theorem dX7_keep_27 : decode cX7_keep 27 = .ok (.aload_n 0, 1) := by decide +kernel
theorem dX7_keep_28 : decode cX7_keep 28 = .ok (.getfield 38, 3) := by decide +kernel
theorem dX7_keep_31 : decode cX7_keep 31 = .ok (.bipush 45, 2) := by decide +kernel
theorem dX7_keep_33 : decode cX7_keep 33 = .ok (.iload_n 1, 1) := by decide +kernel
theorem dX7_keep_34 : decode cX7_keep 34 = .ok (.imul, 1) := by decide +kernel
theorem dX7_keep_35 : decode cX7_keep 35 = .ok (.iload_n 2, 1) := by decide +kernel
theorem dX7_keep_36 : decode cX7_keep 36 = .ok (.iadd, 1) := by decide +kernel
theorem dX7_keep_37 : decode cX7_keep 37 = .ok (.aload_n 0, 1) := by decide +kernel
theorem dX7_keep_38 : decode cX7_keep 38 = .ok (.getfield 13, 3) := by decide +kernel
theorem dX7_keep_41 : decode cX7_keep 41 = .ok (.iload_n 2, 1) := by decide +kernel
theorem dX7_keep_42 : decode cX7_keep 42 = .ok (.iaload, 1) := by decide +kernel
theorem dX7_keep_43 : decode cX7_keep 43 = .ok (.iastore, 1) := by decide +kernel
theorem dX7_keep_44 : decode cX7_keep 44 = .ok (.iinc 2 1, 3) := by decide +kernel
theorem dX7_keep_47 : decode cX7_keep 47 = .ok (.goto (-26), 3) := by decide +kernel
theorem dX7_keep_50 : decode cX7_keep 50 = .ok (.aload_n 0, 1) := by decide +kernel
theorem dX7_keep_51 : decode cX7_keep 51 = .ok (.getfield 13, 3) := by decide +kernel
theorem dX7_keep_54 : decode cX7_keep 54 = .ok (.bipush 44, 2) := by decide +kernel
theorem dX7_keep_56 : decode cX7_keep 56 = .ok (.iaload, 1) := by decide +kernel
theorem dX7_keep_57 : decode cX7_keep 57 = .ok (.ireturn, 1) := by decide +kernel
theorem dX7_again_0 : decode cX7_again 0 = .ok (.iload_n 1, 1) := by decide +kernel
theorem dX7_again_1 : decode cX7_again 1 = .ok (.i2l, 1) := by decide +kernel
theorem dX7_again_2 : decode cX7_again 2 = .ok (.lconst 0, 1) := by decide +kernel
theorem dX7_again_3 : decode cX7_again 3 = .ok (.lconst 1, 1) := by decide +kernel
theorem dX7_again_4 : decode cX7_again 4 = .ok (.invokestatic 47, 3) := by decide +kernel
theorem dX7_again_7 : decode cX7_again 7 = .ok (.ifCond .ne 5, 3) := by decide +kernel
theorem dX7_again_10 : decode cX7_again 10 = .ok (.iconst (-1), 1) := by decide +kernel
theorem dX7_again_11 : decode cX7_again 11 = .ok (.ireturn, 1) := by decide +kernel
theorem dX7_again_12 : decode cX7_again 12 = .ok (.aload_n 0, 1) := by decide +kernel
theorem dX7_again_13 : decode cX7_again 13 = .ok (.getfield 34, 3) := by decide +kernel
theorem dX7_again_16 : decode cX7_again 16 = .ok (.iload_n 1, 1) := by decide +kernel
theorem dX7_again_17 : decode cX7_again 17 = .ok (.baload, 1) := by decide +kernel
theorem dX7_again_18 : decode cX7_again 18 = .ok (.ifCond .ne 6, 3) := by decide +kernel
theorem dX7_again_21 : decode cX7_again 21 = .ok (.bipush (-3), 2) := by decide +kernel
theorem dX7_again_23 : decode cX7_again 23 = .ok (.ireturn, 1) := by decide +kernel
theorem dX7_again_24 : decode cX7_again 24 = .ok (.iconst 0, 1) := by decide +kernel
theorem dX7_again_25 : decode cX7_again 25 = .ok (.istore_n 2, 1) := by decide +kernel
theorem dX7_again_26 : decode cX7_again 26 = .ok (.iload_n 2, 1) := by decide +kernel
theorem dX7_again_27 : decode cX7_again 27 = .ok (.bipush 45, 2) := by decide +kernel
theorem dX7_again_29 : decode cX7_again 29 = .ok (.if_icmp .ge 26, 3) := by decide +kernel
theorem dX7_again_32 : decode cX7_again 32 = .ok (.aload_n 0, 1) := by decide +kernel
theorem dX7_again_33 : decode cX7_again 33 = .ok (.getfield 13, 3) := by decide +kernel
theorem dX7_again_36 : decode cX7_again 36 = .ok (.iload_n 2, 1) := by decide +kernel
theorem dX7_again_37 : decode cX7_again 37 = .ok (.aload_n 0, 1) := by decide +kernel
theorem dX7_again_38 : decode cX7_again 38 = .ok (.getfield 38, 3) := by decide +kernel
theorem dX7_again_41 : decode cX7_again 41 = .ok (.bipush 45, 2) := by decide +kernel
theorem dX7_again_43 : decode cX7_again 43 = .ok (.iload_n 1, 1) := by decide +kernel
theorem dX7_again_44 : decode cX7_again 44 = .ok (.imul, 1) := by decide +kernel
theorem dX7_again_45 : decode cX7_again 45 = .ok (.iload_n 2, 1) := by decide +kernel
theorem dX7_again_46 : decode cX7_again 46 = .ok (.iadd, 1) := by decide +kernel
theorem dX7_again_47 : decode cX7_again 47 = .ok (.iaload, 1) := by decide +kernel
theorem dX7_again_48 : decode cX7_again 48 = .ok (.iastore, 1) := by decide +kernel
theorem dX7_again_49 : decode cX7_again 49 = .ok (.iinc 2 1, 3) := by decide +kernel
theorem dX7_again_52 : decode cX7_again 52 = .ok (.goto (-26), 3) := by decide +kernel
theorem dX7_again_55 : decode cX7_again 55 = .ok (.aload_n 0, 1) := by decide +kernel
theorem dX7_again_56 : decode cX7_again 56 = .ok (.iconst 0, 1) := by decide +kernel
theorem dX7_again_57 : decode cX7_again 57 = .ok (.putfield 97, 3) := by decide +kernel
theorem dX7_again_60 : decode cX7_again 60 = .ok (.aload_n 0, 1) := by decide +kernel
theorem dX7_again_61 : decode cX7_again 61 = .ok (.getfield 13, 3) := by decide +kernel
theorem dX7_again_64 : decode cX7_again 64 = .ok (.bipush 44, 2) := by decide +kernel
theorem dX7_again_66 : decode cX7_again 66 = .ok (.iaload, 1) := by decide +kernel
theorem dX7_again_67 : decode cX7_again 67 = .ok (.ireturn, 1) := by decide +kernel
theorem dX7_count_0 : decode cX7_count 0 = .ok (.iconst 0, 1) := by decide +kernel
theorem dX7_count_1 : decode cX7_count 1 = .ok (.istore_n 2, 1) := by decide +kernel
theorem dX7_count_2 : decode cX7_count 2 = .ok (.iconst 0, 1) := by decide +kernel
theorem dX7_count_3 : decode cX7_count 3 = .ok (.istore_n 3, 1) := by decide +kernel
theorem dX7_count_4 : decode cX7_count 4 = .ok (.iload_n 3, 1) := by decide +kernel
theorem dX7_count_5 : decode cX7_count 5 = .ok (.aload_n 0, 1) := by decide +kernel
theorem dX7_count_6 : decode cX7_count 6 = .ok (.getfield 94, 3) := by decide +kernel
theorem dX7_count_9 : decode cX7_count 9 = .ok (.if_icmp .ge 31, 3) := by decide +kernel
theorem dX7_count_12 : decode cX7_count 12 = .ok (.iload_n 2, 1) := by decide +kernel
theorem dX7_count_13 : decode cX7_count 13 = .ok (.aload_n 0, 1) := by decide +kernel
theorem dX7_count_14 : decode cX7_count 14 = .ok (.getfield 13, 3) := by decide +kernel
theorem dX7_count_17 : decode cX7_count 17 = .ok (.bipush 13, 2) := by decide +kernel
theorem dX7_count_19 : decode cX7_count 19 = .ok (.iload_n 3, 1) := by decide +kernel
theorem dX7_count_20 : decode cX7_count 20 = .ok (.iadd, 1) := by decide +kernel
theorem dX7_count_21 : decode cX7_count 21 = .ok (.iaload, 1) := by decide +kernel
theorem dX7_count_22 : decode cX7_count 22 = .ok (.ifCond .ne 9, 3) := by decide +kernel
theorem dX7_count_25 : decode cX7_count 25 = .ok (.iconst 1, 1) := by decide +kernel
theorem dX7_count_26 : decode cX7_count 26 = .ok (.iload_n 3, 1) := by decide +kernel
theorem dX7_count_27 : decode cX7_count 27 = .ok (.ishl, 1) := by decide +kernel
theorem dX7_count_28 : decode cX7_count 28 = .ok (.goto 4, 3) := by decide +kernel
theorem dX7_count_31 : decode cX7_count 31 = .ok (.iconst 0, 1) := by decide +kernel
theorem dX7_count_32 : decode cX7_count 32 = .ok (.ior, 1) := by decide +kernel
theorem dX7_count_33 : decode cX7_count 33 = .ok (.istore_n 2, 1) := by decide +kernel
theorem dX7_count_34 : decode cX7_count 34 = .ok (.iinc 3 1, 3) := by decide +kernel
theorem dX7_count_37 : decode cX7_count 37 = .ok (.goto (-33), 3) := by decide +kernel
theorem dX7_count_40 : decode cX7_count 40 = .ok (.iload_n 1, 1) := by decide +kernel
theorem dX7_count_41 : decode cX7_count 41 = .ok (.tableswitch 88 0 7 #[47, 52, 57, 62, 70, 75, 77, 83], 47) := by decide +kernel
theorem dX7_count_88 : decode cX7_count 88 = .ok (.aload_n 0, 1) := by decide +kernel
theorem dX7_count_89 : decode cX7_count 89 = .ok (.getfield 51, 3) := by decide +kernel
theorem dX7_count_92 : decode cX7_count 92 = .ok (.ireturn, 1) := by decide +kernel
theorem dX7_count_93 : decode cX7_count 93 = .ok (.aload_n 0, 1) := by decide +kernel
theorem dX7_count_94 : decode cX7_count 94 = .ok (.getfield 41, 3) := by decide +kernel
theorem dX7_count_97 : decode cX7_count 97 = .ok (.ireturn, 1) := by decide +kernel
theorem dX7_count_98 : decode cX7_count 98 = .ok (.aload_n 0, 1) := by decide +kernel
theorem dX7_count_99 : decode cX7_count 99 = .ok (.getfield 94, 3) := by decide +kernel
theorem dX7_count_102 : decode cX7_count 102 = .ok (.ireturn, 1) := by decide +kernel
theorem dX7_count_103 : decode cX7_count 103 = .ok (.aload_n 0, 1) := by decide +kernel
theorem dX7_count_104 : decode cX7_count 104 = .ok (.getfield 13, 3) := by decide +kernel
theorem dX7_count_107 : decode cX7_count 107 = .ok (.bipush 44, 2) := by decide +kernel
theorem dX7_count_109 : decode cX7_count 109 = .ok (.iaload, 1) := by decide +kernel
theorem dX7_count_110 : decode cX7_count 110 = .ok (.ireturn, 1) := by decide +kernel
theorem dX7_count_111 : decode cX7_count 111 = .ok (.aload_n 0, 1) := by decide +kernel
theorem dX7_count_112 : decode cX7_count 112 = .ok (.invokevirtual 138, 3) := by decide +kernel
theorem dX7_count_115 : decode cX7_count 115 = .ok (.ireturn, 1) := by decide +kernel
theorem dX7_count_116 : decode cX7_count 116 = .ok (.iload_n 2, 1) := by decide +kernel
theorem dX7_count_117 : decode cX7_count 117 = .ok (.ireturn, 1) := by decide +kernel
theorem dX7_count_118 : decode cX7_count 118 = .ok (.aload_n 0, 1) := by decide +kernel
theorem dX7_count_119 : decode cX7_count 119 = .ok (.iconst 0, 1) := by decide +kernel
theorem dX7_count_120 : decode cX7_count 120 = .ok (.invokevirtual 232, 3) := by decide +kernel
theorem dX7_count_123 : decode cX7_count 123 = .ok (.ireturn, 1) := by decide +kernel
theorem dX7_count_124 : decode cX7_count 124 = .ok (.aload_n 0, 1) := by decide +kernel
theorem dX7_count_125 : decode cX7_count 125 = .ok (.getfield 97, 3) := by decide +kernel
theorem dX7_count_128 : decode cX7_count 128 = .ok (.ireturn, 1) := by decide +kernel
theorem dX7_count_129 : decode cX7_count 129 = .ok (.bipush (-2), 2) := by decide +kernel
theorem dX7_count_131 : decode cX7_count 131 = .ok (.ireturn, 1) := by decide +kernel
theorem dJ6_bitCount_0f7a4_0 : decode cJ6_bitCount_0f7a4 0 = .ok (.iload_n 0, 1) := by decide +kernel
theorem dJ6_bitCount_0f7a4_1 : decode cJ6_bitCount_0f7a4 1 = .ok (.iload_n 0, 1) := by decide +kernel
theorem dJ6_bitCount_0f7a4_2 : decode cJ6_bitCount_0f7a4 2 = .ok (.iconst 1, 1) := by decide +kernel
theorem dJ6_bitCount_0f7a4_3 : decode cJ6_bitCount_0f7a4 3 = .ok (.iushr, 1) := by decide +kernel
theorem dJ6_bitCount_0f7a4_4 : decode cJ6_bitCount_0f7a4 4 = .ok (.ldc_w 265, 3) := by decide +kernel
theorem dJ6_bitCount_0f7a4_7 : decode cJ6_bitCount_0f7a4 7 = .ok (.iand, 1) := by decide +kernel
theorem dJ6_bitCount_0f7a4_8 : decode cJ6_bitCount_0f7a4 8 = .ok (.isub, 1) := by decide +kernel
theorem dJ6_bitCount_0f7a4_9 : decode cJ6_bitCount_0f7a4 9 = .ok (.istore_n 0, 1) := by decide +kernel
theorem dJ6_bitCount_0f7a4_10 : decode cJ6_bitCount_0f7a4 10 = .ok (.iload_n 0, 1) := by decide +kernel
theorem dJ6_bitCount_0f7a4_11 : decode cJ6_bitCount_0f7a4 11 = .ok (.ldc_w 266, 3) := by decide +kernel
theorem dJ6_bitCount_0f7a4_14 : decode cJ6_bitCount_0f7a4 14 = .ok (.iand, 1) := by decide +kernel
theorem dJ6_bitCount_0f7a4_15 : decode cJ6_bitCount_0f7a4 15 = .ok (.iload_n 0, 1) := by decide +kernel
theorem dJ6_bitCount_0f7a4_16 : decode cJ6_bitCount_0f7a4 16 = .ok (.iconst 2, 1) := by decide +kernel
theorem dJ6_bitCount_0f7a4_17 : decode cJ6_bitCount_0f7a4 17 = .ok (.iushr, 1) := by decide +kernel
theorem dJ6_bitCount_0f7a4_18 : decode cJ6_bitCount_0f7a4 18 = .ok (.ldc_w 266, 3) := by decide +kernel
theorem dJ6_bitCount_0f7a4_21 : decode cJ6_bitCount_0f7a4 21 = .ok (.iand, 1) := by decide +kernel
theorem dJ6_bitCount_0f7a4_22 : decode cJ6_bitCount_0f7a4 22 = .ok (.iadd, 1) := by decide +kernel
theorem dJ6_bitCount_0f7a4_23 : decode cJ6_bitCount_0f7a4 23 = .ok (.istore_n 0, 1) := by decide +kernel
theorem dJ6_bitCount_0f7a4_24 : decode cJ6_bitCount_0f7a4 24 = .ok (.iload_n 0, 1) := by decide +kernel
theorem dJ6_bitCount_0f7a4_25 : decode cJ6_bitCount_0f7a4 25 = .ok (.iload_n 0, 1) := by decide +kernel
theorem dJ6_bitCount_0f7a4_26 : decode cJ6_bitCount_0f7a4 26 = .ok (.iconst 4, 1) := by decide +kernel
theorem dJ6_bitCount_0f7a4_27 : decode cJ6_bitCount_0f7a4 27 = .ok (.iushr, 1) := by decide +kernel
theorem dJ6_bitCount_0f7a4_28 : decode cJ6_bitCount_0f7a4 28 = .ok (.iadd, 1) := by decide +kernel
theorem dJ6_bitCount_0f7a4_29 : decode cJ6_bitCount_0f7a4 29 = .ok (.ldc_w 267, 3) := by decide +kernel
theorem dJ6_bitCount_0f7a4_32 : decode cJ6_bitCount_0f7a4 32 = .ok (.iand, 1) := by decide +kernel
theorem dJ6_bitCount_0f7a4_33 : decode cJ6_bitCount_0f7a4 33 = .ok (.istore_n 0, 1) := by decide +kernel
theorem dJ6_bitCount_0f7a4_34 : decode cJ6_bitCount_0f7a4 34 = .ok (.iload_n 0, 1) := by decide +kernel
theorem dJ6_bitCount_0f7a4_35 : decode cJ6_bitCount_0f7a4 35 = .ok (.iload_n 0, 1) := by decide +kernel
theorem dJ6_bitCount_0f7a4_36 : decode cJ6_bitCount_0f7a4 36 = .ok (.bipush 8, 2) := by decide +kernel
theorem dJ6_bitCount_0f7a4_38 : decode cJ6_bitCount_0f7a4 38 = .ok (.iushr, 1) := by decide +kernel
theorem dJ6_bitCount_0f7a4_39 : decode cJ6_bitCount_0f7a4 39 = .ok (.iadd, 1) := by decide +kernel
theorem dJ6_bitCount_0f7a4_40 : decode cJ6_bitCount_0f7a4 40 = .ok (.istore_n 0, 1) := by decide +kernel
theorem dJ6_bitCount_0f7a4_41 : decode cJ6_bitCount_0f7a4 41 = .ok (.iload_n 0, 1) := by decide +kernel
theorem dJ6_bitCount_0f7a4_42 : decode cJ6_bitCount_0f7a4 42 = .ok (.iload_n 0, 1) := by decide +kernel
theorem dJ6_bitCount_0f7a4_43 : decode cJ6_bitCount_0f7a4 43 = .ok (.bipush 16, 2) := by decide +kernel
theorem dJ6_bitCount_0f7a4_45 : decode cJ6_bitCount_0f7a4 45 = .ok (.iushr, 1) := by decide +kernel
theorem dJ6_bitCount_0f7a4_46 : decode cJ6_bitCount_0f7a4 46 = .ok (.iadd, 1) := by decide +kernel
theorem dJ6_bitCount_0f7a4_47 : decode cJ6_bitCount_0f7a4 47 = .ok (.istore_n 0, 1) := by decide +kernel
theorem dJ6_bitCount_0f7a4_48 : decode cJ6_bitCount_0f7a4 48 = .ok (.iload_n 0, 1) := by decide +kernel
theorem dJ6_bitCount_0f7a4_49 : decode cJ6_bitCount_0f7a4 49 = .ok (.bipush 63, 2) := by decide +kernel
theorem dJ6_bitCount_0f7a4_51 : decode cJ6_bitCount_0f7a4 51 = .ok (.iand, 1) := by decide +kernel
theorem dJ6_bitCount_0f7a4_52 : decode cJ6_bitCount_0f7a4 52 = .ok (.ireturn, 1) := by decide +kernel
theorem dJ9_floorMod_7cf53_0 : decode cJ9_floorMod_7cf53 0 = .ok (.iload_n 0, 1) := by decide +kernel
theorem dJ9_floorMod_7cf53_1 : decode cJ9_floorMod_7cf53 1 = .ok (.iload_n 1, 1) := by decide +kernel
theorem dJ9_floorMod_7cf53_2 : decode cJ9_floorMod_7cf53 2 = .ok (.irem, 1) := by decide +kernel
theorem dJ9_floorMod_7cf53_3 : decode cJ9_floorMod_7cf53 3 = .ok (.istore_n 2, 1) := by decide +kernel
theorem dJ9_floorMod_7cf53_4 : decode cJ9_floorMod_7cf53 4 = .ok (.iload_n 0, 1) := by decide +kernel
theorem dJ9_floorMod_7cf53_5 : decode cJ9_floorMod_7cf53 5 = .ok (.iload_n 1, 1) := by decide +kernel
theorem dJ9_floorMod_7cf53_6 : decode cJ9_floorMod_7cf53 6 = .ok (.ixor, 1) := by decide +kernel
theorem dJ9_floorMod_7cf53_7 : decode cJ9_floorMod_7cf53 7 = .ok (.ifCond .ge 11, 3) := by decide +kernel
theorem dJ9_floorMod_7cf53_10 : decode cJ9_floorMod_7cf53 10 = .ok (.iload_n 2, 1) := by decide +kernel
theorem dJ9_floorMod_7cf53_11 : decode cJ9_floorMod_7cf53 11 = .ok (.ifCond .eq 7, 3) := by decide +kernel
theorem dJ9_floorMod_7cf53_14 : decode cJ9_floorMod_7cf53 14 = .ok (.iload_n 2, 1) := by decide +kernel
theorem dJ9_floorMod_7cf53_15 : decode cJ9_floorMod_7cf53 15 = .ok (.iload_n 1, 1) := by decide +kernel
theorem dJ9_floorMod_7cf53_16 : decode cJ9_floorMod_7cf53 16 = .ok (.iadd, 1) := by decide +kernel
theorem dJ9_floorMod_7cf53_17 : decode cJ9_floorMod_7cf53 17 = .ok (.ireturn, 1) := by decide +kernel
theorem dJ9_floorMod_7cf53_18 : decode cJ9_floorMod_7cf53 18 = .ok (.iload_n 2, 1) := by decide +kernel
theorem dJ9_floorMod_7cf53_19 : decode cJ9_floorMod_7cf53 19 = .ok (.ireturn, 1) := by decide +kernel
theorem dJ9_max_7cf53_0 : decode cJ9_max_7cf53 0 = .ok (.iload_n 0, 1) := by decide +kernel
theorem dJ9_max_7cf53_1 : decode cJ9_max_7cf53 1 = .ok (.iload_n 1, 1) := by decide +kernel
theorem dJ9_max_7cf53_2 : decode cJ9_max_7cf53 2 = .ok (.if_icmp .lt 7, 3) := by decide +kernel
theorem dJ9_max_7cf53_5 : decode cJ9_max_7cf53 5 = .ok (.iload_n 0, 1) := by decide +kernel
theorem dJ9_max_7cf53_6 : decode cJ9_max_7cf53 6 = .ok (.goto 4, 3) := by decide +kernel
theorem dJ9_max_7cf53_9 : decode cJ9_max_7cf53 9 = .ok (.iload_n 1, 1) := by decide +kernel
theorem dJ9_max_7cf53_10 : decode cJ9_max_7cf53 10 = .ok (.ireturn, 1) := by decide +kernel
theorem dJ9_min_7cf53_0 : decode cJ9_min_7cf53 0 = .ok (.iload_n 0, 1) := by decide +kernel
theorem dJ9_min_7cf53_1 : decode cJ9_min_7cf53 1 = .ok (.iload_n 1, 1) := by decide +kernel
theorem dJ9_min_7cf53_2 : decode cJ9_min_7cf53 2 = .ok (.if_icmp .gt 7, 3) := by decide +kernel
theorem dJ9_min_7cf53_5 : decode cJ9_min_7cf53 5 = .ok (.iload_n 0, 1) := by decide +kernel
theorem dJ9_min_7cf53_6 : decode cJ9_min_7cf53 6 = .ok (.goto 4, 3) := by decide +kernel
theorem dJ9_min_7cf53_9 : decode cJ9_min_7cf53 9 = .ok (.iload_n 1, 1) := by decide +kernel
theorem dJ9_min_7cf53_10 : decode cJ9_min_7cf53 10 = .ok (.ireturn, 1) := by decide +kernel
theorem dJ7_fill_53178_0 : decode cJ7_fill_53178 0 = .ok (.iconst 0, 1) := by decide +kernel
theorem dJ7_fill_53178_1 : decode cJ7_fill_53178 1 = .ok (.istore_n 2, 1) := by decide +kernel
theorem dJ7_fill_53178_2 : decode cJ7_fill_53178 2 = .ok (.aload_n 0, 1) := by decide +kernel
theorem dJ7_fill_53178_3 : decode cJ7_fill_53178 3 = .ok (.arraylength, 1) := by decide +kernel
theorem dJ7_fill_53178_4 : decode cJ7_fill_53178 4 = .ok (.istore_n 3, 1) := by decide +kernel
theorem dJ7_fill_53178_5 : decode cJ7_fill_53178 5 = .ok (.iload_n 2, 1) := by decide +kernel
theorem dJ7_fill_53178_6 : decode cJ7_fill_53178 6 = .ok (.iload_n 3, 1) := by decide +kernel
theorem dJ7_fill_53178_7 : decode cJ7_fill_53178 7 = .ok (.if_icmp .ge 13, 3) := by decide +kernel
theorem dJ7_fill_53178_10 : decode cJ7_fill_53178 10 = .ok (.aload_n 0, 1) := by decide +kernel
theorem dJ7_fill_53178_11 : decode cJ7_fill_53178 11 = .ok (.iload_n 2, 1) := by decide +kernel
theorem dJ7_fill_53178_12 : decode cJ7_fill_53178 12 = .ok (.iload_n 1, 1) := by decide +kernel
theorem dJ7_fill_53178_13 : decode cJ7_fill_53178 13 = .ok (.iastore, 1) := by decide +kernel
theorem dJ7_fill_53178_14 : decode cJ7_fill_53178 14 = .ok (.iinc 2 1, 3) := by decide +kernel
theorem dJ7_fill_53178_17 : decode cJ7_fill_53178 17 = .ok (.goto (-12), 3) := by decide +kernel
theorem dJ7_fill_53178_20 : decode cJ7_fill_53178 20 = .ok (.return_, 1) := by decide +kernel
theorem dL_law_0 : decode cL_law 0 = .ok (.new 7, 3) := by decide +kernel
theorem dL_law_3 : decode cL_law 3 = .ok (.dup, 1) := by decide +kernel
theorem dL_law_4 : decode cL_law 4 = .ok (.invokespecial 9, 3) := by decide +kernel
theorem dL_law_7 : decode cL_law 7 = .ok (.astore_n 1, 1) := by decide +kernel
theorem dL_law_8 : decode cL_law 8 = .ok (.new 10, 3) := by decide +kernel
theorem dL_law_11 : decode cL_law 11 = .ok (.dup, 1) := by decide +kernel
theorem dL_law_12 : decode cL_law 12 = .ok (.invokespecial 12, 3) := by decide +kernel
theorem dL_law_15 : decode cL_law 15 = .ok (.astore_n 2, 1) := by decide +kernel
theorem dL_law_16 : decode cL_law 16 = .ok (.iconst 0, 1) := by decide +kernel
theorem dL_law_17 : decode cL_law 17 = .ok (.istore_n 3, 1) := by decide +kernel
theorem dL_law_18 : decode cL_law 18 = .ok (.iload_n 3, 1) := by decide +kernel
theorem dL_law_19 : decode cL_law 19 = .ok (.aload_n 0, 1) := by decide +kernel
theorem dL_law_20 : decode cL_law 20 = .ok (.arraylength, 1) := by decide +kernel
theorem dL_law_21 : decode cL_law 21 = .ok (.iconst 4, 1) := by decide +kernel
theorem dL_law_22 : decode cL_law 22 = .ok (.isub, 1) := by decide +kernel
theorem dL_law_23 : decode cL_law 23 = .ok (.if_icmp .gt 1086, 3) := by decide +kernel
theorem dL_law_26 : decode cL_law 26 = .ok (.aload_n 0, 1) := by decide +kernel
theorem dL_law_27 : decode cL_law 27 = .ok (.iload_n 3, 1) := by decide +kernel
theorem dL_law_28 : decode cL_law 28 = .ok (.iaload, 1) := by decide +kernel
theorem dL_law_29 : decode cL_law 29 = .ok (.bipush 31, 2) := by decide +kernel
theorem dL_law_31 : decode cL_law 31 = .ok (.iand, 1) := by decide +kernel
theorem dL_law_32 : decode cL_law 32 = .ok (.tableswitch 1071 0 29 #[136, 159, 172, 185, 198, 231, 264, 297, 330, 343, 386, 409, 432, 445, 478, 511, 570, 609, 658, 681, 704, 767, 790, 823, 866, 925, 979, 1002, 1025, 1048], 136) := by decide +kernel
theorem dL_law_168 : decode cL_law 168 = .ok (.aload_n 1, 1) := by decide +kernel
theorem dL_law_169 : decode cL_law 169 = .ok (.aload_n 0, 1) := by decide +kernel
theorem dL_law_170 : decode cL_law 170 = .ok (.iload_n 3, 1) := by decide +kernel
theorem dL_law_171 : decode cL_law 171 = .ok (.iconst 1, 1) := by decide +kernel
theorem dL_law_172 : decode cL_law 172 = .ok (.iadd, 1) := by decide +kernel
theorem dL_law_173 : decode cL_law 173 = .ok (.iaload, 1) := by decide +kernel
theorem dL_law_174 : decode cL_law 174 = .ok (.invokevirtual 13, 3) := by decide +kernel
theorem dL_law_177 : decode cL_law 177 = .ok (.aload_n 2, 1) := by decide +kernel
theorem dL_law_178 : decode cL_law 178 = .ok (.aload_n 0, 1) := by decide +kernel
theorem dL_law_179 : decode cL_law 179 = .ok (.iload_n 3, 1) := by decide +kernel
theorem dL_law_180 : decode cL_law 180 = .ok (.iconst 1, 1) := by decide +kernel
theorem dL_law_181 : decode cL_law 181 = .ok (.iadd, 1) := by decide +kernel
theorem dL_law_182 : decode cL_law 182 = .ok (.iaload, 1) := by decide +kernel
theorem dL_law_183 : decode cL_law 183 = .ok (.invokevirtual 17, 3) := by decide +kernel
theorem dL_law_186 : decode cL_law 186 = .ok (.if_icmp .eq 917, 3) := by decide +kernel
theorem dL_law_189 : decode cL_law 189 = .ok (.iconst 0, 1) := by decide +kernel
theorem dL_law_190 : decode cL_law 190 = .ok (.ireturn, 1) := by decide +kernel
theorem dL_law_191 : decode cL_law 191 = .ok (.aload_n 1, 1) := by decide +kernel
theorem dL_law_192 : decode cL_law 192 = .ok (.invokevirtual 18, 3) := by decide +kernel
theorem dL_law_195 : decode cL_law 195 = .ok (.aload_n 2, 1) := by decide +kernel
theorem dL_law_196 : decode cL_law 196 = .ok (.invokevirtual 22, 3) := by decide +kernel
theorem dL_law_199 : decode cL_law 199 = .ok (.if_icmp .eq 904, 3) := by decide +kernel
theorem dL_law_202 : decode cL_law 202 = .ok (.iconst 0, 1) := by decide +kernel
theorem dL_law_203 : decode cL_law 203 = .ok (.ireturn, 1) := by decide +kernel
theorem dL_law_204 : decode cL_law 204 = .ok (.aload_n 1, 1) := by decide +kernel
theorem dL_law_205 : decode cL_law 205 = .ok (.invokevirtual 23, 3) := by decide +kernel
theorem dL_law_208 : decode cL_law 208 = .ok (.aload_n 2, 1) := by decide +kernel
theorem dL_law_209 : decode cL_law 209 = .ok (.invokevirtual 26, 3) := by decide +kernel
theorem dL_law_212 : decode cL_law 212 = .ok (.if_icmp .eq 891, 3) := by decide +kernel
theorem dL_law_215 : decode cL_law 215 = .ok (.iconst 0, 1) := by decide +kernel
theorem dL_law_216 : decode cL_law 216 = .ok (.ireturn, 1) := by decide +kernel
theorem dL_law_217 : decode cL_law 217 = .ok (.aload_n 1, 1) := by decide +kernel
theorem dL_law_218 : decode cL_law 218 = .ok (.invokevirtual 27, 3) := by decide +kernel
theorem dL_law_221 : decode cL_law 221 = .ok (.aload_n 2, 1) := by decide +kernel
theorem dL_law_222 : decode cL_law 222 = .ok (.invokevirtual 30, 3) := by decide +kernel
theorem dL_law_225 : decode cL_law 225 = .ok (.if_icmp .eq 878, 3) := by decide +kernel
theorem dL_law_228 : decode cL_law 228 = .ok (.iconst 0, 1) := by decide +kernel
theorem dL_law_229 : decode cL_law 229 = .ok (.ireturn, 1) := by decide +kernel
theorem dL_law_230 : decode cL_law 230 = .ok (.aload_n 1, 1) := by decide +kernel
theorem dL_law_231 : decode cL_law 231 = .ok (.aload_n 0, 1) := by decide +kernel
theorem dL_law_232 : decode cL_law 232 = .ok (.iload_n 3, 1) := by decide +kernel
theorem dL_law_233 : decode cL_law 233 = .ok (.iconst 1, 1) := by decide +kernel
theorem dL_law_234 : decode cL_law 234 = .ok (.iadd, 1) := by decide +kernel
theorem dL_law_235 : decode cL_law 235 = .ok (.iaload, 1) := by decide +kernel
theorem dL_law_236 : decode cL_law 236 = .ok (.aload_n 0, 1) := by decide +kernel
theorem dL_law_237 : decode cL_law 237 = .ok (.iload_n 3, 1) := by decide +kernel
theorem dL_law_238 : decode cL_law 238 = .ok (.iconst 2, 1) := by decide +kernel
theorem dL_law_239 : decode cL_law 239 = .ok (.iadd, 1) := by decide +kernel
theorem dL_law_240 : decode cL_law 240 = .ok (.iaload, 1) := by decide +kernel
theorem dL_law_241 : decode cL_law 241 = .ok (.invokevirtual 31, 3) := by decide +kernel
theorem dL_law_244 : decode cL_law 244 = .ok (.aload_n 2, 1) := by decide +kernel
theorem dL_law_245 : decode cL_law 245 = .ok (.aload_n 0, 1) := by decide +kernel
theorem dL_law_246 : decode cL_law 246 = .ok (.iload_n 3, 1) := by decide +kernel
theorem dL_law_247 : decode cL_law 247 = .ok (.iconst 1, 1) := by decide +kernel
theorem dL_law_248 : decode cL_law 248 = .ok (.iadd, 1) := by decide +kernel
theorem dL_law_249 : decode cL_law 249 = .ok (.iaload, 1) := by decide +kernel
theorem dL_law_250 : decode cL_law 250 = .ok (.aload_n 0, 1) := by decide +kernel
theorem dL_law_251 : decode cL_law 251 = .ok (.iload_n 3, 1) := by decide +kernel
theorem dL_law_252 : decode cL_law 252 = .ok (.iconst 2, 1) := by decide +kernel
theorem dL_law_253 : decode cL_law 253 = .ok (.iadd, 1) := by decide +kernel
theorem dL_law_254 : decode cL_law 254 = .ok (.iaload, 1) := by decide +kernel
theorem dL_law_255 : decode cL_law 255 = .ok (.invokevirtual 35, 3) := by decide +kernel
theorem dL_law_258 : decode cL_law 258 = .ok (.if_icmp .eq 845, 3) := by decide +kernel
theorem dL_law_261 : decode cL_law 261 = .ok (.iconst 0, 1) := by decide +kernel
theorem dL_law_262 : decode cL_law 262 = .ok (.ireturn, 1) := by decide +kernel
theorem dL_law_263 : decode cL_law 263 = .ok (.aload_n 1, 1) := by decide +kernel
theorem dL_law_264 : decode cL_law 264 = .ok (.aload_n 0, 1) := by decide +kernel
theorem dL_law_265 : decode cL_law 265 = .ok (.iload_n 3, 1) := by decide +kernel
theorem dL_law_266 : decode cL_law 266 = .ok (.iconst 1, 1) := by decide +kernel
theorem dL_law_267 : decode cL_law 267 = .ok (.iadd, 1) := by decide +kernel
theorem dL_law_268 : decode cL_law 268 = .ok (.iaload, 1) := by decide +kernel
theorem dL_law_269 : decode cL_law 269 = .ok (.aload_n 0, 1) := by decide +kernel
theorem dL_law_270 : decode cL_law 270 = .ok (.iload_n 3, 1) := by decide +kernel
theorem dL_law_271 : decode cL_law 271 = .ok (.iconst 2, 1) := by decide +kernel
theorem dL_law_272 : decode cL_law 272 = .ok (.iadd, 1) := by decide +kernel
theorem dL_law_273 : decode cL_law 273 = .ok (.iaload, 1) := by decide +kernel
theorem dL_law_274 : decode cL_law 274 = .ok (.invokevirtual 36, 3) := by decide +kernel
theorem dL_law_277 : decode cL_law 277 = .ok (.aload_n 2, 1) := by decide +kernel
theorem dL_law_278 : decode cL_law 278 = .ok (.aload_n 0, 1) := by decide +kernel
theorem dL_law_279 : decode cL_law 279 = .ok (.iload_n 3, 1) := by decide +kernel
theorem dL_law_280 : decode cL_law 280 = .ok (.iconst 1, 1) := by decide +kernel
theorem dL_law_281 : decode cL_law 281 = .ok (.iadd, 1) := by decide +kernel
theorem dL_law_282 : decode cL_law 282 = .ok (.iaload, 1) := by decide +kernel
theorem dL_law_283 : decode cL_law 283 = .ok (.aload_n 0, 1) := by decide +kernel
theorem dL_law_284 : decode cL_law 284 = .ok (.iload_n 3, 1) := by decide +kernel
theorem dL_law_285 : decode cL_law 285 = .ok (.iconst 2, 1) := by decide +kernel
theorem dL_law_286 : decode cL_law 286 = .ok (.iadd, 1) := by decide +kernel
theorem dL_law_287 : decode cL_law 287 = .ok (.iaload, 1) := by decide +kernel
theorem dL_law_288 : decode cL_law 288 = .ok (.invokevirtual 39, 3) := by decide +kernel
theorem dL_law_291 : decode cL_law 291 = .ok (.if_icmp .eq 812, 3) := by decide +kernel
theorem dL_law_294 : decode cL_law 294 = .ok (.iconst 0, 1) := by decide +kernel
theorem dL_law_295 : decode cL_law 295 = .ok (.ireturn, 1) := by decide +kernel
theorem dL_law_296 : decode cL_law 296 = .ok (.aload_n 1, 1) := by decide +kernel
theorem dL_law_297 : decode cL_law 297 = .ok (.aload_n 0, 1) := by decide +kernel
theorem dL_law_298 : decode cL_law 298 = .ok (.iload_n 3, 1) := by decide +kernel
theorem dL_law_299 : decode cL_law 299 = .ok (.iconst 1, 1) := by decide +kernel
theorem dL_law_300 : decode cL_law 300 = .ok (.iadd, 1) := by decide +kernel
theorem dL_law_301 : decode cL_law 301 = .ok (.iaload, 1) := by decide +kernel
theorem dL_law_302 : decode cL_law 302 = .ok (.aload_n 0, 1) := by decide +kernel
theorem dL_law_303 : decode cL_law 303 = .ok (.iload_n 3, 1) := by decide +kernel
theorem dL_law_304 : decode cL_law 304 = .ok (.iconst 2, 1) := by decide +kernel
theorem dL_law_305 : decode cL_law 305 = .ok (.iadd, 1) := by decide +kernel
theorem dL_law_306 : decode cL_law 306 = .ok (.iaload, 1) := by decide +kernel
theorem dL_law_307 : decode cL_law 307 = .ok (.invokevirtual 40, 3) := by decide +kernel
theorem dL_law_310 : decode cL_law 310 = .ok (.aload_n 2, 1) := by decide +kernel
theorem dL_law_311 : decode cL_law 311 = .ok (.aload_n 0, 1) := by decide +kernel
theorem dL_law_312 : decode cL_law 312 = .ok (.iload_n 3, 1) := by decide +kernel
theorem dL_law_313 : decode cL_law 313 = .ok (.iconst 1, 1) := by decide +kernel
theorem dL_law_314 : decode cL_law 314 = .ok (.iadd, 1) := by decide +kernel
theorem dL_law_315 : decode cL_law 315 = .ok (.iaload, 1) := by decide +kernel
theorem dL_law_316 : decode cL_law 316 = .ok (.aload_n 0, 1) := by decide +kernel
theorem dL_law_317 : decode cL_law 317 = .ok (.iload_n 3, 1) := by decide +kernel
theorem dL_law_318 : decode cL_law 318 = .ok (.iconst 2, 1) := by decide +kernel
theorem dL_law_319 : decode cL_law 319 = .ok (.iadd, 1) := by decide +kernel
theorem dL_law_320 : decode cL_law 320 = .ok (.iaload, 1) := by decide +kernel
theorem dL_law_321 : decode cL_law 321 = .ok (.invokevirtual 43, 3) := by decide +kernel
theorem dL_law_324 : decode cL_law 324 = .ok (.if_icmp .eq 779, 3) := by decide +kernel
theorem dL_law_327 : decode cL_law 327 = .ok (.iconst 0, 1) := by decide +kernel
theorem dL_law_328 : decode cL_law 328 = .ok (.ireturn, 1) := by decide +kernel
theorem dL_law_329 : decode cL_law 329 = .ok (.aload_n 1, 1) := by decide +kernel
theorem dL_law_330 : decode cL_law 330 = .ok (.aload_n 0, 1) := by decide +kernel
theorem dL_law_331 : decode cL_law 331 = .ok (.iload_n 3, 1) := by decide +kernel
theorem dL_law_332 : decode cL_law 332 = .ok (.iconst 1, 1) := by decide +kernel
theorem dL_law_333 : decode cL_law 333 = .ok (.iadd, 1) := by decide +kernel
theorem dL_law_334 : decode cL_law 334 = .ok (.iaload, 1) := by decide +kernel
theorem dL_law_335 : decode cL_law 335 = .ok (.aload_n 0, 1) := by decide +kernel
theorem dL_law_336 : decode cL_law 336 = .ok (.iload_n 3, 1) := by decide +kernel
theorem dL_law_337 : decode cL_law 337 = .ok (.iconst 2, 1) := by decide +kernel
theorem dL_law_338 : decode cL_law 338 = .ok (.iadd, 1) := by decide +kernel
theorem dL_law_339 : decode cL_law 339 = .ok (.iaload, 1) := by decide +kernel
theorem dL_law_340 : decode cL_law 340 = .ok (.invokevirtual 44, 3) := by decide +kernel
theorem dL_law_343 : decode cL_law 343 = .ok (.aload_n 2, 1) := by decide +kernel
theorem dL_law_344 : decode cL_law 344 = .ok (.aload_n 0, 1) := by decide +kernel
theorem dL_law_345 : decode cL_law 345 = .ok (.iload_n 3, 1) := by decide +kernel
theorem dL_law_346 : decode cL_law 346 = .ok (.iconst 1, 1) := by decide +kernel
theorem dL_law_347 : decode cL_law 347 = .ok (.iadd, 1) := by decide +kernel
theorem dL_law_348 : decode cL_law 348 = .ok (.iaload, 1) := by decide +kernel
theorem dL_law_349 : decode cL_law 349 = .ok (.aload_n 0, 1) := by decide +kernel
theorem dL_law_350 : decode cL_law 350 = .ok (.iload_n 3, 1) := by decide +kernel
theorem dL_law_351 : decode cL_law 351 = .ok (.iconst 2, 1) := by decide +kernel
theorem dL_law_352 : decode cL_law 352 = .ok (.iadd, 1) := by decide +kernel
theorem dL_law_353 : decode cL_law 353 = .ok (.iaload, 1) := by decide +kernel
theorem dL_law_354 : decode cL_law 354 = .ok (.invokevirtual 47, 3) := by decide +kernel
theorem dL_law_357 : decode cL_law 357 = .ok (.if_icmp .eq 746, 3) := by decide +kernel
theorem dL_law_360 : decode cL_law 360 = .ok (.iconst 0, 1) := by decide +kernel
theorem dL_law_361 : decode cL_law 361 = .ok (.ireturn, 1) := by decide +kernel
theorem dL_law_362 : decode cL_law 362 = .ok (.aload_n 1, 1) := by decide +kernel
theorem dL_law_363 : decode cL_law 363 = .ok (.invokevirtual 48, 3) := by decide +kernel
theorem dL_law_366 : decode cL_law 366 = .ok (.aload_n 2, 1) := by decide +kernel
theorem dL_law_367 : decode cL_law 367 = .ok (.invokevirtual 51, 3) := by decide +kernel
theorem dL_law_370 : decode cL_law 370 = .ok (.if_icmp .eq 733, 3) := by decide +kernel
theorem dL_law_373 : decode cL_law 373 = .ok (.iconst 0, 1) := by decide +kernel
theorem dL_law_374 : decode cL_law 374 = .ok (.ireturn, 1) := by decide +kernel
theorem dL_law_375 : decode cL_law 375 = .ok (.aload_n 1, 1) := by decide +kernel
theorem dL_law_376 : decode cL_law 376 = .ok (.aload_n 0, 1) := by decide +kernel
theorem dL_law_377 : decode cL_law 377 = .ok (.iload_n 3, 1) := by decide +kernel
theorem dL_law_378 : decode cL_law 378 = .ok (.iconst 1, 1) := by decide +kernel
theorem dL_law_379 : decode cL_law 379 = .ok (.iadd, 1) := by decide +kernel
theorem dL_law_380 : decode cL_law 380 = .ok (.iaload, 1) := by decide +kernel
theorem dL_law_381 : decode cL_law 381 = .ok (.aload_n 0, 1) := by decide +kernel
theorem dL_law_382 : decode cL_law 382 = .ok (.iload_n 3, 1) := by decide +kernel
theorem dL_law_383 : decode cL_law 383 = .ok (.iconst 2, 1) := by decide +kernel
theorem dL_law_384 : decode cL_law 384 = .ok (.iadd, 1) := by decide +kernel
theorem dL_law_385 : decode cL_law 385 = .ok (.iaload, 1) := by decide +kernel
theorem dL_law_386 : decode cL_law 386 = .ok (.aload_n 0, 1) := by decide +kernel
theorem dL_law_387 : decode cL_law 387 = .ok (.iload_n 3, 1) := by decide +kernel
theorem dL_law_388 : decode cL_law 388 = .ok (.iconst 3, 1) := by decide +kernel
theorem dL_law_389 : decode cL_law 389 = .ok (.iadd, 1) := by decide +kernel
theorem dL_law_390 : decode cL_law 390 = .ok (.iaload, 1) := by decide +kernel
theorem dL_law_391 : decode cL_law 391 = .ok (.invokevirtual 52, 3) := by decide +kernel
theorem dL_law_394 : decode cL_law 394 = .ok (.aload_n 2, 1) := by decide +kernel
theorem dL_law_395 : decode cL_law 395 = .ok (.aload_n 0, 1) := by decide +kernel
theorem dL_law_396 : decode cL_law 396 = .ok (.iload_n 3, 1) := by decide +kernel
theorem dL_law_397 : decode cL_law 397 = .ok (.iconst 1, 1) := by decide +kernel
theorem dL_law_398 : decode cL_law 398 = .ok (.iadd, 1) := by decide +kernel
theorem dL_law_399 : decode cL_law 399 = .ok (.iaload, 1) := by decide +kernel
theorem dL_law_400 : decode cL_law 400 = .ok (.aload_n 0, 1) := by decide +kernel
theorem dL_law_401 : decode cL_law 401 = .ok (.iload_n 3, 1) := by decide +kernel
theorem dL_law_402 : decode cL_law 402 = .ok (.iconst 2, 1) := by decide +kernel
theorem dL_law_403 : decode cL_law 403 = .ok (.iadd, 1) := by decide +kernel
theorem dL_law_404 : decode cL_law 404 = .ok (.iaload, 1) := by decide +kernel
theorem dL_law_405 : decode cL_law 405 = .ok (.aload_n 0, 1) := by decide +kernel
theorem dL_law_406 : decode cL_law 406 = .ok (.iload_n 3, 1) := by decide +kernel
theorem dL_law_407 : decode cL_law 407 = .ok (.iconst 3, 1) := by decide +kernel
theorem dL_law_408 : decode cL_law 408 = .ok (.iadd, 1) := by decide +kernel
theorem dL_law_409 : decode cL_law 409 = .ok (.iaload, 1) := by decide +kernel
theorem dL_law_410 : decode cL_law 410 = .ok (.invokevirtual 56, 3) := by decide +kernel
theorem dL_law_413 : decode cL_law 413 = .ok (.if_icmp .eq 690, 3) := by decide +kernel
theorem dL_law_416 : decode cL_law 416 = .ok (.iconst 0, 1) := by decide +kernel
theorem dL_law_417 : decode cL_law 417 = .ok (.ireturn, 1) := by decide +kernel
theorem dL_law_418 : decode cL_law 418 = .ok (.aload_n 1, 1) := by decide +kernel
theorem dL_law_419 : decode cL_law 419 = .ok (.aload_n 0, 1) := by decide +kernel
theorem dL_law_420 : decode cL_law 420 = .ok (.iload_n 3, 1) := by decide +kernel
theorem dL_law_421 : decode cL_law 421 = .ok (.iconst 1, 1) := by decide +kernel
theorem dL_law_422 : decode cL_law 422 = .ok (.iadd, 1) := by decide +kernel
theorem dL_law_423 : decode cL_law 423 = .ok (.iaload, 1) := by decide +kernel
theorem dL_law_424 : decode cL_law 424 = .ok (.invokevirtual 57, 3) := by decide +kernel
theorem dL_law_427 : decode cL_law 427 = .ok (.aload_n 2, 1) := by decide +kernel
theorem dL_law_428 : decode cL_law 428 = .ok (.aload_n 0, 1) := by decide +kernel
theorem dL_law_429 : decode cL_law 429 = .ok (.iload_n 3, 1) := by decide +kernel
theorem dL_law_430 : decode cL_law 430 = .ok (.iconst 1, 1) := by decide +kernel
theorem dL_law_431 : decode cL_law 431 = .ok (.iadd, 1) := by decide +kernel
theorem dL_law_432 : decode cL_law 432 = .ok (.iaload, 1) := by decide +kernel
theorem dL_law_433 : decode cL_law 433 = .ok (.invokevirtual 60, 3) := by decide +kernel
theorem dL_law_436 : decode cL_law 436 = .ok (.if_icmp .eq 667, 3) := by decide +kernel
theorem dL_law_439 : decode cL_law 439 = .ok (.iconst 0, 1) := by decide +kernel
theorem dL_law_440 : decode cL_law 440 = .ok (.ireturn, 1) := by decide +kernel
theorem dL_law_441 : decode cL_law 441 = .ok (.aload_n 1, 1) := by decide +kernel
theorem dL_law_442 : decode cL_law 442 = .ok (.aload_n 0, 1) := by decide +kernel
theorem dL_law_443 : decode cL_law 443 = .ok (.iload_n 3, 1) := by decide +kernel
theorem dL_law_444 : decode cL_law 444 = .ok (.iconst 1, 1) := by decide +kernel
theorem dL_law_445 : decode cL_law 445 = .ok (.iadd, 1) := by decide +kernel
theorem dL_law_446 : decode cL_law 446 = .ok (.iaload, 1) := by decide +kernel
theorem dL_law_447 : decode cL_law 447 = .ok (.invokevirtual 61, 3) := by decide +kernel
theorem dL_law_450 : decode cL_law 450 = .ok (.aload_n 2, 1) := by decide +kernel
theorem dL_law_451 : decode cL_law 451 = .ok (.aload_n 0, 1) := by decide +kernel
theorem dL_law_452 : decode cL_law 452 = .ok (.iload_n 3, 1) := by decide +kernel
theorem dL_law_453 : decode cL_law 453 = .ok (.iconst 1, 1) := by decide +kernel
theorem dL_law_454 : decode cL_law 454 = .ok (.iadd, 1) := by decide +kernel
theorem dL_law_455 : decode cL_law 455 = .ok (.iaload, 1) := by decide +kernel
theorem dL_law_456 : decode cL_law 456 = .ok (.invokevirtual 64, 3) := by decide +kernel
theorem dL_law_459 : decode cL_law 459 = .ok (.if_icmp .eq 644, 3) := by decide +kernel
theorem dL_law_462 : decode cL_law 462 = .ok (.iconst 0, 1) := by decide +kernel
theorem dL_law_463 : decode cL_law 463 = .ok (.ireturn, 1) := by decide +kernel
theorem dL_law_464 : decode cL_law 464 = .ok (.aload_n 1, 1) := by decide +kernel
theorem dL_law_465 : decode cL_law 465 = .ok (.invokevirtual 65, 3) := by decide +kernel
theorem dL_law_468 : decode cL_law 468 = .ok (.aload_n 2, 1) := by decide +kernel
theorem dL_law_469 : decode cL_law 469 = .ok (.invokevirtual 68, 3) := by decide +kernel
theorem dL_law_472 : decode cL_law 472 = .ok (.if_icmp .eq 631, 3) := by decide +kernel
theorem dL_law_475 : decode cL_law 475 = .ok (.iconst 0, 1) := by decide +kernel
theorem dL_law_476 : decode cL_law 476 = .ok (.ireturn, 1) := by decide +kernel
theorem dL_law_477 : decode cL_law 477 = .ok (.aload_n 1, 1) := by decide +kernel
theorem dL_law_478 : decode cL_law 478 = .ok (.aload_n 0, 1) := by decide +kernel
theorem dL_law_479 : decode cL_law 479 = .ok (.iload_n 3, 1) := by decide +kernel
theorem dL_law_480 : decode cL_law 480 = .ok (.iconst 1, 1) := by decide +kernel
theorem dL_law_481 : decode cL_law 481 = .ok (.iadd, 1) := by decide +kernel
theorem dL_law_482 : decode cL_law 482 = .ok (.iaload, 1) := by decide +kernel
theorem dL_law_483 : decode cL_law 483 = .ok (.aload_n 0, 1) := by decide +kernel
theorem dL_law_484 : decode cL_law 484 = .ok (.iload_n 3, 1) := by decide +kernel
theorem dL_law_485 : decode cL_law 485 = .ok (.iconst 2, 1) := by decide +kernel
theorem dL_law_486 : decode cL_law 486 = .ok (.iadd, 1) := by decide +kernel
theorem dL_law_487 : decode cL_law 487 = .ok (.iaload, 1) := by decide +kernel
theorem dL_law_488 : decode cL_law 488 = .ok (.invokevirtual 69, 3) := by decide +kernel
theorem dL_law_491 : decode cL_law 491 = .ok (.aload_n 2, 1) := by decide +kernel
theorem dL_law_492 : decode cL_law 492 = .ok (.aload_n 0, 1) := by decide +kernel
theorem dL_law_493 : decode cL_law 493 = .ok (.iload_n 3, 1) := by decide +kernel
theorem dL_law_494 : decode cL_law 494 = .ok (.iconst 1, 1) := by decide +kernel
theorem dL_law_495 : decode cL_law 495 = .ok (.iadd, 1) := by decide +kernel
theorem dL_law_496 : decode cL_law 496 = .ok (.iaload, 1) := by decide +kernel
theorem dL_law_497 : decode cL_law 497 = .ok (.aload_n 0, 1) := by decide +kernel
theorem dL_law_498 : decode cL_law 498 = .ok (.iload_n 3, 1) := by decide +kernel
theorem dL_law_499 : decode cL_law 499 = .ok (.iconst 2, 1) := by decide +kernel
theorem dL_law_500 : decode cL_law 500 = .ok (.iadd, 1) := by decide +kernel
theorem dL_law_501 : decode cL_law 501 = .ok (.iaload, 1) := by decide +kernel
theorem dL_law_502 : decode cL_law 502 = .ok (.invokevirtual 72, 3) := by decide +kernel
theorem dL_law_505 : decode cL_law 505 = .ok (.if_icmp .eq 598, 3) := by decide +kernel
theorem dL_law_508 : decode cL_law 508 = .ok (.iconst 0, 1) := by decide +kernel
theorem dL_law_509 : decode cL_law 509 = .ok (.ireturn, 1) := by decide +kernel
theorem dL_law_510 : decode cL_law 510 = .ok (.aload_n 1, 1) := by decide +kernel
theorem dL_law_511 : decode cL_law 511 = .ok (.aload_n 0, 1) := by decide +kernel
theorem dL_law_512 : decode cL_law 512 = .ok (.iload_n 3, 1) := by decide +kernel
theorem dL_law_513 : decode cL_law 513 = .ok (.iconst 1, 1) := by decide +kernel
theorem dL_law_514 : decode cL_law 514 = .ok (.iadd, 1) := by decide +kernel
theorem dL_law_515 : decode cL_law 515 = .ok (.iaload, 1) := by decide +kernel
theorem dL_law_516 : decode cL_law 516 = .ok (.aload_n 0, 1) := by decide +kernel
theorem dL_law_517 : decode cL_law 517 = .ok (.iload_n 3, 1) := by decide +kernel
theorem dL_law_518 : decode cL_law 518 = .ok (.iconst 2, 1) := by decide +kernel
theorem dL_law_519 : decode cL_law 519 = .ok (.iadd, 1) := by decide +kernel
theorem dL_law_520 : decode cL_law 520 = .ok (.iaload, 1) := by decide +kernel
theorem dL_law_521 : decode cL_law 521 = .ok (.invokevirtual 73, 3) := by decide +kernel
theorem dL_law_524 : decode cL_law 524 = .ok (.aload_n 2, 1) := by decide +kernel
theorem dL_law_525 : decode cL_law 525 = .ok (.aload_n 0, 1) := by decide +kernel
theorem dL_law_526 : decode cL_law 526 = .ok (.iload_n 3, 1) := by decide +kernel
theorem dL_law_527 : decode cL_law 527 = .ok (.iconst 1, 1) := by decide +kernel
theorem dL_law_528 : decode cL_law 528 = .ok (.iadd, 1) := by decide +kernel
theorem dL_law_529 : decode cL_law 529 = .ok (.iaload, 1) := by decide +kernel
theorem dL_law_530 : decode cL_law 530 = .ok (.aload_n 0, 1) := by decide +kernel
theorem dL_law_531 : decode cL_law 531 = .ok (.iload_n 3, 1) := by decide +kernel
theorem dL_law_532 : decode cL_law 532 = .ok (.iconst 2, 1) := by decide +kernel
theorem dL_law_533 : decode cL_law 533 = .ok (.iadd, 1) := by decide +kernel
theorem dL_law_534 : decode cL_law 534 = .ok (.iaload, 1) := by decide +kernel
theorem dL_law_535 : decode cL_law 535 = .ok (.invokevirtual 76, 3) := by decide +kernel
theorem dL_law_538 : decode cL_law 538 = .ok (.if_icmp .eq 565, 3) := by decide +kernel
theorem dL_law_541 : decode cL_law 541 = .ok (.iconst 0, 1) := by decide +kernel
theorem dL_law_542 : decode cL_law 542 = .ok (.ireturn, 1) := by decide +kernel
theorem dL_law_543 : decode cL_law 543 = .ok (.aload_n 1, 1) := by decide +kernel
theorem dL_law_544 : decode cL_law 544 = .ok (.aload_n 0, 1) := by decide +kernel
theorem dL_law_545 : decode cL_law 545 = .ok (.iload_n 3, 1) := by decide +kernel
theorem dL_law_546 : decode cL_law 546 = .ok (.iconst 1, 1) := by decide +kernel
theorem dL_law_547 : decode cL_law 547 = .ok (.iadd, 1) := by decide +kernel
theorem dL_law_548 : decode cL_law 548 = .ok (.iaload, 1) := by decide +kernel
theorem dL_law_549 : decode cL_law 549 = .ok (.aload_n 0, 1) := by decide +kernel
theorem dL_law_550 : decode cL_law 550 = .ok (.iload_n 3, 1) := by decide +kernel
theorem dL_law_551 : decode cL_law 551 = .ok (.iconst 2, 1) := by decide +kernel
theorem dL_law_552 : decode cL_law 552 = .ok (.iadd, 1) := by decide +kernel
theorem dL_law_553 : decode cL_law 553 = .ok (.iaload, 1) := by decide +kernel
theorem dL_law_554 : decode cL_law 554 = .ok (.aload_n 0, 1) := by decide +kernel
theorem dL_law_555 : decode cL_law 555 = .ok (.iload_n 3, 1) := by decide +kernel
theorem dL_law_556 : decode cL_law 556 = .ok (.iconst 3, 1) := by decide +kernel
theorem dL_law_557 : decode cL_law 557 = .ok (.iadd, 1) := by decide +kernel
theorem dL_law_558 : decode cL_law 558 = .ok (.iaload, 1) := by decide +kernel
theorem dL_law_559 : decode cL_law 559 = .ok (.ifCond .eq 7, 3) := by decide +kernel
theorem dL_law_562 : decode cL_law 562 = .ok (.iconst 1, 1) := by decide +kernel
theorem dL_law_563 : decode cL_law 563 = .ok (.goto 4, 3) := by decide +kernel
theorem dL_law_566 : decode cL_law 566 = .ok (.iconst 0, 1) := by decide +kernel
theorem dL_law_567 : decode cL_law 567 = .ok (.invokevirtual 77, 3) := by decide +kernel
theorem dL_law_570 : decode cL_law 570 = .ok (.aload_n 2, 1) := by decide +kernel
theorem dL_law_571 : decode cL_law 571 = .ok (.aload_n 0, 1) := by decide +kernel
theorem dL_law_572 : decode cL_law 572 = .ok (.iload_n 3, 1) := by decide +kernel
theorem dL_law_573 : decode cL_law 573 = .ok (.iconst 1, 1) := by decide +kernel
theorem dL_law_574 : decode cL_law 574 = .ok (.iadd, 1) := by decide +kernel
theorem dL_law_575 : decode cL_law 575 = .ok (.iaload, 1) := by decide +kernel
theorem dL_law_576 : decode cL_law 576 = .ok (.aload_n 0, 1) := by decide +kernel
theorem dL_law_577 : decode cL_law 577 = .ok (.iload_n 3, 1) := by decide +kernel
theorem dL_law_578 : decode cL_law 578 = .ok (.iconst 2, 1) := by decide +kernel
theorem dL_law_579 : decode cL_law 579 = .ok (.iadd, 1) := by decide +kernel
theorem dL_law_580 : decode cL_law 580 = .ok (.iaload, 1) := by decide +kernel
theorem dL_law_581 : decode cL_law 581 = .ok (.aload_n 0, 1) := by decide +kernel
theorem dL_law_582 : decode cL_law 582 = .ok (.iload_n 3, 1) := by decide +kernel
theorem dL_law_583 : decode cL_law 583 = .ok (.iconst 3, 1) := by decide +kernel
theorem dL_law_584 : decode cL_law 584 = .ok (.iadd, 1) := by decide +kernel
theorem dL_law_585 : decode cL_law 585 = .ok (.iaload, 1) := by decide +kernel
theorem dL_law_586 : decode cL_law 586 = .ok (.ifCond .eq 7, 3) := by decide +kernel
theorem dL_law_589 : decode cL_law 589 = .ok (.iconst 1, 1) := by decide +kernel
theorem dL_law_590 : decode cL_law 590 = .ok (.goto 4, 3) := by decide +kernel
theorem dL_law_593 : decode cL_law 593 = .ok (.iconst 0, 1) := by decide +kernel
theorem dL_law_594 : decode cL_law 594 = .ok (.invokevirtual 81, 3) := by decide +kernel
theorem dL_law_597 : decode cL_law 597 = .ok (.if_icmp .eq 506, 3) := by decide +kernel
theorem dL_law_600 : decode cL_law 600 = .ok (.iconst 0, 1) := by decide +kernel
theorem dL_law_601 : decode cL_law 601 = .ok (.ireturn, 1) := by decide +kernel
theorem dL_law_602 : decode cL_law 602 = .ok (.aload_n 1, 1) := by decide +kernel
theorem dL_law_603 : decode cL_law 603 = .ok (.aload_n 0, 1) := by decide +kernel
theorem dL_law_604 : decode cL_law 604 = .ok (.iload_n 3, 1) := by decide +kernel
theorem dL_law_605 : decode cL_law 605 = .ok (.iconst 1, 1) := by decide +kernel
theorem dL_law_606 : decode cL_law 606 = .ok (.iadd, 1) := by decide +kernel
theorem dL_law_607 : decode cL_law 607 = .ok (.iaload, 1) := by decide +kernel
theorem dL_law_608 : decode cL_law 608 = .ok (.ifCond .eq 7, 3) := by decide +kernel
theorem dL_law_611 : decode cL_law 611 = .ok (.iconst 1, 1) := by decide +kernel
theorem dL_law_612 : decode cL_law 612 = .ok (.goto 4, 3) := by decide +kernel
theorem dL_law_615 : decode cL_law 615 = .ok (.iconst 0, 1) := by decide +kernel
theorem dL_law_616 : decode cL_law 616 = .ok (.invokevirtual 82, 3) := by decide +kernel
theorem dL_law_619 : decode cL_law 619 = .ok (.aload_n 2, 1) := by decide +kernel
theorem dL_law_620 : decode cL_law 620 = .ok (.aload_n 0, 1) := by decide +kernel
theorem dL_law_621 : decode cL_law 621 = .ok (.iload_n 3, 1) := by decide +kernel
theorem dL_law_622 : decode cL_law 622 = .ok (.iconst 1, 1) := by decide +kernel
theorem dL_law_623 : decode cL_law 623 = .ok (.iadd, 1) := by decide +kernel
theorem dL_law_624 : decode cL_law 624 = .ok (.iaload, 1) := by decide +kernel
theorem dL_law_625 : decode cL_law 625 = .ok (.ifCond .eq 7, 3) := by decide +kernel
theorem dL_law_628 : decode cL_law 628 = .ok (.iconst 1, 1) := by decide +kernel
theorem dL_law_629 : decode cL_law 629 = .ok (.goto 4, 3) := by decide +kernel
theorem dL_law_632 : decode cL_law 632 = .ok (.iconst 0, 1) := by decide +kernel
theorem dL_law_633 : decode cL_law 633 = .ok (.invokevirtual 86, 3) := by decide +kernel
theorem dL_law_636 : decode cL_law 636 = .ok (.if_icmp .eq 467, 3) := by decide +kernel
theorem dL_law_639 : decode cL_law 639 = .ok (.iconst 0, 1) := by decide +kernel
theorem dL_law_640 : decode cL_law 640 = .ok (.ireturn, 1) := by decide +kernel
theorem dL_law_641 : decode cL_law 641 = .ok (.aload_n 1, 1) := by decide +kernel
theorem dL_law_642 : decode cL_law 642 = .ok (.aload_n 0, 1) := by decide +kernel
theorem dL_law_643 : decode cL_law 643 = .ok (.iload_n 3, 1) := by decide +kernel
theorem dL_law_644 : decode cL_law 644 = .ok (.iconst 1, 1) := by decide +kernel
theorem dL_law_645 : decode cL_law 645 = .ok (.iadd, 1) := by decide +kernel
theorem dL_law_646 : decode cL_law 646 = .ok (.iaload, 1) := by decide +kernel
theorem dL_law_647 : decode cL_law 647 = .ok (.aload_n 0, 1) := by decide +kernel
theorem dL_law_648 : decode cL_law 648 = .ok (.iload_n 3, 1) := by decide +kernel
theorem dL_law_649 : decode cL_law 649 = .ok (.iconst 2, 1) := by decide +kernel
theorem dL_law_650 : decode cL_law 650 = .ok (.iadd, 1) := by decide +kernel
theorem dL_law_651 : decode cL_law 651 = .ok (.iaload, 1) := by decide +kernel
theorem dL_law_652 : decode cL_law 652 = .ok (.ifCond .eq 7, 3) := by decide +kernel
theorem dL_law_655 : decode cL_law 655 = .ok (.iconst 1, 1) := by decide +kernel
theorem dL_law_656 : decode cL_law 656 = .ok (.goto 4, 3) := by decide +kernel
theorem dL_law_659 : decode cL_law 659 = .ok (.iconst 0, 1) := by decide +kernel
theorem dL_law_660 : decode cL_law 660 = .ok (.invokevirtual 87, 3) := by decide +kernel
theorem dL_law_663 : decode cL_law 663 = .ok (.aload_n 2, 1) := by decide +kernel
theorem dL_law_664 : decode cL_law 664 = .ok (.aload_n 0, 1) := by decide +kernel
theorem dL_law_665 : decode cL_law 665 = .ok (.iload_n 3, 1) := by decide +kernel
theorem dL_law_666 : decode cL_law 666 = .ok (.iconst 1, 1) := by decide +kernel
theorem dL_law_667 : decode cL_law 667 = .ok (.iadd, 1) := by decide +kernel
theorem dL_law_668 : decode cL_law 668 = .ok (.iaload, 1) := by decide +kernel
theorem dL_law_669 : decode cL_law 669 = .ok (.aload_n 0, 1) := by decide +kernel
theorem dL_law_670 : decode cL_law 670 = .ok (.iload_n 3, 1) := by decide +kernel
theorem dL_law_671 : decode cL_law 671 = .ok (.iconst 2, 1) := by decide +kernel
theorem dL_law_672 : decode cL_law 672 = .ok (.iadd, 1) := by decide +kernel
theorem dL_law_673 : decode cL_law 673 = .ok (.iaload, 1) := by decide +kernel
theorem dL_law_674 : decode cL_law 674 = .ok (.ifCond .eq 7, 3) := by decide +kernel
theorem dL_law_677 : decode cL_law 677 = .ok (.iconst 1, 1) := by decide +kernel
theorem dL_law_678 : decode cL_law 678 = .ok (.goto 4, 3) := by decide +kernel
theorem dL_law_681 : decode cL_law 681 = .ok (.iconst 0, 1) := by decide +kernel
theorem dL_law_682 : decode cL_law 682 = .ok (.invokevirtual 91, 3) := by decide +kernel
theorem dL_law_685 : decode cL_law 685 = .ok (.if_icmp .eq 418, 3) := by decide +kernel
theorem dL_law_688 : decode cL_law 688 = .ok (.iconst 0, 1) := by decide +kernel
theorem dL_law_689 : decode cL_law 689 = .ok (.ireturn, 1) := by decide +kernel
theorem dL_law_690 : decode cL_law 690 = .ok (.aload_n 1, 1) := by decide +kernel
theorem dL_law_691 : decode cL_law 691 = .ok (.aload_n 0, 1) := by decide +kernel
theorem dL_law_692 : decode cL_law 692 = .ok (.iload_n 3, 1) := by decide +kernel
theorem dL_law_693 : decode cL_law 693 = .ok (.iconst 1, 1) := by decide +kernel
theorem dL_law_694 : decode cL_law 694 = .ok (.iadd, 1) := by decide +kernel
theorem dL_law_695 : decode cL_law 695 = .ok (.iaload, 1) := by decide +kernel
theorem dL_law_696 : decode cL_law 696 = .ok (.invokevirtual 92, 3) := by decide +kernel
theorem dL_law_699 : decode cL_law 699 = .ok (.aload_n 2, 1) := by decide +kernel
theorem dL_law_700 : decode cL_law 700 = .ok (.aload_n 0, 1) := by decide +kernel
theorem dL_law_701 : decode cL_law 701 = .ok (.iload_n 3, 1) := by decide +kernel
theorem dL_law_702 : decode cL_law 702 = .ok (.iconst 1, 1) := by decide +kernel
theorem dL_law_703 : decode cL_law 703 = .ok (.iadd, 1) := by decide +kernel
theorem dL_law_704 : decode cL_law 704 = .ok (.iaload, 1) := by decide +kernel
theorem dL_law_705 : decode cL_law 705 = .ok (.invokevirtual 95, 3) := by decide +kernel
theorem dL_law_708 : decode cL_law 708 = .ok (.if_icmp .eq 395, 3) := by decide +kernel
theorem dL_law_711 : decode cL_law 711 = .ok (.iconst 0, 1) := by decide +kernel
theorem dL_law_712 : decode cL_law 712 = .ok (.ireturn, 1) := by decide +kernel
theorem dL_law_713 : decode cL_law 713 = .ok (.aload_n 1, 1) := by decide +kernel
theorem dL_law_714 : decode cL_law 714 = .ok (.aload_n 0, 1) := by decide +kernel
theorem dL_law_715 : decode cL_law 715 = .ok (.iload_n 3, 1) := by decide +kernel
theorem dL_law_716 : decode cL_law 716 = .ok (.iconst 1, 1) := by decide +kernel
theorem dL_law_717 : decode cL_law 717 = .ok (.iadd, 1) := by decide +kernel
theorem dL_law_718 : decode cL_law 718 = .ok (.iaload, 1) := by decide +kernel
theorem dL_law_719 : decode cL_law 719 = .ok (.invokevirtual 96, 3) := by decide +kernel
theorem dL_law_722 : decode cL_law 722 = .ok (.aload_n 2, 1) := by decide +kernel
theorem dL_law_723 : decode cL_law 723 = .ok (.aload_n 0, 1) := by decide +kernel
theorem dL_law_724 : decode cL_law 724 = .ok (.iload_n 3, 1) := by decide +kernel
theorem dL_law_725 : decode cL_law 725 = .ok (.iconst 1, 1) := by decide +kernel
theorem dL_law_726 : decode cL_law 726 = .ok (.iadd, 1) := by decide +kernel
theorem dL_law_727 : decode cL_law 727 = .ok (.iaload, 1) := by decide +kernel
theorem dL_law_728 : decode cL_law 728 = .ok (.invokevirtual 99, 3) := by decide +kernel
theorem dL_law_731 : decode cL_law 731 = .ok (.if_icmp .eq 372, 3) := by decide +kernel
theorem dL_law_734 : decode cL_law 734 = .ok (.iconst 0, 1) := by decide +kernel
theorem dL_law_735 : decode cL_law 735 = .ok (.ireturn, 1) := by decide +kernel
theorem dL_law_736 : decode cL_law 736 = .ok (.aload_n 1, 1) := by decide +kernel
theorem dL_law_737 : decode cL_law 737 = .ok (.aload_n 0, 1) := by decide +kernel
theorem dL_law_738 : decode cL_law 738 = .ok (.iload_n 3, 1) := by decide +kernel
theorem dL_law_739 : decode cL_law 739 = .ok (.iconst 1, 1) := by decide +kernel
theorem dL_law_740 : decode cL_law 740 = .ok (.iadd, 1) := by decide +kernel
theorem dL_law_741 : decode cL_law 741 = .ok (.iaload, 1) := by decide +kernel
theorem dL_law_742 : decode cL_law 742 = .ok (.aload_n 0, 1) := by decide +kernel
theorem dL_law_743 : decode cL_law 743 = .ok (.iload_n 3, 1) := by decide +kernel
theorem dL_law_744 : decode cL_law 744 = .ok (.iconst 2, 1) := by decide +kernel
theorem dL_law_745 : decode cL_law 745 = .ok (.iadd, 1) := by decide +kernel
theorem dL_law_746 : decode cL_law 746 = .ok (.iaload, 1) := by decide +kernel
theorem dL_law_747 : decode cL_law 747 = .ok (.i2l, 1) := by decide +kernel
theorem dL_law_748 : decode cL_law 748 = .ok (.bipush 32, 2) := by decide +kernel
theorem dL_law_750 : decode cL_law 750 = .ok (.lshl, 1) := by decide +kernel
theorem dL_law_751 : decode cL_law 751 = .ok (.aload_n 0, 1) := by decide +kernel
theorem dL_law_752 : decode cL_law 752 = .ok (.iload_n 3, 1) := by decide +kernel
theorem dL_law_753 : decode cL_law 753 = .ok (.iconst 3, 1) := by decide +kernel
theorem dL_law_754 : decode cL_law 754 = .ok (.iadd, 1) := by decide +kernel
theorem dL_law_755 : decode cL_law 755 = .ok (.iaload, 1) := by decide +kernel
theorem dL_law_756 : decode cL_law 756 = .ok (.i2l, 1) := by decide +kernel
theorem dL_law_757 : decode cL_law 757 = .ok (.ldc2_w 100, 3) := by decide +kernel
theorem dL_law_760 : decode cL_law 760 = .ok (.land, 1) := by decide +kernel
theorem dL_law_761 : decode cL_law 761 = .ok (.lor, 1) := by decide +kernel
theorem dL_law_762 : decode cL_law 762 = .ok (.invokevirtual 102, 3) := by decide +kernel
theorem dL_law_765 : decode cL_law 765 = .ok (.aload_n 2, 1) := by decide +kernel
theorem dL_law_766 : decode cL_law 766 = .ok (.aload_n 0, 1) := by decide +kernel
theorem dL_law_767 : decode cL_law 767 = .ok (.iload_n 3, 1) := by decide +kernel
theorem dL_law_768 : decode cL_law 768 = .ok (.iconst 1, 1) := by decide +kernel
theorem dL_law_769 : decode cL_law 769 = .ok (.iadd, 1) := by decide +kernel
theorem dL_law_770 : decode cL_law 770 = .ok (.iaload, 1) := by decide +kernel
theorem dL_law_771 : decode cL_law 771 = .ok (.aload_n 0, 1) := by decide +kernel
theorem dL_law_772 : decode cL_law 772 = .ok (.iload_n 3, 1) := by decide +kernel
theorem dL_law_773 : decode cL_law 773 = .ok (.iconst 2, 1) := by decide +kernel
theorem dL_law_774 : decode cL_law 774 = .ok (.iadd, 1) := by decide +kernel
theorem dL_law_775 : decode cL_law 775 = .ok (.iaload, 1) := by decide +kernel
theorem dL_law_776 : decode cL_law 776 = .ok (.i2l, 1) := by decide +kernel
theorem dL_law_777 : decode cL_law 777 = .ok (.bipush 32, 2) := by decide +kernel
theorem dL_law_779 : decode cL_law 779 = .ok (.lshl, 1) := by decide +kernel
theorem dL_law_780 : decode cL_law 780 = .ok (.aload_n 0, 1) := by decide +kernel
theorem dL_law_781 : decode cL_law 781 = .ok (.iload_n 3, 1) := by decide +kernel
theorem dL_law_782 : decode cL_law 782 = .ok (.iconst 3, 1) := by decide +kernel
theorem dL_law_783 : decode cL_law 783 = .ok (.iadd, 1) := by decide +kernel
theorem dL_law_784 : decode cL_law 784 = .ok (.iaload, 1) := by decide +kernel
theorem dL_law_785 : decode cL_law 785 = .ok (.i2l, 1) := by decide +kernel
theorem dL_law_786 : decode cL_law 786 = .ok (.ldc2_w 100, 3) := by decide +kernel
theorem dL_law_789 : decode cL_law 789 = .ok (.land, 1) := by decide +kernel
theorem dL_law_790 : decode cL_law 790 = .ok (.lor, 1) := by decide +kernel
theorem dL_law_791 : decode cL_law 791 = .ok (.invokevirtual 106, 3) := by decide +kernel
theorem dL_law_794 : decode cL_law 794 = .ok (.if_icmp .eq 309, 3) := by decide +kernel
theorem dL_law_797 : decode cL_law 797 = .ok (.iconst 0, 1) := by decide +kernel
theorem dL_law_798 : decode cL_law 798 = .ok (.ireturn, 1) := by decide +kernel
theorem dL_law_799 : decode cL_law 799 = .ok (.aload_n 1, 1) := by decide +kernel
theorem dL_law_800 : decode cL_law 800 = .ok (.aload_n 0, 1) := by decide +kernel
theorem dL_law_801 : decode cL_law 801 = .ok (.iload_n 3, 1) := by decide +kernel
theorem dL_law_802 : decode cL_law 802 = .ok (.iconst 1, 1) := by decide +kernel
theorem dL_law_803 : decode cL_law 803 = .ok (.iadd, 1) := by decide +kernel
theorem dL_law_804 : decode cL_law 804 = .ok (.iaload, 1) := by decide +kernel
theorem dL_law_805 : decode cL_law 805 = .ok (.invokevirtual 107, 3) := by decide +kernel
theorem dL_law_808 : decode cL_law 808 = .ok (.aload_n 2, 1) := by decide +kernel
theorem dL_law_809 : decode cL_law 809 = .ok (.aload_n 0, 1) := by decide +kernel
theorem dL_law_810 : decode cL_law 810 = .ok (.iload_n 3, 1) := by decide +kernel
theorem dL_law_811 : decode cL_law 811 = .ok (.iconst 1, 1) := by decide +kernel
theorem dL_law_812 : decode cL_law 812 = .ok (.iadd, 1) := by decide +kernel
theorem dL_law_813 : decode cL_law 813 = .ok (.iaload, 1) := by decide +kernel
theorem dL_law_814 : decode cL_law 814 = .ok (.invokevirtual 110, 3) := by decide +kernel
theorem dL_law_817 : decode cL_law 817 = .ok (.if_icmp .eq 286, 3) := by decide +kernel
theorem dL_law_820 : decode cL_law 820 = .ok (.iconst 0, 1) := by decide +kernel
theorem dL_law_821 : decode cL_law 821 = .ok (.ireturn, 1) := by decide +kernel
theorem dL_law_822 : decode cL_law 822 = .ok (.aload_n 1, 1) := by decide +kernel
theorem dL_law_823 : decode cL_law 823 = .ok (.aload_n 0, 1) := by decide +kernel
theorem dL_law_824 : decode cL_law 824 = .ok (.iload_n 3, 1) := by decide +kernel
theorem dL_law_825 : decode cL_law 825 = .ok (.iconst 1, 1) := by decide +kernel
theorem dL_law_826 : decode cL_law 826 = .ok (.iadd, 1) := by decide +kernel
theorem dL_law_827 : decode cL_law 827 = .ok (.iaload, 1) := by decide +kernel
theorem dL_law_828 : decode cL_law 828 = .ok (.aload_n 0, 1) := by decide +kernel
theorem dL_law_829 : decode cL_law 829 = .ok (.iload_n 3, 1) := by decide +kernel
theorem dL_law_830 : decode cL_law 830 = .ok (.iconst 2, 1) := by decide +kernel
theorem dL_law_831 : decode cL_law 831 = .ok (.iadd, 1) := by decide +kernel
theorem dL_law_832 : decode cL_law 832 = .ok (.iaload, 1) := by decide +kernel
theorem dL_law_833 : decode cL_law 833 = .ok (.invokevirtual 111, 3) := by decide +kernel
theorem dL_law_836 : decode cL_law 836 = .ok (.aload_n 2, 1) := by decide +kernel
theorem dL_law_837 : decode cL_law 837 = .ok (.aload_n 0, 1) := by decide +kernel
theorem dL_law_838 : decode cL_law 838 = .ok (.iload_n 3, 1) := by decide +kernel
theorem dL_law_839 : decode cL_law 839 = .ok (.iconst 1, 1) := by decide +kernel
theorem dL_law_840 : decode cL_law 840 = .ok (.iadd, 1) := by decide +kernel
theorem dL_law_841 : decode cL_law 841 = .ok (.iaload, 1) := by decide +kernel
theorem dL_law_842 : decode cL_law 842 = .ok (.aload_n 0, 1) := by decide +kernel
theorem dL_law_843 : decode cL_law 843 = .ok (.iload_n 3, 1) := by decide +kernel
theorem dL_law_844 : decode cL_law 844 = .ok (.iconst 2, 1) := by decide +kernel
theorem dL_law_845 : decode cL_law 845 = .ok (.iadd, 1) := by decide +kernel
theorem dL_law_846 : decode cL_law 846 = .ok (.iaload, 1) := by decide +kernel
theorem dL_law_847 : decode cL_law 847 = .ok (.invokevirtual 114, 3) := by decide +kernel
theorem dL_law_850 : decode cL_law 850 = .ok (.if_icmp .eq 253, 3) := by decide +kernel
theorem dL_law_853 : decode cL_law 853 = .ok (.iconst 0, 1) := by decide +kernel
theorem dL_law_854 : decode cL_law 854 = .ok (.ireturn, 1) := by decide +kernel
theorem dL_law_855 : decode cL_law 855 = .ok (.aload_n 1, 1) := by decide +kernel
theorem dL_law_856 : decode cL_law 856 = .ok (.aload_n 0, 1) := by decide +kernel
theorem dL_law_857 : decode cL_law 857 = .ok (.iload_n 3, 1) := by decide +kernel
theorem dL_law_858 : decode cL_law 858 = .ok (.iconst 1, 1) := by decide +kernel
theorem dL_law_859 : decode cL_law 859 = .ok (.iadd, 1) := by decide +kernel
theorem dL_law_860 : decode cL_law 860 = .ok (.iaload, 1) := by decide +kernel
theorem dL_law_861 : decode cL_law 861 = .ok (.aload_n 0, 1) := by decide +kernel
theorem dL_law_862 : decode cL_law 862 = .ok (.iload_n 3, 1) := by decide +kernel
theorem dL_law_863 : decode cL_law 863 = .ok (.iconst 2, 1) := by decide +kernel
theorem dL_law_864 : decode cL_law 864 = .ok (.iadd, 1) := by decide +kernel
theorem dL_law_865 : decode cL_law 865 = .ok (.iaload, 1) := by decide +kernel
theorem dL_law_866 : decode cL_law 866 = .ok (.aload_n 0, 1) := by decide +kernel
theorem dL_law_867 : decode cL_law 867 = .ok (.iload_n 3, 1) := by decide +kernel
theorem dL_law_868 : decode cL_law 868 = .ok (.iconst 3, 1) := by decide +kernel
theorem dL_law_869 : decode cL_law 869 = .ok (.iadd, 1) := by decide +kernel
theorem dL_law_870 : decode cL_law 870 = .ok (.iaload, 1) := by decide +kernel
theorem dL_law_871 : decode cL_law 871 = .ok (.invokevirtual 115, 3) := by decide +kernel
theorem dL_law_874 : decode cL_law 874 = .ok (.aload_n 2, 1) := by decide +kernel
theorem dL_law_875 : decode cL_law 875 = .ok (.aload_n 0, 1) := by decide +kernel
theorem dL_law_876 : decode cL_law 876 = .ok (.iload_n 3, 1) := by decide +kernel
theorem dL_law_877 : decode cL_law 877 = .ok (.iconst 1, 1) := by decide +kernel
theorem dL_law_878 : decode cL_law 878 = .ok (.iadd, 1) := by decide +kernel
theorem dL_law_879 : decode cL_law 879 = .ok (.iaload, 1) := by decide +kernel
theorem dL_law_880 : decode cL_law 880 = .ok (.aload_n 0, 1) := by decide +kernel
theorem dL_law_881 : decode cL_law 881 = .ok (.iload_n 3, 1) := by decide +kernel
theorem dL_law_882 : decode cL_law 882 = .ok (.iconst 2, 1) := by decide +kernel
theorem dL_law_883 : decode cL_law 883 = .ok (.iadd, 1) := by decide +kernel
theorem dL_law_884 : decode cL_law 884 = .ok (.iaload, 1) := by decide +kernel
theorem dL_law_885 : decode cL_law 885 = .ok (.aload_n 0, 1) := by decide +kernel
theorem dL_law_886 : decode cL_law 886 = .ok (.iload_n 3, 1) := by decide +kernel
theorem dL_law_887 : decode cL_law 887 = .ok (.iconst 3, 1) := by decide +kernel
theorem dL_law_888 : decode cL_law 888 = .ok (.iadd, 1) := by decide +kernel
theorem dL_law_889 : decode cL_law 889 = .ok (.iaload, 1) := by decide +kernel
theorem dL_law_890 : decode cL_law 890 = .ok (.invokevirtual 118, 3) := by decide +kernel
theorem dL_law_893 : decode cL_law 893 = .ok (.if_icmp .eq 210, 3) := by decide +kernel
theorem dL_law_896 : decode cL_law 896 = .ok (.iconst 0, 1) := by decide +kernel
theorem dL_law_897 : decode cL_law 897 = .ok (.ireturn, 1) := by decide +kernel
theorem dL_law_898 : decode cL_law 898 = .ok (.aload_n 1, 1) := by decide +kernel
theorem dL_law_899 : decode cL_law 899 = .ok (.aload_n 0, 1) := by decide +kernel
theorem dL_law_900 : decode cL_law 900 = .ok (.iload_n 3, 1) := by decide +kernel
theorem dL_law_901 : decode cL_law 901 = .ok (.iconst 1, 1) := by decide +kernel
theorem dL_law_902 : decode cL_law 902 = .ok (.iadd, 1) := by decide +kernel
theorem dL_law_903 : decode cL_law 903 = .ok (.iaload, 1) := by decide +kernel
theorem dL_law_904 : decode cL_law 904 = .ok (.aload_n 0, 1) := by decide +kernel
theorem dL_law_905 : decode cL_law 905 = .ok (.iload_n 3, 1) := by decide +kernel
theorem dL_law_906 : decode cL_law 906 = .ok (.iconst 2, 1) := by decide +kernel
theorem dL_law_907 : decode cL_law 907 = .ok (.iadd, 1) := by decide +kernel
theorem dL_law_908 : decode cL_law 908 = .ok (.iaload, 1) := by decide +kernel
theorem dL_law_909 : decode cL_law 909 = .ok (.aload_n 0, 1) := by decide +kernel
theorem dL_law_910 : decode cL_law 910 = .ok (.iload_n 3, 1) := by decide +kernel
theorem dL_law_911 : decode cL_law 911 = .ok (.iconst 3, 1) := by decide +kernel
theorem dL_law_912 : decode cL_law 912 = .ok (.iadd, 1) := by decide +kernel
theorem dL_law_913 : decode cL_law 913 = .ok (.iaload, 1) := by decide +kernel
theorem dL_law_914 : decode cL_law 914 = .ok (.ifCond .eq 7, 3) := by decide +kernel
theorem dL_law_917 : decode cL_law 917 = .ok (.iconst 1, 1) := by decide +kernel
theorem dL_law_918 : decode cL_law 918 = .ok (.goto 4, 3) := by decide +kernel
theorem dL_law_921 : decode cL_law 921 = .ok (.iconst 0, 1) := by decide +kernel
theorem dL_law_922 : decode cL_law 922 = .ok (.invokevirtual 119, 3) := by decide +kernel
theorem dL_law_925 : decode cL_law 925 = .ok (.aload_n 2, 1) := by decide +kernel
theorem dL_law_926 : decode cL_law 926 = .ok (.aload_n 0, 1) := by decide +kernel
theorem dL_law_927 : decode cL_law 927 = .ok (.iload_n 3, 1) := by decide +kernel
theorem dL_law_928 : decode cL_law 928 = .ok (.iconst 1, 1) := by decide +kernel
theorem dL_law_929 : decode cL_law 929 = .ok (.iadd, 1) := by decide +kernel
theorem dL_law_930 : decode cL_law 930 = .ok (.iaload, 1) := by decide +kernel
theorem dL_law_931 : decode cL_law 931 = .ok (.aload_n 0, 1) := by decide +kernel
theorem dL_law_932 : decode cL_law 932 = .ok (.iload_n 3, 1) := by decide +kernel
theorem dL_law_933 : decode cL_law 933 = .ok (.iconst 2, 1) := by decide +kernel
theorem dL_law_934 : decode cL_law 934 = .ok (.iadd, 1) := by decide +kernel
theorem dL_law_935 : decode cL_law 935 = .ok (.iaload, 1) := by decide +kernel
theorem dL_law_936 : decode cL_law 936 = .ok (.aload_n 0, 1) := by decide +kernel
theorem dL_law_937 : decode cL_law 937 = .ok (.iload_n 3, 1) := by decide +kernel
theorem dL_law_938 : decode cL_law 938 = .ok (.iconst 3, 1) := by decide +kernel
theorem dL_law_939 : decode cL_law 939 = .ok (.iadd, 1) := by decide +kernel
theorem dL_law_940 : decode cL_law 940 = .ok (.iaload, 1) := by decide +kernel
theorem dL_law_941 : decode cL_law 941 = .ok (.ifCond .eq 7, 3) := by decide +kernel
theorem dL_law_944 : decode cL_law 944 = .ok (.iconst 1, 1) := by decide +kernel
theorem dL_law_945 : decode cL_law 945 = .ok (.goto 4, 3) := by decide +kernel
theorem dL_law_948 : decode cL_law 948 = .ok (.iconst 0, 1) := by decide +kernel
theorem dL_law_949 : decode cL_law 949 = .ok (.invokevirtual 122, 3) := by decide +kernel
theorem dL_law_952 : decode cL_law 952 = .ok (.if_icmp .eq 151, 3) := by decide +kernel
theorem dL_law_955 : decode cL_law 955 = .ok (.iconst 0, 1) := by decide +kernel
theorem dL_law_956 : decode cL_law 956 = .ok (.ireturn, 1) := by decide +kernel
theorem dL_law_957 : decode cL_law 957 = .ok (.aload_n 1, 1) := by decide +kernel
theorem dL_law_958 : decode cL_law 958 = .ok (.aload_n 0, 1) := by decide +kernel
theorem dL_law_959 : decode cL_law 959 = .ok (.iload_n 3, 1) := by decide +kernel
theorem dL_law_960 : decode cL_law 960 = .ok (.iconst 1, 1) := by decide +kernel
theorem dL_law_961 : decode cL_law 961 = .ok (.iadd, 1) := by decide +kernel
theorem dL_law_962 : decode cL_law 962 = .ok (.iaload, 1) := by decide +kernel
theorem dL_law_963 : decode cL_law 963 = .ok (.i2l, 1) := by decide +kernel
theorem dL_law_964 : decode cL_law 964 = .ok (.bipush 32, 2) := by decide +kernel
theorem dL_law_966 : decode cL_law 966 = .ok (.lshl, 1) := by decide +kernel
theorem dL_law_967 : decode cL_law 967 = .ok (.aload_n 0, 1) := by decide +kernel
theorem dL_law_968 : decode cL_law 968 = .ok (.iload_n 3, 1) := by decide +kernel
theorem dL_law_969 : decode cL_law 969 = .ok (.iconst 2, 1) := by decide +kernel
theorem dL_law_970 : decode cL_law 970 = .ok (.iadd, 1) := by decide +kernel
theorem dL_law_971 : decode cL_law 971 = .ok (.iaload, 1) := by decide +kernel
theorem dL_law_972 : decode cL_law 972 = .ok (.i2l, 1) := by decide +kernel
theorem dL_law_973 : decode cL_law 973 = .ok (.ldc2_w 100, 3) := by decide +kernel
theorem dL_law_976 : decode cL_law 976 = .ok (.land, 1) := by decide +kernel
theorem dL_law_977 : decode cL_law 977 = .ok (.lor, 1) := by decide +kernel
theorem dL_law_978 : decode cL_law 978 = .ok (.invokevirtual 123, 3) := by decide +kernel
theorem dL_law_981 : decode cL_law 981 = .ok (.aload_n 2, 1) := by decide +kernel
theorem dL_law_982 : decode cL_law 982 = .ok (.aload_n 0, 1) := by decide +kernel
theorem dL_law_983 : decode cL_law 983 = .ok (.iload_n 3, 1) := by decide +kernel
theorem dL_law_984 : decode cL_law 984 = .ok (.iconst 1, 1) := by decide +kernel
theorem dL_law_985 : decode cL_law 985 = .ok (.iadd, 1) := by decide +kernel
theorem dL_law_986 : decode cL_law 986 = .ok (.iaload, 1) := by decide +kernel
theorem dL_law_987 : decode cL_law 987 = .ok (.i2l, 1) := by decide +kernel
theorem dL_law_988 : decode cL_law 988 = .ok (.bipush 32, 2) := by decide +kernel
theorem dL_law_990 : decode cL_law 990 = .ok (.lshl, 1) := by decide +kernel
theorem dL_law_991 : decode cL_law 991 = .ok (.aload_n 0, 1) := by decide +kernel
theorem dL_law_992 : decode cL_law 992 = .ok (.iload_n 3, 1) := by decide +kernel
theorem dL_law_993 : decode cL_law 993 = .ok (.iconst 2, 1) := by decide +kernel
theorem dL_law_994 : decode cL_law 994 = .ok (.iadd, 1) := by decide +kernel
theorem dL_law_995 : decode cL_law 995 = .ok (.iaload, 1) := by decide +kernel
theorem dL_law_996 : decode cL_law 996 = .ok (.i2l, 1) := by decide +kernel
theorem dL_law_997 : decode cL_law 997 = .ok (.ldc2_w 100, 3) := by decide +kernel
theorem dL_law_1000 : decode cL_law 1000 = .ok (.land, 1) := by decide +kernel
theorem dL_law_1001 : decode cL_law 1001 = .ok (.lor, 1) := by decide +kernel
theorem dL_law_1002 : decode cL_law 1002 = .ok (.invokevirtual 127, 3) := by decide +kernel
theorem dL_law_1005 : decode cL_law 1005 = .ok (.lcmp, 1) := by decide +kernel
theorem dL_law_1006 : decode cL_law 1006 = .ok (.ifCond .eq 97, 3) := by decide +kernel
theorem dL_law_1009 : decode cL_law 1009 = .ok (.iconst 0, 1) := by decide +kernel
theorem dL_law_1010 : decode cL_law 1010 = .ok (.ireturn, 1) := by decide +kernel
theorem dL_law_1011 : decode cL_law 1011 = .ok (.aload_n 1, 1) := by decide +kernel
theorem dL_law_1012 : decode cL_law 1012 = .ok (.aload_n 0, 1) := by decide +kernel
theorem dL_law_1013 : decode cL_law 1013 = .ok (.iload_n 3, 1) := by decide +kernel
theorem dL_law_1014 : decode cL_law 1014 = .ok (.iconst 1, 1) := by decide +kernel
theorem dL_law_1015 : decode cL_law 1015 = .ok (.iadd, 1) := by decide +kernel
theorem dL_law_1016 : decode cL_law 1016 = .ok (.iaload, 1) := by decide +kernel
theorem dL_law_1017 : decode cL_law 1017 = .ok (.invokevirtual 128, 3) := by decide +kernel
theorem dL_law_1020 : decode cL_law 1020 = .ok (.aload_n 2, 1) := by decide +kernel
theorem dL_law_1021 : decode cL_law 1021 = .ok (.aload_n 0, 1) := by decide +kernel
theorem dL_law_1022 : decode cL_law 1022 = .ok (.iload_n 3, 1) := by decide +kernel
theorem dL_law_1023 : decode cL_law 1023 = .ok (.iconst 1, 1) := by decide +kernel
theorem dL_law_1024 : decode cL_law 1024 = .ok (.iadd, 1) := by decide +kernel
theorem dL_law_1025 : decode cL_law 1025 = .ok (.iaload, 1) := by decide +kernel
theorem dL_law_1026 : decode cL_law 1026 = .ok (.invokevirtual 131, 3) := by decide +kernel
theorem dL_law_1029 : decode cL_law 1029 = .ok (.if_icmp .eq 74, 3) := by decide +kernel
theorem dL_law_1032 : decode cL_law 1032 = .ok (.iconst 0, 1) := by decide +kernel
theorem dL_law_1033 : decode cL_law 1033 = .ok (.ireturn, 1) := by decide +kernel
theorem dL_law_1034 : decode cL_law 1034 = .ok (.aload_n 1, 1) := by decide +kernel
theorem dL_law_1035 : decode cL_law 1035 = .ok (.aload_n 0, 1) := by decide +kernel
theorem dL_law_1036 : decode cL_law 1036 = .ok (.iload_n 3, 1) := by decide +kernel
theorem dL_law_1037 : decode cL_law 1037 = .ok (.iconst 1, 1) := by decide +kernel
theorem dL_law_1038 : decode cL_law 1038 = .ok (.iadd, 1) := by decide +kernel
theorem dL_law_1039 : decode cL_law 1039 = .ok (.iaload, 1) := by decide +kernel
theorem dL_law_1040 : decode cL_law 1040 = .ok (.invokevirtual 132, 3) := by decide +kernel
theorem dL_law_1043 : decode cL_law 1043 = .ok (.aload_n 2, 1) := by decide +kernel
theorem dL_law_1044 : decode cL_law 1044 = .ok (.aload_n 0, 1) := by decide +kernel
theorem dL_law_1045 : decode cL_law 1045 = .ok (.iload_n 3, 1) := by decide +kernel
theorem dL_law_1046 : decode cL_law 1046 = .ok (.iconst 1, 1) := by decide +kernel
theorem dL_law_1047 : decode cL_law 1047 = .ok (.iadd, 1) := by decide +kernel
theorem dL_law_1048 : decode cL_law 1048 = .ok (.iaload, 1) := by decide +kernel
theorem dL_law_1049 : decode cL_law 1049 = .ok (.invokevirtual 135, 3) := by decide +kernel
theorem dL_law_1052 : decode cL_law 1052 = .ok (.if_icmp .eq 51, 3) := by decide +kernel
theorem dL_law_1055 : decode cL_law 1055 = .ok (.iconst 0, 1) := by decide +kernel
theorem dL_law_1056 : decode cL_law 1056 = .ok (.ireturn, 1) := by decide +kernel
theorem dL_law_1057 : decode cL_law 1057 = .ok (.aload_n 1, 1) := by decide +kernel
theorem dL_law_1058 : decode cL_law 1058 = .ok (.aload_n 0, 1) := by decide +kernel
theorem dL_law_1059 : decode cL_law 1059 = .ok (.iload_n 3, 1) := by decide +kernel
theorem dL_law_1060 : decode cL_law 1060 = .ok (.iconst 1, 1) := by decide +kernel
theorem dL_law_1061 : decode cL_law 1061 = .ok (.iadd, 1) := by decide +kernel
theorem dL_law_1062 : decode cL_law 1062 = .ok (.iaload, 1) := by decide +kernel
theorem dL_law_1063 : decode cL_law 1063 = .ok (.invokevirtual 136, 3) := by decide +kernel
theorem dL_law_1066 : decode cL_law 1066 = .ok (.aload_n 2, 1) := by decide +kernel
theorem dL_law_1067 : decode cL_law 1067 = .ok (.aload_n 0, 1) := by decide +kernel
theorem dL_law_1068 : decode cL_law 1068 = .ok (.iload_n 3, 1) := by decide +kernel
theorem dL_law_1069 : decode cL_law 1069 = .ok (.iconst 1, 1) := by decide +kernel
theorem dL_law_1070 : decode cL_law 1070 = .ok (.iadd, 1) := by decide +kernel
theorem dL_law_1071 : decode cL_law 1071 = .ok (.iaload, 1) := by decide +kernel
theorem dL_law_1072 : decode cL_law 1072 = .ok (.invokevirtual 139, 3) := by decide +kernel
theorem dL_law_1075 : decode cL_law 1075 = .ok (.if_icmp .eq 28, 3) := by decide +kernel
theorem dL_law_1078 : decode cL_law 1078 = .ok (.iconst 0, 1) := by decide +kernel
theorem dL_law_1079 : decode cL_law 1079 = .ok (.ireturn, 1) := by decide +kernel
theorem dL_law_1080 : decode cL_law 1080 = .ok (.aload_n 1, 1) := by decide +kernel
theorem dL_law_1081 : decode cL_law 1081 = .ok (.aload_n 0, 1) := by decide +kernel
theorem dL_law_1082 : decode cL_law 1082 = .ok (.iload_n 3, 1) := by decide +kernel
theorem dL_law_1083 : decode cL_law 1083 = .ok (.iconst 1, 1) := by decide +kernel
theorem dL_law_1084 : decode cL_law 1084 = .ok (.iadd, 1) := by decide +kernel
theorem dL_law_1085 : decode cL_law 1085 = .ok (.iaload, 1) := by decide +kernel
theorem dL_law_1086 : decode cL_law 1086 = .ok (.invokevirtual 140, 3) := by decide +kernel
theorem dL_law_1089 : decode cL_law 1089 = .ok (.aload_n 2, 1) := by decide +kernel
theorem dL_law_1090 : decode cL_law 1090 = .ok (.aload_n 0, 1) := by decide +kernel
theorem dL_law_1091 : decode cL_law 1091 = .ok (.iload_n 3, 1) := by decide +kernel
theorem dL_law_1092 : decode cL_law 1092 = .ok (.iconst 1, 1) := by decide +kernel
theorem dL_law_1093 : decode cL_law 1093 = .ok (.iadd, 1) := by decide +kernel
theorem dL_law_1094 : decode cL_law 1094 = .ok (.iaload, 1) := by decide +kernel
theorem dL_law_1095 : decode cL_law 1095 = .ok (.invokevirtual 143, 3) := by decide +kernel
theorem dL_law_1098 : decode cL_law 1098 = .ok (.if_icmp .eq 5, 3) := by decide +kernel
theorem dL_law_1101 : decode cL_law 1101 = .ok (.iconst 0, 1) := by decide +kernel
theorem dL_law_1102 : decode cL_law 1102 = .ok (.ireturn, 1) := by decide +kernel
theorem dL_law_1103 : decode cL_law 1103 = .ok (.iinc 3 4, 3) := by decide +kernel
theorem dL_law_1106 : decode cL_law 1106 = .ok (.goto (-1088), 3) := by decide +kernel
theorem dL_law_1109 : decode cL_law 1109 = .ok (.iconst 1, 1) := by decide +kernel
theorem dL_law_1110 : decode cL_law 1110 = .ok (.ireturn, 1) := by decide +kernel
