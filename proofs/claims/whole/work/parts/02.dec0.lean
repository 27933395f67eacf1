theorem dX0_init_0 : decode cX0_init 0 = .ok (.aload_n 0, 1) := by decide +kernel
theorem dX0_init_1 : decode cX0_init 1 = .ok (.invokespecial 3, 3) := by decide +kernel
theorem dX0_init_4 : decode cX0_init 4 = .ok (.aload_n 0, 1) := by decide +kernel
theorem dX0_init_5 : decode cX0_init 5 = .ok (.sipush 728, 3) := by decide +kernel
theorem dX0_init_8 : decode cX0_init 8 = .ok (.newarray .int, 2) := by decide +kernel
theorem dX0_init_10 : decode cX0_init 10 = .ok (.putfield 11, 3) := by decide +kernel
theorem dX0_init_13 : decode cX0_init 13 = .ok (.return_, 1) := by decide +kernel
theorem dX0_size_0 : decode cX0_size 0 = .ok (.aload_n 0, 1) := by decide +kernel
theorem dX0_size_1 : decode cX0_size 1 = .ok (.getfield 17, 3) := by decide +kernel
theorem dX0_size_4 : decode cX0_size 4 = .ok (.ireturn, 1) := by decide +kernel
theorem dX0_clear_0 : decode cX0_clear 0 = .ok (.aload_n 0, 1) := by decide +kernel
theorem dX0_clear_1 : decode cX0_clear 1 = .ok (.iconst 0, 1) := by decide +kernel
theorem dX0_clear_2 : decode cX0_clear 2 = .ok (.putfield 17, 3) := by decide +kernel
theorem dX0_clear_5 : decode cX0_clear 5 = .ok (.aload_n 0, 1) := by decide +kernel
theorem dX0_clear_6 : decode cX0_clear 6 = .ok (.iconst 0, 1) := by decide +kernel
theorem dX0_clear_7 : decode cX0_clear 7 = .ok (.putfield 21, 3) := by decide +kernel
theorem dX0_clear_10 : decode cX0_clear 10 = .ok (.return_, 1) := by decide +kernel
theorem dX0_remember_0 : decode cX0_remember 0 = .ok (.aload_n 1, 1) := by decide +kernel
theorem dX0_remember_1 : decode cX0_remember 1 = .ok (.aload_n 0, 1) := by decide +kernel
theorem dX0_remember_2 : decode cX0_remember 2 = .ok (.getfield 11, 3) := by decide +kernel
theorem dX0_remember_5 : decode cX0_remember 5 = .ok (.aload_n 0, 1) := by decide +kernel
theorem dX0_remember_6 : decode cX0_remember 6 = .ok (.getfield 21, 3) := by decide +kernel
theorem dX0_remember_9 : decode cX0_remember 9 = .ok (.invokevirtual 24, 3) := by decide +kernel
theorem dX0_remember_12 : decode cX0_remember 12 = .ok (.aload_n 0, 1) := by decide +kernel
theorem dX0_remember_13 : decode cX0_remember 13 = .ok (.aload_n 0, 1) := by decide +kernel
theorem dX0_remember_14 : decode cX0_remember 14 = .ok (.getfield 21, 3) := by decide +kernel
theorem dX0_remember_17 : decode cX0_remember 17 = .ok (.iconst 1, 1) := by decide +kernel
theorem dX0_remember_18 : decode cX0_remember 18 = .ok (.iadd, 1) := by decide +kernel
theorem dX0_remember_19 : decode cX0_remember 19 = .ok (.bipush 14, 2) := by decide +kernel
theorem dX0_remember_21 : decode cX0_remember 21 = .ok (.irem, 1) := by decide +kernel
theorem dX0_remember_22 : decode cX0_remember 22 = .ok (.putfield 21, 3) := by decide +kernel
theorem dX0_remember_25 : decode cX0_remember 25 = .ok (.aload_n 0, 1) := by decide +kernel
theorem dX0_remember_26 : decode cX0_remember 26 = .ok (.bipush 14, 2) := by decide +kernel
theorem dX0_remember_28 : decode cX0_remember 28 = .ok (.aload_n 0, 1) := by decide +kernel
theorem dX0_remember_29 : decode cX0_remember 29 = .ok (.getfield 17, 3) := by decide +kernel
theorem dX0_remember_32 : decode cX0_remember 32 = .ok (.iconst 1, 1) := by decide +kernel
theorem dX0_remember_33 : decode cX0_remember 33 = .ok (.iadd, 1) := by decide +kernel
theorem dX0_remember_34 : decode cX0_remember 34 = .ok (.invokestatic 28, 3) := by decide +kernel
theorem dX0_remember_37 : decode cX0_remember 37 = .ok (.putfield 17, 3) := by decide +kernel
theorem dX0_remember_40 : decode cX0_remember 40 = .ok (.return_, 1) := by decide +kernel
theorem dX0_takeBack_0 : decode cX0_takeBack 0 = .ok (.aload_n 0, 1) := by decide +kernel
theorem dX0_takeBack_1 : decode cX0_takeBack 1 = .ok (.getfield 17, 3) := by decide +kernel
theorem dX0_takeBack_4 : decode cX0_takeBack 4 = .ok (.ifCond .ne 5, 3) := by decide +kernel
theorem dX0_takeBack_7 : decode cX0_takeBack 7 = .ok (.iconst 0, 1) := by decide +kernel
theorem dX0_takeBack_8 : decode cX0_takeBack 8 = .ok (.ireturn, 1) := by decide +kernel
theorem dX0_takeBack_9 : decode cX0_takeBack 9 = .ok (.aload_n 0, 1) := by decide +kernel
theorem dX0_takeBack_10 : decode cX0_takeBack 10 = .ok (.aload_n 0, 1) := by decide +kernel
theorem dX0_takeBack_11 : decode cX0_takeBack 11 = .ok (.getfield 21, 3) := by decide +kernel
theorem dX0_takeBack_14 : decode cX0_takeBack 14 = .ok (.bipush 14, 2) := by decide +kernel
theorem dX0_takeBack_16 : decode cX0_takeBack 16 = .ok (.iadd, 1) := by decide +kernel
theorem dX0_takeBack_17 : decode cX0_takeBack 17 = .ok (.iconst 1, 1) := by decide +kernel
theorem dX0_takeBack_18 : decode cX0_takeBack 18 = .ok (.isub, 1) := by decide +kernel
theorem dX0_takeBack_19 : decode cX0_takeBack 19 = .ok (.bipush 14, 2) := by decide +kernel
theorem dX0_takeBack_21 : decode cX0_takeBack 21 = .ok (.irem, 1) := by decide +kernel
theorem dX0_takeBack_22 : decode cX0_takeBack 22 = .ok (.putfield 21, 3) := by decide +kernel
theorem dX0_takeBack_25 : decode cX0_takeBack 25 = .ok (.aload_n 0, 1) := by decide +kernel
theorem dX0_takeBack_26 : decode cX0_takeBack 26 = .ok (.dup, 1) := by decide +kernel
theorem dX0_takeBack_27 : decode cX0_takeBack 27 = .ok (.getfield 17, 3) := by decide +kernel
theorem dX0_takeBack_30 : decode cX0_takeBack 30 = .ok (.iconst 1, 1) := by decide +kernel
theorem dX0_takeBack_31 : decode cX0_takeBack 31 = .ok (.isub, 1) := by decide +kernel
theorem dX0_takeBack_32 : decode cX0_takeBack 32 = .ok (.putfield 17, 3) := by decide +kernel
theorem dX0_takeBack_35 : decode cX0_takeBack 35 = .ok (.aload_n 1, 1) := by decide +kernel
theorem dX0_takeBack_36 : decode cX0_takeBack 36 = .ok (.aload_n 0, 1) := by decide +kernel
theorem dX0_takeBack_37 : decode cX0_takeBack 37 = .ok (.getfield 11, 3) := by decide +kernel
theorem dX0_takeBack_40 : decode cX0_takeBack 40 = .ok (.aload_n 0, 1) := by decide +kernel
theorem dX0_takeBack_41 : decode cX0_takeBack 41 = .ok (.getfield 21, 3) := by decide +kernel
theorem dX0_takeBack_44 : decode cX0_takeBack 44 = .ok (.invokevirtual 34, 3) := by decide +kernel
theorem dX0_takeBack_47 : decode cX0_takeBack 47 = .ok (.iconst 1, 1) := by decide +kernel
theorem dX0_takeBack_48 : decode cX0_takeBack 48 = .ok (.ireturn, 1) := by decide +kernel
theorem dX1_init_0 : decode cX1_init 0 = .ok (.aload_n 0, 1) := by decide +kernel
theorem dX1_init_1 : decode cX1_init 1 = .ok (.invokespecial 3, 3) := by decide +kernel
theorem dX1_init_4 : decode cX1_init 4 = .ok (.aload_n 0, 1) := by decide +kernel
theorem dX1_init_5 : decode cX1_init 5 = .ok (.iconst 5, 1) := by decide +kernel
theorem dX1_init_6 : decode cX1_init 6 = .ok (.newarray .int, 2) := by decide +kernel
theorem dX1_init_8 : decode cX1_init 8 = .ok (.putfield 9, 3) := by decide +kernel
theorem dX1_init_11 : decode cX1_init 11 = .ok (.return_, 1) := by decide +kernel
theorem dX1_settle_0 : decode cX1_settle 0 = .ok (.aload_n 0, 1) := by decide +kernel
theorem dX1_settle_1 : decode cX1_settle 1 = .ok (.aload_n 1, 1) := by decide +kernel
theorem dX1_settle_2 : decode cX1_settle 2 = .ok (.iload_n 2, 1) := by decide +kernel
theorem dX1_settle_3 : decode cX1_settle 3 = .ok (.iload_n 3, 1) := by decide +kernel
theorem dX1_settle_4 : decode cX1_settle 4 = .ok (.invokevirtual 15, 3) := by decide +kernel
theorem dX1_settle_7 : decode cX1_settle 7 = .ok (.putfield 21, 3) := by decide +kernel
theorem dX1_settle_10 : decode cX1_settle 10 = .ok (.aload_n 0, 1) := by decide +kernel
theorem dX1_settle_11 : decode cX1_settle 11 = .ok (.iconst 3, 1) := by decide +kernel
theorem dX1_settle_12 : decode cX1_settle 12 = .ok (.aload_n 0, 1) := by decide +kernel
theorem dX1_settle_13 : decode cX1_settle 13 = .ok (.getfield 21, 3) := by decide +kernel
theorem dX1_settle_16 : decode cX1_settle 16 = .ok (.invokestatic 24, 3) := by decide +kernel
theorem dX1_settle_19 : decode cX1_settle 19 = .ok (.putfield 29, 3) := by decide +kernel
theorem dX1_settle_22 : decode cX1_settle 22 = .ok (.aload_n 0, 1) := by decide +kernel
theorem dX1_settle_23 : decode cX1_settle 23 = .ok (.aload_n 1, 1) := by decide +kernel
theorem dX1_settle_24 : decode cX1_settle 24 = .ok (.iload_n 3, 1) := by decide +kernel
theorem dX1_settle_25 : decode cX1_settle 25 = .ok (.invokevirtual 32, 3) := by decide +kernel
theorem dX1_settle_28 : decode cX1_settle 28 = .ok (.aload_n 1, 1) := by decide +kernel
theorem dX1_settle_29 : decode cX1_settle 29 = .ok (.iload_n 2, 1) := by decide +kernel
theorem dX1_settle_30 : decode cX1_settle 30 = .ok (.invokevirtual 36, 3) := by decide +kernel
theorem dX1_settle_33 : decode cX1_settle 33 = .ok (.iand, 1) := by decide +kernel
theorem dX1_settle_34 : decode cX1_settle 34 = .ok (.putfield 39, 3) := by decide +kernel
theorem dX1_settle_37 : decode cX1_settle 37 = .ok (.iconst 0, 1) := by decide +kernel
theorem dX1_settle_38 : decode cX1_settle 38 = .ok (.istore 4, 2) := by decide +kernel
theorem dX1_settle_40 : decode cX1_settle 40 = .ok (.iload 4, 2) := by decide +kernel
theorem dX1_settle_42 : decode cX1_settle 42 = .ok (.aload_n 1, 1) := by decide +kernel
theorem dX1_settle_43 : decode cX1_settle 43 = .ok (.invokevirtual 42, 3) := by decide +kernel
theorem dX1_settle_46 : decode cX1_settle 46 = .ok (.if_icmp .ge 22, 3) := by decide +kernel
theorem dX1_settle_49 : decode cX1_settle 49 = .ok (.aload_n 0, 1) := by decide +kernel
theorem dX1_settle_50 : decode cX1_settle 50 = .ok (.getfield 9, 3) := by decide +kernel
theorem dX1_settle_53 : decode cX1_settle 53 = .ok (.iload 4, 2) := by decide +kernel
theorem dX1_settle_55 : decode cX1_settle 55 = .ok (.aload_n 1, 1) := by decide +kernel
theorem dX1_settle_56 : decode cX1_settle 56 = .ok (.iload 4, 2) := by decide +kernel
theorem dX1_settle_58 : decode cX1_settle 58 = .ok (.invokevirtual 46, 3) := by decide +kernel
theorem dX1_settle_61 : decode cX1_settle 61 = .ok (.iastore, 1) := by decide +kernel
theorem dX1_settle_62 : decode cX1_settle 62 = .ok (.iinc 4 1, 3) := by decide +kernel
theorem dX1_settle_65 : decode cX1_settle 65 = .ok (.goto (-25), 3) := by decide +kernel
theorem dX1_settle_68 : decode cX1_settle 68 = .ok (.aload_n 0, 1) := by decide +kernel
theorem dX1_settle_69 : decode cX1_settle 69 = .ok (.iconst 0, 1) := by decide +kernel
theorem dX1_settle_70 : decode cX1_settle 70 = .ok (.putfield 49, 3) := by decide +kernel
theorem dX1_settle_73 : decode cX1_settle 73 = .ok (.aload_n 0, 1) := by decide +kernel
theorem dX1_settle_74 : decode cX1_settle 74 = .ok (.bipush (-9), 2) := by decide +kernel
theorem dX1_settle_76 : decode cX1_settle 76 = .ok (.putfield 52, 3) := by decide +kernel
theorem dX1_settle_79 : decode cX1_settle 79 = .ok (.iconst 0, 1) := by decide +kernel
theorem dX1_settle_80 : decode cX1_settle 80 = .ok (.istore 4, 2) := by decide +kernel
theorem dX1_settle_82 : decode cX1_settle 82 = .ok (.iload 4, 2) := by decide +kernel
theorem dX1_settle_84 : decode cX1_settle 84 = .ok (.aload_n 0, 1) := by decide +kernel
theorem dX1_settle_85 : decode cX1_settle 85 = .ok (.getfield 29, 3) := by decide +kernel
theorem dX1_settle_88 : decode cX1_settle 88 = .ok (.if_icmp .gt 91, 3) := by decide +kernel
theorem dX1_settle_91 : decode cX1_settle 91 = .ok (.iconst 0, 1) := by decide +kernel
theorem dX1_settle_92 : decode cX1_settle 92 = .ok (.istore 5, 2) := by decide +kernel
theorem dX1_settle_94 : decode cX1_settle 94 = .ok (.iload 5, 2) := by decide +kernel
theorem dX1_settle_96 : decode cX1_settle 96 = .ok (.iconst 5, 1) := by decide +kernel
theorem dX1_settle_97 : decode cX1_settle 97 = .ok (.if_icmp .gt 76, 3) := by decide +kernel
theorem dX1_settle_100 : decode cX1_settle 100 = .ok (.aload_n 0, 1) := by decide +kernel
theorem dX1_settle_101 : decode cX1_settle 101 = .ok (.iload 5, 2) := by decide +kernel
theorem dX1_settle_103 : decode cX1_settle 103 = .ok (.invokevirtual 55, 3) := by decide +kernel
theorem dX1_settle_106 : decode cX1_settle 106 = .ok (.ifCond .eq 61, 3) := by decide +kernel
theorem dX1_settle_109 : decode cX1_settle 109 = .ok (.aload_n 0, 1) := by decide +kernel
theorem dX1_settle_110 : decode cX1_settle 110 = .ok (.iload 4, 2) := by decide +kernel
theorem dX1_settle_112 : decode cX1_settle 112 = .ok (.iload 5, 2) := by decide +kernel
theorem dX1_settle_114 : decode cX1_settle 114 = .ok (.invokevirtual 59, 3) := by decide +kernel
theorem dX1_settle_117 : decode cX1_settle 117 = .ok (.ifCond .eq 50, 3) := by decide +kernel
theorem dX1_settle_120 : decode cX1_settle 120 = .ok (.aload_n 0, 1) := by decide +kernel
theorem dX1_settle_121 : decode cX1_settle 121 = .ok (.iload 4, 2) := by decide +kernel
theorem dX1_settle_123 : decode cX1_settle 123 = .ok (.iload 5, 2) := by decide +kernel
theorem dX1_settle_125 : decode cX1_settle 125 = .ok (.invokevirtual 63, 3) := by decide +kernel
theorem dX1_settle_128 : decode cX1_settle 128 = .ok (.ifCond .eq 39, 3) := by decide +kernel
theorem dX1_settle_131 : decode cX1_settle 131 = .ok (.aload_n 0, 1) := by decide +kernel
theorem dX1_settle_132 : decode cX1_settle 132 = .ok (.aload_n 0, 1) := by decide +kernel
theorem dX1_settle_133 : decode cX1_settle 133 = .ok (.getfield 49, 3) := by decide +kernel
theorem dX1_settle_136 : decode cX1_settle 136 = .ok (.ifCond .ne 14, 3) := by decide +kernel
theorem dX1_settle_139 : decode cX1_settle 139 = .ok (.bipush 10, 2) := by decide +kernel
theorem dX1_settle_141 : decode cX1_settle 141 = .ok (.iload 4, 2) := by decide +kernel
theorem dX1_settle_143 : decode cX1_settle 143 = .ok (.imul, 1) := by decide +kernel
theorem dX1_settle_144 : decode cX1_settle 144 = .ok (.iload 5, 2) := by decide +kernel
theorem dX1_settle_146 : decode cX1_settle 146 = .ok (.iadd, 1) := by decide +kernel
theorem dX1_settle_147 : decode cX1_settle 147 = .ok (.goto 7, 3) := by decide +kernel
theorem dX1_settle_150 : decode cX1_settle 150 = .ok (.aload_n 0, 1) := by decide +kernel
theorem dX1_settle_151 : decode cX1_settle 151 = .ok (.getfield 52, 3) := by decide +kernel
theorem dX1_settle_154 : decode cX1_settle 154 = .ok (.putfield 52, 3) := by decide +kernel
theorem dX1_settle_157 : decode cX1_settle 157 = .ok (.aload_n 0, 1) := by decide +kernel
theorem dX1_settle_158 : decode cX1_settle 158 = .ok (.dup, 1) := by decide +kernel
theorem dX1_settle_159 : decode cX1_settle 159 = .ok (.getfield 49, 3) := by decide +kernel
theorem dX1_settle_162 : decode cX1_settle 162 = .ok (.iconst 1, 1) := by decide +kernel
theorem dX1_settle_163 : decode cX1_settle 163 = .ok (.iadd, 1) := by decide +kernel
theorem dX1_settle_164 : decode cX1_settle 164 = .ok (.putfield 49, 3) := by decide +kernel
theorem dX1_settle_167 : decode cX1_settle 167 = .ok (.iinc 5 1, 3) := by decide +kernel
theorem dX1_settle_170 : decode cX1_settle 170 = .ok (.goto (-76), 3) := by decide +kernel
theorem dX1_settle_173 : decode cX1_settle 173 = .ok (.iinc 4 1, 3) := by decide +kernel
theorem dX1_settle_176 : decode cX1_settle 176 = .ok (.goto (-94), 3) := by decide +kernel
theorem dX1_settle_179 : decode cX1_settle 179 = .ok (.return_, 1) := by decide +kernel
theorem dX1_howMany_0 : decode cX1_howMany 0 = .ok (.aload_n 0, 1) := by decide +kernel
theorem dX1_howMany_1 : decode cX1_howMany 1 = .ok (.getfield 49, 3) := by decide +kernel
theorem dX1_howMany_4 : decode cX1_howMany 4 = .ok (.ireturn, 1) := by decide +kernel
theorem dX1_first_0 : decode cX1_first 0 = .ok (.aload_n 0, 1) := by decide +kernel
theorem dX1_first_1 : decode cX1_first 1 = .ok (.getfield 52, 3) := by decide +kernel
theorem dX1_first_4 : decode cX1_first 4 = .ok (.ireturn, 1) := by decide +kernel
theorem dX1_isOpen_0 : decode cX1_isOpen 0 = .ok (.iload_n 1, 1) := by decide +kernel
theorem dX1_isOpen_1 : decode cX1_isOpen 1 = .ok (.ifCond .eq 16, 3) := by decide +kernel
theorem dX1_isOpen_4 : decode cX1_isOpen 4 = .ok (.aload_n 0, 1) := by decide +kernel
theorem dX1_isOpen_5 : decode cX1_isOpen 5 = .ok (.getfield 39, 3) := by decide +kernel
theorem dX1_isOpen_8 : decode cX1_isOpen 8 = .ok (.iload_n 1, 1) := by decide +kernel
theorem dX1_isOpen_9 : decode cX1_isOpen 9 = .ok (.iconst 1, 1) := by decide +kernel
theorem dX1_isOpen_10 : decode cX1_isOpen 10 = .ok (.isub, 1) := by decide +kernel
theorem dX1_isOpen_11 : decode cX1_isOpen 11 = .ok (.invokestatic 66, 3) := by decide +kernel
theorem dX1_isOpen_14 : decode cX1_isOpen 14 = .ok (.ifCond .eq 7, 3) := by decide +kernel
theorem dX1_isOpen_17 : decode cX1_isOpen 17 = .ok (.iconst 1, 1) := by decide +kernel
theorem dX1_isOpen_18 : decode cX1_isOpen 18 = .ok (.goto 4, 3) := by decide +kernel
theorem dX1_isOpen_21 : decode cX1_isOpen 21 = .ok (.iconst 0, 1) := by decide +kernel
theorem dX1_isOpen_22 : decode cX1_isOpen 22 = .ok (.ireturn, 1) := by decide +kernel
theorem dX1_ownerRests_0 : decode cX1_ownerRests 0 = .ok (.iconst 0, 1) := by decide +kernel
theorem dX1_ownerRests_1 : decode cX1_ownerRests 1 = .ok (.istore_n 3, 1) := by decide +kernel
theorem dX1_ownerRests_2 : decode cX1_ownerRests 2 = .ok (.iload_n 3, 1) := by decide +kernel
theorem dX1_ownerRests_3 : decode cX1_ownerRests 3 = .ok (.aload_n 0, 1) := by decide +kernel
theorem dX1_ownerRests_4 : decode cX1_ownerRests 4 = .ok (.getfield 29, 3) := by decide +kernel
theorem dX1_ownerRests_7 : decode cX1_ownerRests 7 = .ok (.if_icmp .gt 26, 3) := by decide +kernel
theorem dX1_ownerRests_10 : decode cX1_ownerRests 10 = .ok (.aload_n 0, 1) := by decide +kernel
theorem dX1_ownerRests_11 : decode cX1_ownerRests 11 = .ok (.iload_n 3, 1) := by decide +kernel
theorem dX1_ownerRests_12 : decode cX1_ownerRests 12 = .ok (.iload_n 2, 1) := by decide +kernel
theorem dX1_ownerRests_13 : decode cX1_ownerRests 13 = .ok (.invokevirtual 69, 3) := by decide +kernel
theorem dX1_ownerRests_16 : decode cX1_ownerRests 16 = .ok (.aload_n 0, 1) := by decide +kernel
theorem dX1_ownerRests_17 : decode cX1_ownerRests 17 = .ok (.iload_n 1, 1) := by decide +kernel
theorem dX1_ownerRests_18 : decode cX1_ownerRests 18 = .ok (.iload_n 2, 1) := by decide +kernel
theorem dX1_ownerRests_19 : decode cX1_ownerRests 19 = .ok (.invokevirtual 69, 3) := by decide +kernel
theorem dX1_ownerRests_22 : decode cX1_ownerRests 22 = .ok (.if_icmp .ge 5, 3) := by decide +kernel
theorem dX1_ownerRests_25 : decode cX1_ownerRests 25 = .ok (.iconst 0, 1) := by decide +kernel
theorem dX1_ownerRests_26 : decode cX1_ownerRests 26 = .ok (.ireturn, 1) := by decide +kernel
theorem dX1_ownerRests_27 : decode cX1_ownerRests 27 = .ok (.iinc 3 1, 3) := by decide +kernel
theorem dX1_ownerRests_30 : decode cX1_ownerRests 30 = .ok (.goto (-28), 3) := by decide +kernel
theorem dX1_ownerRests_33 : decode cX1_ownerRests 33 = .ok (.iconst 1, 1) := by decide +kernel
theorem dX1_ownerRests_34 : decode cX1_ownerRests 34 = .ok (.ireturn, 1) := by decide +kernel
theorem dX1_creditorRests_0 : decode cX1_creditorRests 0 = .ok (.iconst 0, 1) := by decide +kernel
theorem dX1_creditorRests_1 : decode cX1_creditorRests 1 = .ok (.istore_n 3, 1) := by decide +kernel
theorem dX1_creditorRests_2 : decode cX1_creditorRests 2 = .ok (.iload_n 3, 1) := by decide +kernel
theorem dX1_creditorRests_3 : decode cX1_creditorRests 3 = .ok (.iconst 5, 1) := by decide +kernel
theorem dX1_creditorRests_4 : decode cX1_creditorRests 4 = .ok (.if_icmp .gt 34, 3) := by decide +kernel
theorem dX1_creditorRests_7 : decode cX1_creditorRests 7 = .ok (.aload_n 0, 1) := by decide +kernel
theorem dX1_creditorRests_8 : decode cX1_creditorRests 8 = .ok (.iload_n 3, 1) := by decide +kernel
theorem dX1_creditorRests_9 : decode cX1_creditorRests 9 = .ok (.invokevirtual 55, 3) := by decide +kernel
theorem dX1_creditorRests_12 : decode cX1_creditorRests 12 = .ok (.ifCond .eq 20, 3) := by decide +kernel
theorem dX1_creditorRests_15 : decode cX1_creditorRests 15 = .ok (.aload_n 0, 1) := by decide +kernel
theorem dX1_creditorRests_16 : decode cX1_creditorRests 16 = .ok (.iload_n 1, 1) := by decide +kernel
theorem dX1_creditorRests_17 : decode cX1_creditorRests 17 = .ok (.iload_n 3, 1) := by decide +kernel
theorem dX1_creditorRests_18 : decode cX1_creditorRests 18 = .ok (.invokevirtual 72, 3) := by decide +kernel
theorem dX1_creditorRests_21 : decode cX1_creditorRests 21 = .ok (.aload_n 0, 1) := by decide +kernel
theorem dX1_creditorRests_22 : decode cX1_creditorRests 22 = .ok (.iload_n 1, 1) := by decide +kernel
theorem dX1_creditorRests_23 : decode cX1_creditorRests 23 = .ok (.iload_n 2, 1) := by decide +kernel
theorem dX1_creditorRests_24 : decode cX1_creditorRests 24 = .ok (.invokevirtual 72, 3) := by decide +kernel
theorem dX1_creditorRests_27 : decode cX1_creditorRests 27 = .ok (.if_icmp .le 5, 3) := by decide +kernel
theorem dX1_creditorRests_30 : decode cX1_creditorRests 30 = .ok (.iconst 0, 1) := by decide +kernel
theorem dX1_creditorRests_31 : decode cX1_creditorRests 31 = .ok (.ireturn, 1) := by decide +kernel
theorem dX1_creditorRests_32 : decode cX1_creditorRests 32 = .ok (.iinc 3 1, 3) := by decide +kernel
theorem dX1_creditorRests_35 : decode cX1_creditorRests 35 = .ok (.goto (-33), 3) := by decide +kernel
theorem dX1_creditorRests_38 : decode cX1_creditorRests 38 = .ok (.iconst 1, 1) := by decide +kernel
theorem dX1_creditorRests_39 : decode cX1_creditorRests 39 = .ok (.ireturn, 1) := by decide +kernel
theorem dX1_cost_0 : decode cX1_cost 0 = .ok (.iload_n 2, 1) := by decide +kernel
theorem dX1_cost_1 : decode cX1_cost 1 = .ok (.ifCond .le 15, 3) := by decide +kernel
theorem dX1_cost_4 : decode cX1_cost 4 = .ok (.aload_n 0, 1) := by decide +kernel
theorem dX1_cost_5 : decode cX1_cost 5 = .ok (.getfield 21, 3) := by decide +kernel
theorem dX1_cost_8 : decode cX1_cost 8 = .ok (.iload_n 1, 1) := by decide +kernel
theorem dX1_cost_9 : decode cX1_cost 9 = .ok (.if_icmp .le 7, 3) := by decide +kernel
theorem dX1_cost_12 : decode cX1_cost 12 = .ok (.iconst 1, 1) := by decide +kernel
theorem dX1_cost_13 : decode cX1_cost 13 = .ok (.goto 4, 3) := by decide +kernel
theorem dX1_cost_16 : decode cX1_cost 16 = .ok (.iconst 0, 1) := by decide +kernel
theorem dX1_cost_17 : decode cX1_cost 17 = .ok (.istore_n 3, 1) := by decide +kernel
theorem dX1_cost_18 : decode cX1_cost 18 = .ok (.iload_n 1, 1) := by decide +kernel
theorem dX1_cost_19 : decode cX1_cost 19 = .ok (.iload_n 3, 1) := by decide +kernel
theorem dX1_cost_20 : decode cX1_cost 20 = .ok (.ifCond .eq 14, 3) := by decide +kernel
theorem dX1_cost_23 : decode cX1_cost 23 = .ok (.aload_n 0, 1) := by decide +kernel
theorem dX1_cost_24 : decode cX1_cost 24 = .ok (.getfield 9, 3) := by decide +kernel
theorem dX1_cost_27 : decode cX1_cost 27 = .ok (.iload_n 2, 1) := by decide +kernel
theorem dX1_cost_28 : decode cX1_cost 28 = .ok (.iconst 1, 1) := by decide +kernel
theorem dX1_cost_29 : decode cX1_cost 29 = .ok (.isub, 1) := by decide +kernel
theorem dX1_cost_30 : decode cX1_cost 30 = .ok (.iaload, 1) := by decide +kernel
theorem dX1_cost_31 : decode cX1_cost 31 = .ok (.goto 4, 3) := by decide +kernel
theorem dX1_cost_34 : decode cX1_cost 34 = .ok (.iconst 0, 1) := by decide +kernel
theorem dX1_cost_35 : decode cX1_cost 35 = .ok (.iadd, 1) := by decide +kernel
theorem dX1_cost_36 : decode cX1_cost 36 = .ok (.ireturn, 1) := by decide +kernel
theorem dX1_gain_0 : decode cX1_gain 0 = .ok (.iload_n 2, 1) := by decide +kernel
theorem dX1_gain_1 : decode cX1_gain 1 = .ok (.ifCond .ne 5, 3) := by decide +kernel
theorem dX1_gain_4 : decode cX1_gain 4 = .ok (.iload_n 1, 1) := by decide +kernel
theorem dX1_gain_5 : decode cX1_gain 5 = .ok (.ireturn, 1) := by decide +kernel
theorem dX1_gain_6 : decode cX1_gain 6 = .ok (.iload_n 1, 1) := by decide +kernel
theorem dX1_gain_7 : decode cX1_gain 7 = .ok (.aload_n 0, 1) := by decide +kernel
theorem dX1_gain_8 : decode cX1_gain 8 = .ok (.getfield 9, 3) := by decide +kernel
theorem dX1_gain_11 : decode cX1_gain 11 = .ok (.iload_n 2, 1) := by decide +kernel
theorem dX1_gain_12 : decode cX1_gain 12 = .ok (.iconst 1, 1) := by decide +kernel
theorem dX1_gain_13 : decode cX1_gain 13 = .ok (.isub, 1) := by decide +kernel
theorem dX1_gain_14 : decode cX1_gain 14 = .ok (.iaload, 1) := by decide +kernel
theorem dX1_gain_15 : decode cX1_gain 15 = .ok (.aload_n 0, 1) := by decide +kernel
theorem dX1_gain_16 : decode cX1_gain 16 = .ok (.getfield 21, 3) := by decide +kernel
theorem dX1_gain_19 : decode cX1_gain 19 = .ok (.iload_n 1, 1) := by decide +kernel
theorem dX1_gain_20 : decode cX1_gain 20 = .ok (.isub, 1) := by decide +kernel
theorem dX1_gain_21 : decode cX1_gain 21 = .ok (.invokestatic 24, 3) := by decide +kernel
theorem dX1_gain_24 : decode cX1_gain 24 = .ok (.iadd, 1) := by decide +kernel
theorem dX1_gain_25 : decode cX1_gain 25 = .ok (.iconst 1, 1) := by decide +kernel
theorem dX1_gain_26 : decode cX1_gain 26 = .ok (.isub, 1) := by decide +kernel
theorem dX1_gain_27 : decode cX1_gain 27 = .ok (.ireturn, 1) := by decide +kernel
theorem dX2_init_0 : decode cX2_init 0 = .ok (.aload_n 0, 1) := by decide +kernel
theorem dX2_init_1 : decode cX2_init 1 = .ok (.invokespecial 3, 3) := by decide +kernel
theorem dX2_init_4 : decode cX2_init 4 = .ok (.aload_n 0, 1) := by decide +kernel
theorem dX2_init_5 : decode cX2_init 5 = .ok (.iconst 4, 1) := by decide +kernel
theorem dX2_init_6 : decode cX2_init 6 = .ok (.newarray .int, 2) := by decide +kernel
theorem dX2_init_8 : decode cX2_init 8 = .ok (.putfield 9, 3) := by decide +kernel
theorem dX2_init_11 : decode cX2_init 11 = .ok (.return_, 1) := by decide +kernel
theorem dX2_look_0 : decode cX2_look 0 = .ok (.aload_n 0, 1) := by decide +kernel
theorem dX2_look_1 : decode cX2_look 1 = .ok (.iconst 4, 1) := by decide +kernel
theorem dX2_look_2 : decode cX2_look 2 = .ok (.aload_n 1, 1) := by decide +kernel
theorem dX2_look_3 : decode cX2_look 3 = .ok (.invokevirtual 15, 3) := by decide +kernel
theorem dX2_look_6 : decode cX2_look 6 = .ok (.invokestatic 21, 3) := by decide +kernel
theorem dX2_look_9 : decode cX2_look 9 = .ok (.putfield 27, 3) := by decide +kernel
theorem dX2_look_12 : decode cX2_look 12 = .ok (.iconst 0, 1) := by decide +kernel
theorem dX2_look_13 : decode cX2_look 13 = .ok (.istore_n 2, 1) := by decide +kernel
theorem dX2_look_14 : decode cX2_look 14 = .ok (.iload_n 2, 1) := by decide +kernel
theorem dX2_look_15 : decode cX2_look 15 = .ok (.aload_n 0, 1) := by decide +kernel
theorem dX2_look_16 : decode cX2_look 16 = .ok (.getfield 27, 3) := by decide +kernel
theorem dX2_look_19 : decode cX2_look 19 = .ok (.if_icmp .ge 20, 3) := by decide +kernel
theorem dX2_look_22 : decode cX2_look 22 = .ok (.aload_n 0, 1) := by decide +kernel
theorem dX2_look_23 : decode cX2_look 23 = .ok (.getfield 9, 3) := by decide +kernel
theorem dX2_look_26 : decode cX2_look 26 = .ok (.iload_n 2, 1) := by decide +kernel
theorem dX2_look_27 : decode cX2_look 27 = .ok (.aload_n 1, 1) := by decide +kernel
theorem dX2_look_28 : decode cX2_look 28 = .ok (.iload_n 2, 1) := by decide +kernel
theorem dX2_look_29 : decode cX2_look 29 = .ok (.invokevirtual 30, 3) := by decide +kernel
theorem dX2_look_32 : decode cX2_look 32 = .ok (.iastore, 1) := by decide +kernel
theorem dX2_look_33 : decode cX2_look 33 = .ok (.iinc 2 1, 3) := by decide +kernel
theorem dX2_look_36 : decode cX2_look 36 = .ok (.goto (-22), 3) := by decide +kernel
theorem dX2_look_39 : decode cX2_look 39 = .ok (.return_, 1) := by decide +kernel
theorem dX2_everybody_0 : decode cX2_everybody 0 = .ok (.iconst 1, 1) := by decide +kernel
theorem dX2_everybody_1 : decode cX2_everybody 1 = .ok (.aload_n 0, 1) := by decide +kernel
theorem dX2_everybody_2 : decode cX2_everybody 2 = .ok (.getfield 27, 3) := by decide +kernel
theorem dX2_everybody_5 : decode cX2_everybody 5 = .ok (.ishl, 1) := by decide +kernel
theorem dX2_everybody_6 : decode cX2_everybody 6 = .ok (.iconst 1, 1) := by decide +kernel
theorem dX2_everybody_7 : decode cX2_everybody 7 = .ok (.isub, 1) := by decide +kernel
theorem dX2_everybody_8 : decode cX2_everybody 8 = .ok (.ireturn, 1) := by decide +kernel
theorem dX2_takableByAny_0 : decode cX2_takableByAny 0 = .ok (.iconst 0, 1) := by decide +kernel
theorem dX2_takableByAny_1 : decode cX2_takableByAny 1 = .ok (.istore_n 2, 1) := by decide +kernel
theorem dX2_takableByAny_2 : decode cX2_takableByAny 2 = .ok (.iconst 0, 1) := by decide +kernel
theorem dX2_takableByAny_3 : decode cX2_takableByAny 3 = .ok (.istore_n 3, 1) := by decide +kernel
theorem dX2_takableByAny_4 : decode cX2_takableByAny 4 = .ok (.iload_n 3, 1) := by decide +kernel
theorem dX2_takableByAny_5 : decode cX2_takableByAny 5 = .ok (.aload_n 0, 1) := by decide +kernel
theorem dX2_takableByAny_6 : decode cX2_takableByAny 6 = .ok (.getfield 27, 3) := by decide +kernel
theorem dX2_takableByAny_9 : decode cX2_takableByAny 9 = .ok (.if_icmp .ge 30, 3) := by decide +kernel
theorem dX2_takableByAny_12 : decode cX2_takableByAny 12 = .ok (.iload_n 2, 1) := by decide +kernel
theorem dX2_takableByAny_13 : decode cX2_takableByAny 13 = .ok (.iload_n 1, 1) := by decide +kernel
theorem dX2_takableByAny_14 : decode cX2_takableByAny 14 = .ok (.iload_n 3, 1) := by decide +kernel
theorem dX2_takableByAny_15 : decode cX2_takableByAny 15 = .ok (.invokestatic 34, 3) := by decide +kernel
theorem dX2_takableByAny_18 : decode cX2_takableByAny 18 = .ok (.ifCond .eq 12, 3) := by decide +kernel
theorem dX2_takableByAny_21 : decode cX2_takableByAny 21 = .ok (.aload_n 0, 1) := by decide +kernel
theorem dX2_takableByAny_22 : decode cX2_takableByAny 22 = .ok (.getfield 9, 3) := by decide +kernel
theorem dX2_takableByAny_25 : decode cX2_takableByAny 25 = .ok (.iload_n 3, 1) := by decide +kernel
theorem dX2_takableByAny_26 : decode cX2_takableByAny 26 = .ok (.iaload, 1) := by decide +kernel
theorem dX2_takableByAny_27 : decode cX2_takableByAny 27 = .ok (.goto 4, 3) := by decide +kernel
theorem dX2_takableByAny_30 : decode cX2_takableByAny 30 = .ok (.iconst 0, 1) := by decide +kernel
theorem dX2_takableByAny_31 : decode cX2_takableByAny 31 = .ok (.ior, 1) := by decide +kernel
theorem dX2_takableByAny_32 : decode cX2_takableByAny 32 = .ok (.istore_n 2, 1) := by decide +kernel
theorem dX2_takableByAny_33 : decode cX2_takableByAny 33 = .ok (.iinc 3 1, 3) := by decide +kernel
theorem dX2_takableByAny_36 : decode cX2_takableByAny 36 = .ok (.goto (-32), 3) := by decide +kernel
theorem dX2_takableByAny_39 : decode cX2_takableByAny 39 = .ok (.iload_n 2, 1) := by decide +kernel
theorem dX2_takableByAny_40 : decode cX2_takableByAny 40 = .ok (.ireturn, 1) := by decide +kernel
theorem dX2_allTakeSome_0 : decode cX2_allTakeSome 0 = .ok (.iconst 0, 1) := by decide +kernel
theorem dX2_allTakeSome_1 : decode cX2_allTakeSome 1 = .ok (.istore_n 3, 1) := by decide +kernel
theorem dX2_allTakeSome_2 : decode cX2_allTakeSome 2 = .ok (.iload_n 3, 1) := by decide +kernel
theorem dX2_allTakeSome_3 : decode cX2_allTakeSome 3 = .ok (.aload_n 0, 1) := by decide +kernel
theorem dX2_allTakeSome_4 : decode cX2_allTakeSome 4 = .ok (.getfield 27, 3) := by decide +kernel
theorem dX2_allTakeSome_7 : decode cX2_allTakeSome 7 = .ok (.if_icmp .ge 30, 3) := by decide +kernel
theorem dX2_allTakeSome_10 : decode cX2_allTakeSome 10 = .ok (.iload_n 1, 1) := by decide +kernel
theorem dX2_allTakeSome_11 : decode cX2_allTakeSome 11 = .ok (.iload_n 3, 1) := by decide +kernel
theorem dX2_allTakeSome_12 : decode cX2_allTakeSome 12 = .ok (.invokestatic 34, 3) := by decide +kernel
theorem dX2_allTakeSome_15 : decode cX2_allTakeSome 15 = .ok (.ifCond .eq 16, 3) := by decide +kernel
theorem dX2_allTakeSome_18 : decode cX2_allTakeSome 18 = .ok (.aload_n 0, 1) := by decide +kernel
theorem dX2_allTakeSome_19 : decode cX2_allTakeSome 19 = .ok (.getfield 9, 3) := by decide +kernel
theorem dX2_allTakeSome_22 : decode cX2_allTakeSome 22 = .ok (.iload_n 3, 1) := by decide +kernel
theorem dX2_allTakeSome_23 : decode cX2_allTakeSome 23 = .ok (.iaload, 1) := by decide +kernel
theorem dX2_allTakeSome_24 : decode cX2_allTakeSome 24 = .ok (.iload_n 2, 1) := by decide +kernel
theorem dX2_allTakeSome_25 : decode cX2_allTakeSome 25 = .ok (.iand, 1) := by decide +kernel
theorem dX2_allTakeSome_26 : decode cX2_allTakeSome 26 = .ok (.ifCond .ne 5, 3) := by decide +kernel
theorem dX2_allTakeSome_29 : decode cX2_allTakeSome 29 = .ok (.iconst 0, 1) := by decide +kernel
theorem dX2_allTakeSome_30 : decode cX2_allTakeSome 30 = .ok (.ireturn, 1) := by decide +kernel
theorem dX2_allTakeSome_31 : decode cX2_allTakeSome 31 = .ok (.iinc 3 1, 3) := by decide +kernel
theorem dX2_allTakeSome_34 : decode cX2_allTakeSome 34 = .ok (.goto (-32), 3) := by decide +kernel
theorem dX2_allTakeSome_37 : decode cX2_allTakeSome 37 = .ok (.iconst 1, 1) := by decide +kernel
theorem dX2_allTakeSome_38 : decode cX2_allTakeSome 38 = .ok (.ireturn, 1) := by decide +kernel
theorem dX2_most_0 : decode cX2_most 0 = .ok (.aload_n 0, 1) := by decide +kernel
theorem dX2_most_1 : decode cX2_most 1 = .ok (.aload_n 0, 1) := by decide +kernel
theorem dX2_most_2 : decode cX2_most 2 = .ok (.invokevirtual 38, 3) := by decide +kernel
theorem dX2_most_5 : decode cX2_most 5 = .ok (.bipush 31, 2) := by decide +kernel
theorem dX2_most_7 : decode cX2_most 7 = .ok (.invokevirtual 41, 3) := by decide +kernel
theorem dX2_most_10 : decode cX2_most 10 = .ok (.ireturn, 1) := by decide +kernel
theorem dX2_mostOf_0 : decode cX2_mostOf 0 = .ok (.iconst 0, 1) := by decide +kernel
theorem dX2_mostOf_1 : decode cX2_mostOf 1 = .ok (.istore_n 3, 1) := by decide +kernel
theorem dX2_mostOf_2 : decode cX2_mostOf 2 = .ok (.iconst 0, 1) := by decide +kernel
theorem dX2_mostOf_3 : decode cX2_mostOf 3 = .ok (.istore 4, 2) := by decide +kernel
theorem dX2_mostOf_5 : decode cX2_mostOf 5 = .ok (.iload 4, 2) := by decide +kernel
theorem dX2_mostOf_7 : decode cX2_mostOf 7 = .ok (.iload_n 1, 1) := by decide +kernel
theorem dX2_mostOf_8 : decode cX2_mostOf 8 = .ok (.if_icmp .gt 44, 3) := by decide +kernel
theorem dX2_mostOf_11 : decode cX2_mostOf 11 = .ok (.iload 4, 2) := by decide +kernel
theorem dX2_mostOf_13 : decode cX2_mostOf 13 = .ok (.iload_n 1, 1) := by decide +kernel
theorem dX2_mostOf_14 : decode cX2_mostOf 14 = .ok (.iconst (-1), 1) := by decide +kernel
theorem dX2_mostOf_15 : decode cX2_mostOf 15 = .ok (.ixor, 1) := by decide +kernel
theorem dX2_mostOf_16 : decode cX2_mostOf 16 = .ok (.iand, 1) := by decide +kernel
theorem dX2_mostOf_17 : decode cX2_mostOf 17 = .ok (.ifCond .ne 29, 3) := by decide +kernel
theorem dX2_mostOf_20 : decode cX2_mostOf 20 = .ok (.aload_n 0, 1) := by decide +kernel
theorem dX2_mostOf_21 : decode cX2_mostOf 21 = .ok (.iload 4, 2) := by decide +kernel
theorem dX2_mostOf_23 : decode cX2_mostOf 23 = .ok (.invokevirtual 44, 3) := by decide +kernel
theorem dX2_mostOf_26 : decode cX2_mostOf 26 = .ok (.iload_n 2, 1) := by decide +kernel
theorem dX2_mostOf_27 : decode cX2_mostOf 27 = .ok (.iand, 1) := by decide +kernel
theorem dX2_mostOf_28 : decode cX2_mostOf 28 = .ok (.invokestatic 47, 3) := by decide +kernel
theorem dX2_mostOf_31 : decode cX2_mostOf 31 = .ok (.istore 5, 2) := by decide +kernel
theorem dX2_mostOf_33 : decode cX2_mostOf 33 = .ok (.iload_n 3, 1) := by decide +kernel
theorem dX2_mostOf_34 : decode cX2_mostOf 34 = .ok (.iload 4, 2) := by decide +kernel
theorem dX2_mostOf_36 : decode cX2_mostOf 36 = .ok (.invokestatic 47, 3) := by decide +kernel
theorem dX2_mostOf_39 : decode cX2_mostOf 39 = .ok (.iload 5, 2) := by decide +kernel
theorem dX2_mostOf_41 : decode cX2_mostOf 41 = .ok (.isub, 1) := by decide +kernel
theorem dX2_mostOf_42 : decode cX2_mostOf 42 = .ok (.invokestatic 52, 3) := by decide +kernel
theorem dX2_mostOf_45 : decode cX2_mostOf 45 = .ok (.istore_n 3, 1) := by decide +kernel
theorem dX2_mostOf_46 : decode cX2_mostOf 46 = .ok (.iinc 4 1, 3) := by decide +kernel
theorem dX2_mostOf_49 : decode cX2_mostOf 49 = .ok (.goto (-44), 3) := by decide +kernel
theorem dX2_mostOf_52 : decode cX2_mostOf 52 = .ok (.iload_n 1, 1) := by decide +kernel
theorem dX2_mostOf_53 : decode cX2_mostOf 53 = .ok (.invokestatic 47, 3) := by decide +kernel
theorem dX2_mostOf_56 : decode cX2_mostOf 56 = .ok (.iload_n 3, 1) := by decide +kernel
theorem dX2_mostOf_57 : decode cX2_mostOf 57 = .ok (.isub, 1) := by decide +kernel
theorem dX2_mostOf_58 : decode cX2_mostOf 58 = .ok (.ireturn, 1) := by decide +kernel
theorem dX2_firstWay_0 : decode cX2_firstWay 0 = .ok (.iconst 0, 1) := by decide +kernel
theorem dX2_firstWay_1 : decode cX2_firstWay 1 = .ok (.istore_n 1, 1) := by decide +kernel
theorem dX2_firstWay_2 : decode cX2_firstWay 2 = .ok (.bipush 31, 2) := by decide +kernel
theorem dX2_firstWay_4 : decode cX2_firstWay 4 = .ok (.istore_n 2, 1) := by decide +kernel
theorem dX2_firstWay_5 : decode cX2_firstWay 5 = .ok (.aload_n 0, 1) := by decide +kernel
theorem dX2_firstWay_6 : decode cX2_firstWay 6 = .ok (.invokevirtual 55, 3) := by decide +kernel
theorem dX2_firstWay_9 : decode cX2_firstWay 9 = .ok (.istore_n 3, 1) := by decide +kernel
theorem dX2_firstWay_10 : decode cX2_firstWay 10 = .ok (.iconst 0, 1) := by decide +kernel
theorem dX2_firstWay_11 : decode cX2_firstWay 11 = .ok (.istore 4, 2) := by decide +kernel
theorem dX2_firstWay_13 : decode cX2_firstWay 13 = .ok (.iload 4, 2) := by decide +kernel
theorem dX2_firstWay_15 : decode cX2_firstWay 15 = .ok (.aload_n 0, 1) := by decide +kernel
theorem dX2_firstWay_16 : decode cX2_firstWay 16 = .ok (.getfield 27, 3) := by decide +kernel
theorem dX2_firstWay_19 : decode cX2_firstWay 19 = .ok (.if_icmp .ge 46, 3) := by decide +kernel
theorem dX2_firstWay_22 : decode cX2_firstWay 22 = .ok (.aload_n 0, 1) := by decide +kernel
theorem dX2_firstWay_23 : decode cX2_firstWay 23 = .ok (.iload 4, 2) := by decide +kernel
theorem dX2_firstWay_25 : decode cX2_firstWay 25 = .ok (.iload_n 2, 1) := by decide +kernel
theorem dX2_firstWay_26 : decode cX2_firstWay 26 = .ok (.iload_n 3, 1) := by decide +kernel
theorem dX2_firstWay_27 : decode cX2_firstWay 27 = .ok (.invokevirtual 58, 3) := by decide +kernel
theorem dX2_firstWay_30 : decode cX2_firstWay 30 = .ok (.istore 5, 2) := by decide +kernel
theorem dX2_firstWay_32 : decode cX2_firstWay 32 = .ok (.iload 5, 2) := by decide +kernel
theorem dX2_firstWay_34 : decode cX2_firstWay 34 = .ok (.ifCond .le 17, 3) := by decide +kernel
theorem dX2_firstWay_37 : decode cX2_firstWay 37 = .ok (.iload_n 2, 1) := by decide +kernel
theorem dX2_firstWay_38 : decode cX2_firstWay 38 = .ok (.iconst 1, 1) := by decide +kernel
theorem dX2_firstWay_39 : decode cX2_firstWay 39 = .ok (.iload 5, 2) := by decide +kernel
theorem dX2_firstWay_41 : decode cX2_firstWay 41 = .ok (.iconst 1, 1) := by decide +kernel
theorem dX2_firstWay_42 : decode cX2_firstWay 42 = .ok (.isub, 1) := by decide +kernel
theorem dX2_firstWay_43 : decode cX2_firstWay 43 = .ok (.ishl, 1) := by decide +kernel
theorem dX2_firstWay_44 : decode cX2_firstWay 44 = .ok (.iconst (-1), 1) := by decide +kernel
theorem dX2_firstWay_45 : decode cX2_firstWay 45 = .ok (.ixor, 1) := by decide +kernel
theorem dX2_firstWay_46 : decode cX2_firstWay 46 = .ok (.iand, 1) := by decide +kernel
theorem dX2_firstWay_47 : decode cX2_firstWay 47 = .ok (.istore_n 2, 1) := by decide +kernel
theorem dX2_firstWay_48 : decode cX2_firstWay 48 = .ok (.iinc 3 (-1), 3) := by decide +kernel
theorem dX2_firstWay_51 : decode cX2_firstWay 51 = .ok (.iload_n 1, 1) := by decide +kernel
theorem dX2_firstWay_52 : decode cX2_firstWay 52 = .ok (.bipush 10, 2) := by decide +kernel
theorem dX2_firstWay_54 : decode cX2_firstWay 54 = .ok (.imul, 1) := by decide +kernel
theorem dX2_firstWay_55 : decode cX2_firstWay 55 = .ok (.iload 5, 2) := by decide +kernel
theorem dX2_firstWay_57 : decode cX2_firstWay 57 = .ok (.iadd, 1) := by decide +kernel
theorem dX2_firstWay_58 : decode cX2_firstWay 58 = .ok (.istore_n 1, 1) := by decide +kernel
theorem dX2_firstWay_59 : decode cX2_firstWay 59 = .ok (.iinc 4 1, 3) := by decide +kernel
theorem dX2_firstWay_62 : decode cX2_firstWay 62 = .ok (.goto (-49), 3) := by decide +kernel
theorem dX2_firstWay_65 : decode cX2_firstWay 65 = .ok (.iload_n 1, 1) := by decide +kernel
theorem dX2_firstWay_66 : decode cX2_firstWay 66 = .ok (.ireturn, 1) := by decide +kernel
theorem dX2_firstChoice_0 : decode cX2_firstChoice 0 = .ok (.aload_n 0, 1) := by decide +kernel
theorem dX2_firstChoice_1 : decode cX2_firstChoice 1 = .ok (.invokevirtual 38, 3) := by decide +kernel
theorem dX2_firstChoice_4 : decode cX2_firstChoice 4 = .ok (.iconst 2, 1) := by decide +kernel
theorem dX2_firstChoice_5 : decode cX2_firstChoice 5 = .ok (.iload_n 1, 1) := by decide +kernel
theorem dX2_firstChoice_6 : decode cX2_firstChoice 6 = .ok (.ishl, 1) := by decide +kernel
theorem dX2_firstChoice_7 : decode cX2_firstChoice 7 = .ok (.iconst 1, 1) := by decide +kernel
theorem dX2_firstChoice_8 : decode cX2_firstChoice 8 = .ok (.isub, 1) := by decide +kernel
theorem dX2_firstChoice_9 : decode cX2_firstChoice 9 = .ok (.iconst (-1), 1) := by decide +kernel
theorem dX2_firstChoice_10 : decode cX2_firstChoice 10 = .ok (.ixor, 1) := by decide +kernel
theorem dX2_firstChoice_11 : decode cX2_firstChoice 11 = .ok (.iand, 1) := by decide +kernel
theorem dX2_firstChoice_12 : decode cX2_firstChoice 12 = .ok (.istore 4, 2) := by decide +kernel
theorem dX2_firstChoice_14 : decode cX2_firstChoice 14 = .ok (.aload_n 0, 1) := by decide +kernel
theorem dX2_firstChoice_15 : decode cX2_firstChoice 15 = .ok (.iload 4, 2) := by decide +kernel
theorem dX2_firstChoice_17 : decode cX2_firstChoice 17 = .ok (.iload_n 2, 1) := by decide +kernel
theorem dX2_firstChoice_18 : decode cX2_firstChoice 18 = .ok (.invokevirtual 41, 3) := by decide +kernel
theorem dX2_firstChoice_21 : decode cX2_firstChoice 21 = .ok (.iload_n 3, 1) := by decide +kernel
theorem dX2_firstChoice_22 : decode cX2_firstChoice 22 = .ok (.if_icmp .ne 5, 3) := by decide +kernel
theorem dX2_firstChoice_25 : decode cX2_firstChoice 25 = .ok (.iconst 0, 1) := by decide +kernel
theorem dX2_firstChoice_26 : decode cX2_firstChoice 26 = .ok (.ireturn, 1) := by decide +kernel
theorem dX2_firstChoice_27 : decode cX2_firstChoice 27 = .ok (.iconst 0, 1) := by decide +kernel
theorem dX2_firstChoice_28 : decode cX2_firstChoice 28 = .ok (.istore 5, 2) := by decide +kernel
theorem dX2_firstChoice_30 : decode cX2_firstChoice 30 = .ok (.iload 5, 2) := by decide +kernel
theorem dX2_firstChoice_32 : decode cX2_firstChoice 32 = .ok (.iconst 5, 1) := by decide +kernel
theorem dX2_firstChoice_33 : decode cX2_firstChoice 33 = .ok (.if_icmp .ge 54, 3) := by decide +kernel
theorem dX2_firstChoice_36 : decode cX2_firstChoice 36 = .ok (.aload_n 0, 1) := by decide +kernel
theorem dX2_firstChoice_37 : decode cX2_firstChoice 37 = .ok (.getfield 9, 3) := by decide +kernel
theorem dX2_firstChoice_40 : decode cX2_firstChoice 40 = .ok (.iload_n 1, 1) := by decide +kernel
theorem dX2_firstChoice_41 : decode cX2_firstChoice 41 = .ok (.iaload, 1) := by decide +kernel
theorem dX2_firstChoice_42 : decode cX2_firstChoice 42 = .ok (.iload_n 2, 1) := by decide +kernel
theorem dX2_firstChoice_43 : decode cX2_firstChoice 43 = .ok (.iand, 1) := by decide +kernel
theorem dX2_firstChoice_44 : decode cX2_firstChoice 44 = .ok (.iload 5, 2) := by decide +kernel
theorem dX2_firstChoice_46 : decode cX2_firstChoice 46 = .ok (.invokestatic 34, 3) := by decide +kernel
theorem dX2_firstChoice_49 : decode cX2_firstChoice 49 = .ok (.istore 6, 2) := by decide +kernel
theorem dX2_firstChoice_51 : decode cX2_firstChoice 51 = .ok (.iload 6, 2) := by decide +kernel
theorem dX2_firstChoice_53 : decode cX2_firstChoice 53 = .ok (.ifCond .eq 28, 3) := by decide +kernel
theorem dX2_firstChoice_56 : decode cX2_firstChoice 56 = .ok (.iconst 1, 1) := by decide +kernel
theorem dX2_firstChoice_57 : decode cX2_firstChoice 57 = .ok (.aload_n 0, 1) := by decide +kernel
theorem dX2_firstChoice_58 : decode cX2_firstChoice 58 = .ok (.iload 4, 2) := by decide +kernel
theorem dX2_firstChoice_60 : decode cX2_firstChoice 60 = .ok (.iload_n 2, 1) := by decide +kernel
theorem dX2_firstChoice_61 : decode cX2_firstChoice 61 = .ok (.iconst 1, 1) := by decide +kernel
theorem dX2_firstChoice_62 : decode cX2_firstChoice 62 = .ok (.iload 5, 2) := by decide +kernel
theorem dX2_firstChoice_64 : decode cX2_firstChoice 64 = .ok (.ishl, 1) := by decide +kernel
theorem dX2_firstChoice_65 : decode cX2_firstChoice 65 = .ok (.iconst (-1), 1) := by decide +kernel
theorem dX2_firstChoice_66 : decode cX2_firstChoice 66 = .ok (.ixor, 1) := by decide +kernel
theorem dX2_firstChoice_67 : decode cX2_firstChoice 67 = .ok (.iand, 1) := by decide +kernel
theorem dX2_firstChoice_68 : decode cX2_firstChoice 68 = .ok (.invokevirtual 41, 3) := by decide +kernel
theorem dX2_firstChoice_71 : decode cX2_firstChoice 71 = .ok (.iadd, 1) := by decide +kernel
theorem dX2_firstChoice_72 : decode cX2_firstChoice 72 = .ok (.iload_n 3, 1) := by decide +kernel
theorem dX2_firstChoice_73 : decode cX2_firstChoice 73 = .ok (.if_icmp .ne 8, 3) := by decide +kernel
theorem dX2_firstChoice_76 : decode cX2_firstChoice 76 = .ok (.iload 5, 2) := by decide +kernel
theorem dX2_firstChoice_78 : decode cX2_firstChoice 78 = .ok (.iconst 1, 1) := by decide +kernel
theorem dX2_firstChoice_79 : decode cX2_firstChoice 79 = .ok (.iadd, 1) := by decide +kernel
theorem dX2_firstChoice_80 : decode cX2_firstChoice 80 = .ok (.ireturn, 1) := by decide +kernel
theorem dX2_firstChoice_81 : decode cX2_firstChoice 81 = .ok (.iinc 5 1, 3) := by decide +kernel
theorem dX2_firstChoice_84 : decode cX2_firstChoice 84 = .ok (.goto (-54), 3) := by decide +kernel
theorem dX2_firstChoice_87 : decode cX2_firstChoice 87 = .ok (.iconst 0, 1) := by decide +kernel
theorem dX2_firstChoice_88 : decode cX2_firstChoice 88 = .ok (.ireturn, 1) := by decide +kernel
theorem dX2_orders_0 : decode cX2_orders 0 = .ok (.getstatic 62, 3) := by decide +kernel
theorem dX2_orders_3 : decode cX2_orders 3 = .ok (.aload_n 0, 1) := by decide +kernel
theorem dX2_orders_4 : decode cX2_orders 4 = .ok (.getfield 27, 3) := by decide +kernel
theorem dX2_orders_7 : decode cX2_orders 7 = .ok (.iaload, 1) := by decide +kernel
theorem dX2_orders_8 : decode cX2_orders 8 = .ok (.ireturn, 1) := by decide +kernel
theorem dX2_ordersWithGain_0 : decode cX2_ordersWithGain 0 = .ok (.iconst 0, 1) := by decide +kernel
theorem dX2_ordersWithGain_1 : decode cX2_ordersWithGain 1 = .ok (.istore_n 2, 1) := by decide +kernel
theorem dX2_ordersWithGain_2 : decode cX2_ordersWithGain 2 = .ok (.iconst 0, 1) := by decide +kernel
theorem dX2_ordersWithGain_3 : decode cX2_ordersWithGain 3 = .ok (.istore_n 3, 1) := by decide +kernel
theorem dX2_ordersWithGain_4 : decode cX2_ordersWithGain 4 = .ok (.iload_n 3, 1) := by decide +kernel
theorem dX2_ordersWithGain_5 : decode cX2_ordersWithGain 5 = .ok (.aload_n 0, 1) := by decide +kernel
theorem dX2_ordersWithGain_6 : decode cX2_ordersWithGain 6 = .ok (.invokevirtual 38, 3) := by decide +kernel
theorem dX2_ordersWithGain_9 : decode cX2_ordersWithGain 9 = .ok (.if_icmp .gt 67, 3) := by decide +kernel
theorem dX2_ordersWithGain_12 : decode cX2_ordersWithGain 12 = .ok (.iload_n 3, 1) := by decide +kernel
theorem dX2_ordersWithGain_13 : decode cX2_ordersWithGain 13 = .ok (.iload_n 1, 1) := by decide +kernel
theorem dX2_ordersWithGain_14 : decode cX2_ordersWithGain 14 = .ok (.invokestatic 34, 3) := by decide +kernel
theorem dX2_ordersWithGain_17 : decode cX2_ordersWithGain 17 = .ok (.ifCond .ne 53, 3) := by decide +kernel
theorem dX2_ordersWithGain_20 : decode cX2_ordersWithGain 20 = .ok (.aload_n 0, 1) := by decide +kernel
theorem dX2_ordersWithGain_21 : decode cX2_ordersWithGain 21 = .ok (.iload_n 3, 1) := by decide +kernel
theorem dX2_ordersWithGain_22 : decode cX2_ordersWithGain 22 = .ok (.iconst 1, 1) := by decide +kernel
theorem dX2_ordersWithGain_23 : decode cX2_ordersWithGain 23 = .ok (.iload_n 1, 1) := by decide +kernel
theorem dX2_ordersWithGain_24 : decode cX2_ordersWithGain 24 = .ok (.ishl, 1) := by decide +kernel
theorem dX2_ordersWithGain_25 : decode cX2_ordersWithGain 25 = .ok (.ior, 1) := by decide +kernel
theorem dX2_ordersWithGain_26 : decode cX2_ordersWithGain 26 = .ok (.bipush 31, 2) := by decide +kernel
theorem dX2_ordersWithGain_28 : decode cX2_ordersWithGain 28 = .ok (.invokevirtual 41, 3) := by decide +kernel
theorem dX2_ordersWithGain_31 : decode cX2_ordersWithGain 31 = .ok (.aload_n 0, 1) := by decide +kernel
theorem dX2_ordersWithGain_32 : decode cX2_ordersWithGain 32 = .ok (.iload_n 3, 1) := by decide +kernel
theorem dX2_ordersWithGain_33 : decode cX2_ordersWithGain 33 = .ok (.bipush 31, 2) := by decide +kernel
theorem dX2_ordersWithGain_35 : decode cX2_ordersWithGain 35 = .ok (.invokevirtual 41, 3) := by decide +kernel
theorem dX2_ordersWithGain_38 : decode cX2_ordersWithGain 38 = .ok (.if_icmp .le 32, 3) := by decide +kernel
theorem dX2_ordersWithGain_41 : decode cX2_ordersWithGain 41 = .ok (.iload_n 3, 1) := by decide +kernel
theorem dX2_ordersWithGain_42 : decode cX2_ordersWithGain 42 = .ok (.invokestatic 47, 3) := by decide +kernel
theorem dX2_ordersWithGain_45 : decode cX2_ordersWithGain 45 = .ok (.istore 4, 2) := by decide +kernel
theorem dX2_ordersWithGain_47 : decode cX2_ordersWithGain 47 = .ok (.iload_n 2, 1) := by decide +kernel
theorem dX2_ordersWithGain_48 : decode cX2_ordersWithGain 48 = .ok (.getstatic 62, 3) := by decide +kernel
theorem dX2_ordersWithGain_51 : decode cX2_ordersWithGain 51 = .ok (.iload 4, 2) := by decide +kernel
theorem dX2_ordersWithGain_53 : decode cX2_ordersWithGain 53 = .ok (.iaload, 1) := by decide +kernel
theorem dX2_ordersWithGain_54 : decode cX2_ordersWithGain 54 = .ok (.getstatic 62, 3) := by decide +kernel
theorem dX2_ordersWithGain_57 : decode cX2_ordersWithGain 57 = .ok (.aload_n 0, 1) := by decide +kernel
theorem dX2_ordersWithGain_58 : decode cX2_ordersWithGain 58 = .ok (.getfield 27, 3) := by decide +kernel
theorem dX2_ordersWithGain_61 : decode cX2_ordersWithGain 61 = .ok (.iconst 1, 1) := by decide +kernel
theorem dX2_ordersWithGain_62 : decode cX2_ordersWithGain 62 = .ok (.isub, 1) := by decide +kernel
theorem dX2_ordersWithGain_63 : decode cX2_ordersWithGain 63 = .ok (.iload 4, 2) := by decide +kernel
theorem dX2_ordersWithGain_65 : decode cX2_ordersWithGain 65 = .ok (.isub, 1) := by decide +kernel
theorem dX2_ordersWithGain_66 : decode cX2_ordersWithGain 66 = .ok (.iaload, 1) := by decide +kernel
theorem dX2_ordersWithGain_67 : decode cX2_ordersWithGain 67 = .ok (.imul, 1) := by decide +kernel
theorem dX2_ordersWithGain_68 : decode cX2_ordersWithGain 68 = .ok (.iadd, 1) := by decide +kernel
theorem dX2_ordersWithGain_69 : decode cX2_ordersWithGain 69 = .ok (.istore_n 2, 1) := by decide +kernel
theorem dX2_ordersWithGain_70 : decode cX2_ordersWithGain 70 = .ok (.iinc 3 1, 3) := by decide +kernel
theorem dX2_ordersWithGain_73 : decode cX2_ordersWithGain 73 = .ok (.goto (-69), 3) := by decide +kernel
theorem dX2_ordersWithGain_76 : decode cX2_ordersWithGain 76 = .ok (.iload_n 2, 1) := by decide +kernel
theorem dX2_ordersWithGain_77 : decode cX2_ordersWithGain 77 = .ok (.ireturn, 1) := by decide +kernel
theorem dX3_init_0 : decode cX3_init 0 = .ok (.aload_n 0, 1) := by decide +kernel
theorem dX3_init_1 : decode cX3_init 1 = .ok (.invokespecial 3, 3) := by decide +kernel
theorem dX3_init_4 : decode cX3_init 4 = .ok (.aload_n 0, 1) := by decide +kernel
theorem dX3_init_5 : decode cX3_init 5 = .ok (.iconst 5, 1) := by decide +kernel
theorem dX3_init_6 : decode cX3_init 6 = .ok (.newarray .int, 2) := by decide +kernel
theorem dX3_init_8 : decode cX3_init 8 = .ok (.putfield 9, 3) := by decide +kernel
theorem dX3_init_11 : decode cX3_init 11 = .ok (.aload_n 0, 1) := by decide +kernel
theorem dX3_init_12 : decode cX3_init 12 = .ok (.iconst 4, 1) := by decide +kernel
theorem dX3_init_13 : decode cX3_init 13 = .ok (.newarray .int, 2) := by decide +kernel
theorem dX3_init_15 : decode cX3_init 15 = .ok (.putfield 15, 3) := by decide +kernel
theorem dX3_init_18 : decode cX3_init 18 = .ok (.return_, 1) := by decide +kernel
theorem dX3_find_0 : decode cX3_find 0 = .ok (.aload_n 0, 1) := by decide +kernel
theorem dX3_find_1 : decode cX3_find 1 = .ok (.iconst 0, 1) := by decide +kernel
theorem dX3_find_2 : decode cX3_find 2 = .ok (.putfield 18, 3) := by decide +kernel
theorem dX3_find_5 : decode cX3_find 5 = .ok (.aload_n 0, 1) := by decide +kernel
theorem dX3_find_6 : decode cX3_find 6 = .ok (.getfield 9, 3) := by decide +kernel
theorem dX3_find_9 : decode cX3_find 9 = .ok (.iconst 0, 1) := by decide +kernel
theorem dX3_find_10 : decode cX3_find 10 = .ok (.iconst 1, 1) := by decide +kernel
theorem dX3_find_11 : decode cX3_find 11 = .ok (.iload_n 2, 1) := by decide +kernel
theorem dX3_find_12 : decode cX3_find 12 = .ok (.ishl, 1) := by decide +kernel
theorem dX3_find_13 : decode cX3_find 13 = .ok (.iastore, 1) := by decide +kernel
theorem dX3_find_14 : decode cX3_find 14 = .ok (.iconst 1, 1) := by decide +kernel
theorem dX3_find_15 : decode cX3_find 15 = .ok (.istore_n 3, 1) := by decide +kernel
theorem dX3_find_16 : decode cX3_find 16 = .ok (.iload_n 3, 1) := by decide +kernel
theorem dX3_find_17 : decode cX3_find 17 = .ok (.aload_n 1, 1) := by decide +kernel
theorem dX3_find_18 : decode cX3_find 18 = .ok (.invokevirtual 22, 3) := by decide +kernel
theorem dX3_find_21 : decode cX3_find 21 = .ok (.if_icmp .gt 49, 3) := by decide +kernel
theorem dX3_find_24 : decode cX3_find 24 = .ok (.aload_n 0, 1) := by decide +kernel
theorem dX3_find_25 : decode cX3_find 25 = .ok (.getfield 9, 3) := by decide +kernel
theorem dX3_find_28 : decode cX3_find 28 = .ok (.iload_n 3, 1) := by decide +kernel
theorem dX3_find_29 : decode cX3_find 29 = .ok (.aload_n 1, 1) := by decide +kernel
theorem dX3_find_30 : decode cX3_find 30 = .ok (.aload_n 0, 1) := by decide +kernel
theorem dX3_find_31 : decode cX3_find 31 = .ok (.getfield 9, 3) := by decide +kernel
theorem dX3_find_34 : decode cX3_find 34 = .ok (.iload_n 3, 1) := by decide +kernel
theorem dX3_find_35 : decode cX3_find 35 = .ok (.iconst 1, 1) := by decide +kernel
theorem dX3_find_36 : decode cX3_find 36 = .ok (.isub, 1) := by decide +kernel
theorem dX3_find_37 : decode cX3_find 37 = .ok (.iaload, 1) := by decide +kernel
theorem dX3_find_38 : decode cX3_find 38 = .ok (.invokestatic 28, 3) := by decide +kernel
theorem dX3_find_41 : decode cX3_find 41 = .ok (.iastore, 1) := by decide +kernel
theorem dX3_find_42 : decode cX3_find 42 = .ok (.aload_n 0, 1) := by decide +kernel
theorem dX3_find_43 : decode cX3_find 43 = .ok (.getfield 9, 3) := by decide +kernel
theorem dX3_find_46 : decode cX3_find 46 = .ok (.iload_n 3, 1) := by decide +kernel
theorem dX3_find_47 : decode cX3_find 47 = .ok (.iaload, 1) := by decide +kernel
theorem dX3_find_48 : decode cX3_find 48 = .ok (.iload_n 2, 1) := by decide +kernel
theorem dX3_find_49 : decode cX3_find 49 = .ok (.invokestatic 32, 3) := by decide +kernel
theorem dX3_find_52 : decode cX3_find 52 = .ok (.ifCond .eq 12, 3) := by decide +kernel
theorem dX3_find_55 : decode cX3_find 55 = .ok (.aload_n 0, 1) := by decide +kernel
theorem dX3_find_56 : decode cX3_find 56 = .ok (.aload_n 1, 1) := by decide +kernel
theorem dX3_find_57 : decode cX3_find 57 = .ok (.iload_n 2, 1) := by decide +kernel
theorem dX3_find_58 : decode cX3_find 58 = .ok (.iload_n 3, 1) := by decide +kernel
theorem dX3_find_59 : decode cX3_find 59 = .ok (.invokevirtual 36, 3) := by decide +kernel
theorem dX3_find_62 : decode cX3_find 62 = .ok (.iconst 1, 1) := by decide +kernel
theorem dX3_find_63 : decode cX3_find 63 = .ok (.ireturn, 1) := by decide +kernel
theorem dX3_find_64 : decode cX3_find 64 = .ok (.iinc 3 1, 3) := by decide +kernel
theorem dX3_find_67 : decode cX3_find 67 = .ok (.goto (-51), 3) := by decide +kernel
theorem dX3_find_70 : decode cX3_find 70 = .ok (.iconst 0, 1) := by decide +kernel
theorem dX3_find_71 : decode cX3_find 71 = .ok (.ireturn, 1) := by decide +kernel
theorem dX3_debtorsOf_0 : decode cX3_debtorsOf 0 = .ok (.iconst 0, 1) := by decide +kernel
theorem dX3_debtorsOf_1 : decode cX3_debtorsOf 1 = .ok (.istore_n 2, 1) := by decide +kernel
theorem dX3_debtorsOf_2 : decode cX3_debtorsOf 2 = .ok (.iconst 0, 1) := by decide +kernel
theorem dX3_debtorsOf_3 : decode cX3_debtorsOf 3 = .ok (.istore_n 3, 1) := by decide +kernel
theorem dX3_debtorsOf_4 : decode cX3_debtorsOf 4 = .ok (.iload_n 3, 1) := by decide +kernel
theorem dX3_debtorsOf_5 : decode cX3_debtorsOf 5 = .ok (.aload_n 0, 1) := by decide +kernel
theorem dX3_debtorsOf_6 : decode cX3_debtorsOf 6 = .ok (.invokevirtual 22, 3) := by decide +kernel
theorem dX3_debtorsOf_9 : decode cX3_debtorsOf 9 = .ok (.if_icmp .ge 28, 3) := by decide +kernel
theorem dX3_debtorsOf_12 : decode cX3_debtorsOf 12 = .ok (.iload_n 2, 1) := by decide +kernel
theorem dX3_debtorsOf_13 : decode cX3_debtorsOf 13 = .ok (.aload_n 0, 1) := by decide +kernel
theorem dX3_debtorsOf_14 : decode cX3_debtorsOf 14 = .ok (.iload_n 3, 1) := by decide +kernel
theorem dX3_debtorsOf_15 : decode cX3_debtorsOf 15 = .ok (.iload_n 1, 1) := by decide +kernel
theorem dX3_debtorsOf_16 : decode cX3_debtorsOf 16 = .ok (.invokestatic 40, 3) := by decide +kernel
theorem dX3_debtorsOf_19 : decode cX3_debtorsOf 19 = .ok (.ifCond .eq 9, 3) := by decide +kernel
theorem dX3_debtorsOf_22 : decode cX3_debtorsOf 22 = .ok (.iconst 1, 1) := by decide +kernel
theorem dX3_debtorsOf_23 : decode cX3_debtorsOf 23 = .ok (.iload_n 3, 1) := by decide +kernel
theorem dX3_debtorsOf_24 : decode cX3_debtorsOf 24 = .ok (.ishl, 1) := by decide +kernel
theorem dX3_debtorsOf_25 : decode cX3_debtorsOf 25 = .ok (.goto 4, 3) := by decide +kernel
theorem dX3_debtorsOf_28 : decode cX3_debtorsOf 28 = .ok (.iconst 0, 1) := by decide +kernel
theorem dX3_debtorsOf_29 : decode cX3_debtorsOf 29 = .ok (.ior, 1) := by decide +kernel
theorem dX3_debtorsOf_30 : decode cX3_debtorsOf 30 = .ok (.istore_n 2, 1) := by decide +kernel
theorem dX3_debtorsOf_31 : decode cX3_debtorsOf 31 = .ok (.iinc 3 1, 3) := by decide +kernel
theorem dX3_debtorsOf_34 : decode cX3_debtorsOf 34 = .ok (.goto (-30), 3) := by decide +kernel
theorem dX3_debtorsOf_37 : decode cX3_debtorsOf 37 = .ok (.iload_n 2, 1) := by decide +kernel
theorem dX3_debtorsOf_38 : decode cX3_debtorsOf 38 = .ok (.ireturn, 1) := by decide +kernel
theorem dX3_owesOneOf_0 : decode cX3_owesOneOf 0 = .ok (.iconst 0, 1) := by decide +kernel
theorem dX3_owesOneOf_1 : decode cX3_owesOneOf 1 = .ok (.istore_n 3, 1) := by decide +kernel
theorem dX3_owesOneOf_2 : decode cX3_owesOneOf 2 = .ok (.iload_n 3, 1) := by decide +kernel
theorem dX3_owesOneOf_3 : decode cX3_owesOneOf 3 = .ok (.aload_n 0, 1) := by decide +kernel
theorem dX3_owesOneOf_4 : decode cX3_owesOneOf 4 = .ok (.invokevirtual 22, 3) := by decide +kernel
theorem dX3_owesOneOf_7 : decode cX3_owesOneOf 7 = .ok (.if_icmp .ge 28, 3) := by decide +kernel
theorem dX3_owesOneOf_10 : decode cX3_owesOneOf 10 = .ok (.iload_n 2, 1) := by decide +kernel
theorem dX3_owesOneOf_11 : decode cX3_owesOneOf 11 = .ok (.iload_n 3, 1) := by decide +kernel
theorem dX3_owesOneOf_12 : decode cX3_owesOneOf 12 = .ok (.invokestatic 32, 3) := by decide +kernel
theorem dX3_owesOneOf_15 : decode cX3_owesOneOf 15 = .ok (.ifCond .eq 14, 3) := by decide +kernel
theorem dX3_owesOneOf_18 : decode cX3_owesOneOf 18 = .ok (.aload_n 0, 1) := by decide +kernel
theorem dX3_owesOneOf_19 : decode cX3_owesOneOf 19 = .ok (.iload_n 1, 1) := by decide +kernel
theorem dX3_owesOneOf_20 : decode cX3_owesOneOf 20 = .ok (.iload_n 3, 1) := by decide +kernel
theorem dX3_owesOneOf_21 : decode cX3_owesOneOf 21 = .ok (.invokevirtual 44, 3) := by decide +kernel
theorem dX3_owesOneOf_24 : decode cX3_owesOneOf 24 = .ok (.ifCond .le 5, 3) := by decide +kernel
theorem dX3_owesOneOf_27 : decode cX3_owesOneOf 27 = .ok (.iconst 1, 1) := by decide +kernel
theorem dX3_owesOneOf_28 : decode cX3_owesOneOf 28 = .ok (.ireturn, 1) := by decide +kernel
theorem dX3_owesOneOf_29 : decode cX3_owesOneOf 29 = .ok (.iinc 3 1, 3) := by decide +kernel
theorem dX3_owesOneOf_32 : decode cX3_owesOneOf 32 = .ok (.goto (-30), 3) := by decide +kernel
theorem dX3_owesOneOf_35 : decode cX3_owesOneOf 35 = .ok (.iconst 0, 1) := by decide +kernel
theorem dX3_owesOneOf_36 : decode cX3_owesOneOf 36 = .ok (.ireturn, 1) := by decide +kernel
theorem dX3_follow_0 : decode cX3_follow 0 = .ok (.iload_n 2, 1) := by decide +kernel
theorem dX3_follow_1 : decode cX3_follow 1 = .ok (.istore 4, 2) := by decide +kernel
theorem dX3_follow_3 : decode cX3_follow 3 = .ok (.iload_n 3, 1) := by decide +kernel
theorem dX3_follow_4 : decode cX3_follow 4 = .ok (.istore 5, 2) := by decide +kernel
theorem dX3_follow_6 : decode cX3_follow 6 = .ok (.iload 5, 2) := by decide +kernel
theorem dX3_follow_8 : decode cX3_follow 8 = .ok (.iconst 1, 1) := by decide +kernel
theorem dX3_follow_9 : decode cX3_follow 9 = .ok (.if_icmp .lt 47, 3) := by decide +kernel
theorem dX3_follow_12 : decode cX3_follow 12 = .ok (.aload_n 0, 1) := by decide +kernel
theorem dX3_follow_13 : decode cX3_follow 13 = .ok (.getfield 15, 3) := by decide +kernel
theorem dX3_follow_16 : decode cX3_follow 16 = .ok (.aload_n 0, 1) := by decide +kernel
theorem dX3_follow_17 : decode cX3_follow 17 = .ok (.getfield 18, 3) := by decide +kernel
theorem dX3_follow_20 : decode cX3_follow 20 = .ok (.iload 4, 2) := by decide +kernel
theorem dX3_follow_22 : decode cX3_follow 22 = .ok (.iastore, 1) := by decide +kernel
theorem dX3_follow_23 : decode cX3_follow 23 = .ok (.aload_n 0, 1) := by decide +kernel
theorem dX3_follow_24 : decode cX3_follow 24 = .ok (.dup, 1) := by decide +kernel
theorem dX3_follow_25 : decode cX3_follow 25 = .ok (.getfield 18, 3) := by decide +kernel
theorem dX3_follow_28 : decode cX3_follow 28 = .ok (.iconst 1, 1) := by decide +kernel
theorem dX3_follow_29 : decode cX3_follow 29 = .ok (.iadd, 1) := by decide +kernel
theorem dX3_follow_30 : decode cX3_follow 30 = .ok (.putfield 18, 3) := by decide +kernel
theorem dX3_follow_33 : decode cX3_follow 33 = .ok (.aload_n 1, 1) := by decide +kernel
theorem dX3_follow_34 : decode cX3_follow 34 = .ok (.iload 4, 2) := by decide +kernel
theorem dX3_follow_36 : decode cX3_follow 36 = .ok (.aload_n 0, 1) := by decide +kernel
theorem dX3_follow_37 : decode cX3_follow 37 = .ok (.getfield 9, 3) := by decide +kernel
theorem dX3_follow_40 : decode cX3_follow 40 = .ok (.iload 5, 2) := by decide +kernel
theorem dX3_follow_42 : decode cX3_follow 42 = .ok (.iconst 1, 1) := by decide +kernel
theorem dX3_follow_43 : decode cX3_follow 43 = .ok (.isub, 1) := by decide +kernel
theorem dX3_follow_44 : decode cX3_follow 44 = .ok (.iaload, 1) := by decide +kernel
theorem dX3_follow_45 : decode cX3_follow 45 = .ok (.invokestatic 48, 3) := by decide +kernel
theorem dX3_follow_48 : decode cX3_follow 48 = .ok (.istore 4, 2) := by decide +kernel
theorem dX3_follow_50 : decode cX3_follow 50 = .ok (.iinc 5 (-1), 3) := by decide +kernel
theorem dX3_follow_53 : decode cX3_follow 53 = .ok (.goto (-47), 3) := by decide +kernel
theorem dX3_follow_56 : decode cX3_follow 56 = .ok (.return_, 1) := by decide +kernel
theorem dX3_firstCreditor_0 : decode cX3_firstCreditor 0 = .ok (.iconst 0, 1) := by decide +kernel
theorem dX3_firstCreditor_1 : decode cX3_firstCreditor 1 = .ok (.istore_n 3, 1) := by decide +kernel
theorem dX3_firstCreditor_2 : decode cX3_firstCreditor 2 = .ok (.iload_n 3, 1) := by decide +kernel
theorem dX3_firstCreditor_3 : decode cX3_firstCreditor 3 = .ok (.aload_n 0, 1) := by decide +kernel
theorem dX3_firstCreditor_4 : decode cX3_firstCreditor 4 = .ok (.invokevirtual 22, 3) := by decide +kernel
theorem dX3_firstCreditor_7 : decode cX3_firstCreditor 7 = .ok (.if_icmp .ge 28, 3) := by decide +kernel
theorem dX3_firstCreditor_10 : decode cX3_firstCreditor 10 = .ok (.iload_n 2, 1) := by decide +kernel
theorem dX3_firstCreditor_11 : decode cX3_firstCreditor 11 = .ok (.iload_n 3, 1) := by decide +kernel
theorem dX3_firstCreditor_12 : decode cX3_firstCreditor 12 = .ok (.invokestatic 32, 3) := by decide +kernel
theorem dX3_firstCreditor_15 : decode cX3_firstCreditor 15 = .ok (.ifCond .eq 14, 3) := by decide +kernel
theorem dX3_firstCreditor_18 : decode cX3_firstCreditor 18 = .ok (.aload_n 0, 1) := by decide +kernel
theorem dX3_firstCreditor_19 : decode cX3_firstCreditor 19 = .ok (.iload_n 1, 1) := by decide +kernel
theorem dX3_firstCreditor_20 : decode cX3_firstCreditor 20 = .ok (.iload_n 3, 1) := by decide +kernel
theorem dX3_firstCreditor_21 : decode cX3_firstCreditor 21 = .ok (.invokevirtual 44, 3) := by decide +kernel
theorem dX3_firstCreditor_24 : decode cX3_firstCreditor 24 = .ok (.ifCond .le 5, 3) := by decide +kernel
theorem dX3_firstCreditor_27 : decode cX3_firstCreditor 27 = .ok (.iload_n 3, 1) := by decide +kernel
theorem dX3_firstCreditor_28 : decode cX3_firstCreditor 28 = .ok (.ireturn, 1) := by decide +kernel
theorem dX3_firstCreditor_29 : decode cX3_firstCreditor 29 = .ok (.iinc 3 1, 3) := by decide +kernel
theorem dX3_firstCreditor_32 : decode cX3_firstCreditor 32 = .ok (.goto (-30), 3) := by decide +kernel
theorem dX3_firstCreditor_35 : decode cX3_firstCreditor 35 = .ok (.iload_n 1, 1) := by decide +kernel
theorem dX3_firstCreditor_36 : decode cX3_firstCreditor 36 = .ok (.ireturn, 1) := by decide +kernel
theorem dX3_figures_0 : decode cX3_figures 0 = .ok (.iconst 0, 1) := by decide +kernel
theorem dX3_figures_1 : decode cX3_figures 1 = .ok (.istore_n 1, 1) := by decide +kernel
theorem dX3_figures_2 : decode cX3_figures 2 = .ok (.iconst 0, 1) := by decide +kernel
theorem dX3_figures_3 : decode cX3_figures 3 = .ok (.istore_n 2, 1) := by decide +kernel
theorem dX3_figures_4 : decode cX3_figures 4 = .ok (.iload_n 2, 1) := by decide +kernel
theorem dX3_figures_5 : decode cX3_figures 5 = .ok (.aload_n 0, 1) := by decide +kernel
theorem dX3_figures_6 : decode cX3_figures 6 = .ok (.getfield 18, 3) := by decide +kernel
theorem dX3_figures_9 : decode cX3_figures 9 = .ok (.if_icmp .ge 23, 3) := by decide +kernel
theorem dX3_figures_12 : decode cX3_figures 12 = .ok (.iload_n 1, 1) := by decide +kernel
theorem dX3_figures_13 : decode cX3_figures 13 = .ok (.bipush 10, 2) := by decide +kernel
theorem dX3_figures_15 : decode cX3_figures 15 = .ok (.imul, 1) := by decide +kernel
theorem dX3_figures_16 : decode cX3_figures 16 = .ok (.aload_n 0, 1) := by decide +kernel
theorem dX3_figures_17 : decode cX3_figures 17 = .ok (.getfield 15, 3) := by decide +kernel
theorem dX3_figures_20 : decode cX3_figures 20 = .ok (.iload_n 2, 1) := by decide +kernel
theorem dX3_figures_21 : decode cX3_figures 21 = .ok (.iaload, 1) := by decide +kernel
theorem dX3_figures_22 : decode cX3_figures 22 = .ok (.iadd, 1) := by decide +kernel
theorem dX3_figures_23 : decode cX3_figures 23 = .ok (.iconst 1, 1) := by decide +kernel
theorem dX3_figures_24 : decode cX3_figures 24 = .ok (.iadd, 1) := by decide +kernel
theorem dX3_figures_25 : decode cX3_figures 25 = .ok (.istore_n 1, 1) := by decide +kernel
theorem dX3_figures_26 : decode cX3_figures 26 = .ok (.iinc 2 1, 3) := by decide +kernel
theorem dX3_figures_29 : decode cX3_figures 29 = .ok (.goto (-25), 3) := by decide +kernel
theorem dX3_figures_32 : decode cX3_figures 32 = .ok (.iload_n 1, 1) := by decide +kernel
theorem dX3_figures_33 : decode cX3_figures 33 = .ok (.ireturn, 1) := by decide +kernel
theorem dX3_leastDebt_0 : decode cX3_leastDebt 0 = .ok (.bipush 99, 2) := by decide +kernel
theorem dX3_leastDebt_2 : decode cX3_leastDebt 2 = .ok (.istore_n 2, 1) := by decide +kernel
theorem dX3_leastDebt_3 : decode cX3_leastDebt 3 = .ok (.iconst 0, 1) := by decide +kernel
theorem dX3_leastDebt_4 : decode cX3_leastDebt 4 = .ok (.istore_n 3, 1) := by decide +kernel
theorem dX3_leastDebt_5 : decode cX3_leastDebt 5 = .ok (.iload_n 3, 1) := by decide +kernel
theorem dX3_leastDebt_6 : decode cX3_leastDebt 6 = .ok (.aload_n 0, 1) := by decide +kernel
theorem dX3_leastDebt_7 : decode cX3_leastDebt 7 = .ok (.getfield 18, 3) := by decide +kernel
theorem dX3_leastDebt_10 : decode cX3_leastDebt 10 = .ok (.if_icmp .ge 55, 3) := by decide +kernel
theorem dX3_leastDebt_13 : decode cX3_leastDebt 13 = .ok (.iload_n 3, 1) := by decide +kernel
theorem dX3_leastDebt_14 : decode cX3_leastDebt 14 = .ok (.iconst 1, 1) := by decide +kernel
theorem dX3_leastDebt_15 : decode cX3_leastDebt 15 = .ok (.iadd, 1) := by decide +kernel
theorem dX3_leastDebt_16 : decode cX3_leastDebt 16 = .ok (.aload_n 0, 1) := by decide +kernel
theorem dX3_leastDebt_17 : decode cX3_leastDebt 17 = .ok (.getfield 18, 3) := by decide +kernel
theorem dX3_leastDebt_20 : decode cX3_leastDebt 20 = .ok (.if_icmp .ge 14, 3) := by decide +kernel
theorem dX3_leastDebt_23 : decode cX3_leastDebt 23 = .ok (.aload_n 0, 1) := by decide +kernel
theorem dX3_leastDebt_24 : decode cX3_leastDebt 24 = .ok (.getfield 15, 3) := by decide +kernel
theorem dX3_leastDebt_27 : decode cX3_leastDebt 27 = .ok (.iload_n 3, 1) := by decide +kernel
theorem dX3_leastDebt_28 : decode cX3_leastDebt 28 = .ok (.iconst 1, 1) := by decide +kernel
theorem dX3_leastDebt_29 : decode cX3_leastDebt 29 = .ok (.iadd, 1) := by decide +kernel
theorem dX3_leastDebt_30 : decode cX3_leastDebt 30 = .ok (.iaload, 1) := by decide +kernel
theorem dX3_leastDebt_31 : decode cX3_leastDebt 31 = .ok (.goto 9, 3) := by decide +kernel
theorem dX3_leastDebt_34 : decode cX3_leastDebt 34 = .ok (.aload_n 0, 1) := by decide +kernel
theorem dX3_leastDebt_35 : decode cX3_leastDebt 35 = .ok (.getfield 15, 3) := by decide +kernel
theorem dX3_leastDebt_38 : decode cX3_leastDebt 38 = .ok (.iconst 0, 1) := by decide +kernel
theorem dX3_leastDebt_39 : decode cX3_leastDebt 39 = .ok (.iaload, 1) := by decide +kernel
theorem dX3_leastDebt_40 : decode cX3_leastDebt 40 = .ok (.istore 4, 2) := by decide +kernel
theorem dX3_leastDebt_42 : decode cX3_leastDebt 42 = .ok (.iload_n 2, 1) := by decide +kernel
theorem dX3_leastDebt_43 : decode cX3_leastDebt 43 = .ok (.aload_n 1, 1) := by decide +kernel
theorem dX3_leastDebt_44 : decode cX3_leastDebt 44 = .ok (.aload_n 0, 1) := by decide +kernel
theorem dX3_leastDebt_45 : decode cX3_leastDebt 45 = .ok (.getfield 15, 3) := by decide +kernel
theorem dX3_leastDebt_48 : decode cX3_leastDebt 48 = .ok (.iload_n 3, 1) := by decide +kernel
theorem dX3_leastDebt_49 : decode cX3_leastDebt 49 = .ok (.iaload, 1) := by decide +kernel
theorem dX3_leastDebt_50 : decode cX3_leastDebt 50 = .ok (.iload 4, 2) := by decide +kernel
theorem dX3_leastDebt_52 : decode cX3_leastDebt 52 = .ok (.invokevirtual 44, 3) := by decide +kernel
theorem dX3_leastDebt_55 : decode cX3_leastDebt 55 = .ok (.invokestatic 52, 3) := by decide +kernel
theorem dX3_leastDebt_58 : decode cX3_leastDebt 58 = .ok (.istore_n 2, 1) := by decide +kernel
theorem dX3_leastDebt_59 : decode cX3_leastDebt 59 = .ok (.iinc 3 1, 3) := by decide +kernel
theorem dX3_leastDebt_62 : decode cX3_leastDebt 62 = .ok (.goto (-57), 3) := by decide +kernel
theorem dX3_leastDebt_65 : decode cX3_leastDebt 65 = .ok (.iload_n 2, 1) := by decide +kernel
theorem dX3_leastDebt_66 : decode cX3_leastDebt 66 = .ok (.ireturn, 1) := by decide +kernel
theorem dX4_init_0 : decode cX4_init 0 = .ok (.aload_n 0, 1) := by decide +kernel
theorem dX4_init_1 : decode cX4_init 1 = .ok (.invokespecial 3, 3) := by decide +kernel
theorem dX4_init_4 : decode cX4_init 4 = .ok (.aload_n 0, 1) := by decide +kernel
theorem dX4_init_5 : decode cX4_init 5 = .ok (.bipush 56, 2) := by decide +kernel
theorem dX4_init_7 : decode cX4_init 7 = .ok (.newarray .int, 2) := by decide +kernel
theorem dX4_init_9 : decode cX4_init 9 = .ok (.putfield 9, 3) := by decide +kernel
theorem dX4_init_12 : decode cX4_init 12 = .ok (.aload_n 0, 1) := by decide +kernel
theorem dX4_init_13 : decode cX4_init 13 = .ok (.iconst 3, 1) := by decide +kernel
theorem dX4_init_14 : decode cX4_init 14 = .ok (.newarray .int, 2) := by decide +kernel
theorem dX4_init_16 : decode cX4_init 16 = .ok (.putfield 15, 3) := by decide +kernel
theorem dX4_init_19 : decode cX4_init 19 = .ok (.return_, 1) := by decide +kernel
theorem dX4_length_0 : decode cX4_length 0 = .ok (.aload_n 0, 1) := by decide +kernel
theorem dX4_length_1 : decode cX4_length 1 = .ok (.getfield 18, 3) := by decide +kernel
theorem dX4_length_4 : decode cX4_length 4 = .ok (.ireturn, 1) := by decide +kernel
theorem dX4_clear_0 : decode cX4_clear 0 = .ok (.aload_n 0, 1) := by decide +kernel
theorem dX4_clear_1 : decode cX4_clear 1 = .ok (.iconst 0, 1) := by decide +kernel
theorem dX4_clear_2 : decode cX4_clear 2 = .ok (.putfield 18, 3) := by decide +kernel
theorem dX4_clear_5 : decode cX4_clear 5 = .ok (.return_, 1) := by decide +kernel
theorem dX4_append_0 : decode cX4_append 0 = .ok (.aload_n 0, 1) := by decide +kernel
theorem dX4_append_1 : decode cX4_append 1 = .ok (.getfield 18, 3) := by decide +kernel
theorem dX4_append_4 : decode cX4_append 4 = .ok (.bipush 56, 2) := by decide +kernel
theorem dX4_append_6 : decode cX4_append 6 = .ok (.if_icmp .lt 5, 3) := by decide +kernel
theorem dX4_append_9 : decode cX4_append 9 = .ok (.iconst 0, 1) := by decide +kernel
theorem dX4_append_10 : decode cX4_append 10 = .ok (.ireturn, 1) := by decide +kernel
theorem dX4_append_11 : decode cX4_append 11 = .ok (.aload_n 0, 1) := by decide +kernel
theorem dX4_append_12 : decode cX4_append 12 = .ok (.getfield 9, 3) := by decide +kernel
theorem dX4_append_15 : decode cX4_append 15 = .ok (.aload_n 0, 1) := by decide +kernel
theorem dX4_append_16 : decode cX4_append 16 = .ok (.getfield 18, 3) := by decide +kernel
theorem dX4_append_19 : decode cX4_append 19 = .ok (.iload_n 1, 1) := by decide +kernel
theorem dX4_append_20 : decode cX4_append 20 = .ok (.iastore, 1) := by decide +kernel
theorem dX4_append_21 : decode cX4_append 21 = .ok (.aload_n 0, 1) := by decide +kernel
theorem dX4_append_22 : decode cX4_append 22 = .ok (.dup, 1) := by decide +kernel
theorem dX4_append_23 : decode cX4_append 23 = .ok (.getfield 18, 3) := by decide +kernel
theorem dX4_append_26 : decode cX4_append 26 = .ok (.iconst 1, 1) := by decide +kernel
theorem dX4_append_27 : decode cX4_append 27 = .ok (.iadd, 1) := by decide +kernel
theorem dX4_append_28 : decode cX4_append 28 = .ok (.putfield 18, 3) := by decide +kernel
theorem dX4_append_31 : decode cX4_append 31 = .ok (.iconst 1, 1) := by decide +kernel
theorem dX4_append_32 : decode cX4_append 32 = .ok (.ireturn, 1) := by decide +kernel
theorem dX4_readInto_0 : decode cX4_readInto 0 = .ok (.aload_n 1, 1) := by decide +kernel
theorem dX4_readInto_1 : decode cX4_readInto 1 = .ok (.invokevirtual 22, 3) := by decide +kernel
theorem dX4_readInto_4 : decode cX4_readInto 4 = .ok (.aload_n 0, 1) := by decide +kernel
theorem dX4_readInto_5 : decode cX4_readInto 5 = .ok (.getfield 18, 3) := by decide +kernel
theorem dX4_readInto_8 : decode cX4_readInto 8 = .ok (.ifCond .eq 14, 3) := by decide +kernel
theorem dX4_readInto_11 : decode cX4_readInto 11 = .ok (.aload_n 0, 1) := by decide +kernel
theorem dX4_readInto_12 : decode cX4_readInto 12 = .ok (.getfield 9, 3) := by decide +kernel
theorem dX4_readInto_15 : decode cX4_readInto 15 = .ok (.iconst 0, 1) := by decide +kernel
theorem dX4_readInto_16 : decode cX4_readInto 16 = .ok (.iaload, 1) := by decide +kernel
theorem dX4_readInto_17 : decode cX4_readInto 17 = .ok (.bipush 86, 2) := by decide +kernel
theorem dX4_readInto_19 : decode cX4_readInto 19 = .ok (.if_icmp .eq 5, 3) := by decide +kernel
theorem dX4_readInto_22 : decode cX4_readInto 22 = .ok (.iconst 0, 1) := by decide +kernel
theorem dX4_readInto_23 : decode cX4_readInto 23 = .ok (.ireturn, 1) := by decide +kernel
theorem dX4_readInto_24 : decode cX4_readInto 24 = .ok (.iconst 1, 1) := by decide +kernel
theorem dX4_readInto_25 : decode cX4_readInto 25 = .ok (.istore_n 2, 1) := by decide +kernel
theorem dX4_readInto_26 : decode cX4_readInto 26 = .ok (.iload_n 2, 1) := by decide +kernel
theorem dX4_readInto_27 : decode cX4_readInto 27 = .ok (.aload_n 0, 1) := by decide +kernel
theorem dX4_readInto_28 : decode cX4_readInto 28 = .ok (.getfield 18, 3) := by decide +kernel
theorem dX4_readInto_31 : decode cX4_readInto 31 = .ok (.if_icmp .ge 35, 3) := by decide +kernel
theorem dX4_readInto_34 : decode cX4_readInto 34 = .ok (.aload_n 0, 1) := by decide +kernel
theorem dX4_readInto_35 : decode cX4_readInto 35 = .ok (.aload_n 1, 1) := by decide +kernel
theorem dX4_readInto_36 : decode cX4_readInto 36 = .ok (.iload_n 2, 1) := by decide +kernel
theorem dX4_readInto_37 : decode cX4_readInto 37 = .ok (.invokevirtual 27, 3) := by decide +kernel
theorem dX4_readInto_40 : decode cX4_readInto 40 = .ok (.istore_n 3, 1) := by decide +kernel
theorem dX4_readInto_41 : decode cX4_readInto 41 = .ok (.iload_n 3, 1) := by decide +kernel
theorem dX4_readInto_42 : decode cX4_readInto 42 = .ok (.bipush (-9), 2) := by decide +kernel
theorem dX4_readInto_44 : decode cX4_readInto 44 = .ok (.if_icmp .eq 5, 3) := by decide +kernel
theorem dX4_readInto_47 : decode cX4_readInto 47 = .ok (.iload_n 3, 1) := by decide +kernel
theorem dX4_readInto_48 : decode cX4_readInto 48 = .ok (.ireturn, 1) := by decide +kernel
theorem dX4_readInto_49 : decode cX4_readInto 49 = .ok (.iload_n 2, 1) := by decide +kernel
theorem dX4_readInto_50 : decode cX4_readInto 50 = .ok (.iconst 1, 1) := by decide +kernel
theorem dX4_readInto_51 : decode cX4_readInto 51 = .ok (.aload_n 0, 1) := by decide +kernel
theorem dX4_readInto_52 : decode cX4_readInto 52 = .ok (.getfield 9, 3) := by decide +kernel
theorem dX4_readInto_55 : decode cX4_readInto 55 = .ok (.iload_n 2, 1) := by decide +kernel
theorem dX4_readInto_56 : decode cX4_readInto 56 = .ok (.iaload, 1) := by decide +kernel
theorem dX4_readInto_57 : decode cX4_readInto 57 = .ok (.invokestatic 31, 3) := by decide +kernel
theorem dX4_readInto_60 : decode cX4_readInto 60 = .ok (.iadd, 1) := by decide +kernel
theorem dX4_readInto_61 : decode cX4_readInto 61 = .ok (.iadd, 1) := by decide +kernel
theorem dX4_readInto_62 : decode cX4_readInto 62 = .ok (.istore_n 2, 1) := by decide +kernel
theorem dX4_readInto_63 : decode cX4_readInto 63 = .ok (.goto (-37), 3) := by decide +kernel
theorem dX4_readInto_66 : decode cX4_readInto 66 = .ok (.bipush (-9), 2) := by decide +kernel
theorem dX4_readInto_68 : decode cX4_readInto 68 = .ok (.ireturn, 1) := by decide +kernel
theorem dX4_readPart_0 : decode cX4_readPart 0 = .ok (.aload_n 0, 1) := by decide +kernel
theorem dX4_readPart_1 : decode cX4_readPart 1 = .ok (.getfield 9, 3) := by decide +kernel
theorem dX4_readPart_4 : decode cX4_readPart 4 = .ok (.iload_n 2, 1) := by decide +kernel
theorem dX4_readPart_5 : decode cX4_readPart 5 = .ok (.iaload, 1) := by decide +kernel
theorem dX4_readPart_6 : decode cX4_readPart 6 = .ok (.istore_n 3, 1) := by decide +kernel
theorem dX4_readPart_7 : decode cX4_readPart 7 = .ok (.aload_n 1, 1) := by decide +kernel
theorem dX4_readPart_8 : decode cX4_readPart 8 = .ok (.iload_n 3, 1) := by decide +kernel
theorem dX4_readPart_9 : decode cX4_readPart 9 = .ok (.invokestatic 35, 3) := by decide +kernel
theorem dX4_readPart_12 : decode cX4_readPart 12 = .ok (.ifCond .ne 5, 3) := by decide +kernel
theorem dX4_readPart_15 : decode cX4_readPart 15 = .ok (.iload_n 2, 1) := by decide +kernel
theorem dX4_readPart_16 : decode cX4_readPart 16 = .ok (.ireturn, 1) := by decide +kernel
theorem dX4_readPart_17 : decode cX4_readPart 17 = .ok (.iload_n 3, 1) := by decide +kernel
theorem dX4_readPart_18 : decode cX4_readPart 18 = .ok (.invokestatic 31, 3) := by decide +kernel
theorem dX4_readPart_21 : decode cX4_readPart 21 = .ok (.istore 4, 2) := by decide +kernel
theorem dX4_readPart_23 : decode cX4_readPart 23 = .ok (.iconst 0, 1) := by decide +kernel
theorem dX4_readPart_24 : decode cX4_readPart 24 = .ok (.istore 5, 2) := by decide +kernel
theorem dX4_readPart_26 : decode cX4_readPart 26 = .ok (.iload 5, 2) := by decide +kernel
theorem dX4_readPart_28 : decode cX4_readPart 28 = .ok (.iload 4, 2) := by decide +kernel
theorem dX4_readPart_30 : decode cX4_readPart 30 = .ok (.if_icmp .ge 62, 3) := by decide +kernel
theorem dX4_readPart_33 : decode cX4_readPart 33 = .ok (.iload_n 2, 1) := by decide +kernel
theorem dX4_readPart_34 : decode cX4_readPart 34 = .ok (.iconst 1, 1) := by decide +kernel
theorem dX4_readPart_35 : decode cX4_readPart 35 = .ok (.iadd, 1) := by decide +kernel
theorem dX4_readPart_36 : decode cX4_readPart 36 = .ok (.iload 5, 2) := by decide +kernel
theorem dX4_readPart_38 : decode cX4_readPart 38 = .ok (.iadd, 1) := by decide +kernel
theorem dX4_readPart_39 : decode cX4_readPart 39 = .ok (.istore 6, 2) := by decide +kernel
theorem dX4_readPart_41 : decode cX4_readPart 41 = .ok (.iload 6, 2) := by decide +kernel
theorem dX4_readPart_43 : decode cX4_readPart 43 = .ok (.aload_n 0, 1) := by decide +kernel
theorem dX4_readPart_44 : decode cX4_readPart 44 = .ok (.getfield 18, 3) := by decide +kernel
theorem dX4_readPart_47 : decode cX4_readPart 47 = .ok (.if_icmp .lt 8, 3) := by decide +kernel
theorem dX4_readPart_50 : decode cX4_readPart 50 = .ok (.aload_n 0, 1) := by decide +kernel
theorem dX4_readPart_51 : decode cX4_readPart 51 = .ok (.getfield 18, 3) := by decide +kernel
theorem dX4_readPart_54 : decode cX4_readPart 54 = .ok (.ireturn, 1) := by decide +kernel
theorem dX4_readPart_55 : decode cX4_readPart 55 = .ok (.aload_n 0, 1) := by decide +kernel
theorem dX4_readPart_56 : decode cX4_readPart 56 = .ok (.getfield 15, 3) := by decide +kernel
theorem dX4_readPart_59 : decode cX4_readPart 59 = .ok (.iload 5, 2) := by decide +kernel
theorem dX4_readPart_61 : decode cX4_readPart 61 = .ok (.aload_n 0, 1) := by decide +kernel
theorem dX4_readPart_62 : decode cX4_readPart 62 = .ok (.getfield 9, 3) := by decide +kernel
theorem dX4_readPart_65 : decode cX4_readPart 65 = .ok (.iload 6, 2) := by decide +kernel
theorem dX4_readPart_67 : decode cX4_readPart 67 = .ok (.iaload, 1) := by decide +kernel
theorem dX4_readPart_68 : decode cX4_readPart 68 = .ok (.bipush 48, 2) := by decide +kernel
theorem dX4_readPart_70 : decode cX4_readPart 70 = .ok (.isub, 1) := by decide +kernel
theorem dX4_readPart_71 : decode cX4_readPart 71 = .ok (.iastore, 1) := by decide +kernel
theorem dX4_readPart_72 : decode cX4_readPart 72 = .ok (.aload_n 0, 1) := by decide +kernel
theorem dX4_readPart_73 : decode cX4_readPart 73 = .ok (.aload_n 1, 1) := by decide +kernel
theorem dX4_readPart_74 : decode cX4_readPart 74 = .ok (.iload_n 3, 1) := by decide +kernel
theorem dX4_readPart_75 : decode cX4_readPart 75 = .ok (.iload 5, 2) := by decide +kernel
theorem dX4_readPart_77 : decode cX4_readPart 77 = .ok (.invokevirtual 39, 3) := by decide +kernel
theorem dX4_readPart_80 : decode cX4_readPart 80 = .ok (.ifCond .ne 6, 3) := by decide +kernel
theorem dX4_readPart_83 : decode cX4_readPart 83 = .ok (.iload 6, 2) := by decide +kernel
theorem dX4_readPart_85 : decode cX4_readPart 85 = .ok (.ireturn, 1) := by decide +kernel
theorem dX4_readPart_86 : decode cX4_readPart 86 = .ok (.iinc 5 1, 3) := by decide +kernel
theorem dX4_readPart_89 : decode cX4_readPart 89 = .ok (.goto (-63), 3) := by decide +kernel
theorem dX4_readPart_92 : decode cX4_readPart 92 = .ok (.aload_n 0, 1) := by decide +kernel
theorem dX4_readPart_93 : decode cX4_readPart 93 = .ok (.aload_n 1, 1) := by decide +kernel
theorem dX4_readPart_94 : decode cX4_readPart 94 = .ok (.iload_n 3, 1) := by decide +kernel
theorem dX4_readPart_95 : decode cX4_readPart 95 = .ok (.invokevirtual 43, 3) := by decide +kernel
theorem dX4_readPart_98 : decode cX4_readPart 98 = .ok (.bipush (-9), 2) := by decide +kernel
theorem dX4_readPart_100 : decode cX4_readPart 100 = .ok (.ireturn, 1) := by decide +kernel
theorem dX4_figuresOf_0 : decode cX4_figuresOf 0 = .ok (.iload_n 0, 1) := by decide +kernel
theorem dX4_figuresOf_1 : decode cX4_figuresOf 1 = .ok (.bipush 80, 2) := by decide +kernel
theorem dX4_figuresOf_3 : decode cX4_figuresOf 3 = .ok (.if_icmp .ne 7, 3) := by decide +kernel
theorem dX4_figuresOf_6 : decode cX4_figuresOf 6 = .ok (.iconst 2, 1) := by decide +kernel
theorem dX4_figuresOf_7 : decode cX4_figuresOf 7 = .ok (.goto 4, 3) := by decide +kernel
theorem dX4_figuresOf_10 : decode cX4_figuresOf 10 = .ok (.iconst 3, 1) := by decide +kernel
theorem dX4_figuresOf_11 : decode cX4_figuresOf 11 = .ok (.ireturn, 1) := by decide +kernel
theorem dX4_canBegin_0 : decode cX4_canBegin 0 = .ok (.iload_n 1, 1) := by decide +kernel
theorem dX4_canBegin_1 : decode cX4_canBegin 1 = .ok (.lookupswitch 75 #[(66, 49), (68, 70), (80, 35)], 35) := by decide +kernel
theorem dX4_canBegin_36 : decode cX4_canBegin 36 = .ok (.aload_n 0, 1) := by decide +kernel
theorem dX4_canBegin_37 : decode cX4_canBegin 37 = .ok (.invokevirtual 47, 3) := by decide +kernel
theorem dX4_canBegin_40 : decode cX4_canBegin 40 = .ok (.iconst 4, 1) := by decide +kernel
theorem dX4_canBegin_41 : decode cX4_canBegin 41 = .ok (.if_icmp .ge 7, 3) := by decide +kernel
theorem dX4_canBegin_44 : decode cX4_canBegin 44 = .ok (.iconst 1, 1) := by decide +kernel
theorem dX4_canBegin_45 : decode cX4_canBegin 45 = .ok (.goto 4, 3) := by decide +kernel
theorem dX4_canBegin_48 : decode cX4_canBegin 48 = .ok (.iconst 0, 1) := by decide +kernel
theorem dX4_canBegin_49 : decode cX4_canBegin 49 = .ok (.ireturn, 1) := by decide +kernel
theorem dX4_canBegin_50 : decode cX4_canBegin 50 = .ok (.aload_n 0, 1) := by decide +kernel
theorem dX4_canBegin_51 : decode cX4_canBegin 51 = .ok (.invokevirtual 47, 3) := by decide +kernel
theorem dX4_canBegin_54 : decode cX4_canBegin 54 = .ok (.ifCond .le 15, 3) := by decide +kernel
theorem dX4_canBegin_57 : decode cX4_canBegin 57 = .ok (.aload_n 0, 1) := by decide +kernel
theorem dX4_canBegin_58 : decode cX4_canBegin 58 = .ok (.invokevirtual 51, 3) := by decide +kernel
theorem dX4_canBegin_61 : decode cX4_canBegin 61 = .ok (.iconst 5, 1) := by decide +kernel
theorem dX4_canBegin_62 : decode cX4_canBegin 62 = .ok (.if_icmp .ge 7, 3) := by decide +kernel
theorem dX4_canBegin_65 : decode cX4_canBegin 65 = .ok (.iconst 1, 1) := by decide +kernel
theorem dX4_canBegin_66 : decode cX4_canBegin 66 = .ok (.goto 4, 3) := by decide +kernel
theorem dX4_canBegin_69 : decode cX4_canBegin 69 = .ok (.iconst 0, 1) := by decide +kernel
theorem dX4_canBegin_70 : decode cX4_canBegin 70 = .ok (.ireturn, 1) := by decide +kernel
theorem dX4_canBegin_71 : decode cX4_canBegin 71 = .ok (.aload_n 0, 1) := by decide +kernel
theorem dX4_canBegin_72 : decode cX4_canBegin 72 = .ok (.invokestatic 54, 3) := by decide +kernel
theorem dX4_canBegin_75 : decode cX4_canBegin 75 = .ok (.ireturn, 1) := by decide +kernel
theorem dX4_canBegin_76 : decode cX4_canBegin 76 = .ok (.iconst 0, 1) := by decide +kernel
theorem dX4_canBegin_77 : decode cX4_canBegin 77 = .ok (.ireturn, 1) := by decide +kernel
theorem dX4_figureFits_0 : decode cX4_figureFits 0 = .ok (.aload_n 0, 1) := by decide +kernel
theorem dX4_figureFits_1 : decode cX4_figureFits 1 = .ok (.getfield 15, 3) := by decide +kernel
theorem dX4_figureFits_4 : decode cX4_figureFits 4 = .ok (.iload_n 3, 1) := by decide +kernel
theorem dX4_figureFits_5 : decode cX4_figureFits 5 = .ok (.iaload, 1) := by decide +kernel
theorem dX4_figureFits_6 : decode cX4_figureFits 6 = .ok (.istore 4, 2) := by decide +kernel
theorem dX4_figureFits_8 : decode cX4_figureFits 8 = .ok (.iload 4, 2) := by decide +kernel
theorem dX4_figureFits_10 : decode cX4_figureFits 10 = .ok (.ifCond .lt 10, 3) := by decide +kernel
theorem dX4_figureFits_13 : decode cX4_figureFits 13 = .ok (.iload 4, 2) := by decide +kernel
theorem dX4_figureFits_15 : decode cX4_figureFits 15 = .ok (.bipush 9, 2) := by decide +kernel
theorem dX4_figureFits_17 : decode cX4_figureFits 17 = .ok (.if_icmp .le 5, 3) := by decide +kernel
theorem dX4_figureFits_20 : decode cX4_figureFits 20 = .ok (.iconst 0, 1) := by decide +kernel
theorem dX4_figureFits_21 : decode cX4_figureFits 21 = .ok (.ireturn, 1) := by decide +kernel
theorem dX4_figureFits_22 : decode cX4_figureFits 22 = .ok (.iload_n 2, 1) := by decide +kernel
theorem dX4_figureFits_23 : decode cX4_figureFits 23 = .ok (.lookupswitch 42 #[(66, 25), (68, 33)], 25) := by decide +kernel
theorem dX4_figureFits_48 : decode cX4_figureFits 48 = .ok (.aload_n 1, 1) := by decide +kernel
theorem dX4_figureFits_49 : decode cX4_figureFits 49 = .ok (.iload_n 3, 1) := by decide +kernel
theorem dX4_figureFits_50 : decode cX4_figureFits 50 = .ok (.iload 4, 2) := by decide +kernel
theorem dX4_figureFits_52 : decode cX4_figureFits 52 = .ok (.invokestatic 58, 3) := by decide +kernel
theorem dX4_figureFits_55 : decode cX4_figureFits 55 = .ok (.ireturn, 1) := by decide +kernel
theorem dX4_figureFits_56 : decode cX4_figureFits 56 = .ok (.aload_n 0, 1) := by decide +kernel
theorem dX4_figureFits_57 : decode cX4_figureFits 57 = .ok (.aload_n 1, 1) := by decide +kernel
theorem dX4_figureFits_58 : decode cX4_figureFits 58 = .ok (.iload_n 3, 1) := by decide +kernel
theorem dX4_figureFits_59 : decode cX4_figureFits 59 = .ok (.iload 4, 2) := by decide +kernel
theorem dX4_figureFits_61 : decode cX4_figureFits 61 = .ok (.invokevirtual 61, 3) := by decide +kernel
theorem dX4_figureFits_64 : decode cX4_figureFits 64 = .ok (.ireturn, 1) := by decide +kernel
theorem dX4_figureFits_65 : decode cX4_figureFits 65 = .ok (.iconst 1, 1) := by decide +kernel
theorem dX4_figureFits_66 : decode cX4_figureFits 66 = .ok (.ireturn, 1) := by decide +kernel
theorem dX4_beastFigureFits_0 : decode cX4_beastFigureFits 0 = .ok (.iload_n 1, 1) := by decide +kernel
theorem dX4_beastFigureFits_1 : decode cX4_beastFigureFits 1 = .ok (.lookupswitch 44 #[(0, 27), (1, 33)], 27) := by decide +kernel
theorem dX4_beastFigureFits_28 : decode cX4_beastFigureFits 28 = .ok (.aload_n 0, 1) := by decide +kernel
theorem dX4_beastFigureFits_29 : decode cX4_beastFigureFits 29 = .ok (.iload_n 2, 1) := by decide +kernel
theorem dX4_beastFigureFits_30 : decode cX4_beastFigureFits 30 = .ok (.invokevirtual 64, 3) := by decide +kernel
theorem dX4_beastFigureFits_33 : decode cX4_beastFigureFits 33 = .ok (.ireturn, 1) := by decide +kernel
theorem dX4_beastFigureFits_34 : decode cX4_beastFigureFits 34 = .ok (.iload_n 2, 1) := by decide +kernel
theorem dX4_beastFigureFits_35 : decode cX4_beastFigureFits 35 = .ok (.iconst 1, 1) := by decide +kernel
theorem dX4_beastFigureFits_36 : decode cX4_beastFigureFits 36 = .ok (.if_icmp .lt 7, 3) := by decide +kernel
theorem dX4_beastFigureFits_39 : decode cX4_beastFigureFits 39 = .ok (.iconst 1, 1) := by decide +kernel
theorem dX4_beastFigureFits_40 : decode cX4_beastFigureFits 40 = .ok (.goto 4, 3) := by decide +kernel
theorem dX4_beastFigureFits_43 : decode cX4_beastFigureFits 43 = .ok (.iconst 0, 1) := by decide +kernel
theorem dX4_beastFigureFits_44 : decode cX4_beastFigureFits 44 = .ok (.ireturn, 1) := by decide +kernel
theorem dX4_beastFigureFits_45 : decode cX4_beastFigureFits 45 = .ok (.iload_n 2, 1) := by decide +kernel
theorem dX4_beastFigureFits_46 : decode cX4_beastFigureFits 46 = .ok (.ifCond .lt 12, 3) := by decide +kernel
theorem dX4_beastFigureFits_49 : decode cX4_beastFigureFits 49 = .ok (.iload_n 2, 1) := by decide +kernel
theorem dX4_beastFigureFits_50 : decode cX4_beastFigureFits 50 = .ok (.iconst 3, 1) := by decide +kernel
theorem dX4_beastFigureFits_51 : decode cX4_beastFigureFits 51 = .ok (.if_icmp .gt 7, 3) := by decide +kernel
theorem dX4_beastFigureFits_54 : decode cX4_beastFigureFits 54 = .ok (.iconst 1, 1) := by decide +kernel
theorem dX4_beastFigureFits_55 : decode cX4_beastFigureFits 55 = .ok (.goto 4, 3) := by decide +kernel
theorem dX4_beastFigureFits_58 : decode cX4_beastFigureFits 58 = .ok (.iconst 0, 1) := by decide +kernel
theorem dX4_beastFigureFits_59 : decode cX4_beastFigureFits 59 = .ok (.ireturn, 1) := by decide +kernel
theorem dX4_debtFigureFits_0 : decode cX4_debtFigureFits 0 = .ok (.iload_n 2, 1) := by decide +kernel
theorem dX4_debtFigureFits_1 : decode cX4_debtFigureFits 1 = .ok (.lookupswitch 77 #[(0, 27), (1, 49)], 27) := by decide +kernel
theorem dX4_debtFigureFits_28 : decode cX4_debtFigureFits 28 = .ok (.aload_n 1, 1) := by decide +kernel
theorem dX4_debtFigureFits_29 : decode cX4_debtFigureFits 29 = .ok (.iload_n 3, 1) := by decide +kernel
theorem dX4_debtFigureFits_30 : decode cX4_debtFigureFits 30 = .ok (.invokevirtual 64, 3) := by decide +kernel
theorem dX4_debtFigureFits_33 : decode cX4_debtFigureFits 33 = .ok (.ifCond .eq 15, 3) := by decide +kernel
theorem dX4_debtFigureFits_36 : decode cX4_debtFigureFits 36 = .ok (.aload_n 1, 1) := by decide +kernel
theorem dX4_debtFigureFits_37 : decode cX4_debtFigureFits 37 = .ok (.iload_n 3, 1) := by decide +kernel
theorem dX4_debtFigureFits_38 : decode cX4_debtFigureFits 38 = .ok (.invokestatic 68, 3) := by decide +kernel
theorem dX4_debtFigureFits_41 : decode cX4_debtFigureFits 41 = .ok (.ifCond .eq 7, 3) := by decide +kernel
theorem dX4_debtFigureFits_44 : decode cX4_debtFigureFits 44 = .ok (.iconst 1, 1) := by decide +kernel
theorem dX4_debtFigureFits_45 : decode cX4_debtFigureFits 45 = .ok (.goto 4, 3) := by decide +kernel
theorem dX4_debtFigureFits_48 : decode cX4_debtFigureFits 48 = .ok (.iconst 0, 1) := by decide +kernel
theorem dX4_debtFigureFits_49 : decode cX4_debtFigureFits 49 = .ok (.ireturn, 1) := by decide +kernel
theorem dX4_debtFigureFits_50 : decode cX4_debtFigureFits 50 = .ok (.aload_n 1, 1) := by decide +kernel
theorem dX4_debtFigureFits_51 : decode cX4_debtFigureFits 51 = .ok (.iload_n 3, 1) := by decide +kernel
theorem dX4_debtFigureFits_52 : decode cX4_debtFigureFits 52 = .ok (.invokevirtual 64, 3) := by decide +kernel
theorem dX4_debtFigureFits_55 : decode cX4_debtFigureFits 55 = .ok (.ifCond .eq 21, 3) := by decide +kernel
theorem dX4_debtFigureFits_58 : decode cX4_debtFigureFits 58 = .ok (.aload_n 1, 1) := by decide +kernel
theorem dX4_debtFigureFits_59 : decode cX4_debtFigureFits 59 = .ok (.aload_n 0, 1) := by decide +kernel
theorem dX4_debtFigureFits_60 : decode cX4_debtFigureFits 60 = .ok (.getfield 15, 3) := by decide +kernel
theorem dX4_debtFigureFits_63 : decode cX4_debtFigureFits 63 = .ok (.iconst 0, 1) := by decide +kernel
theorem dX4_debtFigureFits_64 : decode cX4_debtFigureFits 64 = .ok (.iaload, 1) := by decide +kernel
theorem dX4_debtFigureFits_65 : decode cX4_debtFigureFits 65 = .ok (.iload_n 3, 1) := by decide +kernel
theorem dX4_debtFigureFits_66 : decode cX4_debtFigureFits 66 = .ok (.invokevirtual 71, 3) := by decide +kernel
theorem dX4_debtFigureFits_69 : decode cX4_debtFigureFits 69 = .ok (.ifCond .eq 7, 3) := by decide +kernel
theorem dX4_debtFigureFits_72 : decode cX4_debtFigureFits 72 = .ok (.iconst 1, 1) := by decide +kernel
theorem dX4_debtFigureFits_73 : decode cX4_debtFigureFits 73 = .ok (.goto 4, 3) := by decide +kernel
theorem dX4_debtFigureFits_76 : decode cX4_debtFigureFits 76 = .ok (.iconst 0, 1) := by decide +kernel
theorem dX4_debtFigureFits_77 : decode cX4_debtFigureFits 77 = .ok (.ireturn, 1) := by decide +kernel
theorem dX4_debtFigureFits_78 : decode cX4_debtFigureFits 78 = .ok (.iload_n 3, 1) := by decide +kernel
theorem dX4_debtFigureFits_79 : decode cX4_debtFigureFits 79 = .ok (.iconst 1, 1) := by decide +kernel
theorem dX4_debtFigureFits_80 : decode cX4_debtFigureFits 80 = .ok (.if_icmp .lt 7, 3) := by decide +kernel
theorem dX4_debtFigureFits_83 : decode cX4_debtFigureFits 83 = .ok (.iconst 1, 1) := by decide +kernel
theorem dX4_debtFigureFits_84 : decode cX4_debtFigureFits 84 = .ok (.goto 4, 3) := by decide +kernel
theorem dX4_debtFigureFits_87 : decode cX4_debtFigureFits 87 = .ok (.iconst 0, 1) := by decide +kernel
theorem dX4_debtFigureFits_88 : decode cX4_debtFigureFits 88 = .ok (.ireturn, 1) := by decide +kernel
theorem dX4_somePairIsLeft_0 : decode cX4_somePairIsLeft 0 = .ok (.iconst 0, 1) := by decide +kernel
theorem dX4_somePairIsLeft_1 : decode cX4_somePairIsLeft 1 = .ok (.istore_n 1, 1) := by decide +kernel
theorem dX4_somePairIsLeft_2 : decode cX4_somePairIsLeft 2 = .ok (.iload_n 1, 1) := by decide +kernel
theorem dX4_somePairIsLeft_3 : decode cX4_somePairIsLeft 3 = .ok (.aload_n 0, 1) := by decide +kernel
theorem dX4_somePairIsLeft_4 : decode cX4_somePairIsLeft 4 = .ok (.invokevirtual 47, 3) := by decide +kernel
theorem dX4_somePairIsLeft_7 : decode cX4_somePairIsLeft 7 = .ok (.if_icmp .ge 19, 3) := by decide +kernel
theorem dX4_somePairIsLeft_10 : decode cX4_somePairIsLeft 10 = .ok (.aload_n 0, 1) := by decide +kernel
theorem dX4_somePairIsLeft_11 : decode cX4_somePairIsLeft 11 = .ok (.iload_n 1, 1) := by decide +kernel
theorem dX4_somePairIsLeft_12 : decode cX4_somePairIsLeft 12 = .ok (.invokestatic 68, 3) := by decide +kernel
theorem dX4_somePairIsLeft_15 : decode cX4_somePairIsLeft 15 = .ok (.ifCond .eq 5, 3) := by decide +kernel
theorem dX4_somePairIsLeft_18 : decode cX4_somePairIsLeft 18 = .ok (.iconst 1, 1) := by decide +kernel
theorem dX4_somePairIsLeft_19 : decode cX4_somePairIsLeft 19 = .ok (.ireturn, 1) := by decide +kernel
theorem dX4_somePairIsLeft_20 : decode cX4_somePairIsLeft 20 = .ok (.iinc 1 1, 3) := by decide +kernel
theorem dX4_somePairIsLeft_23 : decode cX4_somePairIsLeft 23 = .ok (.goto (-21), 3) := by decide +kernel
theorem dX4_somePairIsLeft_26 : decode cX4_somePairIsLeft 26 = .ok (.iconst 0, 1) := by decide +kernel
theorem dX4_somePairIsLeft_27 : decode cX4_somePairIsLeft 27 = .ok (.ireturn, 1) := by decide +kernel
theorem dX4_somePairIsLeftOf_0 : decode cX4_somePairIsLeftOf 0 = .ok (.iconst 0, 1) := by decide +kernel
theorem dX4_somePairIsLeftOf_1 : decode cX4_somePairIsLeftOf 1 = .ok (.istore_n 2, 1) := by decide +kernel
theorem dX4_somePairIsLeftOf_2 : decode cX4_somePairIsLeftOf 2 = .ok (.iload_n 2, 1) := by decide +kernel
theorem dX4_somePairIsLeftOf_3 : decode cX4_somePairIsLeftOf 3 = .ok (.aload_n 0, 1) := by decide +kernel
theorem dX4_somePairIsLeftOf_4 : decode cX4_somePairIsLeftOf 4 = .ok (.invokevirtual 47, 3) := by decide +kernel
theorem dX4_somePairIsLeftOf_7 : decode cX4_somePairIsLeftOf 7 = .ok (.if_icmp .ge 20, 3) := by decide +kernel
theorem dX4_somePairIsLeftOf_10 : decode cX4_somePairIsLeftOf 10 = .ok (.aload_n 0, 1) := by decide +kernel
theorem dX4_somePairIsLeftOf_11 : decode cX4_somePairIsLeftOf 11 = .ok (.iload_n 1, 1) := by decide +kernel
theorem dX4_somePairIsLeftOf_12 : decode cX4_somePairIsLeftOf 12 = .ok (.iload_n 2, 1) := by decide +kernel
theorem dX4_somePairIsLeftOf_13 : decode cX4_somePairIsLeftOf 13 = .ok (.invokevirtual 71, 3) := by decide +kernel
theorem dX4_somePairIsLeftOf_16 : decode cX4_somePairIsLeftOf 16 = .ok (.ifCond .eq 5, 3) := by decide +kernel
theorem dX4_somePairIsLeftOf_19 : decode cX4_somePairIsLeftOf 19 = .ok (.iconst 1, 1) := by decide +kernel
theorem dX4_somePairIsLeftOf_20 : decode cX4_somePairIsLeftOf 20 = .ok (.ireturn, 1) := by decide +kernel
theorem dX4_somePairIsLeftOf_21 : decode cX4_somePairIsLeftOf 21 = .ok (.iinc 2 1, 3) := by decide +kernel
theorem dX4_somePairIsLeftOf_24 : decode cX4_somePairIsLeftOf 24 = .ok (.goto (-22), 3) := by decide +kernel
theorem dX4_somePairIsLeftOf_27 : decode cX4_somePairIsLeftOf 27 = .ok (.iconst 0, 1) := by decide +kernel
theorem dX4_somePairIsLeftOf_28 : decode cX4_somePairIsLeftOf 28 = .ok (.ireturn, 1) := by decide +kernel
theorem dX4_tell_0 : decode cX4_tell 0 = .ok (.iload_n 2, 1) := by decide +kernel
theorem dX4_tell_1 : decode cX4_tell 1 = .ok (.lookupswitch 71 #[(66, 46), (80, 27)], 27) := by decide +kernel
theorem dX4_tell_28 : decode cX4_tell 28 = .ok (.aload_n 1, 1) := by decide +kernel
theorem dX4_tell_29 : decode cX4_tell 29 = .ok (.aload_n 0, 1) := by decide +kernel
theorem dX4_tell_30 : decode cX4_tell 30 = .ok (.getfield 15, 3) := by decide +kernel
theorem dX4_tell_33 : decode cX4_tell 33 = .ok (.iconst 0, 1) := by decide +kernel
theorem dX4_tell_34 : decode cX4_tell 34 = .ok (.iaload, 1) := by decide +kernel
theorem dX4_tell_35 : decode cX4_tell 35 = .ok (.aload_n 0, 1) := by decide +kernel
theorem dX4_tell_36 : decode cX4_tell 36 = .ok (.getfield 15, 3) := by decide +kernel
theorem dX4_tell_39 : decode cX4_tell 39 = .ok (.iconst 1, 1) := by decide +kernel
theorem dX4_tell_40 : decode cX4_tell 40 = .ok (.iaload, 1) := by decide +kernel
theorem dX4_tell_41 : decode cX4_tell 41 = .ok (.invokevirtual 75, 3) := by decide +kernel
theorem dX4_tell_44 : decode cX4_tell 44 = .ok (.goto 50, 3) := by decide +kernel
theorem dX4_tell_47 : decode cX4_tell 47 = .ok (.aload_n 1, 1) := by decide +kernel
theorem dX4_tell_48 : decode cX4_tell 48 = .ok (.aload_n 0, 1) := by decide +kernel
theorem dX4_tell_49 : decode cX4_tell 49 = .ok (.getfield 15, 3) := by decide +kernel
theorem dX4_tell_52 : decode cX4_tell 52 = .ok (.iconst 0, 1) := by decide +kernel
theorem dX4_tell_53 : decode cX4_tell 53 = .ok (.iaload, 1) := by decide +kernel
theorem dX4_tell_54 : decode cX4_tell 54 = .ok (.aload_n 0, 1) := by decide +kernel
theorem dX4_tell_55 : decode cX4_tell 55 = .ok (.getfield 15, 3) := by decide +kernel
theorem dX4_tell_58 : decode cX4_tell 58 = .ok (.iconst 1, 1) := by decide +kernel
theorem dX4_tell_59 : decode cX4_tell 59 = .ok (.iaload, 1) := by decide +kernel
theorem dX4_tell_60 : decode cX4_tell 60 = .ok (.aload_n 0, 1) := by decide +kernel
theorem dX4_tell_61 : decode cX4_tell 61 = .ok (.getfield 15, 3) := by decide +kernel
theorem dX4_tell_64 : decode cX4_tell 64 = .ok (.iconst 2, 1) := by decide +kernel
theorem dX4_tell_65 : decode cX4_tell 65 = .ok (.iaload, 1) := by decide +kernel
theorem dX4_tell_66 : decode cX4_tell 66 = .ok (.invokevirtual 79, 3) := by decide +kernel
theorem dX4_tell_69 : decode cX4_tell 69 = .ok (.goto 25, 3) := by decide +kernel
theorem dX4_tell_72 : decode cX4_tell 72 = .ok (.aload_n 1, 1) := by decide +kernel
theorem dX4_tell_73 : decode cX4_tell 73 = .ok (.aload_n 0, 1) := by decide +kernel
theorem dX4_tell_74 : decode cX4_tell 74 = .ok (.getfield 15, 3) := by decide +kernel
theorem dX4_tell_77 : decode cX4_tell 77 = .ok (.iconst 0, 1) := by decide +kernel
theorem dX4_tell_78 : decode cX4_tell 78 = .ok (.iaload, 1) := by decide +kernel
theorem dX4_tell_79 : decode cX4_tell 79 = .ok (.aload_n 0, 1) := by decide +kernel
theorem dX4_tell_80 : decode cX4_tell 80 = .ok (.getfield 15, 3) := by decide +kernel
theorem dX4_tell_83 : decode cX4_tell 83 = .ok (.iconst 1, 1) := by decide +kernel
theorem dX4_tell_84 : decode cX4_tell 84 = .ok (.iaload, 1) := by decide +kernel
theorem dX4_tell_85 : decode cX4_tell 85 = .ok (.aload_n 0, 1) := by decide +kernel
theorem dX4_tell_86 : decode cX4_tell 86 = .ok (.getfield 15, 3) := by decide +kernel
theorem dX4_tell_89 : decode cX4_tell 89 = .ok (.iconst 2, 1) := by decide +kernel
theorem dX4_tell_90 : decode cX4_tell 90 = .ok (.iaload, 1) := by decide +kernel
theorem dX4_tell_91 : decode cX4_tell 91 = .ok (.invokevirtual 83, 3) := by decide +kernel
theorem dX4_tell_94 : decode cX4_tell 94 = .ok (.return_, 1) := by decide +kernel
theorem dX5_init_0 : decode cX5_init 0 = .ok (.aload_n 0, 1) := by decide +kernel
theorem dX5_init_1 : decode cX5_init 1 = .ok (.invokespecial 3, 3) := by decide +kernel
theorem dX5_init_4 : decode cX5_init 4 = .ok (.aload_n 0, 1) := by decide +kernel
theorem dX5_init_5 : decode cX5_init 5 = .ok (.bipush 52, 2) := by decide +kernel
theorem dX5_init_7 : decode cX5_init 7 = .ok (.newarray .int, 2) := by decide +kernel
theorem dX5_init_9 : decode cX5_init 9 = .ok (.putfield 11, 3) := by decide +kernel
theorem dX5_init_12 : decode cX5_init 12 = .ok (.return_, 1) := by decide +kernel
theorem dX5_clear_0 : decode cX5_clear 0 = .ok (.aload_n 0, 1) := by decide +kernel
theorem dX5_clear_1 : decode cX5_clear 1 = .ok (.getfield 11, 3) := by decide +kernel
theorem dX5_clear_4 : decode cX5_clear 4 = .ok (.iconst 0, 1) := by decide +kernel
theorem dX5_clear_5 : decode cX5_clear 5 = .ok (.invokestatic 15, 3) := by decide +kernel
theorem dX5_clear_8 : decode cX5_clear 8 = .ok (.return_, 1) := by decide +kernel
theorem dX5_copyFrom_0 : decode cX5_copyFrom 0 = .ok (.aload_n 1, 1) := by decide +kernel
theorem dX5_copyFrom_1 : decode cX5_copyFrom 1 = .ok (.getfield 11, 3) := by decide +kernel
theorem dX5_copyFrom_4 : decode cX5_copyFrom 4 = .ok (.iconst 0, 1) := by decide +kernel
theorem dX5_copyFrom_5 : decode cX5_copyFrom 5 = .ok (.aload_n 0, 1) := by decide +kernel
theorem dX5_copyFrom_6 : decode cX5_copyFrom 6 = .ok (.getfield 11, 3) := by decide +kernel
theorem dX5_copyFrom_9 : decode cX5_copyFrom 9 = .ok (.iconst 0, 1) := by decide +kernel
theorem dX5_copyFrom_10 : decode cX5_copyFrom 10 = .ok (.bipush 52, 2) := by decide +kernel
theorem dX5_copyFrom_12 : decode cX5_copyFrom 12 = .ok (.invokestatic 21, 3) := by decide +kernel
theorem dX5_copyFrom_15 : decode cX5_copyFrom 15 = .ok (.return_, 1) := by decide +kernel
theorem dX5_store_0 : decode cX5_store 0 = .ok (.aload_n 0, 1) := by decide +kernel
theorem dX5_store_1 : decode cX5_store 1 = .ok (.getfield 11, 3) := by decide +kernel
theorem dX5_store_4 : decode cX5_store 4 = .ok (.iconst 0, 1) := by decide +kernel
theorem dX5_store_5 : decode cX5_store 5 = .ok (.aload_n 1, 1) := by decide +kernel
theorem dX5_store_6 : decode cX5_store 6 = .ok (.iload_n 2, 1) := by decide +kernel
theorem dX5_store_7 : decode cX5_store 7 = .ok (.bipush 52, 2) := by decide +kernel
theorem dX5_store_9 : decode cX5_store 9 = .ok (.imul, 1) := by decide +kernel
theorem dX5_store_10 : decode cX5_store 10 = .ok (.bipush 52, 2) := by decide +kernel
theorem dX5_store_12 : decode cX5_store 12 = .ok (.invokestatic 21, 3) := by decide +kernel
theorem dX5_store_15 : decode cX5_store 15 = .ok (.return_, 1) := by decide +kernel
theorem dX5_fetch_0 : decode cX5_fetch 0 = .ok (.aload_n 1, 1) := by decide +kernel
theorem dX5_fetch_1 : decode cX5_fetch 1 = .ok (.iload_n 2, 1) := by decide +kernel
theorem dX5_fetch_2 : decode cX5_fetch 2 = .ok (.bipush 52, 2) := by decide +kernel
theorem dX5_fetch_4 : decode cX5_fetch 4 = .ok (.imul, 1) := by decide +kernel
theorem dX5_fetch_5 : decode cX5_fetch 5 = .ok (.aload_n 0, 1) := by decide +kernel
theorem dX5_fetch_6 : decode cX5_fetch 6 = .ok (.getfield 11, 3) := by decide +kernel
theorem dX5_fetch_9 : decode cX5_fetch 9 = .ok (.iconst 0, 1) := by decide +kernel
theorem dX5_fetch_10 : decode cX5_fetch 10 = .ok (.bipush 52, 2) := by decide +kernel
theorem dX5_fetch_12 : decode cX5_fetch 12 = .ok (.invokestatic 21, 3) := by decide +kernel
theorem dX5_fetch_15 : decode cX5_fetch 15 = .ok (.return_, 1) := by decide +kernel
theorem dX5_people_0 : decode cX5_people 0 = .ok (.aload_n 0, 1) := by decide +kernel
theorem dX5_people_1 : decode cX5_people 1 = .ok (.getfield 11, 3) := by decide +kernel
theorem dX5_people_4 : decode cX5_people 4 = .ok (.iconst 0, 1) := by decide +kernel
theorem dX5_people_5 : decode cX5_people 5 = .ok (.iaload, 1) := by decide +kernel
theorem dX5_people_6 : decode cX5_people 6 = .ok (.ireturn, 1) := by decide +kernel
theorem dX5_beasts_0 : decode cX5_beasts 0 = .ok (.aload_n 0, 1) := by decide +kernel
theorem dX5_beasts_1 : decode cX5_beasts 1 = .ok (.getfield 11, 3) := by decide +kernel
theorem dX5_beasts_4 : decode cX5_beasts 4 = .ok (.iconst 1, 1) := by decide +kernel
theorem dX5_beasts_5 : decode cX5_beasts 5 = .ok (.iaload, 1) := by decide +kernel
theorem dX5_beasts_6 : decode cX5_beasts 6 = .ok (.ireturn, 1) := by decide +kernel
theorem dX5_dayNow_0 : decode cX5_dayNow 0 = .ok (.aload_n 0, 1) := by decide +kernel
theorem dX5_dayNow_1 : decode cX5_dayNow 1 = .ok (.getfield 11, 3) := by decide +kernel
theorem dX5_dayNow_4 : decode cX5_dayNow 4 = .ok (.iconst 2, 1) := by decide +kernel
theorem dX5_dayNow_5 : decode cX5_dayNow 5 = .ok (.iaload, 1) := by decide +kernel
theorem dX5_dayNow_6 : decode cX5_dayNow 6 = .ok (.ireturn, 1) := by decide +kernel
theorem dX5_hasPerson_0 : decode cX5_hasPerson 0 = .ok (.iload_n 1, 1) := by decide +kernel
theorem dX5_hasPerson_1 : decode cX5_hasPerson 1 = .ok (.ifCond .lt 15, 3) := by decide +kernel
theorem dX5_hasPerson_4 : decode cX5_hasPerson 4 = .ok (.iload_n 1, 1) := by decide +kernel
theorem dX5_hasPerson_5 : decode cX5_hasPerson 5 = .ok (.aload_n 0, 1) := by decide +kernel
theorem dX5_hasPerson_6 : decode cX5_hasPerson 6 = .ok (.invokevirtual 27, 3) := by decide +kernel
theorem dX5_hasPerson_9 : decode cX5_hasPerson 9 = .ok (.if_icmp .ge 7, 3) := by decide +kernel
theorem dX5_hasPerson_12 : decode cX5_hasPerson 12 = .ok (.iconst 1, 1) := by decide +kernel
theorem dX5_hasPerson_13 : decode cX5_hasPerson 13 = .ok (.goto 4, 3) := by decide +kernel
theorem dX5_hasPerson_16 : decode cX5_hasPerson 16 = .ok (.iconst 0, 1) := by decide +kernel
theorem dX5_hasPerson_17 : decode cX5_hasPerson 17 = .ok (.ireturn, 1) := by decide +kernel
theorem dX5_hasBeast_0 : decode cX5_hasBeast 0 = .ok (.iload_n 1, 1) := by decide +kernel
theorem dX5_hasBeast_1 : decode cX5_hasBeast 1 = .ok (.ifCond .lt 15, 3) := by decide +kernel
theorem dX5_hasBeast_4 : decode cX5_hasBeast 4 = .ok (.iload_n 1, 1) := by decide +kernel
theorem dX5_hasBeast_5 : decode cX5_hasBeast 5 = .ok (.aload_n 0, 1) := by decide +kernel
theorem dX5_hasBeast_6 : decode cX5_hasBeast 6 = .ok (.invokevirtual 31, 3) := by decide +kernel
theorem dX5_hasBeast_9 : decode cX5_hasBeast 9 = .ok (.if_icmp .ge 7, 3) := by decide +kernel
theorem dX5_hasBeast_12 : decode cX5_hasBeast 12 = .ok (.iconst 1, 1) := by decide +kernel
theorem dX5_hasBeast_13 : decode cX5_hasBeast 13 = .ok (.goto 4, 3) := by decide +kernel
theorem dX5_hasBeast_16 : decode cX5_hasBeast 16 = .ok (.iconst 0, 1) := by decide +kernel
theorem dX5_hasBeast_17 : decode cX5_hasBeast 17 = .ok (.ireturn, 1) := by decide +kernel
theorem dX5_hayOf_0 : decode cX5_hayOf 0 = .ok (.aload_n 0, 1) := by decide +kernel
theorem dX5_hayOf_1 : decode cX5_hayOf 1 = .ok (.getfield 11, 3) := by decide +kernel
theorem dX5_hayOf_4 : decode cX5_hayOf 4 = .ok (.iconst 3, 1) := by decide +kernel
theorem dX5_hayOf_5 : decode cX5_hayOf 5 = .ok (.iload_n 1, 1) := by decide +kernel
theorem dX5_hayOf_6 : decode cX5_hayOf 6 = .ok (.iadd, 1) := by decide +kernel
theorem dX5_hayOf_7 : decode cX5_hayOf 7 = .ok (.iaload, 1) := by decide +kernel
theorem dX5_hayOf_8 : decode cX5_hayOf 8 = .ok (.ireturn, 1) := by decide +kernel
theorem dX5_moneyOf_0 : decode cX5_moneyOf 0 = .ok (.aload_n 0, 1) := by decide +kernel
theorem dX5_moneyOf_1 : decode cX5_moneyOf 1 = .ok (.getfield 11, 3) := by decide +kernel
theorem dX5_moneyOf_4 : decode cX5_moneyOf 4 = .ok (.bipush 7, 2) := by decide +kernel
theorem dX5_moneyOf_6 : decode cX5_moneyOf 6 = .ok (.iload_n 1, 1) := by decide +kernel
theorem dX5_moneyOf_7 : decode cX5_moneyOf 7 = .ok (.iadd, 1) := by decide +kernel
theorem dX5_moneyOf_8 : decode cX5_moneyOf 8 = .ok (.iaload, 1) := by decide +kernel
theorem dX5_moneyOf_9 : decode cX5_moneyOf 9 = .ok (.ireturn, 1) := by decide +kernel
theorem dX5_debt_0 : decode cX5_debt 0 = .ok (.aload_n 0, 1) := by decide +kernel
theorem dX5_debt_1 : decode cX5_debt 1 = .ok (.getfield 11, 3) := by decide +kernel
theorem dX5_debt_4 : decode cX5_debt 4 = .ok (.bipush 11, 2) := by decide +kernel
theorem dX5_debt_6 : decode cX5_debt 6 = .ok (.iload_n 1, 1) := by decide +kernel
theorem dX5_debt_7 : decode cX5_debt 7 = .ok (.iconst 4, 1) := by decide +kernel
theorem dX5_debt_8 : decode cX5_debt 8 = .ok (.imul, 1) := by decide +kernel
theorem dX5_debt_9 : decode cX5_debt 9 = .ok (.iadd, 1) := by decide +kernel
theorem dX5_debt_10 : decode cX5_debt 10 = .ok (.iload_n 2, 1) := by decide +kernel
theorem dX5_debt_11 : decode cX5_debt 11 = .ok (.iadd, 1) := by decide +kernel
theorem dX5_debt_12 : decode cX5_debt 12 = .ok (.iaload, 1) := by decide +kernel
theorem dX5_debt_13 : decode cX5_debt 13 = .ok (.ireturn, 1) := by decide +kernel
theorem dX5_isPairLeft_0 : decode cX5_isPairLeft 0 = .ok (.iload_n 1, 1) := by decide +kernel
theorem dX5_isPairLeft_1 : decode cX5_isPairLeft 1 = .ok (.iload_n 2, 1) := by decide +kernel
theorem dX5_isPairLeft_2 : decode cX5_isPairLeft 2 = .ok (.if_icmp .eq 23, 3) := by decide +kernel
theorem dX5_isPairLeft_5 : decode cX5_isPairLeft 5 = .ok (.aload_n 0, 1) := by decide +kernel
theorem dX5_isPairLeft_6 : decode cX5_isPairLeft 6 = .ok (.getfield 11, 3) := by decide +kernel
theorem dX5_isPairLeft_9 : decode cX5_isPairLeft 9 = .ok (.bipush 11, 2) := by decide +kernel
theorem dX5_isPairLeft_11 : decode cX5_isPairLeft 11 = .ok (.iload_n 1, 1) := by decide +kernel
theorem dX5_isPairLeft_12 : decode cX5_isPairLeft 12 = .ok (.iconst 4, 1) := by decide +kernel
theorem dX5_isPairLeft_13 : decode cX5_isPairLeft 13 = .ok (.imul, 1) := by decide +kernel
theorem dX5_isPairLeft_14 : decode cX5_isPairLeft 14 = .ok (.iadd, 1) := by decide +kernel
theorem dX5_isPairLeft_15 : decode cX5_isPairLeft 15 = .ok (.iload_n 2, 1) := by decide +kernel
theorem dX5_isPairLeft_16 : decode cX5_isPairLeft 16 = .ok (.iadd, 1) := by decide +kernel
theorem dX5_isPairLeft_17 : decode cX5_isPairLeft 17 = .ok (.iaload, 1) := by decide +kernel
theorem dX5_isPairLeft_18 : decode cX5_isPairLeft 18 = .ok (.ifCond .ne 7, 3) := by decide +kernel
theorem dX5_isPairLeft_21 : decode cX5_isPairLeft 21 = .ok (.iconst 1, 1) := by decide +kernel
theorem dX5_isPairLeft_22 : decode cX5_isPairLeft 22 = .ok (.goto 4, 3) := by decide +kernel
theorem dX5_isPairLeft_25 : decode cX5_isPairLeft 25 = .ok (.iconst 0, 1) := by decide +kernel
theorem dX5_isPairLeft_26 : decode cX5_isPairLeft 26 = .ok (.ireturn, 1) := by decide +kernel
theorem dX5_ownerOf_0 : decode cX5_ownerOf 0 = .ok (.aload_n 0, 1) := by decide +kernel
theorem dX5_ownerOf_1 : decode cX5_ownerOf 1 = .ok (.getfield 11, 3) := by decide +kernel
theorem dX5_ownerOf_4 : decode cX5_ownerOf 4 = .ok (.bipush 27, 2) := by decide +kernel
theorem dX5_ownerOf_6 : decode cX5_ownerOf 6 = .ok (.iload_n 1, 1) := by decide +kernel
theorem dX5_ownerOf_7 : decode cX5_ownerOf 7 = .ok (.iadd, 1) := by decide +kernel
theorem dX5_ownerOf_8 : decode cX5_ownerOf 8 = .ok (.iaload, 1) := by decide +kernel
theorem dX5_ownerOf_9 : decode cX5_ownerOf 9 = .ok (.ireturn, 1) := by decide +kernel
theorem dX5_worthOf_0 : decode cX5_worthOf 0 = .ok (.aload_n 0, 1) := by decide +kernel
theorem dX5_worthOf_1 : decode cX5_worthOf 1 = .ok (.getfield 11, 3) := by decide +kernel
theorem dX5_worthOf_4 : decode cX5_worthOf 4 = .ok (.bipush 32, 2) := by decide +kernel
theorem dX5_worthOf_6 : decode cX5_worthOf 6 = .ok (.iload_n 1, 1) := by decide +kernel
theorem dX5_worthOf_7 : decode cX5_worthOf 7 = .ok (.iadd, 1) := by decide +kernel
theorem dX5_worthOf_8 : decode cX5_worthOf 8 = .ok (.iaload, 1) := by decide +kernel
theorem dX5_worthOf_9 : decode cX5_worthOf 9 = .ok (.ireturn, 1) := by decide +kernel
theorem dX5_kindOf_0 : decode cX5_kindOf 0 = .ok (.aload_n 0, 1) := by decide +kernel
theorem dX5_kindOf_1 : decode cX5_kindOf 1 = .ok (.getfield 11, 3) := by decide +kernel
theorem dX5_kindOf_4 : decode cX5_kindOf 4 = .ok (.bipush 37, 2) := by decide +kernel
theorem dX5_kindOf_6 : decode cX5_kindOf 6 = .ok (.iload_n 1, 1) := by decide +kernel
theorem dX5_kindOf_7 : decode cX5_kindOf 7 = .ok (.iadd, 1) := by decide +kernel
theorem dX5_kindOf_8 : decode cX5_kindOf 8 = .ok (.iaload, 1) := by decide +kernel
theorem dX5_kindOf_9 : decode cX5_kindOf 9 = .ok (.ireturn, 1) := by decide +kernel
theorem dX5_holderOf_0 : decode cX5_holderOf 0 = .ok (.aload_n 0, 1) := by decide +kernel
theorem dX5_holderOf_1 : decode cX5_holderOf 1 = .ok (.getfield 11, 3) := by decide +kernel
theorem dX5_holderOf_4 : decode cX5_holderOf 4 = .ok (.bipush 42, 2) := by decide +kernel
theorem dX5_holderOf_6 : decode cX5_holderOf 6 = .ok (.iload_n 1, 1) := by decide +kernel
theorem dX5_holderOf_7 : decode cX5_holderOf 7 = .ok (.iadd, 1) := by decide +kernel
theorem dX5_holderOf_8 : decode cX5_holderOf 8 = .ok (.iaload, 1) := by decide +kernel
theorem dX5_holderOf_9 : decode cX5_holderOf 9 = .ok (.ireturn, 1) := by decide +kernel
theorem dX5_daysOf_0 : decode cX5_daysOf 0 = .ok (.aload_n 0, 1) := by decide +kernel
theorem dX5_daysOf_1 : decode cX5_daysOf 1 = .ok (.getfield 11, 3) := by decide +kernel
theorem dX5_daysOf_4 : decode cX5_daysOf 4 = .ok (.bipush 47, 2) := by decide +kernel
theorem dX5_daysOf_6 : decode cX5_daysOf 6 = .ok (.iload_n 1, 1) := by decide +kernel
theorem dX5_daysOf_7 : decode cX5_daysOf 7 = .ok (.iadd, 1) := by decide +kernel
theorem dX5_daysOf_8 : decode cX5_daysOf 8 = .ok (.iaload, 1) := by decide +kernel
theorem dX5_daysOf_9 : decode cX5_daysOf 9 = .ok (.ireturn, 1) := by decide +kernel
theorem dX5_isDead_0 : decode cX5_isDead 0 = .ok (.aload_n 0, 1) := by decide +kernel
theorem dX5_isDead_1 : decode cX5_isDead 1 = .ok (.iload_n 1, 1) := by decide +kernel
theorem dX5_isDead_2 : decode cX5_isDead 2 = .ok (.invokevirtual 34, 3) := by decide +kernel
theorem dX5_isDead_5 : decode cX5_isDead 5 = .ok (.ifCond .ne 7, 3) := by decide +kernel
theorem dX5_isDead_8 : decode cX5_isDead 8 = .ok (.iconst 1, 1) := by decide +kernel
theorem dX5_isDead_9 : decode cX5_isDead 9 = .ok (.goto 4, 3) := by decide +kernel
theorem dX5_isDead_12 : decode cX5_isDead 12 = .ok (.iconst 0, 1) := by decide +kernel
theorem dX5_isDead_13 : decode cX5_isDead 13 = .ok (.ireturn, 1) := by decide +kernel
theorem dX5_isShut_0 : decode cX5_isShut 0 = .ok (.aload_n 0, 1) := by decide +kernel
theorem dX5_isShut_1 : decode cX5_isShut 1 = .ok (.iload_n 1, 1) := by decide +kernel
theorem dX5_isShut_2 : decode cX5_isShut 2 = .ok (.invokevirtual 38, 3) := by decide +kernel
theorem dX5_isShut_5 : decode cX5_isShut 5 = .ok (.bipush (-9), 2) := by decide +kernel
theorem dX5_isShut_7 : decode cX5_isShut 7 = .ok (.if_icmp .eq 7, 3) := by decide +kernel
theorem dX5_isShut_10 : decode cX5_isShut 10 = .ok (.iconst 1, 1) := by decide +kernel
theorem dX5_isShut_11 : decode cX5_isShut 11 = .ok (.goto 4, 3) := by decide +kernel
theorem dX5_isShut_14 : decode cX5_isShut 14 = .ok (.iconst 0, 1) := by decide +kernel
theorem dX5_isShut_15 : decode cX5_isShut 15 = .ok (.ireturn, 1) := by decide +kernel
theorem dX5_isRipe_0 : decode cX5_isRipe 0 = .ok (.aload_n 0, 1) := by decide +kernel
theorem dX5_isRipe_1 : decode cX5_isRipe 1 = .ok (.iload_n 1, 1) := by decide +kernel
theorem dX5_isRipe_2 : decode cX5_isRipe 2 = .ok (.invokevirtual 41, 3) := by decide +kernel
theorem dX5_isRipe_5 : decode cX5_isRipe 5 = .ok (.ifCond .eq 16, 3) := by decide +kernel
theorem dX5_isRipe_8 : decode cX5_isRipe 8 = .ok (.aload_n 0, 1) := by decide +kernel
theorem dX5_isRipe_9 : decode cX5_isRipe 9 = .ok (.iload_n 1, 1) := by decide +kernel
theorem dX5_isRipe_10 : decode cX5_isRipe 10 = .ok (.invokevirtual 45, 3) := by decide +kernel
theorem dX5_isRipe_13 : decode cX5_isRipe 13 = .ok (.iconst 3, 1) := by decide +kernel
theorem dX5_isRipe_14 : decode cX5_isRipe 14 = .ok (.if_icmp .lt 7, 3) := by decide +kernel
theorem dX5_isRipe_17 : decode cX5_isRipe 17 = .ok (.iconst 1, 1) := by decide +kernel
theorem dX5_isRipe_18 : decode cX5_isRipe 18 = .ok (.goto 4, 3) := by decide +kernel
theorem dX5_isRipe_21 : decode cX5_isRipe 21 = .ok (.iconst 0, 1) := by decide +kernel
theorem dX5_isRipe_22 : decode cX5_isRipe 22 = .ok (.ireturn, 1) := by decide +kernel
theorem dX5_beastsOf_0 : decode cX5_beastsOf 0 = .ok (.iconst 0, 1) := by decide +kernel
theorem dX5_beastsOf_1 : decode cX5_beastsOf 1 = .ok (.istore_n 2, 1) := by decide +kernel
theorem dX5_beastsOf_2 : decode cX5_beastsOf 2 = .ok (.iconst 0, 1) := by decide +kernel
theorem dX5_beastsOf_3 : decode cX5_beastsOf 3 = .ok (.istore_n 3, 1) := by decide +kernel
theorem dX5_beastsOf_4 : decode cX5_beastsOf 4 = .ok (.iload_n 3, 1) := by decide +kernel
theorem dX5_beastsOf_5 : decode cX5_beastsOf 5 = .ok (.aload_n 0, 1) := by decide +kernel
theorem dX5_beastsOf_6 : decode cX5_beastsOf 6 = .ok (.invokevirtual 31, 3) := by decide +kernel
theorem dX5_beastsOf_9 : decode cX5_beastsOf 9 = .ok (.if_icmp .ge 28, 3) := by decide +kernel
theorem dX5_beastsOf_12 : decode cX5_beastsOf 12 = .ok (.iload_n 2, 1) := by decide +kernel
theorem dX5_beastsOf_13 : decode cX5_beastsOf 13 = .ok (.aload_n 0, 1) := by decide +kernel
theorem dX5_beastsOf_14 : decode cX5_beastsOf 14 = .ok (.iload_n 3, 1) := by decide +kernel
theorem dX5_beastsOf_15 : decode cX5_beastsOf 15 = .ok (.invokevirtual 48, 3) := by decide +kernel
theorem dX5_beastsOf_18 : decode cX5_beastsOf 18 = .ok (.iload_n 1, 1) := by decide +kernel
theorem dX5_beastsOf_19 : decode cX5_beastsOf 19 = .ok (.if_icmp .ne 9, 3) := by decide +kernel
theorem dX5_beastsOf_22 : decode cX5_beastsOf 22 = .ok (.iconst 1, 1) := by decide +kernel
theorem dX5_beastsOf_23 : decode cX5_beastsOf 23 = .ok (.iload_n 3, 1) := by decide +kernel
theorem dX5_beastsOf_24 : decode cX5_beastsOf 24 = .ok (.ishl, 1) := by decide +kernel
theorem dX5_beastsOf_25 : decode cX5_beastsOf 25 = .ok (.goto 4, 3) := by decide +kernel
theorem dX5_beastsOf_28 : decode cX5_beastsOf 28 = .ok (.iconst 0, 1) := by decide +kernel
theorem dX5_beastsOf_29 : decode cX5_beastsOf 29 = .ok (.ior, 1) := by decide +kernel
theorem dX5_beastsOf_30 : decode cX5_beastsOf 30 = .ok (.istore_n 2, 1) := by decide +kernel
theorem dX5_beastsOf_31 : decode cX5_beastsOf 31 = .ok (.iinc 3 1, 3) := by decide +kernel
theorem dX5_beastsOf_34 : decode cX5_beastsOf 34 = .ok (.goto (-30), 3) := by decide +kernel
theorem dX5_beastsOf_37 : decode cX5_beastsOf 37 = .ok (.iload_n 2, 1) := by decide +kernel
theorem dX5_beastsOf_38 : decode cX5_beastsOf 38 = .ok (.ireturn, 1) := by decide +kernel
theorem dX5_shutBeasts_0 : decode cX5_shutBeasts 0 = .ok (.iconst 0, 1) := by decide +kernel
theorem dX5_shutBeasts_1 : decode cX5_shutBeasts 1 = .ok (.istore_n 1, 1) := by decide +kernel
theorem dX5_shutBeasts_2 : decode cX5_shutBeasts 2 = .ok (.iconst 0, 1) := by decide +kernel
theorem dX5_shutBeasts_3 : decode cX5_shutBeasts 3 = .ok (.istore_n 2, 1) := by decide +kernel
theorem dX5_shutBeasts_4 : decode cX5_shutBeasts 4 = .ok (.iload_n 2, 1) := by decide +kernel
theorem dX5_shutBeasts_5 : decode cX5_shutBeasts 5 = .ok (.aload_n 0, 1) := by decide +kernel
theorem dX5_shutBeasts_6 : decode cX5_shutBeasts 6 = .ok (.invokevirtual 31, 3) := by decide +kernel
theorem dX5_shutBeasts_9 : decode cX5_shutBeasts 9 = .ok (.if_icmp .ge 27, 3) := by decide +kernel
theorem dX5_shutBeasts_12 : decode cX5_shutBeasts 12 = .ok (.iload_n 1, 1) := by decide +kernel
theorem dX5_shutBeasts_13 : decode cX5_shutBeasts 13 = .ok (.aload_n 0, 1) := by decide +kernel
theorem dX5_shutBeasts_14 : decode cX5_shutBeasts 14 = .ok (.iload_n 2, 1) := by decide +kernel
theorem dX5_shutBeasts_15 : decode cX5_shutBeasts 15 = .ok (.invokevirtual 41, 3) := by decide +kernel
theorem dX5_shutBeasts_18 : decode cX5_shutBeasts 18 = .ok (.ifCond .eq 9, 3) := by decide +kernel
theorem dX5_shutBeasts_21 : decode cX5_shutBeasts 21 = .ok (.iconst 1, 1) := by decide +kernel
theorem dX5_shutBeasts_22 : decode cX5_shutBeasts 22 = .ok (.iload_n 2, 1) := by decide +kernel
theorem dX5_shutBeasts_23 : decode cX5_shutBeasts 23 = .ok (.ishl, 1) := by decide +kernel
theorem dX5_shutBeasts_24 : decode cX5_shutBeasts 24 = .ok (.goto 4, 3) := by decide +kernel
theorem dX5_shutBeasts_27 : decode cX5_shutBeasts 27 = .ok (.iconst 0, 1) := by decide +kernel
theorem dX5_shutBeasts_28 : decode cX5_shutBeasts 28 = .ok (.ior, 1) := by decide +kernel
theorem dX5_shutBeasts_29 : decode cX5_shutBeasts 29 = .ok (.istore_n 1, 1) := by decide +kernel
theorem dX5_shutBeasts_30 : decode cX5_shutBeasts 30 = .ok (.iinc 2 1, 3) := by decide +kernel
theorem dX5_shutBeasts_33 : decode cX5_shutBeasts 33 = .ok (.goto (-29), 3) := by decide +kernel
theorem dX5_shutBeasts_36 : decode cX5_shutBeasts 36 = .ok (.iload_n 1, 1) := by decide +kernel
theorem dX5_shutBeasts_37 : decode cX5_shutBeasts 37 = .ok (.ireturn, 1) := by decide +kernel
theorem dX5_deadBeasts_0 : decode cX5_deadBeasts 0 = .ok (.iconst 0, 1) := by decide +kernel
theorem dX5_deadBeasts_1 : decode cX5_deadBeasts 1 = .ok (.istore_n 1, 1) := by decide +kernel
theorem dX5_deadBeasts_2 : decode cX5_deadBeasts 2 = .ok (.iconst 0, 1) := by decide +kernel
theorem dX5_deadBeasts_3 : decode cX5_deadBeasts 3 = .ok (.istore_n 2, 1) := by decide +kernel
theorem dX5_deadBeasts_4 : decode cX5_deadBeasts 4 = .ok (.iload_n 2, 1) := by decide +kernel
theorem dX5_deadBeasts_5 : decode cX5_deadBeasts 5 = .ok (.aload_n 0, 1) := by decide +kernel
theorem dX5_deadBeasts_6 : decode cX5_deadBeasts 6 = .ok (.invokevirtual 31, 3) := by decide +kernel
theorem dX5_deadBeasts_9 : decode cX5_deadBeasts 9 = .ok (.if_icmp .ge 27, 3) := by decide +kernel
theorem dX5_deadBeasts_12 : decode cX5_deadBeasts 12 = .ok (.iload_n 1, 1) := by decide +kernel
theorem dX5_deadBeasts_13 : decode cX5_deadBeasts 13 = .ok (.aload_n 0, 1) := by decide +kernel
theorem dX5_deadBeasts_14 : decode cX5_deadBeasts 14 = .ok (.iload_n 2, 1) := by decide +kernel
theorem dX5_deadBeasts_15 : decode cX5_deadBeasts 15 = .ok (.invokevirtual 51, 3) := by decide +kernel
theorem dX5_deadBeasts_18 : decode cX5_deadBeasts 18 = .ok (.ifCond .eq 9, 3) := by decide +kernel
theorem dX5_deadBeasts_21 : decode cX5_deadBeasts 21 = .ok (.iconst 1, 1) := by decide +kernel
theorem dX5_deadBeasts_22 : decode cX5_deadBeasts 22 = .ok (.iload_n 2, 1) := by decide +kernel
theorem dX5_deadBeasts_23 : decode cX5_deadBeasts 23 = .ok (.ishl, 1) := by decide +kernel
theorem dX5_deadBeasts_24 : decode cX5_deadBeasts 24 = .ok (.goto 4, 3) := by decide +kernel
theorem dX5_deadBeasts_27 : decode cX5_deadBeasts 27 = .ok (.iconst 0, 1) := by decide +kernel
theorem dX5_deadBeasts_28 : decode cX5_deadBeasts 28 = .ok (.ior, 1) := by decide +kernel
theorem dX5_deadBeasts_29 : decode cX5_deadBeasts 29 = .ok (.istore_n 1, 1) := by decide +kernel
theorem dX5_deadBeasts_30 : decode cX5_deadBeasts 30 = .ok (.iinc 2 1, 3) := by decide +kernel
theorem dX5_deadBeasts_33 : decode cX5_deadBeasts 33 = .ok (.goto (-29), 3) := by decide +kernel
theorem dX5_deadBeasts_36 : decode cX5_deadBeasts 36 = .ok (.iload_n 1, 1) := by decide +kernel
theorem dX5_deadBeasts_37 : decode cX5_deadBeasts 37 = .ok (.ireturn, 1) := by decide +kernel
theorem dX5_takableBy_0 : decode cX5_takableBy 0 = .ok (.iconst 0, 1) := by decide +kernel
theorem dX5_takableBy_1 : decode cX5_takableBy 1 = .ok (.istore_n 2, 1) := by decide +kernel
theorem dX5_takableBy_2 : decode cX5_takableBy 2 = .ok (.iconst 0, 1) := by decide +kernel
theorem dX5_takableBy_3 : decode cX5_takableBy 3 = .ok (.istore_n 3, 1) := by decide +kernel
theorem dX5_takableBy_4 : decode cX5_takableBy 4 = .ok (.iload_n 3, 1) := by decide +kernel
theorem dX5_takableBy_5 : decode cX5_takableBy 5 = .ok (.aload_n 0, 1) := by decide +kernel
theorem dX5_takableBy_6 : decode cX5_takableBy 6 = .ok (.invokevirtual 31, 3) := by decide +kernel
theorem dX5_takableBy_9 : decode cX5_takableBy 9 = .ok (.if_icmp .ge 28, 3) := by decide +kernel
theorem dX5_takableBy_12 : decode cX5_takableBy 12 = .ok (.iload_n 2, 1) := by decide +kernel
theorem dX5_takableBy_13 : decode cX5_takableBy 13 = .ok (.aload_n 0, 1) := by decide +kernel
theorem dX5_takableBy_14 : decode cX5_takableBy 14 = .ok (.iload_n 1, 1) := by decide +kernel
theorem dX5_takableBy_15 : decode cX5_takableBy 15 = .ok (.iload_n 3, 1) := by decide +kernel
theorem dX5_takableBy_16 : decode cX5_takableBy 16 = .ok (.invokevirtual 54, 3) := by decide +kernel
theorem dX5_takableBy_19 : decode cX5_takableBy 19 = .ok (.ifCond .ne 9, 3) := by decide +kernel
theorem dX5_takableBy_22 : decode cX5_takableBy 22 = .ok (.iconst 1, 1) := by decide +kernel
theorem dX5_takableBy_23 : decode cX5_takableBy 23 = .ok (.iload_n 3, 1) := by decide +kernel
theorem dX5_takableBy_24 : decode cX5_takableBy 24 = .ok (.ishl, 1) := by decide +kernel
theorem dX5_takableBy_25 : decode cX5_takableBy 25 = .ok (.goto 4, 3) := by decide +kernel
theorem dX5_takableBy_28 : decode cX5_takableBy 28 = .ok (.iconst 0, 1) := by decide +kernel
theorem dX5_takableBy_29 : decode cX5_takableBy 29 = .ok (.ior, 1) := by decide +kernel
theorem dX5_takableBy_30 : decode cX5_takableBy 30 = .ok (.istore_n 2, 1) := by decide +kernel
theorem dX5_takableBy_31 : decode cX5_takableBy 31 = .ok (.iinc 3 1, 3) := by decide +kernel
theorem dX5_takableBy_34 : decode cX5_takableBy 34 = .ok (.goto (-30), 3) := by decide +kernel
theorem dX5_takableBy_37 : decode cX5_takableBy 37 = .ok (.iload_n 2, 1) := by decide +kernel
theorem dX5_takableBy_38 : decode cX5_takableBy 38 = .ok (.ireturn, 1) := by decide +kernel
theorem dX5_owedBy_0 : decode cX5_owedBy 0 = .ok (.iconst 0, 1) := by decide +kernel
theorem dX5_owedBy_1 : decode cX5_owedBy 1 = .ok (.istore_n 2, 1) := by decide +kernel
theorem dX5_owedBy_2 : decode cX5_owedBy 2 = .ok (.iconst 0, 1) := by decide +kernel
theorem dX5_owedBy_3 : decode cX5_owedBy 3 = .ok (.istore_n 3, 1) := by decide +kernel
theorem dX5_owedBy_4 : decode cX5_owedBy 4 = .ok (.iload_n 3, 1) := by decide +kernel
theorem dX5_owedBy_5 : decode cX5_owedBy 5 = .ok (.aload_n 0, 1) := by decide +kernel
theorem dX5_owedBy_6 : decode cX5_owedBy 6 = .ok (.invokevirtual 27, 3) := by decide +kernel
theorem dX5_owedBy_9 : decode cX5_owedBy 9 = .ok (.if_icmp .ge 18, 3) := by decide +kernel
theorem dX5_owedBy_12 : decode cX5_owedBy 12 = .ok (.iload_n 2, 1) := by decide +kernel
theorem dX5_owedBy_13 : decode cX5_owedBy 13 = .ok (.aload_n 0, 1) := by decide +kernel
theorem dX5_owedBy_14 : decode cX5_owedBy 14 = .ok (.iload_n 1, 1) := by decide +kernel
theorem dX5_owedBy_15 : decode cX5_owedBy 15 = .ok (.iload_n 3, 1) := by decide +kernel
theorem dX5_owedBy_16 : decode cX5_owedBy 16 = .ok (.invokevirtual 58, 3) := by decide +kernel
theorem dX5_owedBy_19 : decode cX5_owedBy 19 = .ok (.iadd, 1) := by decide +kernel
theorem dX5_owedBy_20 : decode cX5_owedBy 20 = .ok (.istore_n 2, 1) := by decide +kernel
theorem dX5_owedBy_21 : decode cX5_owedBy 21 = .ok (.iinc 3 1, 3) := by decide +kernel
theorem dX5_owedBy_24 : decode cX5_owedBy 24 = .ok (.goto (-20), 3) := by decide +kernel
theorem dX5_owedBy_27 : decode cX5_owedBy 27 = .ok (.iload_n 2, 1) := by decide +kernel
theorem dX5_owedBy_28 : decode cX5_owedBy 28 = .ok (.ireturn, 1) := by decide +kernel
theorem dX5_owedTo_0 : decode cX5_owedTo 0 = .ok (.iconst 0, 1) := by decide +kernel
theorem dX5_owedTo_1 : decode cX5_owedTo 1 = .ok (.istore_n 2, 1) := by decide +kernel
theorem dX5_owedTo_2 : decode cX5_owedTo 2 = .ok (.iconst 0, 1) := by decide +kernel
theorem dX5_owedTo_3 : decode cX5_owedTo 3 = .ok (.istore_n 3, 1) := by decide +kernel
theorem dX5_owedTo_4 : decode cX5_owedTo 4 = .ok (.iload_n 3, 1) := by decide +kernel
theorem dX5_owedTo_5 : decode cX5_owedTo 5 = .ok (.aload_n 0, 1) := by decide +kernel
theorem dX5_owedTo_6 : decode cX5_owedTo 6 = .ok (.invokevirtual 27, 3) := by decide +kernel
theorem dX5_owedTo_9 : decode cX5_owedTo 9 = .ok (.if_icmp .ge 18, 3) := by decide +kernel
theorem dX5_owedTo_12 : decode cX5_owedTo 12 = .ok (.iload_n 2, 1) := by decide +kernel
theorem dX5_owedTo_13 : decode cX5_owedTo 13 = .ok (.aload_n 0, 1) := by decide +kernel
theorem dX5_owedTo_14 : decode cX5_owedTo 14 = .ok (.iload_n 3, 1) := by decide +kernel
theorem dX5_owedTo_15 : decode cX5_owedTo 15 = .ok (.iload_n 1, 1) := by decide +kernel
theorem dX5_owedTo_16 : decode cX5_owedTo 16 = .ok (.invokevirtual 58, 3) := by decide +kernel
theorem dX5_owedTo_19 : decode cX5_owedTo 19 = .ok (.iadd, 1) := by decide +kernel
theorem dX5_owedTo_20 : decode cX5_owedTo 20 = .ok (.istore_n 2, 1) := by decide +kernel
theorem dX5_owedTo_21 : decode cX5_owedTo 21 = .ok (.iinc 3 1, 3) := by decide +kernel
theorem dX5_owedTo_24 : decode cX5_owedTo 24 = .ok (.goto (-20), 3) := by decide +kernel
theorem dX5_owedTo_27 : decode cX5_owedTo 27 = .ok (.iload_n 2, 1) := by decide +kernel
theorem dX5_owedTo_28 : decode cX5_owedTo 28 = .ok (.ireturn, 1) := by decide +kernel
theorem dX5_owedByAll_0 : decode cX5_owedByAll 0 = .ok (.iconst 0, 1) := by decide +kernel
theorem dX5_owedByAll_1 : decode cX5_owedByAll 1 = .ok (.istore_n 1, 1) := by decide +kernel
theorem dX5_owedByAll_2 : decode cX5_owedByAll 2 = .ok (.iconst 0, 1) := by decide +kernel
theorem dX5_owedByAll_3 : decode cX5_owedByAll 3 = .ok (.istore_n 2, 1) := by decide +kernel
theorem dX5_owedByAll_4 : decode cX5_owedByAll 4 = .ok (.iload_n 2, 1) := by decide +kernel
theorem dX5_owedByAll_5 : decode cX5_owedByAll 5 = .ok (.aload_n 0, 1) := by decide +kernel
theorem dX5_owedByAll_6 : decode cX5_owedByAll 6 = .ok (.invokevirtual 27, 3) := by decide +kernel
theorem dX5_owedByAll_9 : decode cX5_owedByAll 9 = .ok (.if_icmp .ge 17, 3) := by decide +kernel
theorem dX5_owedByAll_12 : decode cX5_owedByAll 12 = .ok (.iload_n 1, 1) := by decide +kernel
theorem dX5_owedByAll_13 : decode cX5_owedByAll 13 = .ok (.aload_n 0, 1) := by decide +kernel
theorem dX5_owedByAll_14 : decode cX5_owedByAll 14 = .ok (.iload_n 2, 1) := by decide +kernel
theorem dX5_owedByAll_15 : decode cX5_owedByAll 15 = .ok (.invokevirtual 61, 3) := by decide +kernel
theorem dX5_owedByAll_18 : decode cX5_owedByAll 18 = .ok (.iadd, 1) := by decide +kernel
theorem dX5_owedByAll_19 : decode cX5_owedByAll 19 = .ok (.istore_n 1, 1) := by decide +kernel
theorem dX5_owedByAll_20 : decode cX5_owedByAll 20 = .ok (.iinc 2 1, 3) := by decide +kernel
theorem dX5_owedByAll_23 : decode cX5_owedByAll 23 = .ok (.goto (-19), 3) := by decide +kernel
theorem dX5_owedByAll_26 : decode cX5_owedByAll 26 = .ok (.iload_n 1, 1) := by decide +kernel
theorem dX5_owedByAll_27 : decode cX5_owedByAll 27 = .ok (.ireturn, 1) := by decide +kernel
theorem dX5_clauseFor_0 : decode cX5_clauseFor 0 = .ok (.aload_n 0, 1) := by decide +kernel
theorem dX5_clauseFor_1 : decode cX5_clauseFor 1 = .ok (.iload_n 2, 1) := by decide +kernel
theorem dX5_clauseFor_2 : decode cX5_clauseFor 2 = .ok (.invokevirtual 48, 3) := by decide +kernel
theorem dX5_clauseFor_5 : decode cX5_clauseFor 5 = .ok (.istore_n 3, 1) := by decide +kernel
theorem dX5_clauseFor_6 : decode cX5_clauseFor 6 = .ok (.iload_n 3, 1) := by decide +kernel
theorem dX5_clauseFor_7 : decode cX5_clauseFor 7 = .ok (.iload_n 1, 1) := by decide +kernel
theorem dX5_clauseFor_8 : decode cX5_clauseFor 8 = .ok (.if_icmp .ne 5, 3) := by decide +kernel
theorem dX5_clauseFor_11 : decode cX5_clauseFor 11 = .ok (.iconst 1, 1) := by decide +kernel
theorem dX5_clauseFor_12 : decode cX5_clauseFor 12 = .ok (.ireturn, 1) := by decide +kernel
theorem dX5_clauseFor_13 : decode cX5_clauseFor 13 = .ok (.aload_n 0, 1) := by decide +kernel
theorem dX5_clauseFor_14 : decode cX5_clauseFor 14 = .ok (.iload_n 2, 1) := by decide +kernel
theorem dX5_clauseFor_15 : decode cX5_clauseFor 15 = .ok (.invokevirtual 51, 3) := by decide +kernel
theorem dX5_clauseFor_18 : decode cX5_clauseFor 18 = .ok (.ifCond .eq 5, 3) := by decide +kernel
theorem dX5_clauseFor_21 : decode cX5_clauseFor 21 = .ok (.iconst 2, 1) := by decide +kernel
theorem dX5_clauseFor_22 : decode cX5_clauseFor 22 = .ok (.ireturn, 1) := by decide +kernel
theorem dX5_clauseFor_23 : decode cX5_clauseFor 23 = .ok (.aload_n 0, 1) := by decide +kernel
theorem dX5_clauseFor_24 : decode cX5_clauseFor 24 = .ok (.iload_n 2, 1) := by decide +kernel
theorem dX5_clauseFor_25 : decode cX5_clauseFor 25 = .ok (.invokevirtual 41, 3) := by decide +kernel
theorem dX5_clauseFor_28 : decode cX5_clauseFor 28 = .ok (.ifCond .eq 5, 3) := by decide +kernel
theorem dX5_clauseFor_31 : decode cX5_clauseFor 31 = .ok (.iconst 3, 1) := by decide +kernel
theorem dX5_clauseFor_32 : decode cX5_clauseFor 32 = .ok (.ireturn, 1) := by decide +kernel
theorem dX5_clauseFor_33 : decode cX5_clauseFor 33 = .ok (.aload_n 0, 1) := by decide +kernel
theorem dX5_clauseFor_34 : decode cX5_clauseFor 34 = .ok (.iload_n 3, 1) := by decide +kernel
theorem dX5_clauseFor_35 : decode cX5_clauseFor 35 = .ok (.iload_n 1, 1) := by decide +kernel
theorem dX5_clauseFor_36 : decode cX5_clauseFor 36 = .ok (.invokevirtual 58, 3) := by decide +kernel
theorem dX5_clauseFor_39 : decode cX5_clauseFor 39 = .ok (.ifCond .ne 5, 3) := by decide +kernel
theorem dX5_clauseFor_42 : decode cX5_clauseFor 42 = .ok (.iconst 4, 1) := by decide +kernel
theorem dX5_clauseFor_43 : decode cX5_clauseFor 43 = .ok (.ireturn, 1) := by decide +kernel
theorem dX5_clauseFor_44 : decode cX5_clauseFor 44 = .ok (.aload_n 0, 1) := by decide +kernel
theorem dX5_clauseFor_45 : decode cX5_clauseFor 45 = .ok (.iload_n 2, 1) := by decide +kernel
theorem dX5_clauseFor_46 : decode cX5_clauseFor 46 = .ok (.invokevirtual 64, 3) := by decide +kernel
theorem dX5_clauseFor_49 : decode cX5_clauseFor 49 = .ok (.iconst 1, 1) := by decide +kernel
theorem dX5_clauseFor_50 : decode cX5_clauseFor 50 = .ok (.if_icmp .ne 12, 3) := by decide +kernel
theorem dX5_clauseFor_53 : decode cX5_clauseFor 53 = .ok (.aload_n 0, 1) := by decide +kernel
theorem dX5_clauseFor_54 : decode cX5_clauseFor 54 = .ok (.invokevirtual 67, 3) := by decide +kernel
theorem dX5_clauseFor_57 : decode cX5_clauseFor 57 = .ok (.ifCond .eq 5, 3) := by decide +kernel
theorem dX5_clauseFor_60 : decode cX5_clauseFor 60 = .ok (.iconst 5, 1) := by decide +kernel
theorem dX5_clauseFor_61 : decode cX5_clauseFor 61 = .ok (.ireturn, 1) := by decide +kernel
theorem dX5_clauseFor_62 : decode cX5_clauseFor 62 = .ok (.aload_n 0, 1) := by decide +kernel
theorem dX5_clauseFor_63 : decode cX5_clauseFor 63 = .ok (.iload_n 2, 1) := by decide +kernel
theorem dX5_clauseFor_64 : decode cX5_clauseFor 64 = .ok (.invokevirtual 64, 3) := by decide +kernel
theorem dX5_clauseFor_67 : decode cX5_clauseFor 67 = .ok (.iconst 3, 1) := by decide +kernel
theorem dX5_clauseFor_68 : decode cX5_clauseFor 68 = .ok (.if_icmp .ne 8, 3) := by decide +kernel
theorem dX5_clauseFor_71 : decode cX5_clauseFor 71 = .ok (.bipush 6, 2) := by decide +kernel
theorem dX5_clauseFor_73 : decode cX5_clauseFor 73 = .ok (.goto 4, 3) := by decide +kernel
theorem dX5_clauseFor_76 : decode cX5_clauseFor 76 = .ok (.iconst 0, 1) := by decide +kernel
theorem dX5_clauseFor_77 : decode cX5_clauseFor 77 = .ok (.ireturn, 1) := by decide +kernel
theorem dX5_isMarch_0 : decode cX5_isMarch 0 = .ok (.aload_n 0, 1) := by decide +kernel
theorem dX5_isMarch_1 : decode cX5_isMarch 1 = .ok (.invokevirtual 71, 3) := by decide +kernel
theorem dX5_isMarch_4 : decode cX5_isMarch 4 = .ok (.bipush 12, 2) := by decide +kernel
theorem dX5_isMarch_6 : decode cX5_isMarch 6 = .ok (.invokestatic 74, 3) := by decide +kernel
theorem dX5_isMarch_9 : decode cX5_isMarch 9 = .ok (.iconst 3, 1) := by decide +kernel
theorem dX5_isMarch_10 : decode cX5_isMarch 10 = .ok (.if_icmp .ge 7, 3) := by decide +kernel
theorem dX5_isMarch_13 : decode cX5_isMarch 13 = .ok (.iconst 1, 1) := by decide +kernel
theorem dX5_isMarch_14 : decode cX5_isMarch 14 = .ok (.goto 4, 3) := by decide +kernel
theorem dX5_isMarch_17 : decode cX5_isMarch 17 = .ok (.iconst 0, 1) := by decide +kernel
theorem dX5_isMarch_18 : decode cX5_isMarch 18 = .ok (.ireturn, 1) := by decide +kernel
theorem dX5_addPerson_0 : decode cX5_addPerson 0 = .ok (.aload_n 0, 1) := by decide +kernel
theorem dX5_addPerson_1 : decode cX5_addPerson 1 = .ok (.invokevirtual 27, 3) := by decide +kernel
theorem dX5_addPerson_4 : decode cX5_addPerson 4 = .ok (.istore_n 3, 1) := by decide +kernel
theorem dX5_addPerson_5 : decode cX5_addPerson 5 = .ok (.iload_n 3, 1) := by decide +kernel
theorem dX5_addPerson_6 : decode cX5_addPerson 6 = .ok (.iconst 4, 1) := by decide +kernel
theorem dX5_addPerson_7 : decode cX5_addPerson 7 = .ok (.if_icmp .lt 4, 3) := by decide +kernel
theorem dX5_addPerson_10 : decode cX5_addPerson 10 = .ok (.return_, 1) := by decide +kernel
theorem dX5_addPerson_11 : decode cX5_addPerson 11 = .ok (.aload_n 0, 1) := by decide +kernel
theorem dX5_addPerson_12 : decode cX5_addPerson 12 = .ok (.getfield 11, 3) := by decide +kernel
theorem dX5_addPerson_15 : decode cX5_addPerson 15 = .ok (.iconst 3, 1) := by decide +kernel
theorem dX5_addPerson_16 : decode cX5_addPerson 16 = .ok (.iload_n 3, 1) := by decide +kernel
theorem dX5_addPerson_17 : decode cX5_addPerson 17 = .ok (.iadd, 1) := by decide +kernel
theorem dX5_addPerson_18 : decode cX5_addPerson 18 = .ok (.iload_n 1, 1) := by decide +kernel
theorem dX5_addPerson_19 : decode cX5_addPerson 19 = .ok (.iastore, 1) := by decide +kernel
theorem dX5_addPerson_20 : decode cX5_addPerson 20 = .ok (.aload_n 0, 1) := by decide +kernel
theorem dX5_addPerson_21 : decode cX5_addPerson 21 = .ok (.getfield 11, 3) := by decide +kernel
theorem dX5_addPerson_24 : decode cX5_addPerson 24 = .ok (.bipush 7, 2) := by decide +kernel
theorem dX5_addPerson_26 : decode cX5_addPerson 26 = .ok (.iload_n 3, 1) := by decide +kernel
theorem dX5_addPerson_27 : decode cX5_addPerson 27 = .ok (.iadd, 1) := by decide +kernel
theorem dX5_addPerson_28 : decode cX5_addPerson 28 = .ok (.iload_n 2, 1) := by decide +kernel
theorem dX5_addPerson_29 : decode cX5_addPerson 29 = .ok (.iastore, 1) := by decide +kernel
theorem dX5_addPerson_30 : decode cX5_addPerson 30 = .ok (.aload_n 0, 1) := by decide +kernel
theorem dX5_addPerson_31 : decode cX5_addPerson 31 = .ok (.getfield 11, 3) := by decide +kernel
theorem dX5_addPerson_34 : decode cX5_addPerson 34 = .ok (.iconst 0, 1) := by decide +kernel
theorem dX5_addPerson_35 : decode cX5_addPerson 35 = .ok (.iload_n 3, 1) := by decide +kernel
theorem dX5_addPerson_36 : decode cX5_addPerson 36 = .ok (.iconst 1, 1) := by decide +kernel
theorem dX5_addPerson_37 : decode cX5_addPerson 37 = .ok (.iadd, 1) := by decide +kernel
theorem dX5_addPerson_38 : decode cX5_addPerson 38 = .ok (.iastore, 1) := by decide +kernel
theorem dX5_addPerson_39 : decode cX5_addPerson 39 = .ok (.return_, 1) := by decide +kernel
theorem dX5_addBeast_0 : decode cX5_addBeast 0 = .ok (.aload_n 0, 1) := by decide +kernel
theorem dX5_addBeast_1 : decode cX5_addBeast 1 = .ok (.invokevirtual 31, 3) := by decide +kernel
theorem dX5_addBeast_4 : decode cX5_addBeast 4 = .ok (.istore 4, 2) := by decide +kernel
theorem dX5_addBeast_6 : decode cX5_addBeast 6 = .ok (.iload 4, 2) := by decide +kernel
theorem dX5_addBeast_8 : decode cX5_addBeast 8 = .ok (.iconst 5, 1) := by decide +kernel
theorem dX5_addBeast_9 : decode cX5_addBeast 9 = .ok (.if_icmp .lt 4, 3) := by decide +kernel
theorem dX5_addBeast_12 : decode cX5_addBeast 12 = .ok (.return_, 1) := by decide +kernel
theorem dX5_addBeast_13 : decode cX5_addBeast 13 = .ok (.aload_n 0, 1) := by decide +kernel
theorem dX5_addBeast_14 : decode cX5_addBeast 14 = .ok (.getfield 11, 3) := by decide +kernel
theorem dX5_addBeast_17 : decode cX5_addBeast 17 = .ok (.bipush 27, 2) := by decide +kernel
theorem dX5_addBeast_19 : decode cX5_addBeast 19 = .ok (.iload 4, 2) := by decide +kernel
theorem dX5_addBeast_21 : decode cX5_addBeast 21 = .ok (.iadd, 1) := by decide +kernel
theorem dX5_addBeast_22 : decode cX5_addBeast 22 = .ok (.iload_n 1, 1) := by decide +kernel
theorem dX5_addBeast_23 : decode cX5_addBeast 23 = .ok (.iastore, 1) := by decide +kernel
theorem dX5_addBeast_24 : decode cX5_addBeast 24 = .ok (.aload_n 0, 1) := by decide +kernel
theorem dX5_addBeast_25 : decode cX5_addBeast 25 = .ok (.getfield 11, 3) := by decide +kernel
theorem dX5_addBeast_28 : decode cX5_addBeast 28 = .ok (.bipush 32, 2) := by decide +kernel
theorem dX5_addBeast_30 : decode cX5_addBeast 30 = .ok (.iload 4, 2) := by decide +kernel
theorem dX5_addBeast_32 : decode cX5_addBeast 32 = .ok (.iadd, 1) := by decide +kernel
theorem dX5_addBeast_33 : decode cX5_addBeast 33 = .ok (.iload_n 2, 1) := by decide +kernel
theorem dX5_addBeast_34 : decode cX5_addBeast 34 = .ok (.iastore, 1) := by decide +kernel
theorem dX5_addBeast_35 : decode cX5_addBeast 35 = .ok (.aload_n 0, 1) := by decide +kernel
theorem dX5_addBeast_36 : decode cX5_addBeast 36 = .ok (.getfield 11, 3) := by decide +kernel
theorem dX5_addBeast_39 : decode cX5_addBeast 39 = .ok (.bipush 37, 2) := by decide +kernel
theorem dX5_addBeast_41 : decode cX5_addBeast 41 = .ok (.iload 4, 2) := by decide +kernel
theorem dX5_addBeast_43 : decode cX5_addBeast 43 = .ok (.iadd, 1) := by decide +kernel
theorem dX5_addBeast_44 : decode cX5_addBeast 44 = .ok (.iload_n 3, 1) := by decide +kernel
theorem dX5_addBeast_45 : decode cX5_addBeast 45 = .ok (.iastore, 1) := by decide +kernel
theorem dX5_addBeast_46 : decode cX5_addBeast 46 = .ok (.aload_n 0, 1) := by decide +kernel
theorem dX5_addBeast_47 : decode cX5_addBeast 47 = .ok (.getfield 11, 3) := by decide +kernel
theorem dX5_addBeast_50 : decode cX5_addBeast 50 = .ok (.bipush 42, 2) := by decide +kernel
theorem dX5_addBeast_52 : decode cX5_addBeast 52 = .ok (.iload 4, 2) := by decide +kernel
theorem dX5_addBeast_54 : decode cX5_addBeast 54 = .ok (.iadd, 1) := by decide +kernel
theorem dX5_addBeast_55 : decode cX5_addBeast 55 = .ok (.bipush (-9), 2) := by decide +kernel
theorem dX5_addBeast_57 : decode cX5_addBeast 57 = .ok (.iastore, 1) := by decide +kernel
theorem dX5_addBeast_58 : decode cX5_addBeast 58 = .ok (.aload_n 0, 1) := by decide +kernel
theorem dX5_addBeast_59 : decode cX5_addBeast 59 = .ok (.getfield 11, 3) := by decide +kernel
theorem dX5_addBeast_62 : decode cX5_addBeast 62 = .ok (.iconst 1, 1) := by decide +kernel
theorem dX5_addBeast_63 : decode cX5_addBeast 63 = .ok (.iload 4, 2) := by decide +kernel
theorem dX5_addBeast_65 : decode cX5_addBeast 65 = .ok (.iconst 1, 1) := by decide +kernel
theorem dX5_addBeast_66 : decode cX5_addBeast 66 = .ok (.iadd, 1) := by decide +kernel
theorem dX5_addBeast_67 : decode cX5_addBeast 67 = .ok (.iastore, 1) := by decide +kernel
theorem dX5_addBeast_68 : decode cX5_addBeast 68 = .ok (.return_, 1) := by decide +kernel
theorem dX5_addDebt_0 : decode cX5_addDebt 0 = .ok (.aload_n 0, 1) := by decide +kernel
theorem dX5_addDebt_1 : decode cX5_addDebt 1 = .ok (.iload_n 1, 1) := by decide +kernel
theorem dX5_addDebt_2 : decode cX5_addDebt 2 = .ok (.iload_n 2, 1) := by decide +kernel
theorem dX5_addDebt_3 : decode cX5_addDebt 3 = .ok (.bipush 99, 2) := by decide +kernel
theorem dX5_addDebt_5 : decode cX5_addDebt 5 = .ok (.aload_n 0, 1) := by decide +kernel
theorem dX5_addDebt_6 : decode cX5_addDebt 6 = .ok (.iload_n 1, 1) := by decide +kernel
theorem dX5_addDebt_7 : decode cX5_addDebt 7 = .ok (.iload_n 2, 1) := by decide +kernel
theorem dX5_addDebt_8 : decode cX5_addDebt 8 = .ok (.invokevirtual 58, 3) := by decide +kernel
theorem dX5_addDebt_11 : decode cX5_addDebt 11 = .ok (.iload_n 3, 1) := by decide +kernel
theorem dX5_addDebt_12 : decode cX5_addDebt 12 = .ok (.iadd, 1) := by decide +kernel
theorem dX5_addDebt_13 : decode cX5_addDebt 13 = .ok (.invokestatic 79, 3) := by decide +kernel
theorem dX5_addDebt_16 : decode cX5_addDebt 16 = .ok (.invokevirtual 82, 3) := by decide +kernel
theorem dX5_addDebt_19 : decode cX5_addDebt 19 = .ok (.return_, 1) := by decide +kernel
theorem dX5_lessenDebt_0 : decode cX5_lessenDebt 0 = .ok (.aload_n 0, 1) := by decide +kernel
theorem dX5_lessenDebt_1 : decode cX5_lessenDebt 1 = .ok (.iload_n 1, 1) := by decide +kernel
theorem dX5_lessenDebt_2 : decode cX5_lessenDebt 2 = .ok (.iload_n 2, 1) := by decide +kernel
theorem dX5_lessenDebt_3 : decode cX5_lessenDebt 3 = .ok (.iconst 0, 1) := by decide +kernel
theorem dX5_lessenDebt_4 : decode cX5_lessenDebt 4 = .ok (.aload_n 0, 1) := by decide +kernel
theorem dX5_lessenDebt_5 : decode cX5_lessenDebt 5 = .ok (.iload_n 1, 1) := by decide +kernel
theorem dX5_lessenDebt_6 : decode cX5_lessenDebt 6 = .ok (.iload_n 2, 1) := by decide +kernel
theorem dX5_lessenDebt_7 : decode cX5_lessenDebt 7 = .ok (.invokevirtual 58, 3) := by decide +kernel
theorem dX5_lessenDebt_10 : decode cX5_lessenDebt 10 = .ok (.iload_n 3, 1) := by decide +kernel
theorem dX5_lessenDebt_11 : decode cX5_lessenDebt 11 = .ok (.isub, 1) := by decide +kernel
theorem dX5_lessenDebt_12 : decode cX5_lessenDebt 12 = .ok (.invokestatic 86, 3) := by decide +kernel
theorem dX5_lessenDebt_15 : decode cX5_lessenDebt 15 = .ok (.invokevirtual 82, 3) := by decide +kernel
theorem dX5_lessenDebt_18 : decode cX5_lessenDebt 18 = .ok (.return_, 1) := by decide +kernel
theorem dX5_oweNow_0 : decode cX5_oweNow 0 = .ok (.aload_n 0, 1) := by decide +kernel
theorem dX5_oweNow_1 : decode cX5_oweNow 1 = .ok (.getfield 11, 3) := by decide +kernel
theorem dX5_oweNow_4 : decode cX5_oweNow 4 = .ok (.bipush 11, 2) := by decide +kernel
theorem dX5_oweNow_6 : decode cX5_oweNow 6 = .ok (.iload_n 1, 1) := by decide +kernel
theorem dX5_oweNow_7 : decode cX5_oweNow 7 = .ok (.iconst 4, 1) := by decide +kernel
theorem dX5_oweNow_8 : decode cX5_oweNow 8 = .ok (.imul, 1) := by decide +kernel
theorem dX5_oweNow_9 : decode cX5_oweNow 9 = .ok (.iadd, 1) := by decide +kernel
theorem dX5_oweNow_10 : decode cX5_oweNow 10 = .ok (.iload_n 2, 1) := by decide +kernel
theorem dX5_oweNow_11 : decode cX5_oweNow 11 = .ok (.iadd, 1) := by decide +kernel
theorem dX5_oweNow_12 : decode cX5_oweNow 12 = .ok (.iload_n 3, 1) := by decide +kernel
theorem dX5_oweNow_13 : decode cX5_oweNow 13 = .ok (.iastore, 1) := by decide +kernel
theorem dX5_oweNow_14 : decode cX5_oweNow 14 = .ok (.return_, 1) := by decide +kernel
theorem dX5_shutIn_0 : decode cX5_shutIn 0 = .ok (.aload_n 0, 1) := by decide +kernel
theorem dX5_shutIn_1 : decode cX5_shutIn 1 = .ok (.getfield 11, 3) := by decide +kernel
theorem dX5_shutIn_4 : decode cX5_shutIn 4 = .ok (.bipush 42, 2) := by decide +kernel
theorem dX5_shutIn_6 : decode cX5_shutIn 6 = .ok (.iload_n 2, 1) := by decide +kernel
theorem dX5_shutIn_7 : decode cX5_shutIn 7 = .ok (.iadd, 1) := by decide +kernel
theorem dX5_shutIn_8 : decode cX5_shutIn 8 = .ok (.iload_n 1, 1) := by decide +kernel
theorem dX5_shutIn_9 : decode cX5_shutIn 9 = .ok (.iastore, 1) := by decide +kernel
theorem dX5_shutIn_10 : decode cX5_shutIn 10 = .ok (.aload_n 0, 1) := by decide +kernel
theorem dX5_shutIn_11 : decode cX5_shutIn 11 = .ok (.getfield 11, 3) := by decide +kernel
theorem dX5_shutIn_14 : decode cX5_shutIn 14 = .ok (.bipush 47, 2) := by decide +kernel
theorem dX5_shutIn_16 : decode cX5_shutIn 16 = .ok (.iload_n 2, 1) := by decide +kernel
theorem dX5_shutIn_17 : decode cX5_shutIn 17 = .ok (.iadd, 1) := by decide +kernel
theorem dX5_shutIn_18 : decode cX5_shutIn 18 = .ok (.iconst 0, 1) := by decide +kernel
theorem dX5_shutIn_19 : decode cX5_shutIn 19 = .ok (.iastore, 1) := by decide +kernel
theorem dX5_shutIn_20 : decode cX5_shutIn 20 = .ok (.return_, 1) := by decide +kernel
theorem dX5_goHome_0 : decode cX5_goHome 0 = .ok (.aload_n 0, 1) := by decide +kernel
theorem dX5_goHome_1 : decode cX5_goHome 1 = .ok (.getfield 11, 3) := by decide +kernel
theorem dX5_goHome_4 : decode cX5_goHome 4 = .ok (.bipush 42, 2) := by decide +kernel
theorem dX5_goHome_6 : decode cX5_goHome 6 = .ok (.iload_n 1, 1) := by decide +kernel
theorem dX5_goHome_7 : decode cX5_goHome 7 = .ok (.iadd, 1) := by decide +kernel
theorem dX5_goHome_8 : decode cX5_goHome 8 = .ok (.bipush (-9), 2) := by decide +kernel
theorem dX5_goHome_10 : decode cX5_goHome 10 = .ok (.iastore, 1) := by decide +kernel
theorem dX5_goHome_11 : decode cX5_goHome 11 = .ok (.aload_n 0, 1) := by decide +kernel
theorem dX5_goHome_12 : decode cX5_goHome 12 = .ok (.getfield 11, 3) := by decide +kernel
theorem dX5_goHome_15 : decode cX5_goHome 15 = .ok (.bipush 47, 2) := by decide +kernel
theorem dX5_goHome_17 : decode cX5_goHome 17 = .ok (.iload_n 1, 1) := by decide +kernel
theorem dX5_goHome_18 : decode cX5_goHome 18 = .ok (.iadd, 1) := by decide +kernel
theorem dX5_goHome_19 : decode cX5_goHome 19 = .ok (.iconst 0, 1) := by decide +kernel
theorem dX5_goHome_20 : decode cX5_goHome 20 = .ok (.iastore, 1) := by decide +kernel
theorem dX5_goHome_21 : decode cX5_goHome 21 = .ok (.return_, 1) := by decide +kernel
theorem dX5_passDay_0 : decode cX5_passDay 0 = .ok (.iconst 0, 1) := by decide +kernel
theorem dX5_passDay_1 : decode cX5_passDay 1 = .ok (.istore_n 1, 1) := by decide +kernel
theorem dX5_passDay_2 : decode cX5_passDay 2 = .ok (.iload_n 1, 1) := by decide +kernel
theorem dX5_passDay_3 : decode cX5_passDay 3 = .ok (.aload_n 0, 1) := by decide +kernel
theorem dX5_passDay_4 : decode cX5_passDay 4 = .ok (.invokevirtual 31, 3) := by decide +kernel
theorem dX5_passDay_7 : decode cX5_passDay 7 = .ok (.if_icmp .ge 22, 3) := by decide +kernel
theorem dX5_passDay_10 : decode cX5_passDay 10 = .ok (.aload_n 0, 1) := by decide +kernel
theorem dX5_passDay_11 : decode cX5_passDay 11 = .ok (.iload_n 1, 1) := by decide +kernel
theorem dX5_passDay_12 : decode cX5_passDay 12 = .ok (.invokevirtual 41, 3) := by decide +kernel
theorem dX5_passDay_15 : decode cX5_passDay 15 = .ok (.ifCond .eq 8, 3) := by decide +kernel
theorem dX5_passDay_18 : decode cX5_passDay 18 = .ok (.aload_n 0, 1) := by decide +kernel
theorem dX5_passDay_19 : decode cX5_passDay 19 = .ok (.iload_n 1, 1) := by decide +kernel
theorem dX5_passDay_20 : decode cX5_passDay 20 = .ok (.invokevirtual 89, 3) := by decide +kernel
theorem dX5_passDay_23 : decode cX5_passDay 23 = .ok (.iinc 1 1, 3) := by decide +kernel
theorem dX5_passDay_26 : decode cX5_passDay 26 = .ok (.goto (-24), 3) := by decide +kernel
theorem dX5_passDay_29 : decode cX5_passDay 29 = .ok (.aload_n 0, 1) := by decide +kernel
theorem dX5_passDay_30 : decode cX5_passDay 30 = .ok (.getfield 11, 3) := by decide +kernel
theorem dX5_passDay_33 : decode cX5_passDay 33 = .ok (.iconst 2, 1) := by decide +kernel
theorem dX5_passDay_34 : decode cX5_passDay 34 = .ok (.dup2, 1) := by decide +kernel
theorem dX5_passDay_35 : decode cX5_passDay 35 = .ok (.iaload, 1) := by decide +kernel
theorem dX5_passDay_36 : decode cX5_passDay 36 = .ok (.iconst 1, 1) := by decide +kernel
theorem dX5_passDay_37 : decode cX5_passDay 37 = .ok (.iadd, 1) := by decide +kernel
theorem dX5_passDay_38 : decode cX5_passDay 38 = .ok (.iastore, 1) := by decide +kernel
theorem dX5_passDay_39 : decode cX5_passDay 39 = .ok (.return_, 1) := by decide +kernel
theorem dX5_feed_0 : decode cX5_feed 0 = .ok (.aload_n 0, 1) := by decide +kernel
theorem dX5_feed_1 : decode cX5_feed 1 = .ok (.iload_n 1, 1) := by decide +kernel
theorem dX5_feed_2 : decode cX5_feed 2 = .ok (.invokevirtual 48, 3) := by decide +kernel
theorem dX5_feed_5 : decode cX5_feed 5 = .ok (.istore_n 2, 1) := by decide +kernel
theorem dX5_feed_6 : decode cX5_feed 6 = .ok (.aload_n 0, 1) := by decide +kernel
theorem dX5_feed_7 : decode cX5_feed 7 = .ok (.getfield 11, 3) := by decide +kernel
theorem dX5_feed_10 : decode cX5_feed 10 = .ok (.bipush 47, 2) := by decide +kernel
theorem dX5_feed_12 : decode cX5_feed 12 = .ok (.iload_n 1, 1) := by decide +kernel
theorem dX5_feed_13 : decode cX5_feed 13 = .ok (.iadd, 1) := by decide +kernel
theorem dX5_feed_14 : decode cX5_feed 14 = .ok (.dup2, 1) := by decide +kernel
theorem dX5_feed_15 : decode cX5_feed 15 = .ok (.iaload, 1) := by decide +kernel
theorem dX5_feed_16 : decode cX5_feed 16 = .ok (.iconst 1, 1) := by decide +kernel
theorem dX5_feed_17 : decode cX5_feed 17 = .ok (.iadd, 1) := by decide +kernel
theorem dX5_feed_18 : decode cX5_feed 18 = .ok (.iastore, 1) := by decide +kernel
theorem dX5_feed_19 : decode cX5_feed 19 = .ok (.aload_n 0, 1) := by decide +kernel
theorem dX5_feed_20 : decode cX5_feed 20 = .ok (.iload_n 2, 1) := by decide +kernel
theorem dX5_feed_21 : decode cX5_feed 21 = .ok (.invokevirtual 93, 3) := by decide +kernel
theorem dX5_feed_24 : decode cX5_feed 24 = .ok (.ifCond .le 16, 3) := by decide +kernel
theorem dX5_feed_27 : decode cX5_feed 27 = .ok (.aload_n 0, 1) := by decide +kernel
theorem dX5_feed_28 : decode cX5_feed 28 = .ok (.getfield 11, 3) := by decide +kernel
theorem dX5_feed_31 : decode cX5_feed 31 = .ok (.iconst 3, 1) := by decide +kernel
theorem dX5_feed_32 : decode cX5_feed 32 = .ok (.iload_n 2, 1) := by decide +kernel
theorem dX5_feed_33 : decode cX5_feed 33 = .ok (.iadd, 1) := by decide +kernel
theorem dX5_feed_34 : decode cX5_feed 34 = .ok (.dup2, 1) := by decide +kernel
theorem dX5_feed_35 : decode cX5_feed 35 = .ok (.iaload, 1) := by decide +kernel
theorem dX5_feed_36 : decode cX5_feed 36 = .ok (.iconst 1, 1) := by decide +kernel
theorem dX5_feed_37 : decode cX5_feed 37 = .ok (.isub, 1) := by decide +kernel
theorem dX5_feed_38 : decode cX5_feed 38 = .ok (.iastore, 1) := by decide +kernel
theorem dX5_feed_39 : decode cX5_feed 39 = .ok (.return_, 1) := by decide +kernel
theorem dX5_feed_40 : decode cX5_feed 40 = .ok (.aload_n 0, 1) := by decide +kernel
theorem dX5_feed_41 : decode cX5_feed 41 = .ok (.iload_n 1, 1) := by decide +kernel
theorem dX5_feed_42 : decode cX5_feed 42 = .ok (.invokevirtual 64, 3) := by decide +kernel
theorem dX5_feed_45 : decode cX5_feed 45 = .ok (.iconst 2, 1) := by decide +kernel
theorem dX5_feed_46 : decode cX5_feed 46 = .ok (.if_icmp .ne 7, 3) := by decide +kernel
theorem dX5_feed_49 : decode cX5_feed 49 = .ok (.iconst 2, 1) := by decide +kernel
theorem dX5_feed_50 : decode cX5_feed 50 = .ok (.goto 4, 3) := by decide +kernel
theorem dX5_feed_53 : decode cX5_feed 53 = .ok (.iconst 1, 1) := by decide +kernel
theorem dX5_feed_54 : decode cX5_feed 54 = .ok (.istore_n 3, 1) := by decide +kernel
theorem dX5_feed_55 : decode cX5_feed 55 = .ok (.aload_n 0, 1) := by decide +kernel
theorem dX5_feed_56 : decode cX5_feed 56 = .ok (.getfield 11, 3) := by decide +kernel
theorem dX5_feed_59 : decode cX5_feed 59 = .ok (.bipush 32, 2) := by decide +kernel
theorem dX5_feed_61 : decode cX5_feed 61 = .ok (.iload_n 1, 1) := by decide +kernel
theorem dX5_feed_62 : decode cX5_feed 62 = .ok (.iadd, 1) := by decide +kernel
theorem dX5_feed_63 : decode cX5_feed 63 = .ok (.iconst 0, 1) := by decide +kernel
theorem dX5_feed_64 : decode cX5_feed 64 = .ok (.aload_n 0, 1) := by decide +kernel
theorem dX5_feed_65 : decode cX5_feed 65 = .ok (.iload_n 1, 1) := by decide +kernel
theorem dX5_feed_66 : decode cX5_feed 66 = .ok (.invokevirtual 34, 3) := by decide +kernel
theorem dX5_feed_69 : decode cX5_feed 69 = .ok (.iload_n 3, 1) := by decide +kernel
theorem dX5_feed_70 : decode cX5_feed 70 = .ok (.isub, 1) := by decide +kernel
theorem dX5_feed_71 : decode cX5_feed 71 = .ok (.invokestatic 86, 3) := by decide +kernel
theorem dX5_feed_74 : decode cX5_feed 74 = .ok (.iastore, 1) := by decide +kernel
theorem dX5_feed_75 : decode cX5_feed 75 = .ok (.aload_n 0, 1) := by decide +kernel
theorem dX5_feed_76 : decode cX5_feed 76 = .ok (.iload_n 1, 1) := by decide +kernel
theorem dX5_feed_77 : decode cX5_feed 77 = .ok (.invokevirtual 51, 3) := by decide +kernel
theorem dX5_feed_80 : decode cX5_feed 80 = .ok (.ifCond .eq 8, 3) := by decide +kernel
theorem dX5_feed_83 : decode cX5_feed 83 = .ok (.aload_n 0, 1) := by decide +kernel
theorem dX5_feed_84 : decode cX5_feed 84 = .ok (.iload_n 1, 1) := by decide +kernel
theorem dX5_feed_85 : decode cX5_feed 85 = .ok (.invokevirtual 96, 3) := by decide +kernel
theorem dX5_feed_88 : decode cX5_feed 88 = .ok (.return_, 1) := by decide +kernel
theorem dX5_payDebt_0 : decode cX5_payDebt 0 = .ok (.aload_n 0, 1) := by decide +kernel
theorem dX5_payDebt_1 : decode cX5_payDebt 1 = .ok (.getfield 11, 3) := by decide +kernel
theorem dX5_payDebt_4 : decode cX5_payDebt 4 = .ok (.bipush 7, 2) := by decide +kernel
theorem dX5_payDebt_6 : decode cX5_payDebt 6 = .ok (.iload_n 1, 1) := by decide +kernel
theorem dX5_payDebt_7 : decode cX5_payDebt 7 = .ok (.iadd, 1) := by decide +kernel
theorem dX5_payDebt_8 : decode cX5_payDebt 8 = .ok (.dup2, 1) := by decide +kernel
theorem dX5_payDebt_9 : decode cX5_payDebt 9 = .ok (.iaload, 1) := by decide +kernel
theorem dX5_payDebt_10 : decode cX5_payDebt 10 = .ok (.iload_n 3, 1) := by decide +kernel
theorem dX5_payDebt_11 : decode cX5_payDebt 11 = .ok (.isub, 1) := by decide +kernel
theorem dX5_payDebt_12 : decode cX5_payDebt 12 = .ok (.iastore, 1) := by decide +kernel
theorem dX5_payDebt_13 : decode cX5_payDebt 13 = .ok (.aload_n 0, 1) := by decide +kernel
theorem dX5_payDebt_14 : decode cX5_payDebt 14 = .ok (.getfield 11, 3) := by decide +kernel
theorem dX5_payDebt_17 : decode cX5_payDebt 17 = .ok (.bipush 7, 2) := by decide +kernel
theorem dX5_payDebt_19 : decode cX5_payDebt 19 = .ok (.iload_n 2, 1) := by decide +kernel
theorem dX5_payDebt_20 : decode cX5_payDebt 20 = .ok (.iadd, 1) := by decide +kernel
theorem dX5_payDebt_21 : decode cX5_payDebt 21 = .ok (.dup2, 1) := by decide +kernel
theorem dX5_payDebt_22 : decode cX5_payDebt 22 = .ok (.iaload, 1) := by decide +kernel
theorem dX5_payDebt_23 : decode cX5_payDebt 23 = .ok (.iload_n 3, 1) := by decide +kernel
theorem dX5_payDebt_24 : decode cX5_payDebt 24 = .ok (.iadd, 1) := by decide +kernel
theorem dX5_payDebt_25 : decode cX5_payDebt 25 = .ok (.iastore, 1) := by decide +kernel
theorem dX5_payDebt_26 : decode cX5_payDebt 26 = .ok (.aload_n 0, 1) := by decide +kernel
theorem dX5_payDebt_27 : decode cX5_payDebt 27 = .ok (.iload_n 1, 1) := by decide +kernel
theorem dX5_payDebt_28 : decode cX5_payDebt 28 = .ok (.iload_n 2, 1) := by decide +kernel
theorem dX5_payDebt_29 : decode cX5_payDebt 29 = .ok (.iload_n 3, 1) := by decide +kernel
theorem dX5_payDebt_30 : decode cX5_payDebt 30 = .ok (.invokevirtual 99, 3) := by decide +kernel
theorem dX5_payDebt_33 : decode cX5_payDebt 33 = .ok (.aload_n 0, 1) := by decide +kernel
theorem dX5_payDebt_34 : decode cX5_payDebt 34 = .ok (.iload_n 1, 1) := by decide +kernel
theorem dX5_payDebt_35 : decode cX5_payDebt 35 = .ok (.iload_n 2, 1) := by decide +kernel
theorem dX5_payDebt_36 : decode cX5_payDebt 36 = .ok (.invokevirtual 58, 3) := by decide +kernel
theorem dX5_payDebt_39 : decode cX5_payDebt 39 = .ok (.ifCond .ne 9, 3) := by decide +kernel
theorem dX5_payDebt_42 : decode cX5_payDebt 42 = .ok (.aload_n 0, 1) := by decide +kernel
theorem dX5_payDebt_43 : decode cX5_payDebt 43 = .ok (.iload_n 1, 1) := by decide +kernel
theorem dX5_payDebt_44 : decode cX5_payDebt 44 = .ok (.iload_n 2, 1) := by decide +kernel
theorem dX5_payDebt_45 : decode cX5_payDebt 45 = .ok (.invokevirtual 102, 3) := by decide +kernel
theorem dX5_payDebt_48 : decode cX5_payDebt 48 = .ok (.return_, 1) := by decide +kernel
theorem dX5_sendHome_0 : decode cX5_sendHome 0 = .ok (.iconst 0, 1) := by decide +kernel
theorem dX5_sendHome_1 : decode cX5_sendHome 1 = .ok (.istore_n 3, 1) := by decide +kernel
theorem dX5_sendHome_2 : decode cX5_sendHome 2 = .ok (.iload_n 3, 1) := by decide +kernel
theorem dX5_sendHome_3 : decode cX5_sendHome 3 = .ok (.aload_n 0, 1) := by decide +kernel
theorem dX5_sendHome_4 : decode cX5_sendHome 4 = .ok (.invokevirtual 31, 3) := by decide +kernel
theorem dX5_sendHome_7 : decode cX5_sendHome 7 = .ok (.if_icmp .ge 32, 3) := by decide +kernel
theorem dX5_sendHome_10 : decode cX5_sendHome 10 = .ok (.aload_n 0, 1) := by decide +kernel
theorem dX5_sendHome_11 : decode cX5_sendHome 11 = .ok (.iload_n 3, 1) := by decide +kernel
theorem dX5_sendHome_12 : decode cX5_sendHome 12 = .ok (.invokevirtual 48, 3) := by decide +kernel
theorem dX5_sendHome_15 : decode cX5_sendHome 15 = .ok (.iload_n 1, 1) := by decide +kernel
theorem dX5_sendHome_16 : decode cX5_sendHome 16 = .ok (.if_icmp .ne 17, 3) := by decide +kernel
theorem dX5_sendHome_19 : decode cX5_sendHome 19 = .ok (.aload_n 0, 1) := by decide +kernel
theorem dX5_sendHome_20 : decode cX5_sendHome 20 = .ok (.iload_n 3, 1) := by decide +kernel
theorem dX5_sendHome_21 : decode cX5_sendHome 21 = .ok (.invokevirtual 38, 3) := by decide +kernel
theorem dX5_sendHome_24 : decode cX5_sendHome 24 = .ok (.iload_n 2, 1) := by decide +kernel
theorem dX5_sendHome_25 : decode cX5_sendHome 25 = .ok (.if_icmp .ne 8, 3) := by decide +kernel
theorem dX5_sendHome_28 : decode cX5_sendHome 28 = .ok (.aload_n 0, 1) := by decide +kernel
theorem dX5_sendHome_29 : decode cX5_sendHome 29 = .ok (.iload_n 3, 1) := by decide +kernel
theorem dX5_sendHome_30 : decode cX5_sendHome 30 = .ok (.invokevirtual 96, 3) := by decide +kernel
theorem dX5_sendHome_33 : decode cX5_sendHome 33 = .ok (.iinc 3 1, 3) := by decide +kernel
theorem dX5_sendHome_36 : decode cX5_sendHome 36 = .ok (.goto (-34), 3) := by decide +kernel
theorem dX5_sendHome_39 : decode cX5_sendHome 39 = .ok (.return_, 1) := by decide +kernel
theorem dX5_runHome_0 : decode cX5_runHome 0 = .ok (.aload_n 0, 1) := by decide +kernel
theorem dX5_runHome_1 : decode cX5_runHome 1 = .ok (.aload_n 0, 1) := by decide +kernel
theorem dX5_runHome_2 : decode cX5_runHome 2 = .ok (.iload_n 1, 1) := by decide +kernel
theorem dX5_runHome_3 : decode cX5_runHome 3 = .ok (.invokevirtual 48, 3) := by decide +kernel
theorem dX5_runHome_6 : decode cX5_runHome 6 = .ok (.aload_n 0, 1) := by decide +kernel
theorem dX5_runHome_7 : decode cX5_runHome 7 = .ok (.iload_n 1, 1) := by decide +kernel
theorem dX5_runHome_8 : decode cX5_runHome 8 = .ok (.invokevirtual 38, 3) := by decide +kernel
theorem dX5_runHome_11 : decode cX5_runHome 11 = .ok (.iconst 3, 1) := by decide +kernel
theorem dX5_runHome_12 : decode cX5_runHome 12 = .ok (.invokevirtual 106, 3) := by decide +kernel
theorem dX5_runHome_15 : decode cX5_runHome 15 = .ok (.aload_n 0, 1) := by decide +kernel
theorem dX5_runHome_16 : decode cX5_runHome 16 = .ok (.iload_n 1, 1) := by decide +kernel
theorem dX5_runHome_17 : decode cX5_runHome 17 = .ok (.invokevirtual 96, 3) := by decide +kernel
theorem dX5_runHome_20 : decode cX5_runHome 20 = .ok (.return_, 1) := by decide +kernel
theorem dX5_handOver_0 : decode cX5_handOver 0 = .ok (.aload_n 0, 1) := by decide +kernel
theorem dX5_handOver_1 : decode cX5_handOver 1 = .ok (.iload_n 1, 1) := by decide +kernel
theorem dX5_handOver_2 : decode cX5_handOver 2 = .ok (.invokevirtual 38, 3) := by decide +kernel
theorem dX5_handOver_5 : decode cX5_handOver 5 = .ok (.istore_n 2, 1) := by decide +kernel
theorem dX5_handOver_6 : decode cX5_handOver 6 = .ok (.aload_n 0, 1) := by decide +kernel
theorem dX5_handOver_7 : decode cX5_handOver 7 = .ok (.aload_n 0, 1) := by decide +kernel
theorem dX5_handOver_8 : decode cX5_handOver 8 = .ok (.iload_n 1, 1) := by decide +kernel
theorem dX5_handOver_9 : decode cX5_handOver 9 = .ok (.invokevirtual 48, 3) := by decide +kernel
theorem dX5_handOver_12 : decode cX5_handOver 12 = .ok (.iload_n 2, 1) := by decide +kernel
theorem dX5_handOver_13 : decode cX5_handOver 13 = .ok (.aload_n 0, 1) := by decide +kernel
theorem dX5_handOver_14 : decode cX5_handOver 14 = .ok (.iload_n 1, 1) := by decide +kernel
