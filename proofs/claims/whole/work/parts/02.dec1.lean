theorem dX5_handOver_15 : decode cX5_handOver 15 = .ok (.invokevirtual 34, 3) := by decide +kernel
theorem dX5_handOver_18 : decode cX5_handOver 18 = .ok (.invokevirtual 99, 3) := by decide +kernel
theorem dX5_handOver_21 : decode cX5_handOver 21 = .ok (.aload_n 0, 1) := by decide +kernel
theorem dX5_handOver_22 : decode cX5_handOver 22 = .ok (.getfield 11, 3) := by decide +kernel
theorem dX5_handOver_25 : decode cX5_handOver 25 = .ok (.bipush 27, 2) := by decide +kernel
theorem dX5_handOver_27 : decode cX5_handOver 27 = .ok (.iload_n 1, 1) := by decide +kernel
theorem dX5_handOver_28 : decode cX5_handOver 28 = .ok (.iadd, 1) := by decide +kernel
theorem dX5_handOver_29 : decode cX5_handOver 29 = .ok (.iload_n 2, 1) := by decide +kernel
theorem dX5_handOver_30 : decode cX5_handOver 30 = .ok (.iastore, 1) := by decide +kernel
theorem dX5_handOver_31 : decode cX5_handOver 31 = .ok (.aload_n 0, 1) := by decide +kernel
theorem dX5_handOver_32 : decode cX5_handOver 32 = .ok (.iload_n 1, 1) := by decide +kernel
theorem dX5_handOver_33 : decode cX5_handOver 33 = .ok (.invokevirtual 96, 3) := by decide +kernel
theorem dX5_handOver_36 : decode cX5_handOver 36 = .ok (.return_, 1) := by decide +kernel
theorem dX6_init_0 : decode cX6_init 0 = .ok (.aload_n 0, 1) := by decide +kernel
theorem dX6_init_1 : decode cX6_init 1 = .ok (.invokespecial 1, 3) := by decide +kernel
theorem dX6_init_4 : decode cX6_init 4 = .ok (.aload_n 0, 1) := by decide +kernel
theorem dX6_init_5 : decode cX6_init 5 = .ok (.new 7, 3) := by decide +kernel
theorem dX6_init_8 : decode cX6_init 8 = .ok (.dup, 1) := by decide +kernel
theorem dX6_init_9 : decode cX6_init 9 = .ok (.invokespecial 9, 3) := by decide +kernel
theorem dX6_init_12 : decode cX6_init 12 = .ok (.putfield 10, 3) := by decide +kernel
theorem dX6_init_15 : decode cX6_init 15 = .ok (.aload_n 0, 1) := by decide +kernel
theorem dX6_init_16 : decode cX6_init 16 = .ok (.new 16, 3) := by decide +kernel
theorem dX6_init_19 : decode cX6_init 19 = .ok (.dup, 1) := by decide +kernel
theorem dX6_init_20 : decode cX6_init 20 = .ok (.invokespecial 18, 3) := by decide +kernel
theorem dX6_init_23 : decode cX6_init 23 = .ok (.putfield 19, 3) := by decide +kernel
theorem dX6_init_26 : decode cX6_init 26 = .ok (.aload_n 0, 1) := by decide +kernel
theorem dX6_init_27 : decode cX6_init 27 = .ok (.new 16, 3) := by decide +kernel
theorem dX6_init_30 : decode cX6_init 30 = .ok (.dup, 1) := by decide +kernel
theorem dX6_init_31 : decode cX6_init 31 = .ok (.invokespecial 18, 3) := by decide +kernel
theorem dX6_init_34 : decode cX6_init 34 = .ok (.putfield 23, 3) := by decide +kernel
theorem dX6_init_37 : decode cX6_init 37 = .ok (.aload_n 0, 1) := by decide +kernel
theorem dX6_init_38 : decode cX6_init 38 = .ok (.new 26, 3) := by decide +kernel
theorem dX6_init_41 : decode cX6_init 41 = .ok (.dup, 1) := by decide +kernel
theorem dX6_init_42 : decode cX6_init 42 = .ok (.invokespecial 28, 3) := by decide +kernel
theorem dX6_init_45 : decode cX6_init 45 = .ok (.putfield 29, 3) := by decide +kernel
theorem dX6_init_48 : decode cX6_init 48 = .ok (.aload_n 0, 1) := by decide +kernel
theorem dX6_init_49 : decode cX6_init 49 = .ok (.new 33, 3) := by decide +kernel
theorem dX6_init_52 : decode cX6_init 52 = .ok (.dup, 1) := by decide +kernel
theorem dX6_init_53 : decode cX6_init 53 = .ok (.invokespecial 35, 3) := by decide +kernel
theorem dX6_init_56 : decode cX6_init 56 = .ok (.putfield 36, 3) := by decide +kernel
theorem dX6_init_59 : decode cX6_init 59 = .ok (.aload_n 0, 1) := by decide +kernel
theorem dX6_init_60 : decode cX6_init 60 = .ok (.new 40, 3) := by decide +kernel
theorem dX6_init_63 : decode cX6_init 63 = .ok (.dup, 1) := by decide +kernel
theorem dX6_init_64 : decode cX6_init 64 = .ok (.invokespecial 42, 3) := by decide +kernel
theorem dX6_init_67 : decode cX6_init 67 = .ok (.putfield 43, 3) := by decide +kernel
theorem dX6_init_70 : decode cX6_init 70 = .ok (.aload_n 0, 1) := by decide +kernel
theorem dX6_init_71 : decode cX6_init 71 = .ok (.new 47, 3) := by decide +kernel
theorem dX6_init_74 : decode cX6_init 74 = .ok (.dup, 1) := by decide +kernel
theorem dX6_init_75 : decode cX6_init 75 = .ok (.invokespecial 49, 3) := by decide +kernel
theorem dX6_init_78 : decode cX6_init 78 = .ok (.putfield 50, 3) := by decide +kernel
theorem dX6_init_81 : decode cX6_init 81 = .ok (.aload_n 0, 1) := by decide +kernel
theorem dX6_init_82 : decode cX6_init 82 = .ok (.bipush 104, 2) := by decide +kernel
theorem dX6_init_84 : decode cX6_init 84 = .ok (.newarray .int, 2) := by decide +kernel
theorem dX6_init_86 : decode cX6_init 86 = .ok (.putfield 54, 3) := by decide +kernel
theorem dX6_init_89 : decode cX6_init 89 = .ok (.aload_n 0, 1) := by decide +kernel
theorem dX6_init_90 : decode cX6_init 90 = .ok (.iconst 4, 1) := by decide +kernel
theorem dX6_init_91 : decode cX6_init 91 = .ok (.newarray .int, 2) := by decide +kernel
theorem dX6_init_93 : decode cX6_init 93 = .ok (.putfield 58, 3) := by decide +kernel
theorem dX6_init_96 : decode cX6_init 96 = .ok (.return_, 1) := by decide +kernel
theorem dX6_write_0 : decode cX6_write 0 = .ok (.iload_n 1, 1) := by decide +kernel
theorem dX6_write_1 : decode cX6_write 1 = .ok (.ifCond .lt 10, 3) := by decide +kernel
theorem dX6_write_4 : decode cX6_write 4 = .ok (.iload_n 1, 1) := by decide +kernel
theorem dX6_write_5 : decode cX6_write 5 = .ok (.sipush 255, 3) := by decide +kernel
theorem dX6_write_8 : decode cX6_write 8 = .ok (.if_icmp .le 6, 3) := by decide +kernel
theorem dX6_write_11 : decode cX6_write 11 = .ok (.bipush (-2), 2) := by decide +kernel
theorem dX6_write_13 : decode cX6_write 13 = .ok (.ireturn, 1) := by decide +kernel
theorem dX6_write_14 : decode cX6_write 14 = .ok (.aload_n 0, 1) := by decide +kernel
theorem dX6_write_15 : decode cX6_write 15 = .ok (.getfield 10, 3) := by decide +kernel
theorem dX6_write_18 : decode cX6_write 18 = .ok (.iload_n 1, 1) := by decide +kernel
theorem dX6_write_19 : decode cX6_write 19 = .ok (.invokevirtual 61, 3) := by decide +kernel
theorem dX6_write_22 : decode cX6_write 22 = .ok (.ifCond .eq 13, 3) := by decide +kernel
theorem dX6_write_25 : decode cX6_write 25 = .ok (.aload_n 0, 1) := by decide +kernel
theorem dX6_write_26 : decode cX6_write 26 = .ok (.getfield 10, 3) := by decide +kernel
theorem dX6_write_29 : decode cX6_write 29 = .ok (.invokevirtual 65, 3) := by decide +kernel
theorem dX6_write_32 : decode cX6_write 32 = .ok (.goto 5, 3) := by decide +kernel
theorem dX6_write_35 : decode cX6_write 35 = .ok (.bipush (-4), 2) := by decide +kernel
theorem dX6_write_37 : decode cX6_write 37 = .ok (.ireturn, 1) := by decide +kernel
theorem dX6_wipe_0 : decode cX6_wipe 0 = .ok (.aload_n 0, 1) := by decide +kernel
theorem dX6_wipe_1 : decode cX6_wipe 1 = .ok (.getfield 10, 3) := by decide +kernel
theorem dX6_wipe_4 : decode cX6_wipe 4 = .ok (.invokevirtual 65, 3) := by decide +kernel
theorem dX6_wipe_7 : decode cX6_wipe 7 = .ok (.istore_n 1, 1) := by decide +kernel
theorem dX6_wipe_8 : decode cX6_wipe 8 = .ok (.aload_n 0, 1) := by decide +kernel
theorem dX6_wipe_9 : decode cX6_wipe 9 = .ok (.getfield 10, 3) := by decide +kernel
theorem dX6_wipe_12 : decode cX6_wipe 12 = .ok (.invokevirtual 69, 3) := by decide +kernel
theorem dX6_wipe_15 : decode cX6_wipe 15 = .ok (.iload_n 1, 1) := by decide +kernel
theorem dX6_wipe_16 : decode cX6_wipe 16 = .ok (.ireturn, 1) := by decide +kernel
theorem dX6_fault_0 : decode cX6_fault 0 = .ok (.aload_n 0, 1) := by decide +kernel
theorem dX6_fault_1 : decode cX6_fault 1 = .ok (.getfield 10, 3) := by decide +kernel
theorem dX6_fault_4 : decode cX6_fault 4 = .ok (.aload_n 0, 1) := by decide +kernel
theorem dX6_fault_5 : decode cX6_fault 5 = .ok (.getfield 23, 3) := by decide +kernel
theorem dX6_fault_8 : decode cX6_fault 8 = .ok (.invokevirtual 72, 3) := by decide +kernel
theorem dX6_fault_11 : decode cX6_fault 11 = .ok (.ireturn, 1) := by decide +kernel
theorem dX6_village_0 : decode cX6_village 0 = .ok (.aload_n 0, 1) := by decide +kernel
theorem dX6_village_1 : decode cX6_village 1 = .ok (.getfield 10, 3) := by decide +kernel
theorem dX6_village_4 : decode cX6_village 4 = .ok (.aload_n 0, 1) := by decide +kernel
theorem dX6_village_5 : decode cX6_village 5 = .ok (.getfield 23, 3) := by decide +kernel
theorem dX6_village_8 : decode cX6_village 8 = .ok (.invokevirtual 72, 3) := by decide +kernel
theorem dX6_village_11 : decode cX6_village 11 = .ok (.bipush (-9), 2) := by decide +kernel
theorem dX6_village_13 : decode cX6_village 13 = .ok (.if_icmp .eq 6, 3) := by decide +kernel
theorem dX6_village_16 : decode cX6_village 16 = .ok (.bipush (-3), 2) := by decide +kernel
theorem dX6_village_18 : decode cX6_village 18 = .ok (.ireturn, 1) := by decide +kernel
theorem dX6_village_19 : decode cX6_village 19 = .ok (.aload_n 0, 1) := by decide +kernel
theorem dX6_village_20 : decode cX6_village 20 = .ok (.getfield 19, 3) := by decide +kernel
theorem dX6_village_23 : decode cX6_village 23 = .ok (.aload_n 0, 1) := by decide +kernel
theorem dX6_village_24 : decode cX6_village 24 = .ok (.getfield 23, 3) := by decide +kernel
theorem dX6_village_27 : decode cX6_village 27 = .ok (.invokevirtual 76, 3) := by decide +kernel
theorem dX6_village_30 : decode cX6_village 30 = .ok (.aload_n 0, 1) := by decide +kernel
theorem dX6_village_31 : decode cX6_village 31 = .ok (.getfield 29, 3) := by decide +kernel
theorem dX6_village_34 : decode cX6_village 34 = .ok (.invokevirtual 80, 3) := by decide +kernel
theorem dX6_village_37 : decode cX6_village 37 = .ok (.aload_n 0, 1) := by decide +kernel
theorem dX6_village_38 : decode cX6_village 38 = .ok (.iconst 0, 1) := by decide +kernel
theorem dX6_village_39 : decode cX6_village 39 = .ok (.putfield 81, 3) := by decide +kernel
theorem dX6_village_42 : decode cX6_village 42 = .ok (.bipush 10, 2) := by decide +kernel
theorem dX6_village_44 : decode cX6_village 44 = .ok (.aload_n 0, 1) := by decide +kernel
theorem dX6_village_45 : decode cX6_village 45 = .ok (.getfield 19, 3) := by decide +kernel
theorem dX6_village_48 : decode cX6_village 48 = .ok (.invokevirtual 85, 3) := by decide +kernel
theorem dX6_village_51 : decode cX6_village 51 = .ok (.imul, 1) := by decide +kernel
theorem dX6_village_52 : decode cX6_village 52 = .ok (.aload_n 0, 1) := by decide +kernel
theorem dX6_village_53 : decode cX6_village 53 = .ok (.getfield 19, 3) := by decide +kernel
theorem dX6_village_56 : decode cX6_village 56 = .ok (.invokevirtual 88, 3) := by decide +kernel
theorem dX6_village_59 : decode cX6_village 59 = .ok (.iadd, 1) := by decide +kernel
theorem dX6_village_60 : decode cX6_village 60 = .ok (.ireturn, 1) := by decide +kernel
theorem dX6_person_0 : decode cX6_person 0 = .ok (.aload_n 0, 1) := by decide +kernel
theorem dX6_person_1 : decode cX6_person 1 = .ok (.getfield 19, 3) := by decide +kernel
theorem dX6_person_4 : decode cX6_person 4 = .ok (.iload_n 1, 1) := by decide +kernel
theorem dX6_person_5 : decode cX6_person 5 = .ok (.invokevirtual 91, 3) := by decide +kernel
theorem dX6_person_8 : decode cX6_person 8 = .ok (.ifCond .ne 5, 3) := by decide +kernel
theorem dX6_person_11 : decode cX6_person 11 = .ok (.iconst (-1), 1) := by decide +kernel
theorem dX6_person_12 : decode cX6_person 12 = .ok (.ireturn, 1) := by decide +kernel
theorem dX6_person_13 : decode cX6_person 13 = .ok (.iload_n 2, 1) := by decide +kernel
theorem dX6_person_14 : decode cX6_person 14 = .ok (.tableswitch 79 0 4 #[34, 43, 52, 61, 70], 34) := by decide +kernel
theorem dX6_person_48 : decode cX6_person 48 = .ok (.aload_n 0, 1) := by decide +kernel
theorem dX6_person_49 : decode cX6_person 49 = .ok (.getfield 19, 3) := by decide +kernel
theorem dX6_person_52 : decode cX6_person 52 = .ok (.iload_n 1, 1) := by decide +kernel
theorem dX6_person_53 : decode cX6_person 53 = .ok (.invokevirtual 94, 3) := by decide +kernel
theorem dX6_person_56 : decode cX6_person 56 = .ok (.ireturn, 1) := by decide +kernel
theorem dX6_person_57 : decode cX6_person 57 = .ok (.aload_n 0, 1) := by decide +kernel
theorem dX6_person_58 : decode cX6_person 58 = .ok (.getfield 19, 3) := by decide +kernel
theorem dX6_person_61 : decode cX6_person 61 = .ok (.iload_n 1, 1) := by decide +kernel
theorem dX6_person_62 : decode cX6_person 62 = .ok (.invokevirtual 98, 3) := by decide +kernel
theorem dX6_person_65 : decode cX6_person 65 = .ok (.ireturn, 1) := by decide +kernel
theorem dX6_person_66 : decode cX6_person 66 = .ok (.aload_n 0, 1) := by decide +kernel
theorem dX6_person_67 : decode cX6_person 67 = .ok (.getfield 19, 3) := by decide +kernel
theorem dX6_person_70 : decode cX6_person 70 = .ok (.iload_n 1, 1) := by decide +kernel
theorem dX6_person_71 : decode cX6_person 71 = .ok (.invokevirtual 101, 3) := by decide +kernel
theorem dX6_person_74 : decode cX6_person 74 = .ok (.ireturn, 1) := by decide +kernel
theorem dX6_person_75 : decode cX6_person 75 = .ok (.aload_n 0, 1) := by decide +kernel
theorem dX6_person_76 : decode cX6_person 76 = .ok (.getfield 19, 3) := by decide +kernel
theorem dX6_person_79 : decode cX6_person 79 = .ok (.iload_n 1, 1) := by decide +kernel
theorem dX6_person_80 : decode cX6_person 80 = .ok (.invokevirtual 104, 3) := by decide +kernel
theorem dX6_person_83 : decode cX6_person 83 = .ok (.ireturn, 1) := by decide +kernel
theorem dX6_person_84 : decode cX6_person 84 = .ok (.aload_n 0, 1) := by decide +kernel
theorem dX6_person_85 : decode cX6_person 85 = .ok (.getfield 19, 3) := by decide +kernel
theorem dX6_person_88 : decode cX6_person 88 = .ok (.iload_n 1, 1) := by decide +kernel
theorem dX6_person_89 : decode cX6_person 89 = .ok (.invokevirtual 107, 3) := by decide +kernel
theorem dX6_person_92 : decode cX6_person 92 = .ok (.ireturn, 1) := by decide +kernel
theorem dX6_person_93 : decode cX6_person 93 = .ok (.bipush (-2), 2) := by decide +kernel
theorem dX6_person_95 : decode cX6_person 95 = .ok (.ireturn, 1) := by decide +kernel
theorem dX6_beast_0 : decode cX6_beast 0 = .ok (.aload_n 0, 1) := by decide +kernel
theorem dX6_beast_1 : decode cX6_beast 1 = .ok (.getfield 19, 3) := by decide +kernel
theorem dX6_beast_4 : decode cX6_beast 4 = .ok (.iload_n 1, 1) := by decide +kernel
theorem dX6_beast_5 : decode cX6_beast 5 = .ok (.invokevirtual 110, 3) := by decide +kernel
theorem dX6_beast_8 : decode cX6_beast 8 = .ok (.ifCond .ne 5, 3) := by decide +kernel
theorem dX6_beast_11 : decode cX6_beast 11 = .ok (.iconst (-1), 1) := by decide +kernel
theorem dX6_beast_12 : decode cX6_beast 12 = .ok (.ireturn, 1) := by decide +kernel
theorem dX6_beast_13 : decode cX6_beast 13 = .ok (.iload_n 2, 1) := by decide +kernel
theorem dX6_beast_14 : decode cX6_beast 14 = .ok (.tableswitch 100 0 5 #[38, 47, 56, 65, 74, 83], 38) := by decide +kernel
theorem dX6_beast_52 : decode cX6_beast 52 = .ok (.aload_n 0, 1) := by decide +kernel
theorem dX6_beast_53 : decode cX6_beast 53 = .ok (.getfield 19, 3) := by decide +kernel
theorem dX6_beast_56 : decode cX6_beast 56 = .ok (.iload_n 1, 1) := by decide +kernel
theorem dX6_beast_57 : decode cX6_beast 57 = .ok (.invokevirtual 113, 3) := by decide +kernel
theorem dX6_beast_60 : decode cX6_beast 60 = .ok (.ireturn, 1) := by decide +kernel
theorem dX6_beast_61 : decode cX6_beast 61 = .ok (.aload_n 0, 1) := by decide +kernel
theorem dX6_beast_62 : decode cX6_beast 62 = .ok (.getfield 19, 3) := by decide +kernel
theorem dX6_beast_65 : decode cX6_beast 65 = .ok (.iload_n 1, 1) := by decide +kernel
theorem dX6_beast_66 : decode cX6_beast 66 = .ok (.invokevirtual 116, 3) := by decide +kernel
theorem dX6_beast_69 : decode cX6_beast 69 = .ok (.ireturn, 1) := by decide +kernel
theorem dX6_beast_70 : decode cX6_beast 70 = .ok (.aload_n 0, 1) := by decide +kernel
theorem dX6_beast_71 : decode cX6_beast 71 = .ok (.getfield 19, 3) := by decide +kernel
theorem dX6_beast_74 : decode cX6_beast 74 = .ok (.iload_n 1, 1) := by decide +kernel
theorem dX6_beast_75 : decode cX6_beast 75 = .ok (.invokevirtual 119, 3) := by decide +kernel
theorem dX6_beast_78 : decode cX6_beast 78 = .ok (.ireturn, 1) := by decide +kernel
theorem dX6_beast_79 : decode cX6_beast 79 = .ok (.aload_n 0, 1) := by decide +kernel
theorem dX6_beast_80 : decode cX6_beast 80 = .ok (.getfield 19, 3) := by decide +kernel
theorem dX6_beast_83 : decode cX6_beast 83 = .ok (.iload_n 1, 1) := by decide +kernel
theorem dX6_beast_84 : decode cX6_beast 84 = .ok (.invokevirtual 122, 3) := by decide +kernel
theorem dX6_beast_87 : decode cX6_beast 87 = .ok (.ireturn, 1) := by decide +kernel
theorem dX6_beast_88 : decode cX6_beast 88 = .ok (.aload_n 0, 1) := by decide +kernel
theorem dX6_beast_89 : decode cX6_beast 89 = .ok (.getfield 19, 3) := by decide +kernel
theorem dX6_beast_92 : decode cX6_beast 92 = .ok (.iload_n 1, 1) := by decide +kernel
theorem dX6_beast_93 : decode cX6_beast 93 = .ok (.invokevirtual 125, 3) := by decide +kernel
theorem dX6_beast_96 : decode cX6_beast 96 = .ok (.ireturn, 1) := by decide +kernel
theorem dX6_beast_97 : decode cX6_beast 97 = .ok (.aload_n 0, 1) := by decide +kernel
theorem dX6_beast_98 : decode cX6_beast 98 = .ok (.getfield 19, 3) := by decide +kernel
theorem dX6_beast_101 : decode cX6_beast 101 = .ok (.iload_n 1, 1) := by decide +kernel
theorem dX6_beast_102 : decode cX6_beast 102 = .ok (.invokevirtual 128, 3) := by decide +kernel
theorem dX6_beast_105 : decode cX6_beast 105 = .ok (.ifCond .eq 7, 3) := by decide +kernel
theorem dX6_beast_108 : decode cX6_beast 108 = .ok (.iconst 1, 1) := by decide +kernel
theorem dX6_beast_109 : decode cX6_beast 109 = .ok (.goto 4, 3) := by decide +kernel
theorem dX6_beast_112 : decode cX6_beast 112 = .ok (.iconst 0, 1) := by decide +kernel
theorem dX6_beast_113 : decode cX6_beast 113 = .ok (.ireturn, 1) := by decide +kernel
theorem dX6_beast_114 : decode cX6_beast 114 = .ok (.bipush (-2), 2) := by decide +kernel
theorem dX6_beast_116 : decode cX6_beast 116 = .ok (.ireturn, 1) := by decide +kernel
theorem dX6_owes_0 : decode cX6_owes 0 = .ok (.aload_n 0, 1) := by decide +kernel
theorem dX6_owes_1 : decode cX6_owes 1 = .ok (.getfield 19, 3) := by decide +kernel
theorem dX6_owes_4 : decode cX6_owes 4 = .ok (.iload_n 1, 1) := by decide +kernel
theorem dX6_owes_5 : decode cX6_owes 5 = .ok (.invokevirtual 91, 3) := by decide +kernel
theorem dX6_owes_8 : decode cX6_owes 8 = .ok (.ifCond .eq 14, 3) := by decide +kernel
theorem dX6_owes_11 : decode cX6_owes 11 = .ok (.aload_n 0, 1) := by decide +kernel
theorem dX6_owes_12 : decode cX6_owes 12 = .ok (.getfield 19, 3) := by decide +kernel
theorem dX6_owes_15 : decode cX6_owes 15 = .ok (.iload_n 2, 1) := by decide +kernel
theorem dX6_owes_16 : decode cX6_owes 16 = .ok (.invokevirtual 91, 3) := by decide +kernel
theorem dX6_owes_19 : decode cX6_owes 19 = .ok (.ifCond .ne 5, 3) := by decide +kernel
theorem dX6_owes_22 : decode cX6_owes 22 = .ok (.iconst (-1), 1) := by decide +kernel
theorem dX6_owes_23 : decode cX6_owes 23 = .ok (.ireturn, 1) := by decide +kernel
theorem dX6_owes_24 : decode cX6_owes 24 = .ok (.aload_n 0, 1) := by decide +kernel
theorem dX6_owes_25 : decode cX6_owes 25 = .ok (.getfield 19, 3) := by decide +kernel
theorem dX6_owes_28 : decode cX6_owes 28 = .ok (.iload_n 1, 1) := by decide +kernel
theorem dX6_owes_29 : decode cX6_owes 29 = .ok (.iload_n 2, 1) := by decide +kernel
theorem dX6_owes_30 : decode cX6_owes 30 = .ok (.invokevirtual 131, 3) := by decide +kernel
theorem dX6_owes_33 : decode cX6_owes 33 = .ok (.ireturn, 1) := by decide +kernel
theorem dX6_drive_0 : decode cX6_drive 0 = .ok (.aload_n 0, 1) := by decide +kernel
theorem dX6_drive_1 : decode cX6_drive 1 = .ok (.getfield 19, 3) := by decide +kernel
theorem dX6_drive_4 : decode cX6_drive 4 = .ok (.iload_n 1, 1) := by decide +kernel
theorem dX6_drive_5 : decode cX6_drive 5 = .ok (.invokevirtual 91, 3) := by decide +kernel
theorem dX6_drive_8 : decode cX6_drive 8 = .ok (.ifCond .eq 14, 3) := by decide +kernel
theorem dX6_drive_11 : decode cX6_drive 11 = .ok (.aload_n 0, 1) := by decide +kernel
theorem dX6_drive_12 : decode cX6_drive 12 = .ok (.getfield 19, 3) := by decide +kernel
theorem dX6_drive_15 : decode cX6_drive 15 = .ok (.iload_n 2, 1) := by decide +kernel
theorem dX6_drive_16 : decode cX6_drive 16 = .ok (.invokevirtual 110, 3) := by decide +kernel
theorem dX6_drive_19 : decode cX6_drive 19 = .ok (.ifCond .ne 5, 3) := by decide +kernel
theorem dX6_drive_22 : decode cX6_drive 22 = .ok (.iconst (-1), 1) := by decide +kernel
theorem dX6_drive_23 : decode cX6_drive 23 = .ok (.ireturn, 1) := by decide +kernel
theorem dX6_drive_24 : decode cX6_drive 24 = .ok (.aload_n 0, 1) := by decide +kernel
theorem dX6_drive_25 : decode cX6_drive 25 = .ok (.getfield 19, 3) := by decide +kernel
theorem dX6_drive_28 : decode cX6_drive 28 = .ok (.iload_n 1, 1) := by decide +kernel
theorem dX6_drive_29 : decode cX6_drive 29 = .ok (.iload_n 2, 1) := by decide +kernel
theorem dX6_drive_30 : decode cX6_drive 30 = .ok (.invokevirtual 135, 3) := by decide +kernel
theorem dX6_drive_33 : decode cX6_drive 33 = .ok (.istore_n 3, 1) := by decide +kernel
theorem dX6_drive_34 : decode cX6_drive 34 = .ok (.iload_n 3, 1) := by decide +kernel
theorem dX6_drive_35 : decode cX6_drive 35 = .ok (.ifCond .eq 12, 3) := by decide +kernel
theorem dX6_drive_38 : decode cX6_drive 38 = .ok (.iload_n 3, 1) := by decide +kernel
theorem dX6_drive_39 : decode cX6_drive 39 = .ok (.bipush 6, 2) := by decide +kernel
theorem dX6_drive_41 : decode cX6_drive 41 = .ok (.if_icmp .eq 6, 3) := by decide +kernel
theorem dX6_drive_44 : decode cX6_drive 44 = .ok (.bipush (-3), 2) := by decide +kernel
theorem dX6_drive_46 : decode cX6_drive 46 = .ok (.ireturn, 1) := by decide +kernel
theorem dX6_drive_47 : decode cX6_drive 47 = .ok (.aload_n 0, 1) := by decide +kernel
theorem dX6_drive_48 : decode cX6_drive 48 = .ok (.getfield 29, 3) := by decide +kernel
theorem dX6_drive_51 : decode cX6_drive 51 = .ok (.aload_n 0, 1) := by decide +kernel
theorem dX6_drive_52 : decode cX6_drive 52 = .ok (.getfield 19, 3) := by decide +kernel
theorem dX6_drive_55 : decode cX6_drive 55 = .ok (.invokevirtual 138, 3) := by decide +kernel
theorem dX6_drive_58 : decode cX6_drive 58 = .ok (.iload_n 3, 1) := by decide +kernel
theorem dX6_drive_59 : decode cX6_drive 59 = .ok (.ifCond .ne 15, 3) := by decide +kernel
theorem dX6_drive_62 : decode cX6_drive 62 = .ok (.aload_n 0, 1) := by decide +kernel
theorem dX6_drive_63 : decode cX6_drive 63 = .ok (.getfield 19, 3) := by decide +kernel
theorem dX6_drive_66 : decode cX6_drive 66 = .ok (.iload_n 1, 1) := by decide +kernel
theorem dX6_drive_67 : decode cX6_drive 67 = .ok (.iload_n 2, 1) := by decide +kernel
theorem dX6_drive_68 : decode cX6_drive 68 = .ok (.invokevirtual 141, 3) := by decide +kernel
theorem dX6_drive_71 : decode cX6_drive 71 = .ok (.goto 27, 3) := by decide +kernel
theorem dX6_drive_74 : decode cX6_drive 74 = .ok (.aload_n 0, 1) := by decide +kernel
theorem dX6_drive_75 : decode cX6_drive 75 = .ok (.getfield 19, 3) := by decide +kernel
theorem dX6_drive_78 : decode cX6_drive 78 = .ok (.iload_n 1, 1) := by decide +kernel
theorem dX6_drive_79 : decode cX6_drive 79 = .ok (.aload_n 0, 1) := by decide +kernel
theorem dX6_drive_80 : decode cX6_drive 80 = .ok (.getfield 19, 3) := by decide +kernel
theorem dX6_drive_83 : decode cX6_drive 83 = .ok (.iload_n 2, 1) := by decide +kernel
theorem dX6_drive_84 : decode cX6_drive 84 = .ok (.invokevirtual 113, 3) := by decide +kernel
theorem dX6_drive_87 : decode cX6_drive 87 = .ok (.aload_n 0, 1) := by decide +kernel
theorem dX6_drive_88 : decode cX6_drive 88 = .ok (.getfield 19, 3) := by decide +kernel
theorem dX6_drive_91 : decode cX6_drive 91 = .ok (.iload_n 2, 1) := by decide +kernel
theorem dX6_drive_92 : decode cX6_drive 92 = .ok (.invokevirtual 116, 3) := by decide +kernel
theorem dX6_drive_95 : decode cX6_drive 95 = .ok (.invokevirtual 145, 3) := by decide +kernel
theorem dX6_drive_98 : decode cX6_drive 98 = .ok (.iload_n 3, 1) := by decide +kernel
theorem dX6_drive_99 : decode cX6_drive 99 = .ok (.ireturn, 1) := by decide +kernel
theorem dX6_day_0 : decode cX6_day 0 = .ok (.aload_n 0, 1) := by decide +kernel
theorem dX6_day_1 : decode cX6_day 1 = .ok (.getfield 29, 3) := by decide +kernel
theorem dX6_day_4 : decode cX6_day 4 = .ok (.aload_n 0, 1) := by decide +kernel
theorem dX6_day_5 : decode cX6_day 5 = .ok (.getfield 19, 3) := by decide +kernel
theorem dX6_day_8 : decode cX6_day 8 = .ok (.invokevirtual 138, 3) := by decide +kernel
theorem dX6_day_11 : decode cX6_day 11 = .ok (.aload_n 0, 1) := by decide +kernel
theorem dX6_day_12 : decode cX6_day 12 = .ok (.getfield 19, 3) := by decide +kernel
theorem dX6_day_15 : decode cX6_day 15 = .ok (.invokevirtual 149, 3) := by decide +kernel
theorem dX6_day_18 : decode cX6_day 18 = .ok (.aload_n 0, 1) := by decide +kernel
theorem dX6_day_19 : decode cX6_day 19 = .ok (.getfield 19, 3) := by decide +kernel
theorem dX6_day_22 : decode cX6_day 22 = .ok (.invokevirtual 152, 3) := by decide +kernel
theorem dX6_day_25 : decode cX6_day 25 = .ok (.invokestatic 155, 3) := by decide +kernel
theorem dX6_day_28 : decode cX6_day 28 = .ok (.ireturn, 1) := by decide +kernel
theorem dX6_pay_0 : decode cX6_pay 0 = .ok (.aload_n 0, 1) := by decide +kernel
theorem dX6_pay_1 : decode cX6_pay 1 = .ok (.getfield 19, 3) := by decide +kernel
theorem dX6_pay_4 : decode cX6_pay 4 = .ok (.iload_n 1, 1) := by decide +kernel
theorem dX6_pay_5 : decode cX6_pay 5 = .ok (.invokevirtual 91, 3) := by decide +kernel
theorem dX6_pay_8 : decode cX6_pay 8 = .ok (.ifCond .eq 14, 3) := by decide +kernel
theorem dX6_pay_11 : decode cX6_pay 11 = .ok (.aload_n 0, 1) := by decide +kernel
theorem dX6_pay_12 : decode cX6_pay 12 = .ok (.getfield 19, 3) := by decide +kernel
theorem dX6_pay_15 : decode cX6_pay 15 = .ok (.iload_n 2, 1) := by decide +kernel
theorem dX6_pay_16 : decode cX6_pay 16 = .ok (.invokevirtual 91, 3) := by decide +kernel
theorem dX6_pay_19 : decode cX6_pay 19 = .ok (.ifCond .ne 5, 3) := by decide +kernel
theorem dX6_pay_22 : decode cX6_pay 22 = .ok (.iconst (-1), 1) := by decide +kernel
theorem dX6_pay_23 : decode cX6_pay 23 = .ok (.ireturn, 1) := by decide +kernel
theorem dX6_pay_24 : decode cX6_pay 24 = .ok (.iload_n 1, 1) := by decide +kernel
theorem dX6_pay_25 : decode cX6_pay 25 = .ok (.iload_n 2, 1) := by decide +kernel
theorem dX6_pay_26 : decode cX6_pay 26 = .ok (.if_icmp .eq 14, 3) := by decide +kernel
theorem dX6_pay_29 : decode cX6_pay 29 = .ok (.iload_n 3, 1) := by decide +kernel
theorem dX6_pay_30 : decode cX6_pay 30 = .ok (.iconst 1, 1) := by decide +kernel
theorem dX6_pay_31 : decode cX6_pay 31 = .ok (.if_icmp .lt 9, 3) := by decide +kernel
theorem dX6_pay_34 : decode cX6_pay 34 = .ok (.iload_n 3, 1) := by decide +kernel
theorem dX6_pay_35 : decode cX6_pay 35 = .ok (.bipush 9, 2) := by decide +kernel
theorem dX6_pay_37 : decode cX6_pay 37 = .ok (.if_icmp .le 6, 3) := by decide +kernel
theorem dX6_pay_40 : decode cX6_pay 40 = .ok (.bipush (-2), 2) := by decide +kernel
theorem dX6_pay_42 : decode cX6_pay 42 = .ok (.ireturn, 1) := by decide +kernel
theorem dX6_pay_43 : decode cX6_pay 43 = .ok (.aload_n 0, 1) := by decide +kernel
theorem dX6_pay_44 : decode cX6_pay 44 = .ok (.getfield 19, 3) := by decide +kernel
theorem dX6_pay_47 : decode cX6_pay 47 = .ok (.iload_n 1, 1) := by decide +kernel
theorem dX6_pay_48 : decode cX6_pay 48 = .ok (.iload_n 2, 1) := by decide +kernel
theorem dX6_pay_49 : decode cX6_pay 49 = .ok (.invokevirtual 131, 3) := by decide +kernel
theorem dX6_pay_52 : decode cX6_pay 52 = .ok (.iload_n 3, 1) := by decide +kernel
theorem dX6_pay_53 : decode cX6_pay 53 = .ok (.if_icmp .lt 15, 3) := by decide +kernel
theorem dX6_pay_56 : decode cX6_pay 56 = .ok (.aload_n 0, 1) := by decide +kernel
theorem dX6_pay_57 : decode cX6_pay 57 = .ok (.getfield 19, 3) := by decide +kernel
theorem dX6_pay_60 : decode cX6_pay 60 = .ok (.iload_n 1, 1) := by decide +kernel
theorem dX6_pay_61 : decode cX6_pay 61 = .ok (.invokevirtual 98, 3) := by decide +kernel
theorem dX6_pay_64 : decode cX6_pay 64 = .ok (.iload_n 3, 1) := by decide +kernel
theorem dX6_pay_65 : decode cX6_pay 65 = .ok (.if_icmp .ge 6, 3) := by decide +kernel
theorem dX6_pay_68 : decode cX6_pay 68 = .ok (.bipush (-3), 2) := by decide +kernel
theorem dX6_pay_70 : decode cX6_pay 70 = .ok (.ireturn, 1) := by decide +kernel
theorem dX6_pay_71 : decode cX6_pay 71 = .ok (.aload_n 0, 1) := by decide +kernel
theorem dX6_pay_72 : decode cX6_pay 72 = .ok (.getfield 29, 3) := by decide +kernel
theorem dX6_pay_75 : decode cX6_pay 75 = .ok (.aload_n 0, 1) := by decide +kernel
theorem dX6_pay_76 : decode cX6_pay 76 = .ok (.getfield 19, 3) := by decide +kernel
theorem dX6_pay_79 : decode cX6_pay 79 = .ok (.invokevirtual 138, 3) := by decide +kernel
theorem dX6_pay_82 : decode cX6_pay 82 = .ok (.aload_n 0, 1) := by decide +kernel
theorem dX6_pay_83 : decode cX6_pay 83 = .ok (.getfield 19, 3) := by decide +kernel
theorem dX6_pay_86 : decode cX6_pay 86 = .ok (.iload_n 1, 1) := by decide +kernel
theorem dX6_pay_87 : decode cX6_pay 87 = .ok (.iload_n 2, 1) := by decide +kernel
theorem dX6_pay_88 : decode cX6_pay 88 = .ok (.iload_n 3, 1) := by decide +kernel
theorem dX6_pay_89 : decode cX6_pay 89 = .ok (.invokevirtual 160, 3) := by decide +kernel
theorem dX6_pay_92 : decode cX6_pay 92 = .ok (.aload_n 0, 1) := by decide +kernel
theorem dX6_pay_93 : decode cX6_pay 93 = .ok (.getfield 19, 3) := by decide +kernel
theorem dX6_pay_96 : decode cX6_pay 96 = .ok (.iload_n 1, 1) := by decide +kernel
theorem dX6_pay_97 : decode cX6_pay 97 = .ok (.iload_n 2, 1) := by decide +kernel
theorem dX6_pay_98 : decode cX6_pay 98 = .ok (.invokevirtual 131, 3) := by decide +kernel
theorem dX6_pay_101 : decode cX6_pay 101 = .ok (.ireturn, 1) := by decide +kernel
theorem dX6_breakOut_0 : decode cX6_breakOut 0 = .ok (.aload_n 0, 1) := by decide +kernel
theorem dX6_breakOut_1 : decode cX6_breakOut 1 = .ok (.getfield 19, 3) := by decide +kernel
theorem dX6_breakOut_4 : decode cX6_breakOut 4 = .ok (.iload_n 1, 1) := by decide +kernel
theorem dX6_breakOut_5 : decode cX6_breakOut 5 = .ok (.invokevirtual 110, 3) := by decide +kernel
theorem dX6_breakOut_8 : decode cX6_breakOut 8 = .ok (.ifCond .ne 5, 3) := by decide +kernel
theorem dX6_breakOut_11 : decode cX6_breakOut 11 = .ok (.iconst (-1), 1) := by decide +kernel
theorem dX6_breakOut_12 : decode cX6_breakOut 12 = .ok (.ireturn, 1) := by decide +kernel
theorem dX6_breakOut_13 : decode cX6_breakOut 13 = .ok (.aload_n 0, 1) := by decide +kernel
theorem dX6_breakOut_14 : decode cX6_breakOut 14 = .ok (.getfield 19, 3) := by decide +kernel
theorem dX6_breakOut_17 : decode cX6_breakOut 17 = .ok (.iload_n 1, 1) := by decide +kernel
theorem dX6_breakOut_18 : decode cX6_breakOut 18 = .ok (.invokevirtual 163, 3) := by decide +kernel
theorem dX6_breakOut_21 : decode cX6_breakOut 21 = .ok (.ifCond .ne 6, 3) := by decide +kernel
theorem dX6_breakOut_24 : decode cX6_breakOut 24 = .ok (.bipush (-3), 2) := by decide +kernel
theorem dX6_breakOut_26 : decode cX6_breakOut 26 = .ok (.ireturn, 1) := by decide +kernel
theorem dX6_breakOut_27 : decode cX6_breakOut 27 = .ok (.aload_n 0, 1) := by decide +kernel
theorem dX6_breakOut_28 : decode cX6_breakOut 28 = .ok (.getfield 29, 3) := by decide +kernel
theorem dX6_breakOut_31 : decode cX6_breakOut 31 = .ok (.aload_n 0, 1) := by decide +kernel
theorem dX6_breakOut_32 : decode cX6_breakOut 32 = .ok (.getfield 19, 3) := by decide +kernel
theorem dX6_breakOut_35 : decode cX6_breakOut 35 = .ok (.invokevirtual 138, 3) := by decide +kernel
theorem dX6_breakOut_38 : decode cX6_breakOut 38 = .ok (.aload_n 0, 1) := by decide +kernel
theorem dX6_breakOut_39 : decode cX6_breakOut 39 = .ok (.getfield 19, 3) := by decide +kernel
theorem dX6_breakOut_42 : decode cX6_breakOut 42 = .ok (.iload_n 1, 1) := by decide +kernel
theorem dX6_breakOut_43 : decode cX6_breakOut 43 = .ok (.invokevirtual 122, 3) := by decide +kernel
theorem dX6_breakOut_46 : decode cX6_breakOut 46 = .ok (.istore_n 2, 1) := by decide +kernel
theorem dX6_breakOut_47 : decode cX6_breakOut 47 = .ok (.aload_n 0, 1) := by decide +kernel
theorem dX6_breakOut_48 : decode cX6_breakOut 48 = .ok (.getfield 19, 3) := by decide +kernel
theorem dX6_breakOut_51 : decode cX6_breakOut 51 = .ok (.iload_n 1, 1) := by decide +kernel
theorem dX6_breakOut_52 : decode cX6_breakOut 52 = .ok (.invokevirtual 166, 3) := by decide +kernel
theorem dX6_breakOut_55 : decode cX6_breakOut 55 = .ok (.iload_n 2, 1) := by decide +kernel
theorem dX6_breakOut_56 : decode cX6_breakOut 56 = .ok (.ireturn, 1) := by decide +kernel
theorem dX6_forfeit_0 : decode cX6_forfeit 0 = .ok (.aload_n 0, 1) := by decide +kernel
theorem dX6_forfeit_1 : decode cX6_forfeit 1 = .ok (.getfield 19, 3) := by decide +kernel
theorem dX6_forfeit_4 : decode cX6_forfeit 4 = .ok (.iload_n 1, 1) := by decide +kernel
theorem dX6_forfeit_5 : decode cX6_forfeit 5 = .ok (.invokevirtual 110, 3) := by decide +kernel
theorem dX6_forfeit_8 : decode cX6_forfeit 8 = .ok (.ifCond .ne 5, 3) := by decide +kernel
theorem dX6_forfeit_11 : decode cX6_forfeit 11 = .ok (.iconst (-1), 1) := by decide +kernel
theorem dX6_forfeit_12 : decode cX6_forfeit 12 = .ok (.ireturn, 1) := by decide +kernel
theorem dX6_forfeit_13 : decode cX6_forfeit 13 = .ok (.aload_n 0, 1) := by decide +kernel
theorem dX6_forfeit_14 : decode cX6_forfeit 14 = .ok (.getfield 19, 3) := by decide +kernel
theorem dX6_forfeit_17 : decode cX6_forfeit 17 = .ok (.iload_n 1, 1) := by decide +kernel
theorem dX6_forfeit_18 : decode cX6_forfeit 18 = .ok (.invokevirtual 170, 3) := by decide +kernel
theorem dX6_forfeit_21 : decode cX6_forfeit 21 = .ok (.ifCond .ne 6, 3) := by decide +kernel
theorem dX6_forfeit_24 : decode cX6_forfeit 24 = .ok (.bipush (-3), 2) := by decide +kernel
theorem dX6_forfeit_26 : decode cX6_forfeit 26 = .ok (.ireturn, 1) := by decide +kernel
theorem dX6_forfeit_27 : decode cX6_forfeit 27 = .ok (.aload_n 0, 1) := by decide +kernel
theorem dX6_forfeit_28 : decode cX6_forfeit 28 = .ok (.getfield 29, 3) := by decide +kernel
theorem dX6_forfeit_31 : decode cX6_forfeit 31 = .ok (.aload_n 0, 1) := by decide +kernel
theorem dX6_forfeit_32 : decode cX6_forfeit 32 = .ok (.getfield 19, 3) := by decide +kernel
theorem dX6_forfeit_35 : decode cX6_forfeit 35 = .ok (.invokevirtual 138, 3) := by decide +kernel
theorem dX6_forfeit_38 : decode cX6_forfeit 38 = .ok (.aload_n 0, 1) := by decide +kernel
theorem dX6_forfeit_39 : decode cX6_forfeit 39 = .ok (.getfield 19, 3) := by decide +kernel
theorem dX6_forfeit_42 : decode cX6_forfeit 42 = .ok (.iload_n 1, 1) := by decide +kernel
theorem dX6_forfeit_43 : decode cX6_forfeit 43 = .ok (.invokevirtual 113, 3) := by decide +kernel
theorem dX6_forfeit_46 : decode cX6_forfeit 46 = .ok (.istore_n 2, 1) := by decide +kernel
theorem dX6_forfeit_47 : decode cX6_forfeit 47 = .ok (.aload_n 0, 1) := by decide +kernel
theorem dX6_forfeit_48 : decode cX6_forfeit 48 = .ok (.getfield 19, 3) := by decide +kernel
theorem dX6_forfeit_51 : decode cX6_forfeit 51 = .ok (.iload_n 1, 1) := by decide +kernel
theorem dX6_forfeit_52 : decode cX6_forfeit 52 = .ok (.invokevirtual 173, 3) := by decide +kernel
theorem dX6_forfeit_55 : decode cX6_forfeit 55 = .ok (.iload_n 2, 1) := by decide +kernel
theorem dX6_forfeit_56 : decode cX6_forfeit 56 = .ok (.ireturn, 1) := by decide +kernel
theorem dX6_undo_0 : decode cX6_undo 0 = .ok (.aload_n 0, 1) := by decide +kernel
theorem dX6_undo_1 : decode cX6_undo 1 = .ok (.getfield 29, 3) := by decide +kernel
theorem dX6_undo_4 : decode cX6_undo 4 = .ok (.aload_n 0, 1) := by decide +kernel
theorem dX6_undo_5 : decode cX6_undo 5 = .ok (.getfield 19, 3) := by decide +kernel
theorem dX6_undo_8 : decode cX6_undo 8 = .ok (.invokevirtual 176, 3) := by decide +kernel
theorem dX6_undo_11 : decode cX6_undo 11 = .ok (.ifCond .eq 13, 3) := by decide +kernel
theorem dX6_undo_14 : decode cX6_undo 14 = .ok (.aload_n 0, 1) := by decide +kernel
theorem dX6_undo_15 : decode cX6_undo 15 = .ok (.getfield 29, 3) := by decide +kernel
theorem dX6_undo_18 : decode cX6_undo 18 = .ok (.invokevirtual 180, 3) := by decide +kernel
theorem dX6_undo_21 : decode cX6_undo 21 = .ok (.goto 5, 3) := by decide +kernel
theorem dX6_undo_24 : decode cX6_undo 24 = .ok (.bipush (-3), 2) := by decide +kernel
theorem dX6_undo_26 : decode cX6_undo 26 = .ok (.ireturn, 1) := by decide +kernel
theorem dX6_clause_0 : decode cX6_clause 0 = .ok (.aload_n 0, 1) := by decide +kernel
theorem dX6_clause_1 : decode cX6_clause 1 = .ok (.getfield 19, 3) := by decide +kernel
theorem dX6_clause_4 : decode cX6_clause 4 = .ok (.iload_n 1, 1) := by decide +kernel
theorem dX6_clause_5 : decode cX6_clause 5 = .ok (.invokevirtual 91, 3) := by decide +kernel
theorem dX6_clause_8 : decode cX6_clause 8 = .ok (.ifCond .eq 14, 3) := by decide +kernel
theorem dX6_clause_11 : decode cX6_clause 11 = .ok (.aload_n 0, 1) := by decide +kernel
theorem dX6_clause_12 : decode cX6_clause 12 = .ok (.getfield 19, 3) := by decide +kernel
theorem dX6_clause_15 : decode cX6_clause 15 = .ok (.iload_n 2, 1) := by decide +kernel
theorem dX6_clause_16 : decode cX6_clause 16 = .ok (.invokevirtual 110, 3) := by decide +kernel
theorem dX6_clause_19 : decode cX6_clause 19 = .ok (.ifCond .ne 5, 3) := by decide +kernel
theorem dX6_clause_22 : decode cX6_clause 22 = .ok (.iconst (-1), 1) := by decide +kernel
theorem dX6_clause_23 : decode cX6_clause 23 = .ok (.ireturn, 1) := by decide +kernel
theorem dX6_clause_24 : decode cX6_clause 24 = .ok (.aload_n 0, 1) := by decide +kernel
theorem dX6_clause_25 : decode cX6_clause 25 = .ok (.getfield 19, 3) := by decide +kernel
theorem dX6_clause_28 : decode cX6_clause 28 = .ok (.iload_n 1, 1) := by decide +kernel
theorem dX6_clause_29 : decode cX6_clause 29 = .ok (.iload_n 2, 1) := by decide +kernel
theorem dX6_clause_30 : decode cX6_clause 30 = .ok (.invokevirtual 135, 3) := by decide +kernel
theorem dX6_clause_33 : decode cX6_clause 33 = .ok (.ireturn, 1) := by decide +kernel
theorem dX6_worth_0 : decode cX6_worth 0 = .ok (.aload_n 0, 1) := by decide +kernel
theorem dX6_worth_1 : decode cX6_worth 1 = .ok (.getfield 19, 3) := by decide +kernel
theorem dX6_worth_4 : decode cX6_worth 4 = .ok (.iload_n 1, 1) := by decide +kernel
theorem dX6_worth_5 : decode cX6_worth 5 = .ok (.invokevirtual 110, 3) := by decide +kernel
theorem dX6_worth_8 : decode cX6_worth 8 = .ok (.ifCond .ne 5, 3) := by decide +kernel
theorem dX6_worth_11 : decode cX6_worth 11 = .ok (.iconst (-1), 1) := by decide +kernel
theorem dX6_worth_12 : decode cX6_worth 12 = .ok (.ireturn, 1) := by decide +kernel
theorem dX6_worth_13 : decode cX6_worth 13 = .ok (.iload_n 2, 1) := by decide +kernel
theorem dX6_worth_14 : decode cX6_worth 14 = .ok (.ifCond .lt 9, 3) := by decide +kernel
theorem dX6_worth_17 : decode cX6_worth 17 = .ok (.iload_n 2, 1) := by decide +kernel
theorem dX6_worth_18 : decode cX6_worth 18 = .ok (.bipush 9, 2) := by decide +kernel
theorem dX6_worth_20 : decode cX6_worth 20 = .ok (.if_icmp .le 6, 3) := by decide +kernel
theorem dX6_worth_23 : decode cX6_worth 23 = .ok (.bipush (-2), 2) := by decide +kernel
theorem dX6_worth_25 : decode cX6_worth 25 = .ok (.ireturn, 1) := by decide +kernel
theorem dX6_worth_26 : decode cX6_worth 26 = .ok (.aload_n 0, 1) := by decide +kernel
theorem dX6_worth_27 : decode cX6_worth 27 = .ok (.getfield 23, 3) := by decide +kernel
theorem dX6_worth_30 : decode cX6_worth 30 = .ok (.aload_n 0, 1) := by decide +kernel
theorem dX6_worth_31 : decode cX6_worth 31 = .ok (.getfield 19, 3) := by decide +kernel
theorem dX6_worth_34 : decode cX6_worth 34 = .ok (.invokevirtual 76, 3) := by decide +kernel
theorem dX6_worth_37 : decode cX6_worth 37 = .ok (.iconst 0, 1) := by decide +kernel
theorem dX6_worth_38 : decode cX6_worth 38 = .ok (.istore_n 3, 1) := by decide +kernel
theorem dX6_worth_39 : decode cX6_worth 39 = .ok (.iload_n 3, 1) := by decide +kernel
theorem dX6_worth_40 : decode cX6_worth 40 = .ok (.iload_n 2, 1) := by decide +kernel
theorem dX6_worth_41 : decode cX6_worth 41 = .ok (.if_icmp .ge 16, 3) := by decide +kernel
theorem dX6_worth_44 : decode cX6_worth 44 = .ok (.aload_n 0, 1) := by decide +kernel
theorem dX6_worth_45 : decode cX6_worth 45 = .ok (.getfield 23, 3) := by decide +kernel
theorem dX6_worth_48 : decode cX6_worth 48 = .ok (.invokevirtual 149, 3) := by decide +kernel
theorem dX6_worth_51 : decode cX6_worth 51 = .ok (.iinc 3 1, 3) := by decide +kernel
theorem dX6_worth_54 : decode cX6_worth 54 = .ok (.goto (-15), 3) := by decide +kernel
theorem dX6_worth_57 : decode cX6_worth 57 = .ok (.aload_n 0, 1) := by decide +kernel
theorem dX6_worth_58 : decode cX6_worth 58 = .ok (.getfield 23, 3) := by decide +kernel
theorem dX6_worth_61 : decode cX6_worth 61 = .ok (.iload_n 1, 1) := by decide +kernel
theorem dX6_worth_62 : decode cX6_worth 62 = .ok (.invokevirtual 116, 3) := by decide +kernel
theorem dX6_worth_65 : decode cX6_worth 65 = .ok (.ireturn, 1) := by decide +kernel
theorem dX6_take_0 : decode cX6_take 0 = .ok (.aload_n 0, 1) := by decide +kernel
theorem dX6_take_1 : decode cX6_take 1 = .ok (.getfield 19, 3) := by decide +kernel
theorem dX6_take_4 : decode cX6_take 4 = .ok (.iload_n 1, 1) := by decide +kernel
theorem dX6_take_5 : decode cX6_take 5 = .ok (.invokevirtual 91, 3) := by decide +kernel
theorem dX6_take_8 : decode cX6_take 8 = .ok (.ifCond .eq 14, 3) := by decide +kernel
theorem dX6_take_11 : decode cX6_take 11 = .ok (.aload_n 0, 1) := by decide +kernel
theorem dX6_take_12 : decode cX6_take 12 = .ok (.getfield 19, 3) := by decide +kernel
theorem dX6_take_15 : decode cX6_take 15 = .ok (.iload_n 2, 1) := by decide +kernel
theorem dX6_take_16 : decode cX6_take 16 = .ok (.invokevirtual 91, 3) := by decide +kernel
theorem dX6_take_19 : decode cX6_take 19 = .ok (.ifCond .ne 5, 3) := by decide +kernel
theorem dX6_take_22 : decode cX6_take 22 = .ok (.iconst (-1), 1) := by decide +kernel
theorem dX6_take_23 : decode cX6_take 23 = .ok (.ireturn, 1) := by decide +kernel
theorem dX6_take_24 : decode cX6_take 24 = .ok (.iload_n 1, 1) := by decide +kernel
theorem dX6_take_25 : decode cX6_take 25 = .ok (.iload_n 2, 1) := by decide +kernel
theorem dX6_take_26 : decode cX6_take 26 = .ok (.if_icmp .ne 6, 3) := by decide +kernel
theorem dX6_take_29 : decode cX6_take 29 = .ok (.bipush (-2), 2) := by decide +kernel
theorem dX6_take_31 : decode cX6_take 31 = .ok (.ireturn, 1) := by decide +kernel
theorem dX6_take_32 : decode cX6_take 32 = .ok (.aload_n 0, 1) := by decide +kernel
theorem dX6_take_33 : decode cX6_take 33 = .ok (.getfield 19, 3) := by decide +kernel
theorem dX6_take_36 : decode cX6_take 36 = .ok (.iload_n 1, 1) := by decide +kernel
theorem dX6_take_37 : decode cX6_take 37 = .ok (.invokevirtual 183, 3) := by decide +kernel
theorem dX6_take_40 : decode cX6_take 40 = .ok (.aload_n 0, 1) := by decide +kernel
theorem dX6_take_41 : decode cX6_take 41 = .ok (.getfield 19, 3) := by decide +kernel
theorem dX6_take_44 : decode cX6_take 44 = .ok (.iload_n 2, 1) := by decide +kernel
theorem dX6_take_45 : decode cX6_take 45 = .ok (.invokevirtual 101, 3) := by decide +kernel
theorem dX6_take_48 : decode cX6_take 48 = .ok (.iand, 1) := by decide +kernel
theorem dX6_take_49 : decode cX6_take 49 = .ok (.istore 4, 2) := by decide +kernel
theorem dX6_take_51 : decode cX6_take 51 = .ok (.bipush (-9), 2) := by decide +kernel
theorem dX6_take_53 : decode cX6_take 53 = .ok (.istore 5, 2) := by decide +kernel
theorem dX6_take_55 : decode cX6_take 55 = .ok (.bipush (-9), 2) := by decide +kernel
theorem dX6_take_57 : decode cX6_take 57 = .ok (.istore 6, 2) := by decide +kernel
theorem dX6_take_59 : decode cX6_take 59 = .ok (.iconst 0, 1) := by decide +kernel
theorem dX6_take_60 : decode cX6_take 60 = .ok (.istore 7, 2) := by decide +kernel
theorem dX6_take_62 : decode cX6_take 62 = .ok (.iload 7, 2) := by decide +kernel
theorem dX6_take_64 : decode cX6_take 64 = .ok (.aload_n 0, 1) := by decide +kernel
theorem dX6_take_65 : decode cX6_take 65 = .ok (.getfield 19, 3) := by decide +kernel
theorem dX6_take_68 : decode cX6_take 68 = .ok (.invokevirtual 88, 3) := by decide +kernel
theorem dX6_take_71 : decode cX6_take 71 = .ok (.if_icmp .ge 94, 3) := by decide +kernel
theorem dX6_take_74 : decode cX6_take 74 = .ok (.iload 4, 2) := by decide +kernel
theorem dX6_take_76 : decode cX6_take 76 = .ok (.iload 7, 2) := by decide +kernel
theorem dX6_take_78 : decode cX6_take 78 = .ok (.invokestatic 186, 3) := by decide +kernel
theorem dX6_take_81 : decode cX6_take 81 = .ok (.ifCond .ne 6, 3) := by decide +kernel
theorem dX6_take_84 : decode cX6_take 84 = .ok (.goto 75, 3) := by decide +kernel
theorem dX6_take_87 : decode cX6_take 87 = .ok (.aload_n 0, 1) := by decide +kernel
theorem dX6_take_88 : decode cX6_take 88 = .ok (.iload_n 1, 1) := by decide +kernel
theorem dX6_take_89 : decode cX6_take 89 = .ok (.iload_n 2, 1) := by decide +kernel
theorem dX6_take_90 : decode cX6_take 90 = .ok (.iload 7, 2) := by decide +kernel
theorem dX6_take_92 : decode cX6_take 92 = .ok (.invokevirtual 190, 3) := by decide +kernel
theorem dX6_take_95 : decode cX6_take 95 = .ok (.istore 8, 2) := by decide +kernel
theorem dX6_take_97 : decode cX6_take 97 = .ok (.iload 5, 2) := by decide +kernel
theorem dX6_take_99 : decode cX6_take 99 = .ok (.bipush (-9), 2) := by decide +kernel
theorem dX6_take_101 : decode cX6_take 101 = .ok (.if_icmp .eq 38, 3) := by decide +kernel
theorem dX6_take_104 : decode cX6_take 104 = .ok (.iload 8, 2) := by decide +kernel
theorem dX6_take_106 : decode cX6_take 106 = .ok (.iload 6, 2) := by decide +kernel
theorem dX6_take_108 : decode cX6_take 108 = .ok (.if_icmp .lt 31, 3) := by decide +kernel
theorem dX6_take_111 : decode cX6_take 111 = .ok (.iload 8, 2) := by decide +kernel
theorem dX6_take_113 : decode cX6_take 113 = .ok (.iload 6, 2) := by decide +kernel
theorem dX6_take_115 : decode cX6_take 115 = .ok (.if_icmp .ne 28, 3) := by decide +kernel
theorem dX6_take_118 : decode cX6_take 118 = .ok (.aload_n 0, 1) := by decide +kernel
theorem dX6_take_119 : decode cX6_take 119 = .ok (.getfield 19, 3) := by decide +kernel
theorem dX6_take_122 : decode cX6_take 122 = .ok (.iload 7, 2) := by decide +kernel
theorem dX6_take_124 : decode cX6_take 124 = .ok (.invokevirtual 116, 3) := by decide +kernel
theorem dX6_take_127 : decode cX6_take 127 = .ok (.aload_n 0, 1) := by decide +kernel
theorem dX6_take_128 : decode cX6_take 128 = .ok (.getfield 19, 3) := by decide +kernel
theorem dX6_take_131 : decode cX6_take 131 = .ok (.iload 5, 2) := by decide +kernel
theorem dX6_take_133 : decode cX6_take 133 = .ok (.invokevirtual 116, 3) := by decide +kernel
theorem dX6_take_136 : decode cX6_take 136 = .ok (.if_icmp .ge 7, 3) := by decide +kernel
theorem dX6_take_139 : decode cX6_take 139 = .ok (.iconst 1, 1) := by decide +kernel
theorem dX6_take_140 : decode cX6_take 140 = .ok (.goto 4, 3) := by decide +kernel
theorem dX6_take_143 : decode cX6_take 143 = .ok (.iconst 0, 1) := by decide +kernel
theorem dX6_take_144 : decode cX6_take 144 = .ok (.istore 9, 2) := by decide +kernel
theorem dX6_take_146 : decode cX6_take 146 = .ok (.iload 9, 2) := by decide +kernel
theorem dX6_take_148 : decode cX6_take 148 = .ok (.ifCond .eq 11, 3) := by decide +kernel
theorem dX6_take_151 : decode cX6_take 151 = .ok (.iload 7, 2) := by decide +kernel
theorem dX6_take_153 : decode cX6_take 153 = .ok (.istore 5, 2) := by decide +kernel
theorem dX6_take_155 : decode cX6_take 155 = .ok (.iload 8, 2) := by decide +kernel
theorem dX6_take_157 : decode cX6_take 157 = .ok (.istore 6, 2) := by decide +kernel
theorem dX6_take_159 : decode cX6_take 159 = .ok (.iinc 7 1, 3) := by decide +kernel
theorem dX6_take_162 : decode cX6_take 162 = .ok (.goto (-100), 3) := by decide +kernel
theorem dX6_take_165 : decode cX6_take 165 = .ok (.iload_n 3, 1) := by decide +kernel
theorem dX6_take_166 : decode cX6_take 166 = .ok (.ifCond .eq 8, 3) := by decide +kernel
theorem dX6_take_169 : decode cX6_take 169 = .ok (.iload 6, 2) := by decide +kernel
theorem dX6_take_171 : decode cX6_take 171 = .ok (.goto 5, 3) := by decide +kernel
theorem dX6_take_174 : decode cX6_take 174 = .ok (.iload 5, 2) := by decide +kernel
theorem dX6_take_176 : decode cX6_take 176 = .ok (.ireturn, 1) := by decide +kernel
theorem dX6_each_0 : decode cX6_each 0 = .ok (.aload_n 0, 1) := by decide +kernel
theorem dX6_each_1 : decode cX6_each 1 = .ok (.getfield 36, 3) := by decide +kernel
theorem dX6_each_4 : decode cX6_each 4 = .ok (.aload_n 0, 1) := by decide +kernel
theorem dX6_each_5 : decode cX6_each 5 = .ok (.getfield 19, 3) := by decide +kernel
theorem dX6_each_8 : decode cX6_each 8 = .ok (.invokevirtual 194, 3) := by decide +kernel
theorem dX6_each_11 : decode cX6_each 11 = .ok (.iload_n 1, 1) := by decide +kernel
theorem dX6_each_12 : decode cX6_each 12 = .ok (.ifCond .eq 13, 3) := by decide +kernel
theorem dX6_each_15 : decode cX6_each 15 = .ok (.aload_n 0, 1) := by decide +kernel
theorem dX6_each_16 : decode cX6_each 16 = .ok (.getfield 36, 3) := by decide +kernel
theorem dX6_each_19 : decode cX6_each 19 = .ok (.invokevirtual 197, 3) := by decide +kernel
theorem dX6_each_22 : decode cX6_each 22 = .ok (.goto 10, 3) := by decide +kernel
theorem dX6_each_25 : decode cX6_each 25 = .ok (.aload_n 0, 1) := by decide +kernel
theorem dX6_each_26 : decode cX6_each 26 = .ok (.getfield 36, 3) := by decide +kernel
theorem dX6_each_29 : decode cX6_each 29 = .ok (.invokevirtual 200, 3) := by decide +kernel
theorem dX6_each_32 : decode cX6_each 32 = .ok (.ireturn, 1) := by decide +kernel
theorem dX6_share_0 : decode cX6_share 0 = .ok (.aload_n 0, 1) := by decide +kernel
theorem dX6_share_1 : decode cX6_share 1 = .ok (.getfield 19, 3) := by decide +kernel
theorem dX6_share_4 : decode cX6_share 4 = .ok (.iload_n 1, 1) := by decide +kernel
theorem dX6_share_5 : decode cX6_share 5 = .ok (.invokevirtual 91, 3) := by decide +kernel
theorem dX6_share_8 : decode cX6_share 8 = .ok (.ifCond .ne 5, 3) := by decide +kernel
theorem dX6_share_11 : decode cX6_share 11 = .ok (.iconst (-1), 1) := by decide +kernel
theorem dX6_share_12 : decode cX6_share 12 = .ok (.ireturn, 1) := by decide +kernel
theorem dX6_share_13 : decode cX6_share 13 = .ok (.aload_n 0, 1) := by decide +kernel
theorem dX6_share_14 : decode cX6_share 14 = .ok (.getfield 36, 3) := by decide +kernel
theorem dX6_share_17 : decode cX6_share 17 = .ok (.aload_n 0, 1) := by decide +kernel
theorem dX6_share_18 : decode cX6_share 18 = .ok (.getfield 19, 3) := by decide +kernel
theorem dX6_share_21 : decode cX6_share 21 = .ok (.invokevirtual 194, 3) := by decide +kernel
theorem dX6_share_24 : decode cX6_share 24 = .ok (.aload_n 0, 1) := by decide +kernel
theorem dX6_share_25 : decode cX6_share 25 = .ok (.getfield 36, 3) := by decide +kernel
theorem dX6_share_28 : decode cX6_share 28 = .ok (.iload_n 1, 1) := by decide +kernel
theorem dX6_share_29 : decode cX6_share 29 = .ok (.invokevirtual 203, 3) := by decide +kernel
theorem dX6_share_32 : decode cX6_share 32 = .ok (.aload_n 0, 1) := by decide +kernel
theorem dX6_share_33 : decode cX6_share 33 = .ok (.getfield 36, 3) := by decide +kernel
theorem dX6_share_36 : decode cX6_share 36 = .ok (.invokevirtual 206, 3) := by decide +kernel
theorem dX6_share_39 : decode cX6_share 39 = .ok (.iload_n 2, 1) := by decide +kernel
theorem dX6_share_40 : decode cX6_share 40 = .ok (.invokestatic 209, 3) := by decide +kernel
theorem dX6_share_43 : decode cX6_share 43 = .ok (.ireturn, 1) := by decide +kernel
theorem dX6_ring_0 : decode cX6_ring 0 = .ok (.aload_n 0, 1) := by decide +kernel
theorem dX6_ring_1 : decode cX6_ring 1 = .ok (.getfield 19, 3) := by decide +kernel
theorem dX6_ring_4 : decode cX6_ring 4 = .ok (.iload_n 1, 1) := by decide +kernel
theorem dX6_ring_5 : decode cX6_ring 5 = .ok (.invokevirtual 91, 3) := by decide +kernel
theorem dX6_ring_8 : decode cX6_ring 8 = .ok (.ifCond .ne 5, 3) := by decide +kernel
theorem dX6_ring_11 : decode cX6_ring 11 = .ok (.iconst (-1), 1) := by decide +kernel
theorem dX6_ring_12 : decode cX6_ring 12 = .ok (.ireturn, 1) := by decide +kernel
theorem dX6_ring_13 : decode cX6_ring 13 = .ok (.aload_n 0, 1) := by decide +kernel
theorem dX6_ring_14 : decode cX6_ring 14 = .ok (.getfield 43, 3) := by decide +kernel
theorem dX6_ring_17 : decode cX6_ring 17 = .ok (.aload_n 0, 1) := by decide +kernel
theorem dX6_ring_18 : decode cX6_ring 18 = .ok (.getfield 19, 3) := by decide +kernel
theorem dX6_ring_21 : decode cX6_ring 21 = .ok (.iload_n 1, 1) := by decide +kernel
theorem dX6_ring_22 : decode cX6_ring 22 = .ok (.invokevirtual 213, 3) := by decide +kernel
theorem dX6_ring_25 : decode cX6_ring 25 = .ok (.ifCond .eq 13, 3) := by decide +kernel
theorem dX6_ring_28 : decode cX6_ring 28 = .ok (.aload_n 0, 1) := by decide +kernel
theorem dX6_ring_29 : decode cX6_ring 29 = .ok (.getfield 43, 3) := by decide +kernel
theorem dX6_ring_32 : decode cX6_ring 32 = .ok (.invokevirtual 217, 3) := by decide +kernel
theorem dX6_ring_35 : decode cX6_ring 35 = .ok (.goto 5, 3) := by decide +kernel
theorem dX6_ring_38 : decode cX6_ring 38 = .ok (.bipush (-9), 2) := by decide +kernel
theorem dX6_ring_40 : decode cX6_ring 40 = .ok (.ireturn, 1) := by decide +kernel
theorem dX6_close_0 : decode cX6_close 0 = .ok (.aload_n 0, 1) := by decide +kernel
theorem dX6_close_1 : decode cX6_close 1 = .ok (.getfield 19, 3) := by decide +kernel
theorem dX6_close_4 : decode cX6_close 4 = .ok (.iload_n 1, 1) := by decide +kernel
theorem dX6_close_5 : decode cX6_close 5 = .ok (.invokevirtual 91, 3) := by decide +kernel
theorem dX6_close_8 : decode cX6_close 8 = .ok (.ifCond .ne 5, 3) := by decide +kernel
theorem dX6_close_11 : decode cX6_close 11 = .ok (.iconst (-1), 1) := by decide +kernel
theorem dX6_close_12 : decode cX6_close 12 = .ok (.ireturn, 1) := by decide +kernel
theorem dX6_close_13 : decode cX6_close 13 = .ok (.aload_n 0, 1) := by decide +kernel
theorem dX6_close_14 : decode cX6_close 14 = .ok (.getfield 43, 3) := by decide +kernel
theorem dX6_close_17 : decode cX6_close 17 = .ok (.aload_n 0, 1) := by decide +kernel
theorem dX6_close_18 : decode cX6_close 18 = .ok (.getfield 19, 3) := by decide +kernel
theorem dX6_close_21 : decode cX6_close 21 = .ok (.iload_n 1, 1) := by decide +kernel
theorem dX6_close_22 : decode cX6_close 22 = .ok (.invokevirtual 213, 3) := by decide +kernel
theorem dX6_close_25 : decode cX6_close 25 = .ok (.ifCond .eq 17, 3) := by decide +kernel
theorem dX6_close_28 : decode cX6_close 28 = .ok (.aload_n 0, 1) := by decide +kernel
theorem dX6_close_29 : decode cX6_close 29 = .ok (.getfield 43, 3) := by decide +kernel
theorem dX6_close_32 : decode cX6_close 32 = .ok (.aload_n 0, 1) := by decide +kernel
theorem dX6_close_33 : decode cX6_close 33 = .ok (.getfield 19, 3) := by decide +kernel
theorem dX6_close_36 : decode cX6_close 36 = .ok (.invokevirtual 220, 3) := by decide +kernel
theorem dX6_close_39 : decode cX6_close 39 = .ok (.goto 5, 3) := by decide +kernel
theorem dX6_close_42 : decode cX6_close 42 = .ok (.bipush (-9), 2) := by decide +kernel
theorem dX6_close_44 : decode cX6_close 44 = .ok (.ireturn, 1) := by decide +kernel
theorem dX6_judge_0 : decode cX6_judge 0 = .ok (.iload_n 1, 1) := by decide +kernel
theorem dX6_judge_1 : decode cX6_judge 1 = .ok (.iconst 1, 1) := by decide +kernel
theorem dX6_judge_2 : decode cX6_judge 2 = .ok (.if_icmp .lt 14, 3) := by decide +kernel
theorem dX6_judge_5 : decode cX6_judge 5 = .ok (.iload_n 1, 1) := by decide +kernel
theorem dX6_judge_6 : decode cX6_judge 6 = .ok (.iconst 4, 1) := by decide +kernel
theorem dX6_judge_7 : decode cX6_judge 7 = .ok (.if_icmp .gt 9, 3) := by decide +kernel
theorem dX6_judge_10 : decode cX6_judge 10 = .ok (.lload_n 2, 1) := by decide +kernel
theorem dX6_judge_11 : decode cX6_judge 11 = .ok (.lconst 0, 1) := by decide +kernel
theorem dX6_judge_12 : decode cX6_judge 12 = .ok (.lcmp, 1) := by decide +kernel
theorem dX6_judge_13 : decode cX6_judge 13 = .ok (.ifCond .ge 6, 3) := by decide +kernel
theorem dX6_judge_16 : decode cX6_judge 16 = .ok (.bipush (-2), 2) := by decide +kernel
theorem dX6_judge_18 : decode cX6_judge 18 = .ok (.ireturn, 1) := by decide +kernel
theorem dX6_judge_19 : decode cX6_judge 19 = .ok (.lload_n 2, 1) := by decide +kernel
theorem dX6_judge_20 : decode cX6_judge 20 = .ok (.lstore 4, 2) := by decide +kernel
theorem dX6_judge_22 : decode cX6_judge 22 = .ok (.iload_n 1, 1) := by decide +kernel
theorem dX6_judge_23 : decode cX6_judge 23 = .ok (.iconst 1, 1) := by decide +kernel
theorem dX6_judge_24 : decode cX6_judge 24 = .ok (.isub, 1) := by decide +kernel
theorem dX6_judge_25 : decode cX6_judge 25 = .ok (.istore 6, 2) := by decide +kernel
theorem dX6_judge_27 : decode cX6_judge 27 = .ok (.iload 6, 2) := by decide +kernel
theorem dX6_judge_29 : decode cX6_judge 29 = .ok (.ifCond .lt 31, 3) := by decide +kernel
theorem dX6_judge_32 : decode cX6_judge 32 = .ok (.aload_n 0, 1) := by decide +kernel
theorem dX6_judge_33 : decode cX6_judge 33 = .ok (.getfield 58, 3) := by decide +kernel
theorem dX6_judge_36 : decode cX6_judge 36 = .ok (.iload 6, 2) := by decide +kernel
theorem dX6_judge_38 : decode cX6_judge 38 = .ok (.lload 4, 2) := by decide +kernel
theorem dX6_judge_40 : decode cX6_judge 40 = .ok (.ldc2_w 223, 3) := by decide +kernel
theorem dX6_judge_43 : decode cX6_judge 43 = .ok (.lrem, 1) := by decide +kernel
theorem dX6_judge_44 : decode cX6_judge 44 = .ok (.l2i, 1) := by decide +kernel
theorem dX6_judge_45 : decode cX6_judge 45 = .ok (.iastore, 1) := by decide +kernel
theorem dX6_judge_46 : decode cX6_judge 46 = .ok (.lload 4, 2) := by decide +kernel
theorem dX6_judge_48 : decode cX6_judge 48 = .ok (.ldc2_w 223, 3) := by decide +kernel
theorem dX6_judge_51 : decode cX6_judge 51 = .ok (.ldiv, 1) := by decide +kernel
theorem dX6_judge_52 : decode cX6_judge 52 = .ok (.lstore 4, 2) := by decide +kernel
theorem dX6_judge_54 : decode cX6_judge 54 = .ok (.iinc 6 (-1), 3) := by decide +kernel
theorem dX6_judge_57 : decode cX6_judge 57 = .ok (.goto (-30), 3) := by decide +kernel
theorem dX6_judge_60 : decode cX6_judge 60 = .ok (.lload 4, 2) := by decide +kernel
theorem dX6_judge_62 : decode cX6_judge 62 = .ok (.lconst 0, 1) := by decide +kernel
theorem dX6_judge_63 : decode cX6_judge 63 = .ok (.lcmp, 1) := by decide +kernel
theorem dX6_judge_64 : decode cX6_judge 64 = .ok (.ifCond .eq 6, 3) := by decide +kernel
theorem dX6_judge_67 : decode cX6_judge 67 = .ok (.bipush (-2), 2) := by decide +kernel
theorem dX6_judge_69 : decode cX6_judge 69 = .ok (.ireturn, 1) := by decide +kernel
theorem dX6_judge_70 : decode cX6_judge 70 = .ok (.aload_n 0, 1) := by decide +kernel
theorem dX6_judge_71 : decode cX6_judge 71 = .ok (.getfield 23, 3) := by decide +kernel
theorem dX6_judge_74 : decode cX6_judge 74 = .ok (.aload_n 0, 1) := by decide +kernel
theorem dX6_judge_75 : decode cX6_judge 75 = .ok (.getfield 19, 3) := by decide +kernel
theorem dX6_judge_78 : decode cX6_judge 78 = .ok (.invokevirtual 76, 3) := by decide +kernel
theorem dX6_judge_81 : decode cX6_judge 81 = .ok (.iconst 0, 1) := by decide +kernel
theorem dX6_judge_82 : decode cX6_judge 82 = .ok (.istore 6, 2) := by decide +kernel
theorem dX6_judge_84 : decode cX6_judge 84 = .ok (.iload 6, 2) := by decide +kernel
theorem dX6_judge_86 : decode cX6_judge 86 = .ok (.iload_n 1, 1) := by decide +kernel
theorem dX6_judge_87 : decode cX6_judge 87 = .ok (.if_icmp .ge 26, 3) := by decide +kernel
theorem dX6_judge_90 : decode cX6_judge 90 = .ok (.aload_n 0, 1) := by decide +kernel
theorem dX6_judge_91 : decode cX6_judge 91 = .ok (.aload_n 0, 1) := by decide +kernel
theorem dX6_judge_92 : decode cX6_judge 92 = .ok (.getfield 58, 3) := by decide +kernel
theorem dX6_judge_95 : decode cX6_judge 95 = .ok (.iload 6, 2) := by decide +kernel
theorem dX6_judge_97 : decode cX6_judge 97 = .ok (.iaload, 1) := by decide +kernel
theorem dX6_judge_98 : decode cX6_judge 98 = .ok (.invokevirtual 225, 3) := by decide +kernel
theorem dX6_judge_101 : decode cX6_judge 101 = .ok (.ifCond .ne 6, 3) := by decide +kernel
theorem dX6_judge_104 : decode cX6_judge 104 = .ok (.iload 6, 2) := by decide +kernel
theorem dX6_judge_106 : decode cX6_judge 106 = .ok (.ireturn, 1) := by decide +kernel
theorem dX6_judge_107 : decode cX6_judge 107 = .ok (.iinc 6 1, 3) := by decide +kernel
theorem dX6_judge_110 : decode cX6_judge 110 = .ok (.goto (-26), 3) := by decide +kernel
theorem dX6_judge_113 : decode cX6_judge 113 = .ok (.bipush (-9), 2) := by decide +kernel
theorem dX6_judge_115 : decode cX6_judge 115 = .ok (.ireturn, 1) := by decide +kernel
theorem dX6_who_0 : decode cX6_who 0 = .ok (.aload_n 0, 1) := by decide +kernel
theorem dX6_who_1 : decode cX6_who 1 = .ok (.iload_n 1, 1) := by decide +kernel
theorem dX6_who_2 : decode cX6_who 2 = .ok (.invokevirtual 228, 3) := by decide +kernel
theorem dX6_who_5 : decode cX6_who 5 = .ok (.ifCond .ne 6, 3) := by decide +kernel
theorem dX6_who_8 : decode cX6_who 8 = .ok (.bipush (-2), 2) := by decide +kernel
theorem dX6_who_10 : decode cX6_who 10 = .ok (.ireturn, 1) := by decide +kernel
theorem dX6_who_11 : decode cX6_who 11 = .ok (.iconst 0, 1) := by decide +kernel
theorem dX6_who_12 : decode cX6_who 12 = .ok (.istore_n 2, 1) := by decide +kernel
theorem dX6_who_13 : decode cX6_who 13 = .ok (.iconst 0, 1) := by decide +kernel
theorem dX6_who_14 : decode cX6_who 14 = .ok (.istore_n 3, 1) := by decide +kernel
theorem dX6_who_15 : decode cX6_who 15 = .ok (.iload_n 3, 1) := by decide +kernel
theorem dX6_who_16 : decode cX6_who 16 = .ok (.aload_n 0, 1) := by decide +kernel
theorem dX6_who_17 : decode cX6_who 17 = .ok (.getfield 19, 3) := by decide +kernel
theorem dX6_who_20 : decode cX6_who 20 = .ok (.invokevirtual 85, 3) := by decide +kernel
theorem dX6_who_23 : decode cX6_who 23 = .ok (.if_icmp .ge 30, 3) := by decide +kernel
theorem dX6_who_26 : decode cX6_who 26 = .ok (.iload_n 1, 1) := by decide +kernel
theorem dX6_who_27 : decode cX6_who 27 = .ok (.aload_n 0, 1) := by decide +kernel
theorem dX6_who_28 : decode cX6_who 28 = .ok (.getfield 19, 3) := by decide +kernel
theorem dX6_who_31 : decode cX6_who 31 = .ok (.iload_n 3, 1) := by decide +kernel
theorem dX6_who_32 : decode cX6_who 32 = .ok (.invokevirtual 183, 3) := by decide +kernel
theorem dX6_who_35 : decode cX6_who 35 = .ok (.iconst (-1), 1) := by decide +kernel
theorem dX6_who_36 : decode cX6_who 36 = .ok (.ixor, 1) := by decide +kernel
theorem dX6_who_37 : decode cX6_who 37 = .ok (.iand, 1) := by decide +kernel
theorem dX6_who_38 : decode cX6_who 38 = .ok (.ifCond .ne 9, 3) := by decide +kernel
theorem dX6_who_41 : decode cX6_who 41 = .ok (.iload_n 2, 1) := by decide +kernel
theorem dX6_who_42 : decode cX6_who 42 = .ok (.iconst 1, 1) := by decide +kernel
theorem dX6_who_43 : decode cX6_who 43 = .ok (.iload_n 3, 1) := by decide +kernel
theorem dX6_who_44 : decode cX6_who 44 = .ok (.ishl, 1) := by decide +kernel
theorem dX6_who_45 : decode cX6_who 45 = .ok (.ior, 1) := by decide +kernel
theorem dX6_who_46 : decode cX6_who 46 = .ok (.istore_n 2, 1) := by decide +kernel
theorem dX6_who_47 : decode cX6_who 47 = .ok (.iinc 3 1, 3) := by decide +kernel
theorem dX6_who_50 : decode cX6_who 50 = .ok (.goto (-35), 3) := by decide +kernel
theorem dX6_who_53 : decode cX6_who 53 = .ok (.iload_n 2, 1) := by decide +kernel
theorem dX6_who_54 : decode cX6_who 54 = .ok (.ireturn, 1) := by decide +kernel
theorem dX6_suspects_0 : decode cX6_suspects 0 = .ok (.aload_n 0, 1) := by decide +kernel
theorem dX6_suspects_1 : decode cX6_suspects 1 = .ok (.iload_n 1, 1) := by decide +kernel
theorem dX6_suspects_2 : decode cX6_suspects 2 = .ok (.invokevirtual 228, 3) := by decide +kernel
theorem dX6_suspects_5 : decode cX6_suspects 5 = .ok (.ifCond .eq 12, 3) := by decide +kernel
theorem dX6_suspects_8 : decode cX6_suspects 8 = .ok (.iload_n 2, 1) := by decide +kernel
theorem dX6_suspects_9 : decode cX6_suspects 9 = .ok (.ifCond .lt 8, 3) := by decide +kernel
theorem dX6_suspects_12 : decode cX6_suspects 12 = .ok (.iload_n 2, 1) := by decide +kernel
theorem dX6_suspects_13 : decode cX6_suspects 13 = .ok (.iconst 2, 1) := by decide +kernel
theorem dX6_suspects_14 : decode cX6_suspects 14 = .ok (.if_icmp .le 6, 3) := by decide +kernel
theorem dX6_suspects_17 : decode cX6_suspects 17 = .ok (.bipush (-2), 2) := by decide +kernel
theorem dX6_suspects_19 : decode cX6_suspects 19 = .ok (.ireturn, 1) := by decide +kernel
theorem dX6_suspects_20 : decode cX6_suspects 20 = .ok (.aload_n 0, 1) := by decide +kernel
theorem dX6_suspects_21 : decode cX6_suspects 21 = .ok (.getfield 36, 3) := by decide +kernel
theorem dX6_suspects_24 : decode cX6_suspects 24 = .ok (.aload_n 0, 1) := by decide +kernel
theorem dX6_suspects_25 : decode cX6_suspects 25 = .ok (.getfield 19, 3) := by decide +kernel
theorem dX6_suspects_28 : decode cX6_suspects 28 = .ok (.invokevirtual 194, 3) := by decide +kernel
theorem dX6_suspects_31 : decode cX6_suspects 31 = .ok (.iconst 1, 1) := by decide +kernel
theorem dX6_suspects_32 : decode cX6_suspects 32 = .ok (.aload_n 0, 1) := by decide +kernel
theorem dX6_suspects_33 : decode cX6_suspects 33 = .ok (.getfield 19, 3) := by decide +kernel
theorem dX6_suspects_36 : decode cX6_suspects 36 = .ok (.invokevirtual 85, 3) := by decide +kernel
theorem dX6_suspects_39 : decode cX6_suspects 39 = .ok (.ishl, 1) := by decide +kernel
theorem dX6_suspects_40 : decode cX6_suspects 40 = .ok (.iconst 1, 1) := by decide +kernel
theorem dX6_suspects_41 : decode cX6_suspects 41 = .ok (.isub, 1) := by decide +kernel
theorem dX6_suspects_42 : decode cX6_suspects 42 = .ok (.istore_n 3, 1) := by decide +kernel
theorem dX6_suspects_43 : decode cX6_suspects 43 = .ok (.iconst 0, 1) := by decide +kernel
theorem dX6_suspects_44 : decode cX6_suspects 44 = .ok (.istore 4, 2) := by decide +kernel
theorem dX6_suspects_46 : decode cX6_suspects 46 = .ok (.iload_n 3, 1) := by decide +kernel
theorem dX6_suspects_47 : decode cX6_suspects 47 = .ok (.istore 5, 2) := by decide +kernel
theorem dX6_suspects_49 : decode cX6_suspects 49 = .ok (.iconst 0, 1) := by decide +kernel
theorem dX6_suspects_50 : decode cX6_suspects 50 = .ok (.istore 6, 2) := by decide +kernel
theorem dX6_suspects_52 : decode cX6_suspects 52 = .ok (.iconst 0, 1) := by decide +kernel
theorem dX6_suspects_53 : decode cX6_suspects 53 = .ok (.istore 7, 2) := by decide +kernel
theorem dX6_suspects_55 : decode cX6_suspects 55 = .ok (.iload 7, 2) := by decide +kernel
theorem dX6_suspects_57 : decode cX6_suspects 57 = .ok (.iload_n 3, 1) := by decide +kernel
theorem dX6_suspects_58 : decode cX6_suspects 58 = .ok (.if_icmp .gt 55, 3) := by decide +kernel
theorem dX6_suspects_61 : decode cX6_suspects 61 = .ok (.aload_n 0, 1) := by decide +kernel
theorem dX6_suspects_62 : decode cX6_suspects 62 = .ok (.getfield 36, 3) := by decide +kernel
theorem dX6_suspects_65 : decode cX6_suspects 65 = .ok (.iload 7, 2) := by decide +kernel
theorem dX6_suspects_67 : decode cX6_suspects 67 = .ok (.iload_n 1, 1) := by decide +kernel
theorem dX6_suspects_68 : decode cX6_suspects 68 = .ok (.invokevirtual 231, 3) := by decide +kernel
theorem dX6_suspects_71 : decode cX6_suspects 71 = .ok (.ifCond .eq 36, 3) := by decide +kernel
theorem dX6_suspects_74 : decode cX6_suspects 74 = .ok (.iload_n 1, 1) := by decide +kernel
theorem dX6_suspects_75 : decode cX6_suspects 75 = .ok (.aload_n 0, 1) := by decide +kernel
theorem dX6_suspects_76 : decode cX6_suspects 76 = .ok (.getfield 36, 3) := by decide +kernel
theorem dX6_suspects_79 : decode cX6_suspects 79 = .ok (.iload 7, 2) := by decide +kernel
theorem dX6_suspects_81 : decode cX6_suspects 81 = .ok (.invokevirtual 234, 3) := by decide +kernel
theorem dX6_suspects_84 : decode cX6_suspects 84 = .ok (.iconst (-1), 1) := by decide +kernel
theorem dX6_suspects_85 : decode cX6_suspects 85 = .ok (.ixor, 1) := by decide +kernel
theorem dX6_suspects_86 : decode cX6_suspects 86 = .ok (.iand, 1) := by decide +kernel
theorem dX6_suspects_87 : decode cX6_suspects 87 = .ok (.ifCond .ne 20, 3) := by decide +kernel
theorem dX6_suspects_90 : decode cX6_suspects 90 = .ok (.iinc 4 1, 3) := by decide +kernel
theorem dX6_suspects_93 : decode cX6_suspects 93 = .ok (.iload 5, 2) := by decide +kernel
theorem dX6_suspects_95 : decode cX6_suspects 95 = .ok (.iload 7, 2) := by decide +kernel
theorem dX6_suspects_97 : decode cX6_suspects 97 = .ok (.iand, 1) := by decide +kernel
theorem dX6_suspects_98 : decode cX6_suspects 98 = .ok (.istore 5, 2) := by decide +kernel
theorem dX6_suspects_100 : decode cX6_suspects 100 = .ok (.iload 6, 2) := by decide +kernel
theorem dX6_suspects_102 : decode cX6_suspects 102 = .ok (.iload 7, 2) := by decide +kernel
theorem dX6_suspects_104 : decode cX6_suspects 104 = .ok (.ior, 1) := by decide +kernel
theorem dX6_suspects_105 : decode cX6_suspects 105 = .ok (.istore 6, 2) := by decide +kernel
theorem dX6_suspects_107 : decode cX6_suspects 107 = .ok (.iinc 7 1, 3) := by decide +kernel
theorem dX6_suspects_110 : decode cX6_suspects 110 = .ok (.goto (-55), 3) := by decide +kernel
theorem dX6_suspects_113 : decode cX6_suspects 113 = .ok (.iload_n 2, 1) := by decide +kernel
theorem dX6_suspects_114 : decode cX6_suspects 114 = .ok (.ifCond .ne 6, 3) := by decide +kernel
theorem dX6_suspects_117 : decode cX6_suspects 117 = .ok (.iload 4, 2) := by decide +kernel
theorem dX6_suspects_119 : decode cX6_suspects 119 = .ok (.ireturn, 1) := by decide +kernel
theorem dX6_suspects_120 : decode cX6_suspects 120 = .ok (.iload 4, 2) := by decide +kernel
theorem dX6_suspects_122 : decode cX6_suspects 122 = .ok (.ifCond .ne 6, 3) := by decide +kernel
theorem dX6_suspects_125 : decode cX6_suspects 125 = .ok (.bipush (-9), 2) := by decide +kernel
theorem dX6_suspects_127 : decode cX6_suspects 127 = .ok (.ireturn, 1) := by decide +kernel
theorem dX6_suspects_128 : decode cX6_suspects 128 = .ok (.iload_n 2, 1) := by decide +kernel
theorem dX6_suspects_129 : decode cX6_suspects 129 = .ok (.iconst 1, 1) := by decide +kernel
theorem dX6_suspects_130 : decode cX6_suspects 130 = .ok (.if_icmp .ne 8, 3) := by decide +kernel
theorem dX6_suspects_133 : decode cX6_suspects 133 = .ok (.iload 5, 2) := by decide +kernel
theorem dX6_suspects_135 : decode cX6_suspects 135 = .ok (.goto 9, 3) := by decide +kernel
theorem dX6_suspects_138 : decode cX6_suspects 138 = .ok (.iload_n 3, 1) := by decide +kernel
theorem dX6_suspects_139 : decode cX6_suspects 139 = .ok (.iload 6, 2) := by decide +kernel
theorem dX6_suspects_141 : decode cX6_suspects 141 = .ok (.iconst (-1), 1) := by decide +kernel
theorem dX6_suspects_142 : decode cX6_suspects 142 = .ok (.ixor, 1) := by decide +kernel
theorem dX6_suspects_143 : decode cX6_suspects 143 = .ok (.iand, 1) := by decide +kernel
theorem dX6_suspects_144 : decode cX6_suspects 144 = .ok (.ireturn, 1) := by decide +kernel
theorem dX6_rests_0 : decode cX6_rests 0 = .ok (.aload_n 0, 1) := by decide +kernel
theorem dX6_rests_1 : decode cX6_rests 1 = .ok (.getfield 19, 3) := by decide +kernel
theorem dX6_rests_4 : decode cX6_rests 4 = .ok (.iload_n 1, 1) := by decide +kernel
theorem dX6_rests_5 : decode cX6_rests 5 = .ok (.invokevirtual 91, 3) := by decide +kernel
theorem dX6_rests_8 : decode cX6_rests 8 = .ok (.ifCond .eq 14, 3) := by decide +kernel
theorem dX6_rests_11 : decode cX6_rests 11 = .ok (.aload_n 0, 1) := by decide +kernel
theorem dX6_rests_12 : decode cX6_rests 12 = .ok (.getfield 19, 3) := by decide +kernel
theorem dX6_rests_15 : decode cX6_rests 15 = .ok (.iload_n 2, 1) := by decide +kernel
theorem dX6_rests_16 : decode cX6_rests 16 = .ok (.invokevirtual 91, 3) := by decide +kernel
theorem dX6_rests_19 : decode cX6_rests 19 = .ok (.ifCond .ne 5, 3) := by decide +kernel
theorem dX6_rests_22 : decode cX6_rests 22 = .ok (.iconst (-1), 1) := by decide +kernel
theorem dX6_rests_23 : decode cX6_rests 23 = .ok (.ireturn, 1) := by decide +kernel
theorem dX6_rests_24 : decode cX6_rests 24 = .ok (.iload_n 1, 1) := by decide +kernel
theorem dX6_rests_25 : decode cX6_rests 25 = .ok (.iload_n 2, 1) := by decide +kernel
theorem dX6_rests_26 : decode cX6_rests 26 = .ok (.if_icmp .eq 12, 3) := by decide +kernel
theorem dX6_rests_29 : decode cX6_rests 29 = .ok (.iload_n 3, 1) := by decide +kernel
theorem dX6_rests_30 : decode cX6_rests 30 = .ok (.ifCond .lt 8, 3) := by decide +kernel
theorem dX6_rests_33 : decode cX6_rests 33 = .ok (.iload_n 3, 1) := by decide +kernel
theorem dX6_rests_34 : decode cX6_rests 34 = .ok (.iconst 1, 1) := by decide +kernel
theorem dX6_rests_35 : decode cX6_rests 35 = .ok (.if_icmp .le 6, 3) := by decide +kernel
theorem dX6_rests_38 : decode cX6_rests 38 = .ok (.bipush (-2), 2) := by decide +kernel
theorem dX6_rests_40 : decode cX6_rests 40 = .ok (.ireturn, 1) := by decide +kernel
theorem dX6_rests_41 : decode cX6_rests 41 = .ok (.aload_n 0, 1) := by decide +kernel
theorem dX6_rests_42 : decode cX6_rests 42 = .ok (.getfield 19, 3) := by decide +kernel
theorem dX6_rests_45 : decode cX6_rests 45 = .ok (.iload_n 1, 1) := by decide +kernel
theorem dX6_rests_46 : decode cX6_rests 46 = .ok (.iload_n 2, 1) := by decide +kernel
theorem dX6_rests_47 : decode cX6_rests 47 = .ok (.invokevirtual 131, 3) := by decide +kernel
theorem dX6_rests_50 : decode cX6_rests 50 = .ok (.ifCond .ne 6, 3) := by decide +kernel
theorem dX6_rests_53 : decode cX6_rests 53 = .ok (.bipush (-9), 2) := by decide +kernel
theorem dX6_rests_55 : decode cX6_rests 55 = .ok (.ireturn, 1) := by decide +kernel
theorem dX6_rests_56 : decode cX6_rests 56 = .ok (.aload_n 0, 1) := by decide +kernel
theorem dX6_rests_57 : decode cX6_rests 57 = .ok (.getfield 50, 3) := by decide +kernel
theorem dX6_rests_60 : decode cX6_rests 60 = .ok (.aload_n 0, 1) := by decide +kernel
theorem dX6_rests_61 : decode cX6_rests 61 = .ok (.getfield 19, 3) := by decide +kernel
theorem dX6_rests_64 : decode cX6_rests 64 = .ok (.iload_n 1, 1) := by decide +kernel
theorem dX6_rests_65 : decode cX6_rests 65 = .ok (.iload_n 2, 1) := by decide +kernel
theorem dX6_rests_66 : decode cX6_rests 66 = .ok (.invokevirtual 237, 3) := by decide +kernel
theorem dX6_rests_69 : decode cX6_rests 69 = .ok (.iload_n 3, 1) := by decide +kernel
theorem dX6_rests_70 : decode cX6_rests 70 = .ok (.ifCond .ne 13, 3) := by decide +kernel
theorem dX6_rests_73 : decode cX6_rests 73 = .ok (.aload_n 0, 1) := by decide +kernel
theorem dX6_rests_74 : decode cX6_rests 74 = .ok (.getfield 50, 3) := by decide +kernel
theorem dX6_rests_77 : decode cX6_rests 77 = .ok (.invokevirtual 241, 3) := by decide +kernel
theorem dX6_rests_80 : decode cX6_rests 80 = .ok (.goto 10, 3) := by decide +kernel
theorem dX6_rests_83 : decode cX6_rests 83 = .ok (.aload_n 0, 1) := by decide +kernel
theorem dX6_rests_84 : decode cX6_rests 84 = .ok (.getfield 50, 3) := by decide +kernel
theorem dX6_rests_87 : decode cX6_rests 87 = .ok (.invokevirtual 244, 3) := by decide +kernel
theorem dX6_rests_90 : decode cX6_rests 90 = .ok (.ireturn, 1) := by decide +kernel
theorem dX6_chance_0 : decode cX6_chance 0 = .ok (.iload_n 1, 1) := by decide +kernel
theorem dX6_chance_1 : decode cX6_chance 1 = .ok (.ifCond .lt 18, 3) := by decide +kernel
theorem dX6_chance_4 : decode cX6_chance 4 = .ok (.iload_n 1, 1) := by decide +kernel
theorem dX6_chance_5 : decode cX6_chance 5 = .ok (.iconst 5, 1) := by decide +kernel
theorem dX6_chance_6 : decode cX6_chance 6 = .ok (.if_icmp .gt 13, 3) := by decide +kernel
theorem dX6_chance_9 : decode cX6_chance 9 = .ok (.iload_n 2, 1) := by decide +kernel
theorem dX6_chance_10 : decode cX6_chance 10 = .ok (.ifCond .lt 9, 3) := by decide +kernel
theorem dX6_chance_13 : decode cX6_chance 13 = .ok (.iload_n 2, 1) := by decide +kernel
theorem dX6_chance_14 : decode cX6_chance 14 = .ok (.bipush 10, 2) := by decide +kernel
theorem dX6_chance_16 : decode cX6_chance 16 = .ok (.if_icmp .le 6, 3) := by decide +kernel
theorem dX6_chance_19 : decode cX6_chance 19 = .ok (.bipush (-2), 2) := by decide +kernel
theorem dX6_chance_21 : decode cX6_chance 21 = .ok (.ireturn, 1) := by decide +kernel
theorem dX6_chance_22 : decode cX6_chance 22 = .ok (.aload_n 0, 1) := by decide +kernel
theorem dX6_chance_23 : decode cX6_chance 23 = .ok (.getfield 19, 3) := by decide +kernel
theorem dX6_chance_26 : decode cX6_chance 26 = .ok (.invokevirtual 152, 3) := by decide +kernel
theorem dX6_chance_29 : decode cX6_chance 29 = .ok (.invokestatic 155, 3) := by decide +kernel
theorem dX6_chance_32 : decode cX6_chance 32 = .ok (.istore 4, 2) := by decide +kernel
theorem dX6_chance_34 : decode cX6_chance 34 = .ok (.iload 4, 2) := by decide +kernel
theorem dX6_chance_36 : decode cX6_chance 36 = .ok (.iload_n 1, 1) := by decide +kernel
theorem dX6_chance_37 : decode cX6_chance 37 = .ok (.isub, 1) := by decide +kernel
theorem dX6_chance_38 : decode cX6_chance 38 = .ok (.istore 5, 2) := by decide +kernel
theorem dX6_chance_40 : decode cX6_chance 40 = .ok (.iload 5, 2) := by decide +kernel
theorem dX6_chance_42 : decode cX6_chance 42 = .ok (.ifCond .ge 10, 3) := by decide +kernel
theorem dX6_chance_45 : decode cX6_chance 45 = .ok (.iconst 0, 1) := by decide +kernel
theorem dX6_chance_46 : decode cX6_chance 46 = .ok (.iconst 1, 1) := by decide +kernel
theorem dX6_chance_47 : decode cX6_chance 47 = .ok (.iload_n 3, 1) := by decide +kernel
theorem dX6_chance_48 : decode cX6_chance 48 = .ok (.invokestatic 209, 3) := by decide +kernel
theorem dX6_chance_51 : decode cX6_chance 51 = .ok (.ireturn, 1) := by decide +kernel
theorem dX6_chance_52 : decode cX6_chance 52 = .ok (.iload 4, 2) := by decide +kernel
theorem dX6_chance_54 : decode cX6_chance 54 = .ok (.iload_n 1, 1) := by decide +kernel
theorem dX6_chance_55 : decode cX6_chance 55 = .ok (.invokestatic 247, 3) := by decide +kernel
theorem dX6_chance_58 : decode cX6_chance 58 = .ok (.iload_n 2, 1) := by decide +kernel
theorem dX6_chance_59 : decode cX6_chance 59 = .ok (.iload_n 1, 1) := by decide +kernel
theorem dX6_chance_60 : decode cX6_chance 60 = .ok (.invokestatic 250, 3) := by decide +kernel
theorem dX6_chance_63 : decode cX6_chance 63 = .ok (.imul, 1) := by decide +kernel
theorem dX6_chance_64 : decode cX6_chance 64 = .ok (.bipush 10, 2) := by decide +kernel
theorem dX6_chance_66 : decode cX6_chance 66 = .ok (.iload_n 2, 1) := by decide +kernel
theorem dX6_chance_67 : decode cX6_chance 67 = .ok (.isub, 1) := by decide +kernel
theorem dX6_chance_68 : decode cX6_chance 68 = .ok (.iload 5, 2) := by decide +kernel
theorem dX6_chance_70 : decode cX6_chance 70 = .ok (.invokestatic 250, 3) := by decide +kernel
theorem dX6_chance_73 : decode cX6_chance 73 = .ok (.imul, 1) := by decide +kernel
theorem dX6_chance_74 : decode cX6_chance 74 = .ok (.istore 6, 2) := by decide +kernel
theorem dX6_chance_76 : decode cX6_chance 76 = .ok (.iload 6, 2) := by decide +kernel
theorem dX6_chance_78 : decode cX6_chance 78 = .ok (.bipush 10, 2) := by decide +kernel
theorem dX6_chance_80 : decode cX6_chance 80 = .ok (.iload 4, 2) := by decide +kernel
theorem dX6_chance_82 : decode cX6_chance 82 = .ok (.invokestatic 250, 3) := by decide +kernel
theorem dX6_chance_85 : decode cX6_chance 85 = .ok (.iload_n 3, 1) := by decide +kernel
theorem dX6_chance_86 : decode cX6_chance 86 = .ok (.invokestatic 209, 3) := by decide +kernel
theorem dX6_chance_89 : decode cX6_chance 89 = .ok (.ireturn, 1) := by decide +kernel
theorem dX6_seed_0 : decode cX6_seed 0 = .ok (.aload_n 0, 1) := by decide +kernel
theorem dX6_seed_1 : decode cX6_seed 1 = .ok (.getfield 253, 3) := by decide +kernel
theorem dX6_seed_4 : decode cX6_seed 4 = .ok (.lstore_n 3, 1) := by decide +kernel
theorem dX6_seed_5 : decode cX6_seed 5 = .ok (.aload_n 0, 1) := by decide +kernel
theorem dX6_seed_6 : decode cX6_seed 6 = .ok (.lload_n 1, 1) := by decide +kernel
theorem dX6_seed_7 : decode cX6_seed 7 = .ok (.putfield 253, 3) := by decide +kernel
theorem dX6_seed_10 : decode cX6_seed 10 = .ok (.lload_n 3, 1) := by decide +kernel
theorem dX6_seed_11 : decode cX6_seed 11 = .ok (.lreturn, 1) := by decide +kernel
theorem dX6_villages_0 : decode cX6_villages 0 = .ok (.iload_n 1, 1) := by decide +kernel
theorem dX6_villages_1 : decode cX6_villages 1 = .ok (.iconst 1, 1) := by decide +kernel
theorem dX6_villages_2 : decode cX6_villages 2 = .ok (.if_icmp .lt 9, 3) := by decide +kernel
theorem dX6_villages_5 : decode cX6_villages 5 = .ok (.iload_n 1, 1) := by decide +kernel
theorem dX6_villages_6 : decode cX6_villages 6 = .ok (.bipush 30, 2) := by decide +kernel
theorem dX6_villages_8 : decode cX6_villages 8 = .ok (.if_icmp .le 6, 3) := by decide +kernel
theorem dX6_villages_11 : decode cX6_villages 11 = .ok (.bipush (-2), 2) := by decide +kernel
theorem dX6_villages_13 : decode cX6_villages 13 = .ok (.ireturn, 1) := by decide +kernel
theorem dX6_villages_14 : decode cX6_villages 14 = .ok (.aload_n 0, 1) := by decide +kernel
theorem dX6_villages_15 : decode cX6_villages 15 = .ok (.getfield 23, 3) := by decide +kernel
theorem dX6_villages_18 : decode cX6_villages 18 = .ok (.aload_n 0, 1) := by decide +kernel
theorem dX6_villages_19 : decode cX6_villages 19 = .ok (.getfield 19, 3) := by decide +kernel
theorem dX6_villages_22 : decode cX6_villages 22 = .ok (.invokevirtual 76, 3) := by decide +kernel
theorem dX6_villages_25 : decode cX6_villages 25 = .ok (.iconst 0, 1) := by decide +kernel
theorem dX6_villages_26 : decode cX6_villages 26 = .ok (.istore_n 2, 1) := by decide +kernel
theorem dX6_villages_27 : decode cX6_villages 27 = .ok (.iload_n 2, 1) := by decide +kernel
theorem dX6_villages_28 : decode cX6_villages 28 = .ok (.iload_n 1, 1) := by decide +kernel
theorem dX6_villages_29 : decode cX6_villages 29 = .ok (.if_icmp .ge 61, 3) := by decide +kernel
theorem dX6_villages_32 : decode cX6_villages 32 = .ok (.aload_n 0, 1) := by decide +kernel
theorem dX6_villages_33 : decode cX6_villages 33 = .ok (.aload_n 0, 1) := by decide +kernel
theorem dX6_villages_34 : decode cX6_villages 34 = .ok (.getfield 253, 3) := by decide +kernel
theorem dX6_villages_37 : decode cX6_villages 37 = .ok (.ldc2_w 257, 3) := by decide +kernel
theorem dX6_villages_40 : decode cX6_villages 40 = .ok (.lmul, 1) := by decide +kernel
theorem dX6_villages_41 : decode cX6_villages 41 = .ok (.ldc2_w 259, 3) := by decide +kernel
theorem dX6_villages_44 : decode cX6_villages 44 = .ok (.ladd, 1) := by decide +kernel
theorem dX6_villages_45 : decode cX6_villages 45 = .ok (.putfield 253, 3) := by decide +kernel
theorem dX6_villages_48 : decode cX6_villages 48 = .ok (.aload_n 0, 1) := by decide +kernel
theorem dX6_villages_49 : decode cX6_villages 49 = .ok (.getfield 253, 3) := by decide +kernel
theorem dX6_villages_52 : decode cX6_villages 52 = .ok (.bipush 33, 2) := by decide +kernel
theorem dX6_villages_54 : decode cX6_villages 54 = .ok (.lushr, 1) := by decide +kernel
theorem dX6_villages_55 : decode cX6_villages 55 = .ok (.l2i, 1) := by decide +kernel
theorem dX6_villages_56 : decode cX6_villages 56 = .ok (.bipush 30, 2) := by decide +kernel
theorem dX6_villages_58 : decode cX6_villages 58 = .ok (.irem, 1) := by decide +kernel
theorem dX6_villages_59 : decode cX6_villages 59 = .ok (.istore_n 3, 1) := by decide +kernel
theorem dX6_villages_60 : decode cX6_villages 60 = .ok (.aload_n 0, 1) := by decide +kernel
theorem dX6_villages_61 : decode cX6_villages 61 = .ok (.iload_n 3, 1) := by decide +kernel
theorem dX6_villages_62 : decode cX6_villages 62 = .ok (.bipush 6, 2) := by decide +kernel
theorem dX6_villages_64 : decode cX6_villages 64 = .ok (.idiv, 1) := by decide +kernel
theorem dX6_villages_65 : decode cX6_villages 65 = .ok (.iload_n 3, 1) := by decide +kernel
theorem dX6_villages_66 : decode cX6_villages 66 = .ok (.bipush 6, 2) := by decide +kernel
theorem dX6_villages_68 : decode cX6_villages 68 = .ok (.irem, 1) := by decide +kernel
theorem dX6_villages_69 : decode cX6_villages 69 = .ok (.invokevirtual 261, 3) := by decide +kernel
theorem dX6_villages_72 : decode cX6_villages 72 = .ok (.pop, 1) := by decide +kernel
theorem dX6_villages_73 : decode cX6_villages 73 = .ok (.aload_n 0, 1) := by decide +kernel
theorem dX6_villages_74 : decode cX6_villages 74 = .ok (.getfield 23, 3) := by decide +kernel
theorem dX6_villages_77 : decode cX6_villages 77 = .ok (.invokevirtual 149, 3) := by decide +kernel
theorem dX6_villages_80 : decode cX6_villages 80 = .ok (.aload_n 0, 1) := by decide +kernel
theorem dX6_villages_81 : decode cX6_villages 81 = .ok (.invokevirtual 264, 3) := by decide +kernel
theorem dX6_villages_84 : decode cX6_villages 84 = .ok (.iinc 2 1, 3) := by decide +kernel
theorem dX6_villages_87 : decode cX6_villages 87 = .ok (.goto (-60), 3) := by decide +kernel
theorem dX6_villages_90 : decode cX6_villages 90 = .ok (.aload_n 0, 1) := by decide +kernel
theorem dX6_villages_91 : decode cX6_villages 91 = .ok (.getfield 23, 3) := by decide +kernel
theorem dX6_villages_94 : decode cX6_villages 94 = .ok (.invokevirtual 267, 3) := by decide +kernel
theorem dX6_villages_97 : decode cX6_villages 97 = .ok (.ireturn, 1) := by decide +kernel
theorem dX6_keep_0 : decode cX6_keep 0 = .ok (.iload_n 1, 1) := by decide +kernel
theorem dX6_keep_1 : decode cX6_keep 1 = .ok (.ifCond .lt 8, 3) := by decide +kernel
theorem dX6_keep_4 : decode cX6_keep 4 = .ok (.iload_n 1, 1) := by decide +kernel
theorem dX6_keep_5 : decode cX6_keep 5 = .ok (.iconst 2, 1) := by decide +kernel
theorem dX6_keep_6 : decode cX6_keep 6 = .ok (.if_icmp .lt 5, 3) := by decide +kernel
theorem dX6_keep_9 : decode cX6_keep 9 = .ok (.iconst (-1), 1) := by decide +kernel
theorem dX6_keep_10 : decode cX6_keep 10 = .ok (.ireturn, 1) := by decide +kernel
theorem dX6_keep_11 : decode cX6_keep 11 = .ok (.aload_n 0, 1) := by decide +kernel
theorem dX6_keep_12 : decode cX6_keep 12 = .ok (.getfield 19, 3) := by decide +kernel
theorem dX6_keep_15 : decode cX6_keep 15 = .ok (.aload_n 0, 1) := by decide +kernel
theorem dX6_keep_16 : decode cX6_keep 16 = .ok (.getfield 54, 3) := by decide +kernel
theorem dX6_keep_19 : decode cX6_keep 19 = .ok (.iload_n 1, 1) := by decide +kernel
theorem dX6_keep_20 : decode cX6_keep 20 = .ok (.invokevirtual 270, 3) := by decide +kernel
theorem dX6_keep_23 : decode cX6_keep 23 = .ok (.aload_n 0, 1) := by decide +kernel
theorem dX6_keep_24 : decode cX6_keep 24 = .ok (.dup, 1) := by decide +kernel
theorem dX6_keep_25 : decode cX6_keep 25 = .ok (.getfield 81, 3) := by decide +kernel
theorem dX6_keep_28 : decode cX6_keep 28 = .ok (.iconst 1, 1) := by decide +kernel
theorem dX6_keep_29 : decode cX6_keep 29 = .ok (.iload_n 1, 1) := by decide +kernel
theorem dX6_keep_30 : decode cX6_keep 30 = .ok (.ishl, 1) := by decide +kernel
theorem dX6_keep_31 : decode cX6_keep 31 = .ok (.ior, 1) := by decide +kernel
theorem dX6_keep_32 : decode cX6_keep 32 = .ok (.putfield 81, 3) := by decide +kernel
theorem dX6_keep_35 : decode cX6_keep 35 = .ok (.aload_n 0, 1) := by decide +kernel
theorem dX6_keep_36 : decode cX6_keep 36 = .ok (.getfield 19, 3) := by decide +kernel
theorem dX6_keep_39 : decode cX6_keep 39 = .ok (.invokevirtual 274, 3) := by decide +kernel
theorem dX6_keep_42 : decode cX6_keep 42 = .ok (.ireturn, 1) := by decide +kernel
theorem dX6_again_0 : decode cX6_again 0 = .ok (.iload_n 1, 1) := by decide +kernel
theorem dX6_again_1 : decode cX6_again 1 = .ok (.ifCond .lt 8, 3) := by decide +kernel
theorem dX6_again_4 : decode cX6_again 4 = .ok (.iload_n 1, 1) := by decide +kernel
theorem dX6_again_5 : decode cX6_again 5 = .ok (.iconst 2, 1) := by decide +kernel
theorem dX6_again_6 : decode cX6_again 6 = .ok (.if_icmp .lt 5, 3) := by decide +kernel
theorem dX6_again_9 : decode cX6_again 9 = .ok (.iconst (-1), 1) := by decide +kernel
theorem dX6_again_10 : decode cX6_again 10 = .ok (.ireturn, 1) := by decide +kernel
theorem dX6_again_11 : decode cX6_again 11 = .ok (.aload_n 0, 1) := by decide +kernel
theorem dX6_again_12 : decode cX6_again 12 = .ok (.getfield 81, 3) := by decide +kernel
theorem dX6_again_15 : decode cX6_again 15 = .ok (.iload_n 1, 1) := by decide +kernel
theorem dX6_again_16 : decode cX6_again 16 = .ok (.invokestatic 186, 3) := by decide +kernel
theorem dX6_again_19 : decode cX6_again 19 = .ok (.ifCond .ne 6, 3) := by decide +kernel
theorem dX6_again_22 : decode cX6_again 22 = .ok (.bipush (-3), 2) := by decide +kernel
theorem dX6_again_24 : decode cX6_again 24 = .ok (.ireturn, 1) := by decide +kernel
theorem dX6_again_25 : decode cX6_again 25 = .ok (.aload_n 0, 1) := by decide +kernel
theorem dX6_again_26 : decode cX6_again 26 = .ok (.getfield 19, 3) := by decide +kernel
theorem dX6_again_29 : decode cX6_again 29 = .ok (.aload_n 0, 1) := by decide +kernel
theorem dX6_again_30 : decode cX6_again 30 = .ok (.getfield 54, 3) := by decide +kernel
theorem dX6_again_33 : decode cX6_again 33 = .ok (.iload_n 1, 1) := by decide +kernel
theorem dX6_again_34 : decode cX6_again 34 = .ok (.invokevirtual 277, 3) := by decide +kernel
theorem dX6_again_37 : decode cX6_again 37 = .ok (.aload_n 0, 1) := by decide +kernel
theorem dX6_again_38 : decode cX6_again 38 = .ok (.getfield 29, 3) := by decide +kernel
theorem dX6_again_41 : decode cX6_again 41 = .ok (.invokevirtual 80, 3) := by decide +kernel
theorem dX6_again_44 : decode cX6_again 44 = .ok (.aload_n 0, 1) := by decide +kernel
theorem dX6_again_45 : decode cX6_again 45 = .ok (.getfield 19, 3) := by decide +kernel
theorem dX6_again_48 : decode cX6_again 48 = .ok (.invokevirtual 274, 3) := by decide +kernel
theorem dX6_again_51 : decode cX6_again 51 = .ok (.ireturn, 1) := by decide +kernel
theorem dX6_count_0 : decode cX6_count 0 = .ok (.iload_n 1, 1) := by decide +kernel
theorem dX6_count_1 : decode cX6_count 1 = .ok (.tableswitch 111 0 7 #[47, 55, 63, 71, 79, 87, 95, 103], 47) := by decide +kernel
theorem dX6_count_48 : decode cX6_count 48 = .ok (.aload_n 0, 1) := by decide +kernel
theorem dX6_count_49 : decode cX6_count 49 = .ok (.getfield 10, 3) := by decide +kernel
theorem dX6_count_52 : decode cX6_count 52 = .ok (.invokevirtual 65, 3) := by decide +kernel
theorem dX6_count_55 : decode cX6_count 55 = .ok (.ireturn, 1) := by decide +kernel
theorem dX6_count_56 : decode cX6_count 56 = .ok (.aload_n 0, 1) := by decide +kernel
theorem dX6_count_57 : decode cX6_count 57 = .ok (.getfield 19, 3) := by decide +kernel
theorem dX6_count_60 : decode cX6_count 60 = .ok (.invokevirtual 85, 3) := by decide +kernel
theorem dX6_count_63 : decode cX6_count 63 = .ok (.ireturn, 1) := by decide +kernel
theorem dX6_count_64 : decode cX6_count 64 = .ok (.aload_n 0, 1) := by decide +kernel
theorem dX6_count_65 : decode cX6_count 65 = .ok (.getfield 19, 3) := by decide +kernel
theorem dX6_count_68 : decode cX6_count 68 = .ok (.invokevirtual 88, 3) := by decide +kernel
theorem dX6_count_71 : decode cX6_count 71 = .ok (.ireturn, 1) := by decide +kernel
theorem dX6_count_72 : decode cX6_count 72 = .ok (.aload_n 0, 1) := by decide +kernel
theorem dX6_count_73 : decode cX6_count 73 = .ok (.getfield 19, 3) := by decide +kernel
theorem dX6_count_76 : decode cX6_count 76 = .ok (.invokevirtual 274, 3) := by decide +kernel
theorem dX6_count_79 : decode cX6_count 79 = .ok (.ireturn, 1) := by decide +kernel
theorem dX6_count_80 : decode cX6_count 80 = .ok (.aload_n 0, 1) := by decide +kernel
theorem dX6_count_81 : decode cX6_count 81 = .ok (.getfield 19, 3) := by decide +kernel
theorem dX6_count_84 : decode cX6_count 84 = .ok (.invokevirtual 152, 3) := by decide +kernel
theorem dX6_count_87 : decode cX6_count 87 = .ok (.ireturn, 1) := by decide +kernel
theorem dX6_count_88 : decode cX6_count 88 = .ok (.aload_n 0, 1) := by decide +kernel
theorem dX6_count_89 : decode cX6_count 89 = .ok (.getfield 19, 3) := by decide +kernel
theorem dX6_count_92 : decode cX6_count 92 = .ok (.invokevirtual 280, 3) := by decide +kernel
theorem dX6_count_95 : decode cX6_count 95 = .ok (.ireturn, 1) := by decide +kernel
theorem dX6_count_96 : decode cX6_count 96 = .ok (.aload_n 0, 1) := by decide +kernel
theorem dX6_count_97 : decode cX6_count 97 = .ok (.getfield 19, 3) := by decide +kernel
theorem dX6_count_100 : decode cX6_count 100 = .ok (.invokevirtual 267, 3) := by decide +kernel
theorem dX6_count_103 : decode cX6_count 103 = .ok (.ireturn, 1) := by decide +kernel
theorem dX6_count_104 : decode cX6_count 104 = .ok (.aload_n 0, 1) := by decide +kernel
theorem dX6_count_105 : decode cX6_count 105 = .ok (.getfield 29, 3) := by decide +kernel
theorem dX6_count_108 : decode cX6_count 108 = .ok (.invokevirtual 180, 3) := by decide +kernel
theorem dX6_count_111 : decode cX6_count 111 = .ok (.ireturn, 1) := by decide +kernel
theorem dX6_count_112 : decode cX6_count 112 = .ok (.bipush (-2), 2) := by decide +kernel
theorem dX6_count_114 : decode cX6_count 114 = .ok (.ireturn, 1) := by decide +kernel
theorem dX6_has_0 : decode cX6_has 0 = .ok (.iload_n 0, 1) := by decide +kernel
theorem dX6_has_1 : decode cX6_has 1 = .ok (.iload_n 1, 1) := by decide +kernel
theorem dX6_has_2 : decode cX6_has 2 = .ok (.ishr, 1) := by decide +kernel
theorem dX6_has_3 : decode cX6_has 3 = .ok (.iconst 1, 1) := by decide +kernel
theorem dX6_has_4 : decode cX6_has 4 = .ok (.iand, 1) := by decide +kernel
theorem dX6_has_5 : decode cX6_has 5 = .ok (.ifCond .eq 7, 3) := by decide +kernel
theorem dX6_has_8 : decode cX6_has 8 = .ok (.iconst 1, 1) := by decide +kernel
theorem dX6_has_9 : decode cX6_has 9 = .ok (.goto 4, 3) := by decide +kernel
theorem dX6_has_12 : decode cX6_has 12 = .ok (.iconst 0, 1) := by decide +kernel
theorem dX6_has_13 : decode cX6_has 13 = .ok (.ireturn, 1) := by decide +kernel
theorem dX6_areBeasts_0 : decode cX6_areBeasts 0 = .ok (.iload_n 1, 1) := by decide +kernel
theorem dX6_areBeasts_1 : decode cX6_areBeasts 1 = .ok (.ifCond .lt 20, 3) := by decide +kernel
theorem dX6_areBeasts_4 : decode cX6_areBeasts 4 = .ok (.iload_n 1, 1) := by decide +kernel
theorem dX6_areBeasts_5 : decode cX6_areBeasts 5 = .ok (.iconst 1, 1) := by decide +kernel
theorem dX6_areBeasts_6 : decode cX6_areBeasts 6 = .ok (.aload_n 0, 1) := by decide +kernel
theorem dX6_areBeasts_7 : decode cX6_areBeasts 7 = .ok (.getfield 19, 3) := by decide +kernel
theorem dX6_areBeasts_10 : decode cX6_areBeasts 10 = .ok (.invokevirtual 88, 3) := by decide +kernel
theorem dX6_areBeasts_13 : decode cX6_areBeasts 13 = .ok (.ishl, 1) := by decide +kernel
theorem dX6_areBeasts_14 : decode cX6_areBeasts 14 = .ok (.if_icmp .ge 7, 3) := by decide +kernel
theorem dX6_areBeasts_17 : decode cX6_areBeasts 17 = .ok (.iconst 1, 1) := by decide +kernel
theorem dX6_areBeasts_18 : decode cX6_areBeasts 18 = .ok (.goto 4, 3) := by decide +kernel
theorem dX6_areBeasts_21 : decode cX6_areBeasts 21 = .ok (.iconst 0, 1) := by decide +kernel
theorem dX6_areBeasts_22 : decode cX6_areBeasts 22 = .ok (.ireturn, 1) := by decide +kernel
theorem dX6_owedAfterKeeping_0 : decode cX6_owedAfterKeeping 0 = .ok (.aload_n 0, 1) := by decide +kernel
theorem dX6_owedAfterKeeping_1 : decode cX6_owedAfterKeeping 1 = .ok (.getfield 23, 3) := by decide +kernel
theorem dX6_owedAfterKeeping_4 : decode cX6_owedAfterKeeping 4 = .ok (.aload_n 0, 1) := by decide +kernel
theorem dX6_owedAfterKeeping_5 : decode cX6_owedAfterKeeping 5 = .ok (.getfield 19, 3) := by decide +kernel
theorem dX6_owedAfterKeeping_8 : decode cX6_owedAfterKeeping 8 = .ok (.invokevirtual 76, 3) := by decide +kernel
theorem dX6_owedAfterKeeping_11 : decode cX6_owedAfterKeeping 11 = .ok (.aload_n 0, 1) := by decide +kernel
theorem dX6_owedAfterKeeping_12 : decode cX6_owedAfterKeeping 12 = .ok (.getfield 23, 3) := by decide +kernel
theorem dX6_owedAfterKeeping_15 : decode cX6_owedAfterKeeping 15 = .ok (.iload_n 1, 1) := by decide +kernel
theorem dX6_owedAfterKeeping_16 : decode cX6_owedAfterKeeping 16 = .ok (.iload_n 3, 1) := by decide +kernel
theorem dX6_owedAfterKeeping_17 : decode cX6_owedAfterKeeping 17 = .ok (.invokevirtual 141, 3) := by decide +kernel
theorem dX6_owedAfterKeeping_20 : decode cX6_owedAfterKeeping 20 = .ok (.iconst 0, 1) := by decide +kernel
theorem dX6_owedAfterKeeping_21 : decode cX6_owedAfterKeeping 21 = .ok (.istore 4, 2) := by decide +kernel
theorem dX6_owedAfterKeeping_23 : decode cX6_owedAfterKeeping 23 = .ok (.iload 4, 2) := by decide +kernel
theorem dX6_owedAfterKeeping_25 : decode cX6_owedAfterKeeping 25 = .ok (.iconst 3, 1) := by decide +kernel
theorem dX6_owedAfterKeeping_26 : decode cX6_owedAfterKeeping 26 = .ok (.if_icmp .ge 16, 3) := by decide +kernel
theorem dX6_owedAfterKeeping_29 : decode cX6_owedAfterKeeping 29 = .ok (.aload_n 0, 1) := by decide +kernel
theorem dX6_owedAfterKeeping_30 : decode cX6_owedAfterKeeping 30 = .ok (.getfield 23, 3) := by decide +kernel
theorem dX6_owedAfterKeeping_33 : decode cX6_owedAfterKeeping 33 = .ok (.invokevirtual 149, 3) := by decide +kernel
theorem dX6_owedAfterKeeping_36 : decode cX6_owedAfterKeeping 36 = .ok (.iinc 4 1, 3) := by decide +kernel
theorem dX6_owedAfterKeeping_39 : decode cX6_owedAfterKeeping 39 = .ok (.goto (-16), 3) := by decide +kernel
theorem dX6_owedAfterKeeping_42 : decode cX6_owedAfterKeeping 42 = .ok (.aload_n 0, 1) := by decide +kernel
theorem dX6_owedAfterKeeping_43 : decode cX6_owedAfterKeeping 43 = .ok (.getfield 23, 3) := by decide +kernel
theorem dX6_owedAfterKeeping_46 : decode cX6_owedAfterKeeping 46 = .ok (.iload_n 3, 1) := by decide +kernel
theorem dX6_owedAfterKeeping_47 : decode cX6_owedAfterKeeping 47 = .ok (.invokevirtual 170, 3) := by decide +kernel
theorem dX6_owedAfterKeeping_50 : decode cX6_owedAfterKeeping 50 = .ok (.ifCond .eq 11, 3) := by decide +kernel
theorem dX6_owedAfterKeeping_53 : decode cX6_owedAfterKeeping 53 = .ok (.aload_n 0, 1) := by decide +kernel
theorem dX6_owedAfterKeeping_54 : decode cX6_owedAfterKeeping 54 = .ok (.getfield 23, 3) := by decide +kernel
theorem dX6_owedAfterKeeping_57 : decode cX6_owedAfterKeeping 57 = .ok (.iload_n 3, 1) := by decide +kernel
theorem dX6_owedAfterKeeping_58 : decode cX6_owedAfterKeeping 58 = .ok (.invokevirtual 173, 3) := by decide +kernel
theorem dX6_owedAfterKeeping_61 : decode cX6_owedAfterKeeping 61 = .ok (.aload_n 0, 1) := by decide +kernel
theorem dX6_owedAfterKeeping_62 : decode cX6_owedAfterKeeping 62 = .ok (.getfield 23, 3) := by decide +kernel
theorem dX6_owedAfterKeeping_65 : decode cX6_owedAfterKeeping 65 = .ok (.iload_n 2, 1) := by decide +kernel
theorem dX6_owedAfterKeeping_66 : decode cX6_owedAfterKeeping 66 = .ok (.iload_n 1, 1) := by decide +kernel
theorem dX6_owedAfterKeeping_67 : decode cX6_owedAfterKeeping 67 = .ok (.invokevirtual 131, 3) := by decide +kernel
theorem dX6_owedAfterKeeping_70 : decode cX6_owedAfterKeeping 70 = .ok (.ireturn, 1) := by decide +kernel
theorem dX6_happens_0 : decode cX6_happens 0 = .ok (.iload_n 1, 1) := by decide +kernel
theorem dX6_happens_1 : decode cX6_happens 1 = .ok (.bipush 100, 2) := by decide +kernel
theorem dX6_happens_3 : decode cX6_happens 3 = .ok (.idiv, 1) := by decide +kernel
theorem dX6_happens_4 : decode cX6_happens 4 = .ok (.iconst 1, 1) := by decide +kernel
theorem dX6_happens_5 : decode cX6_happens 5 = .ok (.isub, 1) := by decide +kernel
theorem dX6_happens_6 : decode cX6_happens 6 = .ok (.istore_n 2, 1) := by decide +kernel
theorem dX6_happens_7 : decode cX6_happens 7 = .ok (.iload_n 1, 1) := by decide +kernel
theorem dX6_happens_8 : decode cX6_happens 8 = .ok (.bipush 10, 2) := by decide +kernel
theorem dX6_happens_10 : decode cX6_happens 10 = .ok (.idiv, 1) := by decide +kernel
theorem dX6_happens_11 : decode cX6_happens 11 = .ok (.bipush 10, 2) := by decide +kernel
theorem dX6_happens_13 : decode cX6_happens 13 = .ok (.irem, 1) := by decide +kernel
theorem dX6_happens_14 : decode cX6_happens 14 = .ok (.iconst 1, 1) := by decide +kernel
theorem dX6_happens_15 : decode cX6_happens 15 = .ok (.isub, 1) := by decide +kernel
theorem dX6_happens_16 : decode cX6_happens 16 = .ok (.istore_n 3, 1) := by decide +kernel
theorem dX6_happens_17 : decode cX6_happens 17 = .ok (.iload_n 1, 1) := by decide +kernel
theorem dX6_happens_18 : decode cX6_happens 18 = .ok (.bipush 10, 2) := by decide +kernel
theorem dX6_happens_20 : decode cX6_happens 20 = .ok (.irem, 1) := by decide +kernel
theorem dX6_happens_21 : decode cX6_happens 21 = .ok (.tableswitch 95 0 3 #[31, 38, 56, 74], 31) := by decide +kernel
theorem dX6_happens_52 : decode cX6_happens 52 = .ok (.aload_n 0, 1) := by decide +kernel
theorem dX6_happens_53 : decode cX6_happens 53 = .ok (.iload_n 2, 1) := by decide +kernel
theorem dX6_happens_54 : decode cX6_happens 54 = .ok (.iload_n 3, 1) := by decide +kernel
theorem dX6_happens_55 : decode cX6_happens 55 = .ok (.invokevirtual 261, 3) := by decide +kernel
theorem dX6_happens_58 : decode cX6_happens 58 = .ok (.ireturn, 1) := by decide +kernel
theorem dX6_happens_59 : decode cX6_happens 59 = .ok (.iload_n 2, 1) := by decide +kernel
theorem dX6_happens_60 : decode cX6_happens 60 = .ok (.ifCond .ge 15, 3) := by decide +kernel
theorem dX6_happens_63 : decode cX6_happens 63 = .ok (.aload_n 0, 1) := by decide +kernel
theorem dX6_happens_64 : decode cX6_happens 64 = .ok (.iload_n 3, 1) := by decide +kernel
theorem dX6_happens_65 : decode cX6_happens 65 = .ok (.invokevirtual 283, 3) := by decide +kernel
theorem dX6_happens_68 : decode cX6_happens 68 = .ok (.ifCond .eq 7, 3) := by decide +kernel
theorem dX6_happens_71 : decode cX6_happens 71 = .ok (.iconst 1, 1) := by decide +kernel
theorem dX6_happens_72 : decode cX6_happens 72 = .ok (.goto 4, 3) := by decide +kernel
theorem dX6_happens_75 : decode cX6_happens 75 = .ok (.iconst 0, 1) := by decide +kernel
theorem dX6_happens_76 : decode cX6_happens 76 = .ok (.ireturn, 1) := by decide +kernel
theorem dX6_happens_77 : decode cX6_happens 77 = .ok (.iload_n 2, 1) := by decide +kernel
theorem dX6_happens_78 : decode cX6_happens 78 = .ok (.ifCond .ge 15, 3) := by decide +kernel
theorem dX6_happens_81 : decode cX6_happens 81 = .ok (.aload_n 0, 1) := by decide +kernel
theorem dX6_happens_82 : decode cX6_happens 82 = .ok (.iload_n 3, 1) := by decide +kernel
theorem dX6_happens_83 : decode cX6_happens 83 = .ok (.invokevirtual 286, 3) := by decide +kernel
theorem dX6_happens_86 : decode cX6_happens 86 = .ok (.ifCond .eq 7, 3) := by decide +kernel
theorem dX6_happens_89 : decode cX6_happens 89 = .ok (.iconst 1, 1) := by decide +kernel
theorem dX6_happens_90 : decode cX6_happens 90 = .ok (.goto 4, 3) := by decide +kernel
theorem dX6_happens_93 : decode cX6_happens 93 = .ok (.iconst 0, 1) := by decide +kernel
theorem dX6_happens_94 : decode cX6_happens 94 = .ok (.ireturn, 1) := by decide +kernel
theorem dX6_happens_95 : decode cX6_happens 95 = .ok (.iload_n 2, 1) := by decide +kernel
theorem dX6_happens_96 : decode cX6_happens 96 = .ok (.ifCond .ge 18, 3) := by decide +kernel
theorem dX6_happens_99 : decode cX6_happens 99 = .ok (.iload_n 3, 1) := by decide +kernel
theorem dX6_happens_100 : decode cX6_happens 100 = .ok (.ifCond .ge 14, 3) := by decide +kernel
theorem dX6_happens_103 : decode cX6_happens 103 = .ok (.aload_n 0, 1) := by decide +kernel
theorem dX6_happens_104 : decode cX6_happens 104 = .ok (.invokevirtual 289, 3) := by decide +kernel
theorem dX6_happens_107 : decode cX6_happens 107 = .ok (.ifCond .eq 7, 3) := by decide +kernel
theorem dX6_happens_110 : decode cX6_happens 110 = .ok (.iconst 1, 1) := by decide +kernel
theorem dX6_happens_111 : decode cX6_happens 111 = .ok (.goto 4, 3) := by decide +kernel
theorem dX6_happens_114 : decode cX6_happens 114 = .ok (.iconst 0, 1) := by decide +kernel
theorem dX6_happens_115 : decode cX6_happens 115 = .ok (.ireturn, 1) := by decide +kernel
theorem dX6_happens_116 : decode cX6_happens 116 = .ok (.iconst 0, 1) := by decide +kernel
theorem dX6_happens_117 : decode cX6_happens 117 = .ok (.ireturn, 1) := by decide +kernel
theorem dX6_driveIfFree_0 : decode cX6_driveIfFree 0 = .ok (.aload_n 0, 1) := by decide +kernel
theorem dX6_driveIfFree_1 : decode cX6_driveIfFree 1 = .ok (.getfield 23, 3) := by decide +kernel
theorem dX6_driveIfFree_4 : decode cX6_driveIfFree 4 = .ok (.iload_n 1, 1) := by decide +kernel
theorem dX6_driveIfFree_5 : decode cX6_driveIfFree 5 = .ok (.invokevirtual 91, 3) := by decide +kernel
theorem dX6_driveIfFree_8 : decode cX6_driveIfFree 8 = .ok (.ifCond .eq 26, 3) := by decide +kernel
theorem dX6_driveIfFree_11 : decode cX6_driveIfFree 11 = .ok (.aload_n 0, 1) := by decide +kernel
theorem dX6_driveIfFree_12 : decode cX6_driveIfFree 12 = .ok (.getfield 23, 3) := by decide +kernel
theorem dX6_driveIfFree_15 : decode cX6_driveIfFree 15 = .ok (.iload_n 2, 1) := by decide +kernel
theorem dX6_driveIfFree_16 : decode cX6_driveIfFree 16 = .ok (.invokevirtual 110, 3) := by decide +kernel
theorem dX6_driveIfFree_19 : decode cX6_driveIfFree 19 = .ok (.ifCond .eq 15, 3) := by decide +kernel
theorem dX6_driveIfFree_22 : decode cX6_driveIfFree 22 = .ok (.aload_n 0, 1) := by decide +kernel
theorem dX6_driveIfFree_23 : decode cX6_driveIfFree 23 = .ok (.getfield 23, 3) := by decide +kernel
theorem dX6_driveIfFree_26 : decode cX6_driveIfFree 26 = .ok (.iload_n 1, 1) := by decide +kernel
theorem dX6_driveIfFree_27 : decode cX6_driveIfFree 27 = .ok (.iload_n 2, 1) := by decide +kernel
theorem dX6_driveIfFree_28 : decode cX6_driveIfFree 28 = .ok (.invokevirtual 135, 3) := by decide +kernel
theorem dX6_driveIfFree_31 : decode cX6_driveIfFree 31 = .ok (.ifCond .eq 5, 3) := by decide +kernel
theorem dX6_driveIfFree_34 : decode cX6_driveIfFree 34 = .ok (.iconst 0, 1) := by decide +kernel
theorem dX6_driveIfFree_35 : decode cX6_driveIfFree 35 = .ok (.ireturn, 1) := by decide +kernel
theorem dX6_driveIfFree_36 : decode cX6_driveIfFree 36 = .ok (.aload_n 0, 1) := by decide +kernel
theorem dX6_driveIfFree_37 : decode cX6_driveIfFree 37 = .ok (.getfield 23, 3) := by decide +kernel
theorem dX6_driveIfFree_40 : decode cX6_driveIfFree 40 = .ok (.iload_n 1, 1) := by decide +kernel
theorem dX6_driveIfFree_41 : decode cX6_driveIfFree 41 = .ok (.iload_n 2, 1) := by decide +kernel
theorem dX6_driveIfFree_42 : decode cX6_driveIfFree 42 = .ok (.invokevirtual 141, 3) := by decide +kernel
theorem dX6_driveIfFree_45 : decode cX6_driveIfFree 45 = .ok (.iconst 1, 1) := by decide +kernel
theorem dX6_driveIfFree_46 : decode cX6_driveIfFree 46 = .ok (.ireturn, 1) := by decide +kernel
theorem dX6_runHomeIfShut_0 : decode cX6_runHomeIfShut 0 = .ok (.aload_n 0, 1) := by decide +kernel
theorem dX6_runHomeIfShut_1 : decode cX6_runHomeIfShut 1 = .ok (.getfield 23, 3) := by decide +kernel
theorem dX6_runHomeIfShut_4 : decode cX6_runHomeIfShut 4 = .ok (.iload_n 1, 1) := by decide +kernel
theorem dX6_runHomeIfShut_5 : decode cX6_runHomeIfShut 5 = .ok (.invokevirtual 110, 3) := by decide +kernel
theorem dX6_runHomeIfShut_8 : decode cX6_runHomeIfShut 8 = .ok (.ifCond .eq 14, 3) := by decide +kernel
theorem dX6_runHomeIfShut_11 : decode cX6_runHomeIfShut 11 = .ok (.aload_n 0, 1) := by decide +kernel
theorem dX6_runHomeIfShut_12 : decode cX6_runHomeIfShut 12 = .ok (.getfield 23, 3) := by decide +kernel
theorem dX6_runHomeIfShut_15 : decode cX6_runHomeIfShut 15 = .ok (.iload_n 1, 1) := by decide +kernel
theorem dX6_runHomeIfShut_16 : decode cX6_runHomeIfShut 16 = .ok (.invokevirtual 163, 3) := by decide +kernel
theorem dX6_runHomeIfShut_19 : decode cX6_runHomeIfShut 19 = .ok (.ifCond .ne 5, 3) := by decide +kernel
theorem dX6_runHomeIfShut_22 : decode cX6_runHomeIfShut 22 = .ok (.iconst 0, 1) := by decide +kernel
theorem dX6_runHomeIfShut_23 : decode cX6_runHomeIfShut 23 = .ok (.ireturn, 1) := by decide +kernel
theorem dX6_runHomeIfShut_24 : decode cX6_runHomeIfShut 24 = .ok (.aload_n 0, 1) := by decide +kernel
theorem dX6_runHomeIfShut_25 : decode cX6_runHomeIfShut 25 = .ok (.getfield 23, 3) := by decide +kernel
theorem dX6_runHomeIfShut_28 : decode cX6_runHomeIfShut 28 = .ok (.iload_n 1, 1) := by decide +kernel
theorem dX6_runHomeIfShut_29 : decode cX6_runHomeIfShut 29 = .ok (.invokevirtual 166, 3) := by decide +kernel
theorem dX6_runHomeIfShut_32 : decode cX6_runHomeIfShut 32 = .ok (.iconst 1, 1) := by decide +kernel
theorem dX6_runHomeIfShut_33 : decode cX6_runHomeIfShut 33 = .ok (.ireturn, 1) := by decide +kernel
theorem dX6_keepIfRipe_0 : decode cX6_keepIfRipe 0 = .ok (.aload_n 0, 1) := by decide +kernel
theorem dX6_keepIfRipe_1 : decode cX6_keepIfRipe 1 = .ok (.getfield 23, 3) := by decide +kernel
theorem dX6_keepIfRipe_4 : decode cX6_keepIfRipe 4 = .ok (.iload_n 1, 1) := by decide +kernel
theorem dX6_keepIfRipe_5 : decode cX6_keepIfRipe 5 = .ok (.invokevirtual 110, 3) := by decide +kernel
theorem dX6_keepIfRipe_8 : decode cX6_keepIfRipe 8 = .ok (.ifCond .eq 14, 3) := by decide +kernel
theorem dX6_keepIfRipe_11 : decode cX6_keepIfRipe 11 = .ok (.aload_n 0, 1) := by decide +kernel
theorem dX6_keepIfRipe_12 : decode cX6_keepIfRipe 12 = .ok (.getfield 23, 3) := by decide +kernel
theorem dX6_keepIfRipe_15 : decode cX6_keepIfRipe 15 = .ok (.iload_n 1, 1) := by decide +kernel
theorem dX6_keepIfRipe_16 : decode cX6_keepIfRipe 16 = .ok (.invokevirtual 170, 3) := by decide +kernel
theorem dX6_keepIfRipe_19 : decode cX6_keepIfRipe 19 = .ok (.ifCond .ne 5, 3) := by decide +kernel
theorem dX6_keepIfRipe_22 : decode cX6_keepIfRipe 22 = .ok (.iconst 0, 1) := by decide +kernel
theorem dX6_keepIfRipe_23 : decode cX6_keepIfRipe 23 = .ok (.ireturn, 1) := by decide +kernel
theorem dX6_keepIfRipe_24 : decode cX6_keepIfRipe 24 = .ok (.aload_n 0, 1) := by decide +kernel
theorem dX6_keepIfRipe_25 : decode cX6_keepIfRipe 25 = .ok (.getfield 23, 3) := by decide +kernel
theorem dX6_keepIfRipe_28 : decode cX6_keepIfRipe 28 = .ok (.iload_n 1, 1) := by decide +kernel
theorem dX6_keepIfRipe_29 : decode cX6_keepIfRipe 29 = .ok (.invokevirtual 173, 3) := by decide +kernel
theorem dX6_keepIfRipe_32 : decode cX6_keepIfRipe 32 = .ok (.iconst 1, 1) := by decide +kernel
theorem dX6_keepIfRipe_33 : decode cX6_keepIfRipe 33 = .ok (.ireturn, 1) := by decide +kernel
theorem dX6_passTrialDay_0 : decode cX6_passTrialDay 0 = .ok (.aload_n 0, 1) := by decide +kernel
theorem dX6_passTrialDay_1 : decode cX6_passTrialDay 1 = .ok (.getfield 23, 3) := by decide +kernel
theorem dX6_passTrialDay_4 : decode cX6_passTrialDay 4 = .ok (.invokevirtual 149, 3) := by decide +kernel
theorem dX6_passTrialDay_7 : decode cX6_passTrialDay 7 = .ok (.iconst 1, 1) := by decide +kernel
theorem dX6_passTrialDay_8 : decode cX6_passTrialDay 8 = .ok (.ireturn, 1) := by decide +kernel
theorem dX6_keepAllRipe_0 : decode cX6_keepAllRipe 0 = .ok (.iconst 0, 1) := by decide +kernel
theorem dX6_keepAllRipe_1 : decode cX6_keepAllRipe 1 = .ok (.istore_n 1, 1) := by decide +kernel
theorem dX6_keepAllRipe_2 : decode cX6_keepAllRipe 2 = .ok (.iload_n 1, 1) := by decide +kernel
theorem dX6_keepAllRipe_3 : decode cX6_keepAllRipe 3 = .ok (.aload_n 0, 1) := by decide +kernel
theorem dX6_keepAllRipe_4 : decode cX6_keepAllRipe 4 = .ok (.getfield 23, 3) := by decide +kernel
theorem dX6_keepAllRipe_7 : decode cX6_keepAllRipe 7 = .ok (.invokevirtual 88, 3) := by decide +kernel
theorem dX6_keepAllRipe_10 : decode cX6_keepAllRipe 10 = .ok (.if_icmp .ge 15, 3) := by decide +kernel
theorem dX6_keepAllRipe_13 : decode cX6_keepAllRipe 13 = .ok (.aload_n 0, 1) := by decide +kernel
theorem dX6_keepAllRipe_14 : decode cX6_keepAllRipe 14 = .ok (.iload_n 1, 1) := by decide +kernel
theorem dX6_keepAllRipe_15 : decode cX6_keepAllRipe 15 = .ok (.invokevirtual 286, 3) := by decide +kernel
theorem dX6_keepAllRipe_18 : decode cX6_keepAllRipe 18 = .ok (.pop, 1) := by decide +kernel
theorem dX6_keepAllRipe_19 : decode cX6_keepAllRipe 19 = .ok (.iinc 1 1, 3) := by decide +kernel
theorem dX6_keepAllRipe_22 : decode cX6_keepAllRipe 22 = .ok (.goto (-20), 3) := by decide +kernel
theorem dX6_keepAllRipe_25 : decode cX6_keepAllRipe 25 = .ok (.return_, 1) := by decide +kernel
theorem dX6_fraction_0 : decode cX6_fraction 0 = .ok (.iload_n 0, 1) := by decide +kernel
theorem dX6_fraction_1 : decode cX6_fraction 1 = .ok (.iload_n 1, 1) := by decide +kernel
theorem dX6_fraction_2 : decode cX6_fraction 2 = .ok (.invokestatic 293, 3) := by decide +kernel
theorem dX6_fraction_5 : decode cX6_fraction 5 = .ok (.istore_n 3, 1) := by decide +kernel
theorem dX6_fraction_6 : decode cX6_fraction 6 = .ok (.iload_n 3, 1) := by decide +kernel
theorem dX6_fraction_7 : decode cX6_fraction 7 = .ok (.iconst 1, 1) := by decide +kernel
theorem dX6_fraction_8 : decode cX6_fraction 8 = .ok (.if_icmp .ge 13, 3) := by decide +kernel
theorem dX6_fraction_11 : decode cX6_fraction 11 = .ok (.iload_n 2, 1) := by decide +kernel
theorem dX6_fraction_12 : decode cX6_fraction 12 = .ok (.ifCond .eq 7, 3) := by decide +kernel
theorem dX6_fraction_15 : decode cX6_fraction 15 = .ok (.iload_n 0, 1) := by decide +kernel
theorem dX6_fraction_16 : decode cX6_fraction 16 = .ok (.goto 4, 3) := by decide +kernel
theorem dX6_fraction_19 : decode cX6_fraction 19 = .ok (.iload_n 1, 1) := by decide +kernel
theorem dX6_fraction_20 : decode cX6_fraction 20 = .ok (.ireturn, 1) := by decide +kernel
theorem dX6_fraction_21 : decode cX6_fraction 21 = .ok (.iload_n 2, 1) := by decide +kernel
theorem dX6_fraction_22 : decode cX6_fraction 22 = .ok (.ifCond .eq 7, 3) := by decide +kernel
theorem dX6_fraction_25 : decode cX6_fraction 25 = .ok (.iload_n 0, 1) := by decide +kernel
theorem dX6_fraction_26 : decode cX6_fraction 26 = .ok (.goto 4, 3) := by decide +kernel
theorem dX6_fraction_29 : decode cX6_fraction 29 = .ok (.iload_n 1, 1) := by decide +kernel
theorem dX6_fraction_30 : decode cX6_fraction 30 = .ok (.iload_n 3, 1) := by decide +kernel
theorem dX6_fraction_31 : decode cX6_fraction 31 = .ok (.idiv, 1) := by decide +kernel
theorem dX6_fraction_32 : decode cX6_fraction 32 = .ok (.ireturn, 1) := by decide +kernel
theorem dX6_commonDivisor_0 : decode cX6_commonDivisor 0 = .ok (.iload_n 0, 1) := by decide +kernel
theorem dX6_commonDivisor_1 : decode cX6_commonDivisor 1 = .ok (.istore_n 2, 1) := by decide +kernel
theorem dX6_commonDivisor_2 : decode cX6_commonDivisor 2 = .ok (.iload_n 1, 1) := by decide +kernel
theorem dX6_commonDivisor_3 : decode cX6_commonDivisor 3 = .ok (.istore_n 3, 1) := by decide +kernel
theorem dX6_commonDivisor_4 : decode cX6_commonDivisor 4 = .ok (.iconst 0, 1) := by decide +kernel
theorem dX6_commonDivisor_5 : decode cX6_commonDivisor 5 = .ok (.istore 4, 2) := by decide +kernel
theorem dX6_commonDivisor_7 : decode cX6_commonDivisor 7 = .ok (.iload 4, 2) := by decide +kernel
theorem dX6_commonDivisor_9 : decode cX6_commonDivisor 9 = .ok (.bipush 64, 2) := by decide +kernel
theorem dX6_commonDivisor_11 : decode cX6_commonDivisor 11 = .ok (.if_icmp .ge 23, 3) := by decide +kernel
theorem dX6_commonDivisor_14 : decode cX6_commonDivisor 14 = .ok (.iload_n 3, 1) := by decide +kernel
theorem dX6_commonDivisor_15 : decode cX6_commonDivisor 15 = .ok (.ifCond .eq 19, 3) := by decide +kernel
theorem dX6_commonDivisor_18 : decode cX6_commonDivisor 18 = .ok (.iload_n 2, 1) := by decide +kernel
theorem dX6_commonDivisor_19 : decode cX6_commonDivisor 19 = .ok (.iload_n 3, 1) := by decide +kernel
theorem dX6_commonDivisor_20 : decode cX6_commonDivisor 20 = .ok (.irem, 1) := by decide +kernel
theorem dX6_commonDivisor_21 : decode cX6_commonDivisor 21 = .ok (.istore 5, 2) := by decide +kernel
theorem dX6_commonDivisor_23 : decode cX6_commonDivisor 23 = .ok (.iload_n 3, 1) := by decide +kernel
theorem dX6_commonDivisor_24 : decode cX6_commonDivisor 24 = .ok (.istore_n 2, 1) := by decide +kernel
theorem dX6_commonDivisor_25 : decode cX6_commonDivisor 25 = .ok (.iload 5, 2) := by decide +kernel
theorem dX6_commonDivisor_27 : decode cX6_commonDivisor 27 = .ok (.istore_n 3, 1) := by decide +kernel
theorem dX6_commonDivisor_28 : decode cX6_commonDivisor 28 = .ok (.iinc 4 1, 3) := by decide +kernel
theorem dX6_commonDivisor_31 : decode cX6_commonDivisor 31 = .ok (.goto (-24), 3) := by decide +kernel
theorem dX6_commonDivisor_34 : decode cX6_commonDivisor 34 = .ok (.iload_n 2, 1) := by decide +kernel
theorem dX6_commonDivisor_35 : decode cX6_commonDivisor 35 = .ok (.ireturn, 1) := by decide +kernel
theorem dX6_power_0 : decode cX6_power 0 = .ok (.iconst 1, 1) := by decide +kernel
theorem dX6_power_1 : decode cX6_power 1 = .ok (.istore_n 2, 1) := by decide +kernel
theorem dX6_power_2 : decode cX6_power 2 = .ok (.iconst 0, 1) := by decide +kernel
theorem dX6_power_3 : decode cX6_power 3 = .ok (.istore_n 3, 1) := by decide +kernel
theorem dX6_power_4 : decode cX6_power 4 = .ok (.iload_n 3, 1) := by decide +kernel
theorem dX6_power_5 : decode cX6_power 5 = .ok (.iload_n 1, 1) := by decide +kernel
theorem dX6_power_6 : decode cX6_power 6 = .ok (.if_icmp .ge 13, 3) := by decide +kernel
theorem dX6_power_9 : decode cX6_power 9 = .ok (.iload_n 2, 1) := by decide +kernel
theorem dX6_power_10 : decode cX6_power 10 = .ok (.iload_n 0, 1) := by decide +kernel
theorem dX6_power_11 : decode cX6_power 11 = .ok (.imul, 1) := by decide +kernel
theorem dX6_power_12 : decode cX6_power 12 = .ok (.istore_n 2, 1) := by decide +kernel
theorem dX6_power_13 : decode cX6_power 13 = .ok (.iinc 3 1, 3) := by decide +kernel
theorem dX6_power_16 : decode cX6_power 16 = .ok (.goto (-12), 3) := by decide +kernel
theorem dX6_power_19 : decode cX6_power 19 = .ok (.iload_n 2, 1) := by decide +kernel
theorem dX6_power_20 : decode cX6_power 20 = .ok (.ireturn, 1) := by decide +kernel
theorem dX6_ways_0 : decode cX6_ways 0 = .ok (.iconst 1, 1) := by decide +kernel
theorem dX6_ways_1 : decode cX6_ways 1 = .ok (.istore_n 2, 1) := by decide +kernel
theorem dX6_ways_2 : decode cX6_ways 2 = .ok (.iconst 0, 1) := by decide +kernel
theorem dX6_ways_3 : decode cX6_ways 3 = .ok (.istore_n 3, 1) := by decide +kernel
theorem dX6_ways_4 : decode cX6_ways 4 = .ok (.iload_n 3, 1) := by decide +kernel
theorem dX6_ways_5 : decode cX6_ways 5 = .ok (.iload_n 1, 1) := by decide +kernel
theorem dX6_ways_6 : decode cX6_ways 6 = .ok (.if_icmp .ge 19, 3) := by decide +kernel
theorem dX6_ways_9 : decode cX6_ways 9 = .ok (.iload_n 2, 1) := by decide +kernel
theorem dX6_ways_10 : decode cX6_ways 10 = .ok (.iload_n 0, 1) := by decide +kernel
theorem dX6_ways_11 : decode cX6_ways 11 = .ok (.iload_n 3, 1) := by decide +kernel
theorem dX6_ways_12 : decode cX6_ways 12 = .ok (.isub, 1) := by decide +kernel
theorem dX6_ways_13 : decode cX6_ways 13 = .ok (.imul, 1) := by decide +kernel
theorem dX6_ways_14 : decode cX6_ways 14 = .ok (.iload_n 3, 1) := by decide +kernel
theorem dX6_ways_15 : decode cX6_ways 15 = .ok (.iconst 1, 1) := by decide +kernel
theorem dX6_ways_16 : decode cX6_ways 16 = .ok (.iadd, 1) := by decide +kernel
theorem dX6_ways_17 : decode cX6_ways 17 = .ok (.idiv, 1) := by decide +kernel
theorem dX6_ways_18 : decode cX6_ways 18 = .ok (.istore_n 2, 1) := by decide +kernel
theorem dX6_ways_19 : decode cX6_ways 19 = .ok (.iinc 3 1, 3) := by decide +kernel
theorem dX6_ways_22 : decode cX6_ways 22 = .ok (.goto (-18), 3) := by decide +kernel
theorem dX6_ways_25 : decode cX6_ways 25 = .ok (.iload_n 2, 1) := by decide +kernel
theorem dX6_ways_26 : decode cX6_ways 26 = .ok (.ireturn, 1) := by decide +kernel
theorem dX7_init_0 : decode cX7_init 0 = .ok (.aload_n 0, 1) := by decide +kernel
theorem dX7_init_1 : decode cX7_init 1 = .ok (.invokespecial 1, 3) := by decide +kernel
theorem dX7_init_4 : decode cX7_init 4 = .ok (.aload_n 0, 1) := by decide +kernel
theorem dX7_init_5 : decode cX7_init 5 = .ok (.iconst 5, 1) := by decide +kernel
theorem dX7_init_6 : decode cX7_init 6 = .ok (.newarray .int, 2) := by decide +kernel
theorem dX7_init_8 : decode cX7_init 8 = .ok (.putfield 7, 3) := by decide +kernel
theorem dX7_init_11 : decode cX7_init 11 = .ok (.aload_n 0, 1) := by decide +kernel
theorem dX7_init_12 : decode cX7_init 12 = .ok (.bipush 90, 2) := by decide +kernel
theorem dX7_init_14 : decode cX7_init 14 = .ok (.newarray .int, 2) := by decide +kernel
theorem dX7_init_16 : decode cX7_init 16 = .ok (.putfield 13, 3) := by decide +kernel
theorem dX7_init_19 : decode cX7_init 19 = .ok (.aload_n 0, 1) := by decide +kernel
theorem dX7_init_20 : decode cX7_init 20 = .ok (.bipush 45, 2) := by decide +kernel
theorem dX7_init_22 : decode cX7_init 22 = .ok (.newarray .int, 2) := by decide +kernel
theorem dX7_init_24 : decode cX7_init 24 = .ok (.putfield 16, 3) := by decide +kernel
theorem dX7_init_27 : decode cX7_init 27 = .ok (.aload_n 0, 1) := by decide +kernel
theorem dX7_init_28 : decode cX7_init 28 = .ok (.iconst 5, 1) := by decide +kernel
theorem dX7_init_29 : decode cX7_init 29 = .ok (.newarray .int, 2) := by decide +kernel
theorem dX7_init_31 : decode cX7_init 31 = .ok (.putfield 19, 3) := by decide +kernel
theorem dX7_init_34 : decode cX7_init 34 = .ok (.aload_n 0, 1) := by decide +kernel
theorem dX7_init_35 : decode cX7_init 35 = .ok (.bipush 56, 2) := by decide +kernel
theorem dX7_init_37 : decode cX7_init 37 = .ok (.newarray .int, 2) := by decide +kernel
theorem dX7_init_39 : decode cX7_init 39 = .ok (.putfield 22, 3) := by decide +kernel
theorem dX7_init_42 : decode cX7_init 42 = .ok (.aload_n 0, 1) := by decide +kernel
theorem dX7_init_43 : decode cX7_init 43 = .ok (.sipush 630, 3) := by decide +kernel
theorem dX7_init_46 : decode cX7_init 46 = .ok (.newarray .int, 2) := by decide +kernel
theorem dX7_init_48 : decode cX7_init 48 = .ok (.putfield 25, 3) := by decide +kernel
theorem dX7_init_51 : decode cX7_init 51 = .ok (.aload_n 0, 1) := by decide +kernel
theorem dX7_init_52 : decode cX7_init 52 = .ok (.bipush 24, 2) := by decide +kernel
theorem dX7_init_54 : decode cX7_init 54 = .ok (.newarray .int, 2) := by decide +kernel
theorem dX7_init_56 : decode cX7_init 56 = .ok (.putfield 28, 3) := by decide +kernel
theorem dX7_init_59 : decode cX7_init 59 = .ok (.aload_n 0, 1) := by decide +kernel
theorem dX7_init_60 : decode cX7_init 60 = .ok (.bipush 24, 2) := by decide +kernel
theorem dX7_init_62 : decode cX7_init 62 = .ok (.newarray .int, 2) := by decide +kernel
theorem dX7_init_64 : decode cX7_init 64 = .ok (.putfield 31, 3) := by decide +kernel
theorem dX7_init_67 : decode cX7_init 67 = .ok (.aload_n 0, 1) := by decide +kernel
theorem dX7_init_68 : decode cX7_init 68 = .ok (.iconst 2, 1) := by decide +kernel
theorem dX7_init_69 : decode cX7_init 69 = .ok (.newarray .boolean, 2) := by decide +kernel
theorem dX7_init_71 : decode cX7_init 71 = .ok (.putfield 34, 3) := by decide +kernel
theorem dX7_init_74 : decode cX7_init 74 = .ok (.aload_n 0, 1) := by decide +kernel
theorem dX7_init_75 : decode cX7_init 75 = .ok (.bipush 90, 2) := by decide +kernel
theorem dX7_init_77 : decode cX7_init 77 = .ok (.newarray .int, 2) := by decide +kernel
theorem dX7_init_79 : decode cX7_init 79 = .ok (.putfield 38, 3) := by decide +kernel
theorem dX7_init_82 : decode cX7_init 82 = .ok (.aload_n 0, 1) := by decide +kernel
theorem dX7_init_83 : decode cX7_init 83 = .ok (.iconst 0, 1) := by decide +kernel
theorem dX7_init_84 : decode cX7_init 84 = .ok (.putfield 41, 3) := by decide +kernel
theorem dX7_init_87 : decode cX7_init 87 = .ok (.return_, 1) := by decide +kernel
theorem dX7_in_0 : decode cX7_in 0 = .ok (.lload_n 0, 1) := by decide +kernel
theorem dX7_in_1 : decode cX7_in 1 = .ok (.lload_n 2, 1) := by decide +kernel
theorem dX7_in_2 : decode cX7_in 2 = .ok (.lcmp, 1) := by decide +kernel
theorem dX7_in_3 : decode cX7_in 3 = .ok (.ifCond .lt 14, 3) := by decide +kernel
theorem dX7_in_6 : decode cX7_in 6 = .ok (.lload_n 0, 1) := by decide +kernel
theorem dX7_in_7 : decode cX7_in 7 = .ok (.lload 4, 2) := by decide +kernel
theorem dX7_in_9 : decode cX7_in 9 = .ok (.lcmp, 1) := by decide +kernel
theorem dX7_in_10 : decode cX7_in 10 = .ok (.ifCond .gt 7, 3) := by decide +kernel
theorem dX7_in_13 : decode cX7_in 13 = .ok (.iconst 1, 1) := by decide +kernel
theorem dX7_in_14 : decode cX7_in 14 = .ok (.goto 4, 3) := by decide +kernel
theorem dX7_in_17 : decode cX7_in 17 = .ok (.iconst 0, 1) := by decide +kernel
theorem dX7_in_18 : decode cX7_in 18 = .ok (.ireturn, 1) := by decide +kernel
theorem dX7_has_0 : decode cX7_has 0 = .ok (.iload_n 0, 1) := by decide +kernel
theorem dX7_has_1 : decode cX7_has 1 = .ok (.iload_n 1, 1) := by decide +kernel
theorem dX7_has_2 : decode cX7_has 2 = .ok (.ishr, 1) := by decide +kernel
theorem dX7_has_3 : decode cX7_has 3 = .ok (.iconst 1, 1) := by decide +kernel
theorem dX7_has_4 : decode cX7_has 4 = .ok (.iand, 1) := by decide +kernel
theorem dX7_has_5 : decode cX7_has 5 = .ok (.iconst 1, 1) := by decide +kernel
theorem dX7_has_6 : decode cX7_has 6 = .ok (.if_icmp .ne 7, 3) := by decide +kernel
theorem dX7_has_9 : decode cX7_has 9 = .ok (.iconst 1, 1) := by decide +kernel
theorem dX7_has_10 : decode cX7_has 10 = .ok (.goto 4, 3) := by decide +kernel
theorem dX7_has_13 : decode cX7_has 13 = .ok (.iconst 0, 1) := by decide +kernel
theorem dX7_has_14 : decode cX7_has 14 = .ok (.ireturn, 1) := by decide +kernel
theorem dX7_ones_0 : decode cX7_ones 0 = .ok (.iconst 0, 1) := by decide +kernel
theorem dX7_ones_1 : decode cX7_ones 1 = .ok (.istore_n 1, 1) := by decide +kernel
theorem dX7_ones_2 : decode cX7_ones 2 = .ok (.iconst 0, 1) := by decide +kernel
theorem dX7_ones_3 : decode cX7_ones 3 = .ok (.istore_n 2, 1) := by decide +kernel
theorem dX7_ones_4 : decode cX7_ones 4 = .ok (.iload_n 2, 1) := by decide +kernel
theorem dX7_ones_5 : decode cX7_ones 5 = .ok (.iconst 5, 1) := by decide +kernel
theorem dX7_ones_6 : decode cX7_ones 6 = .ok (.if_icmp .ge 17, 3) := by decide +kernel
theorem dX7_ones_9 : decode cX7_ones 9 = .ok (.iload_n 1, 1) := by decide +kernel
theorem dX7_ones_10 : decode cX7_ones 10 = .ok (.iload_n 0, 1) := by decide +kernel
theorem dX7_ones_11 : decode cX7_ones 11 = .ok (.iload_n 2, 1) := by decide +kernel
theorem dX7_ones_12 : decode cX7_ones 12 = .ok (.ishr, 1) := by decide +kernel
theorem dX7_ones_13 : decode cX7_ones 13 = .ok (.iconst 1, 1) := by decide +kernel
theorem dX7_ones_14 : decode cX7_ones 14 = .ok (.iand, 1) := by decide +kernel
theorem dX7_ones_15 : decode cX7_ones 15 = .ok (.iadd, 1) := by decide +kernel
theorem dX7_ones_16 : decode cX7_ones 16 = .ok (.istore_n 1, 1) := by decide +kernel
theorem dX7_ones_17 : decode cX7_ones 17 = .ok (.iinc 2 1, 3) := by decide +kernel
theorem dX7_ones_20 : decode cX7_ones 20 = .ok (.goto (-16), 3) := by decide +kernel
theorem dX7_ones_23 : decode cX7_ones 23 = .ok (.iload_n 1, 1) := by decide +kernel
theorem dX7_ones_24 : decode cX7_ones 24 = .ok (.ireturn, 1) := by decide +kernel
theorem dX7_write_0 : decode cX7_write 0 = .ok (.iload_n 1, 1) := by decide +kernel
theorem dX7_write_1 : decode cX7_write 1 = .ok (.i2l, 1) := by decide +kernel
theorem dX7_write_2 : decode cX7_write 2 = .ok (.lconst 0, 1) := by decide +kernel
theorem dX7_write_3 : decode cX7_write 3 = .ok (.ldc2_w 45, 3) := by decide +kernel
theorem dX7_write_6 : decode cX7_write 6 = .ok (.invokestatic 47, 3) := by decide +kernel
theorem dX7_write_9 : decode cX7_write 9 = .ok (.ifCond .ne 6, 3) := by decide +kernel
theorem dX7_write_12 : decode cX7_write 12 = .ok (.bipush (-2), 2) := by decide +kernel
theorem dX7_write_14 : decode cX7_write 14 = .ok (.ireturn, 1) := by decide +kernel
theorem dX7_write_15 : decode cX7_write 15 = .ok (.aload_n 0, 1) := by decide +kernel
theorem dX7_write_16 : decode cX7_write 16 = .ok (.getfield 51, 3) := by decide +kernel
theorem dX7_write_19 : decode cX7_write 19 = .ok (.bipush 56, 2) := by decide +kernel
theorem dX7_write_21 : decode cX7_write 21 = .ok (.if_icmp .ne 6, 3) := by decide +kernel
theorem dX7_write_24 : decode cX7_write 24 = .ok (.bipush (-4), 2) := by decide +kernel
theorem dX7_write_26 : decode cX7_write 26 = .ok (.ireturn, 1) := by decide +kernel
theorem dX7_write_27 : decode cX7_write 27 = .ok (.aload_n 0, 1) := by decide +kernel
theorem dX7_write_28 : decode cX7_write 28 = .ok (.getfield 22, 3) := by decide +kernel
theorem dX7_write_31 : decode cX7_write 31 = .ok (.aload_n 0, 1) := by decide +kernel
theorem dX7_write_32 : decode cX7_write 32 = .ok (.getfield 51, 3) := by decide +kernel
theorem dX7_write_35 : decode cX7_write 35 = .ok (.iload_n 1, 1) := by decide +kernel
theorem dX7_write_36 : decode cX7_write 36 = .ok (.iastore, 1) := by decide +kernel
theorem dX7_write_37 : decode cX7_write 37 = .ok (.aload_n 0, 1) := by decide +kernel
theorem dX7_write_38 : decode cX7_write 38 = .ok (.dup, 1) := by decide +kernel
theorem dX7_write_39 : decode cX7_write 39 = .ok (.getfield 51, 3) := by decide +kernel
theorem dX7_write_42 : decode cX7_write 42 = .ok (.iconst 1, 1) := by decide +kernel
theorem dX7_write_43 : decode cX7_write 43 = .ok (.iadd, 1) := by decide +kernel
theorem dX7_write_44 : decode cX7_write 44 = .ok (.putfield 51, 3) := by decide +kernel
theorem dX7_write_47 : decode cX7_write 47 = .ok (.aload_n 0, 1) := by decide +kernel
theorem dX7_write_48 : decode cX7_write 48 = .ok (.getfield 51, 3) := by decide +kernel
theorem dX7_write_51 : decode cX7_write 51 = .ok (.ireturn, 1) := by decide +kernel
theorem dX7_wipe_0 : decode cX7_wipe 0 = .ok (.aload_n 0, 1) := by decide +kernel
theorem dX7_wipe_1 : decode cX7_wipe 1 = .ok (.getfield 51, 3) := by decide +kernel
theorem dX7_wipe_4 : decode cX7_wipe 4 = .ok (.istore_n 1, 1) := by decide +kernel
theorem dX7_wipe_5 : decode cX7_wipe 5 = .ok (.aload_n 0, 1) := by decide +kernel
theorem dX7_wipe_6 : decode cX7_wipe 6 = .ok (.iconst 0, 1) := by decide +kernel
theorem dX7_wipe_7 : decode cX7_wipe 7 = .ok (.putfield 51, 3) := by decide +kernel
theorem dX7_wipe_10 : decode cX7_wipe 10 = .ok (.iload_n 1, 1) := by decide +kernel
theorem dX7_wipe_11 : decode cX7_wipe 11 = .ok (.ireturn, 1) := by decide +kernel
theorem dX7_figure_0 : decode cX7_figure 0 = .ok (.aload_n 0, 1) := by decide +kernel
theorem dX7_figure_1 : decode cX7_figure 1 = .ok (.getfield 54, 3) := by decide +kernel
theorem dX7_figure_4 : decode cX7_figure 4 = .ok (.bipush (-9), 2) := by decide +kernel
theorem dX7_figure_6 : decode cX7_figure 6 = .ok (.if_icmp .ne 29, 3) := by decide +kernel
theorem dX7_figure_9 : decode cX7_figure 9 = .ok (.aload_n 0, 1) := by decide +kernel
theorem dX7_figure_10 : decode cX7_figure 10 = .ok (.getfield 57, 3) := by decide +kernel
theorem dX7_figure_13 : decode cX7_figure 13 = .ok (.aload_n 0, 1) := by decide +kernel
theorem dX7_figure_14 : decode cX7_figure 14 = .ok (.getfield 51, 3) := by decide +kernel
theorem dX7_figure_17 : decode cX7_figure 17 = .ok (.if_icmp .ge 18, 3) := by decide +kernel
theorem dX7_figure_20 : decode cX7_figure 20 = .ok (.aload_n 0, 1) := by decide +kernel
theorem dX7_figure_21 : decode cX7_figure 21 = .ok (.getfield 22, 3) := by decide +kernel
theorem dX7_figure_24 : decode cX7_figure 24 = .ok (.aload_n 0, 1) := by decide +kernel
theorem dX7_figure_25 : decode cX7_figure 25 = .ok (.getfield 57, 3) := by decide +kernel
theorem dX7_figure_28 : decode cX7_figure 28 = .ok (.iaload, 1) := by decide +kernel
theorem dX7_figure_29 : decode cX7_figure 29 = .ok (.bipush 48, 2) := by decide +kernel
theorem dX7_figure_31 : decode cX7_figure 31 = .ok (.isub, 1) := by decide +kernel
theorem dX7_figure_32 : decode cX7_figure 32 = .ok (.goto 5, 3) := by decide +kernel
theorem dX7_figure_35 : decode cX7_figure 35 = .ok (.bipush (-9), 2) := by decide +kernel
theorem dX7_figure_37 : decode cX7_figure 37 = .ok (.istore_n 3, 1) := by decide +kernel
theorem dX7_figure_38 : decode cX7_figure 38 = .ok (.iload_n 3, 1) := by decide +kernel
theorem dX7_figure_39 : decode cX7_figure 39 = .ok (.i2l, 1) := by decide +kernel
theorem dX7_figure_40 : decode cX7_figure 40 = .ok (.iload_n 1, 1) := by decide +kernel
theorem dX7_figure_41 : decode cX7_figure 41 = .ok (.i2l, 1) := by decide +kernel
theorem dX7_figure_42 : decode cX7_figure 42 = .ok (.iload_n 2, 1) := by decide +kernel
theorem dX7_figure_43 : decode cX7_figure 43 = .ok (.i2l, 1) := by decide +kernel
theorem dX7_figure_44 : decode cX7_figure 44 = .ok (.invokestatic 47, 3) := by decide +kernel
theorem dX7_figure_47 : decode cX7_figure 47 = .ok (.ifCond .ne 29, 3) := by decide +kernel
theorem dX7_figure_50 : decode cX7_figure 50 = .ok (.aload_n 0, 1) := by decide +kernel
theorem dX7_figure_51 : decode cX7_figure 51 = .ok (.aload_n 0, 1) := by decide +kernel
theorem dX7_figure_52 : decode cX7_figure 52 = .ok (.getfield 54, 3) := by decide +kernel
theorem dX7_figure_55 : decode cX7_figure 55 = .ok (.bipush (-9), 2) := by decide +kernel
theorem dX7_figure_57 : decode cX7_figure 57 = .ok (.if_icmp .ne 10, 3) := by decide +kernel
theorem dX7_figure_60 : decode cX7_figure 60 = .ok (.aload_n 0, 1) := by decide +kernel
theorem dX7_figure_61 : decode cX7_figure 61 = .ok (.getfield 57, 3) := by decide +kernel
theorem dX7_figure_64 : decode cX7_figure 64 = .ok (.goto 7, 3) := by decide +kernel
theorem dX7_figure_67 : decode cX7_figure 67 = .ok (.aload_n 0, 1) := by decide +kernel
theorem dX7_figure_68 : decode cX7_figure 68 = .ok (.getfield 54, 3) := by decide +kernel
theorem dX7_figure_71 : decode cX7_figure 71 = .ok (.putfield 54, 3) := by decide +kernel
theorem dX7_figure_74 : decode cX7_figure 74 = .ok (.iload_n 1, 1) := by decide +kernel
theorem dX7_figure_75 : decode cX7_figure 75 = .ok (.ireturn, 1) := by decide +kernel
theorem dX7_figure_76 : decode cX7_figure 76 = .ok (.aload_n 0, 1) := by decide +kernel
theorem dX7_figure_77 : decode cX7_figure 77 = .ok (.dup, 1) := by decide +kernel
theorem dX7_figure_78 : decode cX7_figure 78 = .ok (.getfield 57, 3) := by decide +kernel
theorem dX7_figure_81 : decode cX7_figure 81 = .ok (.iconst 1, 1) := by decide +kernel
theorem dX7_figure_82 : decode cX7_figure 82 = .ok (.iadd, 1) := by decide +kernel
theorem dX7_figure_83 : decode cX7_figure 83 = .ok (.putfield 57, 3) := by decide +kernel
theorem dX7_figure_86 : decode cX7_figure 86 = .ok (.iload_n 3, 1) := by decide +kernel
theorem dX7_figure_87 : decode cX7_figure 87 = .ok (.ireturn, 1) := by decide +kernel
theorem dX7_figureOf_0 : decode cX7_figureOf 0 = .ok (.aload_n 0, 1) := by decide +kernel
theorem dX7_figureOf_1 : decode cX7_figureOf 1 = .ok (.getfield 54, 3) := by decide +kernel
theorem dX7_figureOf_4 : decode cX7_figureOf 4 = .ok (.bipush (-9), 2) := by decide +kernel
theorem dX7_figureOf_6 : decode cX7_figureOf 6 = .ok (.if_icmp .ne 29, 3) := by decide +kernel
theorem dX7_figureOf_9 : decode cX7_figureOf 9 = .ok (.aload_n 0, 1) := by decide +kernel
theorem dX7_figureOf_10 : decode cX7_figureOf 10 = .ok (.getfield 57, 3) := by decide +kernel
theorem dX7_figureOf_13 : decode cX7_figureOf 13 = .ok (.aload_n 0, 1) := by decide +kernel
theorem dX7_figureOf_14 : decode cX7_figureOf 14 = .ok (.getfield 51, 3) := by decide +kernel
theorem dX7_figureOf_17 : decode cX7_figureOf 17 = .ok (.if_icmp .ge 18, 3) := by decide +kernel
theorem dX7_figureOf_20 : decode cX7_figureOf 20 = .ok (.aload_n 0, 1) := by decide +kernel
theorem dX7_figureOf_21 : decode cX7_figureOf 21 = .ok (.getfield 22, 3) := by decide +kernel
theorem dX7_figureOf_24 : decode cX7_figureOf 24 = .ok (.aload_n 0, 1) := by decide +kernel
theorem dX7_figureOf_25 : decode cX7_figureOf 25 = .ok (.getfield 57, 3) := by decide +kernel
theorem dX7_figureOf_28 : decode cX7_figureOf 28 = .ok (.iaload, 1) := by decide +kernel
theorem dX7_figureOf_29 : decode cX7_figureOf 29 = .ok (.bipush 48, 2) := by decide +kernel
theorem dX7_figureOf_31 : decode cX7_figureOf 31 = .ok (.isub, 1) := by decide +kernel
theorem dX7_figureOf_32 : decode cX7_figureOf 32 = .ok (.goto 5, 3) := by decide +kernel
theorem dX7_figureOf_35 : decode cX7_figureOf 35 = .ok (.bipush (-9), 2) := by decide +kernel
theorem dX7_figureOf_37 : decode cX7_figureOf 37 = .ok (.istore_n 2, 1) := by decide +kernel
theorem dX7_figureOf_38 : decode cX7_figureOf 38 = .ok (.iload_n 2, 1) := by decide +kernel
theorem dX7_figureOf_39 : decode cX7_figureOf 39 = .ok (.i2l, 1) := by decide +kernel
theorem dX7_figureOf_40 : decode cX7_figureOf 40 = .ok (.lconst 0, 1) := by decide +kernel
theorem dX7_figureOf_41 : decode cX7_figureOf 41 = .ok (.ldc2_w 60, 3) := by decide +kernel
theorem dX7_figureOf_44 : decode cX7_figureOf 44 = .ok (.invokestatic 47, 3) := by decide +kernel
theorem dX7_figureOf_47 : decode cX7_figureOf 47 = .ok (.ifCond .eq 11, 3) := by decide +kernel
theorem dX7_figureOf_50 : decode cX7_figureOf 50 = .ok (.iload_n 1, 1) := by decide +kernel
theorem dX7_figureOf_51 : decode cX7_figureOf 51 = .ok (.iload_n 2, 1) := by decide +kernel
theorem dX7_figureOf_52 : decode cX7_figureOf 52 = .ok (.invokestatic 62, 3) := by decide +kernel
theorem dX7_figureOf_55 : decode cX7_figureOf 55 = .ok (.ifCond .ne 29, 3) := by decide +kernel
theorem dX7_figureOf_58 : decode cX7_figureOf 58 = .ok (.aload_n 0, 1) := by decide +kernel
theorem dX7_figureOf_59 : decode cX7_figureOf 59 = .ok (.aload_n 0, 1) := by decide +kernel
theorem dX7_figureOf_60 : decode cX7_figureOf 60 = .ok (.getfield 54, 3) := by decide +kernel
theorem dX7_figureOf_63 : decode cX7_figureOf 63 = .ok (.bipush (-9), 2) := by decide +kernel
theorem dX7_figureOf_65 : decode cX7_figureOf 65 = .ok (.if_icmp .ne 10, 3) := by decide +kernel
theorem dX7_figureOf_68 : decode cX7_figureOf 68 = .ok (.aload_n 0, 1) := by decide +kernel
theorem dX7_figureOf_69 : decode cX7_figureOf 69 = .ok (.getfield 57, 3) := by decide +kernel
theorem dX7_figureOf_72 : decode cX7_figureOf 72 = .ok (.goto 7, 3) := by decide +kernel
theorem dX7_figureOf_75 : decode cX7_figureOf 75 = .ok (.aload_n 0, 1) := by decide +kernel
theorem dX7_figureOf_76 : decode cX7_figureOf 76 = .ok (.getfield 54, 3) := by decide +kernel
theorem dX7_figureOf_79 : decode cX7_figureOf 79 = .ok (.putfield 54, 3) := by decide +kernel
theorem dX7_figureOf_82 : decode cX7_figureOf 82 = .ok (.iconst 0, 1) := by decide +kernel
theorem dX7_figureOf_83 : decode cX7_figureOf 83 = .ok (.ireturn, 1) := by decide +kernel
theorem dX7_figureOf_84 : decode cX7_figureOf 84 = .ok (.aload_n 0, 1) := by decide +kernel
theorem dX7_figureOf_85 : decode cX7_figureOf 85 = .ok (.dup, 1) := by decide +kernel
theorem dX7_figureOf_86 : decode cX7_figureOf 86 = .ok (.getfield 57, 3) := by decide +kernel
theorem dX7_figureOf_89 : decode cX7_figureOf 89 = .ok (.iconst 1, 1) := by decide +kernel
theorem dX7_figureOf_90 : decode cX7_figureOf 90 = .ok (.iadd, 1) := by decide +kernel
theorem dX7_figureOf_91 : decode cX7_figureOf 91 = .ok (.putfield 57, 3) := by decide +kernel
theorem dX7_figureOf_94 : decode cX7_figureOf 94 = .ok (.iload_n 2, 1) := by decide +kernel
theorem dX7_figureOf_95 : decode cX7_figureOf 95 = .ok (.ireturn, 1) := by decide +kernel
theorem dX7_debtsLeft_0 : decode cX7_debtsLeft 0 = .ok (.iconst 0, 1) := by decide +kernel
theorem dX7_debtsLeft_1 : decode cX7_debtsLeft 1 = .ok (.istore_n 2, 1) := by decide +kernel
theorem dX7_debtsLeft_2 : decode cX7_debtsLeft 2 = .ok (.iconst 0, 1) := by decide +kernel
theorem dX7_debtsLeft_3 : decode cX7_debtsLeft 3 = .ok (.istore_n 3, 1) := by decide +kernel
theorem dX7_debtsLeft_4 : decode cX7_debtsLeft 4 = .ok (.iload_n 3, 1) := by decide +kernel
theorem dX7_debtsLeft_5 : decode cX7_debtsLeft 5 = .ok (.aload_n 0, 1) := by decide +kernel
theorem dX7_debtsLeft_6 : decode cX7_debtsLeft 6 = .ok (.getfield 66, 3) := by decide +kernel
theorem dX7_debtsLeft_9 : decode cX7_debtsLeft 9 = .ok (.if_icmp .ge 40, 3) := by decide +kernel
theorem dX7_debtsLeft_12 : decode cX7_debtsLeft 12 = .ok (.iload_n 2, 1) := by decide +kernel
theorem dX7_debtsLeft_13 : decode cX7_debtsLeft 13 = .ok (.iload_n 3, 1) := by decide +kernel
theorem dX7_debtsLeft_14 : decode cX7_debtsLeft 14 = .ok (.iload_n 1, 1) := by decide +kernel
theorem dX7_debtsLeft_15 : decode cX7_debtsLeft 15 = .ok (.if_icmp .eq 25, 3) := by decide +kernel
theorem dX7_debtsLeft_18 : decode cX7_debtsLeft 18 = .ok (.aload_n 0, 1) := by decide +kernel
theorem dX7_debtsLeft_19 : decode cX7_debtsLeft 19 = .ok (.getfield 16, 3) := by decide +kernel
theorem dX7_debtsLeft_22 : decode cX7_debtsLeft 22 = .ok (.bipush 28, 2) := by decide +kernel
theorem dX7_debtsLeft_24 : decode cX7_debtsLeft 24 = .ok (.iconst 4, 1) := by decide +kernel
theorem dX7_debtsLeft_25 : decode cX7_debtsLeft 25 = .ok (.iload_n 1, 1) := by decide +kernel
theorem dX7_debtsLeft_26 : decode cX7_debtsLeft 26 = .ok (.imul, 1) := by decide +kernel
theorem dX7_debtsLeft_27 : decode cX7_debtsLeft 27 = .ok (.iadd, 1) := by decide +kernel
theorem dX7_debtsLeft_28 : decode cX7_debtsLeft 28 = .ok (.iload_n 3, 1) := by decide +kernel
theorem dX7_debtsLeft_29 : decode cX7_debtsLeft 29 = .ok (.iadd, 1) := by decide +kernel
theorem dX7_debtsLeft_30 : decode cX7_debtsLeft 30 = .ok (.iaload, 1) := by decide +kernel
theorem dX7_debtsLeft_31 : decode cX7_debtsLeft 31 = .ok (.ifCond .ne 9, 3) := by decide +kernel
theorem dX7_debtsLeft_34 : decode cX7_debtsLeft 34 = .ok (.iconst 1, 1) := by decide +kernel
theorem dX7_debtsLeft_35 : decode cX7_debtsLeft 35 = .ok (.iload_n 3, 1) := by decide +kernel
theorem dX7_debtsLeft_36 : decode cX7_debtsLeft 36 = .ok (.ishl, 1) := by decide +kernel
theorem dX7_debtsLeft_37 : decode cX7_debtsLeft 37 = .ok (.goto 4, 3) := by decide +kernel
theorem dX7_debtsLeft_40 : decode cX7_debtsLeft 40 = .ok (.iconst 0, 1) := by decide +kernel
theorem dX7_debtsLeft_41 : decode cX7_debtsLeft 41 = .ok (.ior, 1) := by decide +kernel
theorem dX7_debtsLeft_42 : decode cX7_debtsLeft 42 = .ok (.istore_n 2, 1) := by decide +kernel
theorem dX7_debtsLeft_43 : decode cX7_debtsLeft 43 = .ok (.iinc 3 1, 3) := by decide +kernel
theorem dX7_debtsLeft_46 : decode cX7_debtsLeft 46 = .ok (.goto (-42), 3) := by decide +kernel
theorem dX7_debtsLeft_49 : decode cX7_debtsLeft 49 = .ok (.iload_n 2, 1) := by decide +kernel
theorem dX7_debtsLeft_50 : decode cX7_debtsLeft 50 = .ok (.ireturn, 1) := by decide +kernel
theorem dX7_debtorsLeft_0 : decode cX7_debtorsLeft 0 = .ok (.iconst 0, 1) := by decide +kernel
theorem dX7_debtorsLeft_1 : decode cX7_debtorsLeft 1 = .ok (.istore_n 1, 1) := by decide +kernel
theorem dX7_debtorsLeft_2 : decode cX7_debtorsLeft 2 = .ok (.iconst 0, 1) := by decide +kernel
theorem dX7_debtorsLeft_3 : decode cX7_debtorsLeft 3 = .ok (.istore_n 2, 1) := by decide +kernel
theorem dX7_debtorsLeft_4 : decode cX7_debtorsLeft 4 = .ok (.iload_n 2, 1) := by decide +kernel
theorem dX7_debtorsLeft_5 : decode cX7_debtorsLeft 5 = .ok (.aload_n 0, 1) := by decide +kernel
theorem dX7_debtorsLeft_6 : decode cX7_debtorsLeft 6 = .ok (.getfield 66, 3) := by decide +kernel
theorem dX7_debtorsLeft_9 : decode cX7_debtorsLeft 9 = .ok (.if_icmp .ge 27, 3) := by decide +kernel
theorem dX7_debtorsLeft_12 : decode cX7_debtorsLeft 12 = .ok (.iload_n 1, 1) := by decide +kernel
theorem dX7_debtorsLeft_13 : decode cX7_debtorsLeft 13 = .ok (.aload_n 0, 1) := by decide +kernel
theorem dX7_debtorsLeft_14 : decode cX7_debtorsLeft 14 = .ok (.iload_n 2, 1) := by decide +kernel
theorem dX7_debtorsLeft_15 : decode cX7_debtorsLeft 15 = .ok (.invokevirtual 69, 3) := by decide +kernel
theorem dX7_debtorsLeft_18 : decode cX7_debtorsLeft 18 = .ok (.ifCond .eq 9, 3) := by decide +kernel
theorem dX7_debtorsLeft_21 : decode cX7_debtorsLeft 21 = .ok (.iconst 1, 1) := by decide +kernel
theorem dX7_debtorsLeft_22 : decode cX7_debtorsLeft 22 = .ok (.iload_n 2, 1) := by decide +kernel
theorem dX7_debtorsLeft_23 : decode cX7_debtorsLeft 23 = .ok (.ishl, 1) := by decide +kernel
theorem dX7_debtorsLeft_24 : decode cX7_debtorsLeft 24 = .ok (.goto 4, 3) := by decide +kernel
theorem dX7_debtorsLeft_27 : decode cX7_debtorsLeft 27 = .ok (.iconst 0, 1) := by decide +kernel
theorem dX7_debtorsLeft_28 : decode cX7_debtorsLeft 28 = .ok (.ior, 1) := by decide +kernel
theorem dX7_debtorsLeft_29 : decode cX7_debtorsLeft 29 = .ok (.istore_n 1, 1) := by decide +kernel
theorem dX7_debtorsLeft_30 : decode cX7_debtorsLeft 30 = .ok (.iinc 2 1, 3) := by decide +kernel
theorem dX7_debtorsLeft_33 : decode cX7_debtorsLeft 33 = .ok (.goto (-29), 3) := by decide +kernel
theorem dX7_debtorsLeft_36 : decode cX7_debtorsLeft 36 = .ok (.iload_n 1, 1) := by decide +kernel
theorem dX7_debtorsLeft_37 : decode cX7_debtorsLeft 37 = .ok (.ireturn, 1) := by decide +kernel
theorem dX7_readText_0 : decode cX7_readText 0 = .ok (.aload_n 0, 1) := by decide +kernel
theorem dX7_readText_1 : decode cX7_readText 1 = .ok (.iconst 0, 1) := by decide +kernel
theorem dX7_readText_2 : decode cX7_readText 2 = .ok (.putfield 57, 3) := by decide +kernel
theorem dX7_readText_5 : decode cX7_readText 5 = .ok (.aload_n 0, 1) := by decide +kernel
theorem dX7_readText_6 : decode cX7_readText 6 = .ok (.bipush (-9), 2) := by decide +kernel
theorem dX7_readText_8 : decode cX7_readText 8 = .ok (.putfield 54, 3) := by decide +kernel
theorem dX7_readText_11 : decode cX7_readText 11 = .ok (.aload_n 0, 1) := by decide +kernel
theorem dX7_readText_12 : decode cX7_readText 12 = .ok (.iconst 0, 1) := by decide +kernel
theorem dX7_readText_13 : decode cX7_readText 13 = .ok (.putfield 66, 3) := by decide +kernel
theorem dX7_readText_16 : decode cX7_readText 16 = .ok (.aload_n 0, 1) := by decide +kernel
theorem dX7_readText_17 : decode cX7_readText 17 = .ok (.iconst 0, 1) := by decide +kernel
theorem dX7_readText_18 : decode cX7_readText 18 = .ok (.putfield 73, 3) := by decide +kernel
theorem dX7_readText_21 : decode cX7_readText 21 = .ok (.iconst 0, 1) := by decide +kernel
theorem dX7_readText_22 : decode cX7_readText 22 = .ok (.istore_n 1, 1) := by decide +kernel
theorem dX7_readText_23 : decode cX7_readText 23 = .ok (.iload_n 1, 1) := by decide +kernel
theorem dX7_readText_24 : decode cX7_readText 24 = .ok (.bipush 45, 2) := by decide +kernel
theorem dX7_readText_26 : decode cX7_readText 26 = .ok (.if_icmp .ge 16, 3) := by decide +kernel
theorem dX7_readText_29 : decode cX7_readText 29 = .ok (.aload_n 0, 1) := by decide +kernel
theorem dX7_readText_30 : decode cX7_readText 30 = .ok (.getfield 16, 3) := by decide +kernel
theorem dX7_readText_33 : decode cX7_readText 33 = .ok (.iload_n 1, 1) := by decide +kernel
theorem dX7_readText_34 : decode cX7_readText 34 = .ok (.iconst 0, 1) := by decide +kernel
theorem dX7_readText_35 : decode cX7_readText 35 = .ok (.iastore, 1) := by decide +kernel
theorem dX7_readText_36 : decode cX7_readText 36 = .ok (.iinc 1 1, 3) := by decide +kernel
theorem dX7_readText_39 : decode cX7_readText 39 = .ok (.goto (-16), 3) := by decide +kernel
theorem dX7_readText_42 : decode cX7_readText 42 = .ok (.aload_n 0, 1) := by decide +kernel
theorem dX7_readText_43 : decode cX7_readText 43 = .ok (.getfield 51, 3) := by decide +kernel
theorem dX7_readText_46 : decode cX7_readText 46 = .ok (.ifCond .eq 14, 3) := by decide +kernel
theorem dX7_readText_49 : decode cX7_readText 49 = .ok (.aload_n 0, 1) := by decide +kernel
theorem dX7_readText_50 : decode cX7_readText 50 = .ok (.getfield 22, 3) := by decide +kernel
theorem dX7_readText_53 : decode cX7_readText 53 = .ok (.iconst 0, 1) := by decide +kernel
theorem dX7_readText_54 : decode cX7_readText 54 = .ok (.iaload, 1) := by decide +kernel
theorem dX7_readText_55 : decode cX7_readText 55 = .ok (.bipush 86, 2) := by decide +kernel
theorem dX7_readText_57 : decode cX7_readText 57 = .ok (.if_icmp .eq 5, 3) := by decide +kernel
theorem dX7_readText_60 : decode cX7_readText 60 = .ok (.iconst 0, 1) := by decide +kernel
theorem dX7_readText_61 : decode cX7_readText 61 = .ok (.ireturn, 1) := by decide +kernel
theorem dX7_readText_62 : decode cX7_readText 62 = .ok (.aload_n 0, 1) := by decide +kernel
theorem dX7_readText_63 : decode cX7_readText 63 = .ok (.iconst 1, 1) := by decide +kernel
theorem dX7_readText_64 : decode cX7_readText 64 = .ok (.putfield 57, 3) := by decide +kernel
theorem dX7_readText_67 : decode cX7_readText 67 = .ok (.aload_n 0, 1) := by decide +kernel
theorem dX7_readText_68 : decode cX7_readText 68 = .ok (.getfield 54, 3) := by decide +kernel
theorem dX7_readText_71 : decode cX7_readText 71 = .ok (.bipush (-9), 2) := by decide +kernel
theorem dX7_readText_73 : decode cX7_readText 73 = .ok (.if_icmp .ne 30, 3) := by decide +kernel
theorem dX7_readText_76 : decode cX7_readText 76 = .ok (.aload_n 0, 1) := by decide +kernel
theorem dX7_readText_77 : decode cX7_readText 77 = .ok (.getfield 57, 3) := by decide +kernel
theorem dX7_readText_80 : decode cX7_readText 80 = .ok (.aload_n 0, 1) := by decide +kernel
theorem dX7_readText_81 : decode cX7_readText 81 = .ok (.getfield 51, 3) := by decide +kernel
theorem dX7_readText_84 : decode cX7_readText 84 = .ok (.if_icmp .ge 19, 3) := by decide +kernel
theorem dX7_readText_87 : decode cX7_readText 87 = .ok (.aload_n 0, 1) := by decide +kernel
theorem dX7_readText_88 : decode cX7_readText 88 = .ok (.aload_n 0, 1) := by decide +kernel
theorem dX7_readText_89 : decode cX7_readText 89 = .ok (.getfield 22, 3) := by decide +kernel
theorem dX7_readText_92 : decode cX7_readText 92 = .ok (.aload_n 0, 1) := by decide +kernel
theorem dX7_readText_93 : decode cX7_readText 93 = .ok (.getfield 57, 3) := by decide +kernel
theorem dX7_readText_96 : decode cX7_readText 96 = .ok (.iaload, 1) := by decide +kernel
theorem dX7_readText_97 : decode cX7_readText 97 = .ok (.invokevirtual 76, 3) := by decide +kernel
theorem dX7_readText_100 : decode cX7_readText 100 = .ok (.goto (-33), 3) := by decide +kernel
theorem dX7_readText_103 : decode cX7_readText 103 = .ok (.aload_n 0, 1) := by decide +kernel
theorem dX7_readText_104 : decode cX7_readText 104 = .ok (.getfield 54, 3) := by decide +kernel
theorem dX7_readText_107 : decode cX7_readText 107 = .ok (.ireturn, 1) := by decide +kernel
theorem dX7_readPart_0 : decode cX7_readPart 0 = .ok (.iload_n 1, 1) := by decide +kernel
theorem dX7_readPart_1 : decode cX7_readPart 1 = .ok (.bipush 80, 2) := by decide +kernel
theorem dX7_readPart_3 : decode cX7_readPart 3 = .ok (.if_icmp .ne 68, 3) := by decide +kernel
theorem dX7_readPart_6 : decode cX7_readPart 6 = .ok (.aload_n 0, 1) := by decide +kernel
theorem dX7_readPart_7 : decode cX7_readPart 7 = .ok (.getfield 66, 3) := by decide +kernel
theorem dX7_readPart_10 : decode cX7_readPart 10 = .ok (.iconst 4, 1) := by decide +kernel
theorem dX7_readPart_11 : decode cX7_readPart 11 = .ok (.if_icmp .ge 60, 3) := by decide +kernel
theorem dX7_readPart_14 : decode cX7_readPart 14 = .ok (.aload_n 0, 1) := by decide +kernel
theorem dX7_readPart_15 : decode cX7_readPart 15 = .ok (.dup, 1) := by decide +kernel
theorem dX7_readPart_16 : decode cX7_readPart 16 = .ok (.getfield 57, 3) := by decide +kernel
theorem dX7_readPart_19 : decode cX7_readPart 19 = .ok (.iconst 1, 1) := by decide +kernel
theorem dX7_readPart_20 : decode cX7_readPart 20 = .ok (.iadd, 1) := by decide +kernel
theorem dX7_readPart_21 : decode cX7_readPart 21 = .ok (.putfield 57, 3) := by decide +kernel
theorem dX7_readPart_24 : decode cX7_readPart 24 = .ok (.aload_n 0, 1) := by decide +kernel
theorem dX7_readPart_25 : decode cX7_readPart 25 = .ok (.getfield 16, 3) := by decide +kernel
theorem dX7_readPart_28 : decode cX7_readPart 28 = .ok (.aload_n 0, 1) := by decide +kernel
theorem dX7_readPart_29 : decode cX7_readPart 29 = .ok (.getfield 66, 3) := by decide +kernel
theorem dX7_readPart_32 : decode cX7_readPart 32 = .ok (.aload_n 0, 1) := by decide +kernel
theorem dX7_readPart_33 : decode cX7_readPart 33 = .ok (.iconst 0, 1) := by decide +kernel
theorem dX7_readPart_34 : decode cX7_readPart 34 = .ok (.bipush 9, 2) := by decide +kernel
theorem dX7_readPart_36 : decode cX7_readPart 36 = .ok (.invokevirtual 80, 3) := by decide +kernel
theorem dX7_readPart_39 : decode cX7_readPart 39 = .ok (.iastore, 1) := by decide +kernel
theorem dX7_readPart_40 : decode cX7_readPart 40 = .ok (.aload_n 0, 1) := by decide +kernel
theorem dX7_readPart_41 : decode cX7_readPart 41 = .ok (.getfield 16, 3) := by decide +kernel
theorem dX7_readPart_44 : decode cX7_readPart 44 = .ok (.iconst 4, 1) := by decide +kernel
theorem dX7_readPart_45 : decode cX7_readPart 45 = .ok (.aload_n 0, 1) := by decide +kernel
theorem dX7_readPart_46 : decode cX7_readPart 46 = .ok (.getfield 66, 3) := by decide +kernel
theorem dX7_readPart_49 : decode cX7_readPart 49 = .ok (.iadd, 1) := by decide +kernel
theorem dX7_readPart_50 : decode cX7_readPart 50 = .ok (.aload_n 0, 1) := by decide +kernel
theorem dX7_readPart_51 : decode cX7_readPart 51 = .ok (.iconst 0, 1) := by decide +kernel
theorem dX7_readPart_52 : decode cX7_readPart 52 = .ok (.bipush 9, 2) := by decide +kernel
theorem dX7_readPart_54 : decode cX7_readPart 54 = .ok (.invokevirtual 80, 3) := by decide +kernel
theorem dX7_readPart_57 : decode cX7_readPart 57 = .ok (.iastore, 1) := by decide +kernel
theorem dX7_readPart_58 : decode cX7_readPart 58 = .ok (.aload_n 0, 1) := by decide +kernel
theorem dX7_readPart_59 : decode cX7_readPart 59 = .ok (.dup, 1) := by decide +kernel
theorem dX7_readPart_60 : decode cX7_readPart 60 = .ok (.getfield 66, 3) := by decide +kernel
theorem dX7_readPart_63 : decode cX7_readPart 63 = .ok (.iconst 1, 1) := by decide +kernel
theorem dX7_readPart_64 : decode cX7_readPart 64 = .ok (.iadd, 1) := by decide +kernel
theorem dX7_readPart_65 : decode cX7_readPart 65 = .ok (.putfield 66, 3) := by decide +kernel
theorem dX7_readPart_68 : decode cX7_readPart 68 = .ok (.goto 204, 3) := by decide +kernel
theorem dX7_readPart_71 : decode cX7_readPart 71 = .ok (.iload_n 1, 1) := by decide +kernel
theorem dX7_readPart_72 : decode cX7_readPart 72 = .ok (.bipush 66, 2) := by decide +kernel
theorem dX7_readPart_74 : decode cX7_readPart 74 = .ok (.if_icmp .ne 112, 3) := by decide +kernel
theorem dX7_readPart_77 : decode cX7_readPart 77 = .ok (.aload_n 0, 1) := by decide +kernel
theorem dX7_readPart_78 : decode cX7_readPart 78 = .ok (.getfield 73, 3) := by decide +kernel
theorem dX7_readPart_81 : decode cX7_readPart 81 = .ok (.iconst 5, 1) := by decide +kernel
theorem dX7_readPart_82 : decode cX7_readPart 82 = .ok (.if_icmp .ge 104, 3) := by decide +kernel
theorem dX7_readPart_85 : decode cX7_readPart 85 = .ok (.aload_n 0, 1) := by decide +kernel
theorem dX7_readPart_86 : decode cX7_readPart 86 = .ok (.getfield 66, 3) := by decide +kernel
theorem dX7_readPart_89 : decode cX7_readPart 89 = .ok (.ifCond .le 97, 3) := by decide +kernel
theorem dX7_readPart_92 : decode cX7_readPart 92 = .ok (.aload_n 0, 1) := by decide +kernel
theorem dX7_readPart_93 : decode cX7_readPart 93 = .ok (.dup, 1) := by decide +kernel
theorem dX7_readPart_94 : decode cX7_readPart 94 = .ok (.getfield 57, 3) := by decide +kernel
theorem dX7_readPart_97 : decode cX7_readPart 97 = .ok (.iconst 1, 1) := by decide +kernel
theorem dX7_readPart_98 : decode cX7_readPart 98 = .ok (.iadd, 1) := by decide +kernel
theorem dX7_readPart_99 : decode cX7_readPart 99 = .ok (.putfield 57, 3) := by decide +kernel
theorem dX7_readPart_102 : decode cX7_readPart 102 = .ok (.aload_n 0, 1) := by decide +kernel
theorem dX7_readPart_103 : decode cX7_readPart 103 = .ok (.getfield 16, 3) := by decide +kernel
theorem dX7_readPart_106 : decode cX7_readPart 106 = .ok (.bipush 8, 2) := by decide +kernel
theorem dX7_readPart_108 : decode cX7_readPart 108 = .ok (.aload_n 0, 1) := by decide +kernel
theorem dX7_readPart_109 : decode cX7_readPart 109 = .ok (.getfield 73, 3) := by decide +kernel
theorem dX7_readPart_112 : decode cX7_readPart 112 = .ok (.iadd, 1) := by decide +kernel
theorem dX7_readPart_113 : decode cX7_readPart 113 = .ok (.aload_n 0, 1) := by decide +kernel
theorem dX7_readPart_114 : decode cX7_readPart 114 = .ok (.iconst 0, 1) := by decide +kernel
theorem dX7_readPart_115 : decode cX7_readPart 115 = .ok (.aload_n 0, 1) := by decide +kernel
theorem dX7_readPart_116 : decode cX7_readPart 116 = .ok (.getfield 66, 3) := by decide +kernel
theorem dX7_readPart_119 : decode cX7_readPart 119 = .ok (.iconst 1, 1) := by decide +kernel
theorem dX7_readPart_120 : decode cX7_readPart 120 = .ok (.isub, 1) := by decide +kernel
theorem dX7_readPart_121 : decode cX7_readPart 121 = .ok (.invokevirtual 80, 3) := by decide +kernel
theorem dX7_readPart_124 : decode cX7_readPart 124 = .ok (.iastore, 1) := by decide +kernel
theorem dX7_readPart_125 : decode cX7_readPart 125 = .ok (.aload_n 0, 1) := by decide +kernel
theorem dX7_readPart_126 : decode cX7_readPart 126 = .ok (.getfield 16, 3) := by decide +kernel
theorem dX7_readPart_129 : decode cX7_readPart 129 = .ok (.bipush 13, 2) := by decide +kernel
theorem dX7_readPart_131 : decode cX7_readPart 131 = .ok (.aload_n 0, 1) := by decide +kernel
theorem dX7_readPart_132 : decode cX7_readPart 132 = .ok (.getfield 73, 3) := by decide +kernel
theorem dX7_readPart_135 : decode cX7_readPart 135 = .ok (.iadd, 1) := by decide +kernel
theorem dX7_readPart_136 : decode cX7_readPart 136 = .ok (.aload_n 0, 1) := by decide +kernel
theorem dX7_readPart_137 : decode cX7_readPart 137 = .ok (.iconst 1, 1) := by decide +kernel
theorem dX7_readPart_138 : decode cX7_readPart 138 = .ok (.bipush 9, 2) := by decide +kernel
theorem dX7_readPart_140 : decode cX7_readPart 140 = .ok (.invokevirtual 80, 3) := by decide +kernel
theorem dX7_readPart_143 : decode cX7_readPart 143 = .ok (.iastore, 1) := by decide +kernel
theorem dX7_readPart_144 : decode cX7_readPart 144 = .ok (.aload_n 0, 1) := by decide +kernel
theorem dX7_readPart_145 : decode cX7_readPart 145 = .ok (.getfield 19, 3) := by decide +kernel
theorem dX7_readPart_148 : decode cX7_readPart 148 = .ok (.aload_n 0, 1) := by decide +kernel
theorem dX7_readPart_149 : decode cX7_readPart 149 = .ok (.getfield 73, 3) := by decide +kernel
theorem dX7_readPart_152 : decode cX7_readPart 152 = .ok (.aload_n 0, 1) := by decide +kernel
theorem dX7_readPart_153 : decode cX7_readPart 153 = .ok (.iconst 0, 1) := by decide +kernel
theorem dX7_readPart_154 : decode cX7_readPart 154 = .ok (.iconst 3, 1) := by decide +kernel
theorem dX7_readPart_155 : decode cX7_readPart 155 = .ok (.invokevirtual 80, 3) := by decide +kernel
theorem dX7_readPart_158 : decode cX7_readPart 158 = .ok (.iastore, 1) := by decide +kernel
theorem dX7_readPart_159 : decode cX7_readPart 159 = .ok (.aload_n 0, 1) := by decide +kernel
theorem dX7_readPart_160 : decode cX7_readPart 160 = .ok (.getfield 16, 3) := by decide +kernel
theorem dX7_readPart_163 : decode cX7_readPart 163 = .ok (.bipush 18, 2) := by decide +kernel
theorem dX7_readPart_165 : decode cX7_readPart 165 = .ok (.aload_n 0, 1) := by decide +kernel
theorem dX7_readPart_166 : decode cX7_readPart 166 = .ok (.getfield 73, 3) := by decide +kernel
theorem dX7_readPart_169 : decode cX7_readPart 169 = .ok (.iadd, 1) := by decide +kernel
theorem dX7_readPart_170 : decode cX7_readPart 170 = .ok (.bipush (-9), 2) := by decide +kernel
theorem dX7_readPart_172 : decode cX7_readPart 172 = .ok (.iastore, 1) := by decide +kernel
theorem dX7_readPart_173 : decode cX7_readPart 173 = .ok (.aload_n 0, 1) := by decide +kernel
theorem dX7_readPart_174 : decode cX7_readPart 174 = .ok (.dup, 1) := by decide +kernel
theorem dX7_readPart_175 : decode cX7_readPart 175 = .ok (.getfield 73, 3) := by decide +kernel
theorem dX7_readPart_178 : decode cX7_readPart 178 = .ok (.iconst 1, 1) := by decide +kernel
theorem dX7_readPart_179 : decode cX7_readPart 179 = .ok (.iadd, 1) := by decide +kernel
theorem dX7_readPart_180 : decode cX7_readPart 180 = .ok (.putfield 73, 3) := by decide +kernel
theorem dX7_readPart_183 : decode cX7_readPart 183 = .ok (.goto 89, 3) := by decide +kernel
theorem dX7_readPart_186 : decode cX7_readPart 186 = .ok (.iload_n 1, 1) := by decide +kernel
theorem dX7_readPart_187 : decode cX7_readPart 187 = .ok (.bipush 68, 2) := by decide +kernel
theorem dX7_readPart_189 : decode cX7_readPart 189 = .ok (.if_icmp .ne 75, 3) := by decide +kernel
theorem dX7_readPart_192 : decode cX7_readPart 192 = .ok (.aload_n 0, 1) := by decide +kernel
theorem dX7_readPart_193 : decode cX7_readPart 193 = .ok (.invokevirtual 84, 3) := by decide +kernel
theorem dX7_readPart_196 : decode cX7_readPart 196 = .ok (.ifCond .eq 68, 3) := by decide +kernel
theorem dX7_readPart_199 : decode cX7_readPart 199 = .ok (.aload_n 0, 1) := by decide +kernel
theorem dX7_readPart_200 : decode cX7_readPart 200 = .ok (.dup, 1) := by decide +kernel
theorem dX7_readPart_201 : decode cX7_readPart 201 = .ok (.getfield 57, 3) := by decide +kernel
theorem dX7_readPart_204 : decode cX7_readPart 204 = .ok (.iconst 1, 1) := by decide +kernel
theorem dX7_readPart_205 : decode cX7_readPart 205 = .ok (.iadd, 1) := by decide +kernel
theorem dX7_readPart_206 : decode cX7_readPart 206 = .ok (.putfield 57, 3) := by decide +kernel
theorem dX7_readPart_209 : decode cX7_readPart 209 = .ok (.aload_n 0, 1) := by decide +kernel
theorem dX7_readPart_210 : decode cX7_readPart 210 = .ok (.aload_n 0, 1) := by decide +kernel
theorem dX7_readPart_211 : decode cX7_readPart 211 = .ok (.invokevirtual 84, 3) := by decide +kernel
theorem dX7_readPart_214 : decode cX7_readPart 214 = .ok (.invokevirtual 88, 3) := by decide +kernel
theorem dX7_readPart_217 : decode cX7_readPart 217 = .ok (.istore_n 2, 1) := by decide +kernel
theorem dX7_readPart_218 : decode cX7_readPart 218 = .ok (.aload_n 0, 1) := by decide +kernel
theorem dX7_readPart_219 : decode cX7_readPart 219 = .ok (.aload_n 0, 1) := by decide +kernel
theorem dX7_readPart_220 : decode cX7_readPart 220 = .ok (.iload_n 2, 1) := by decide +kernel
theorem dX7_readPart_221 : decode cX7_readPart 221 = .ok (.invokevirtual 69, 3) := by decide +kernel
theorem dX7_readPart_224 : decode cX7_readPart 224 = .ok (.invokevirtual 88, 3) := by decide +kernel
theorem dX7_readPart_227 : decode cX7_readPart 227 = .ok (.istore_n 3, 1) := by decide +kernel
theorem dX7_readPart_228 : decode cX7_readPart 228 = .ok (.aload_n 0, 1) := by decide +kernel
theorem dX7_readPart_229 : decode cX7_readPart 229 = .ok (.iconst 1, 1) := by decide +kernel
theorem dX7_readPart_230 : decode cX7_readPart 230 = .ok (.bipush 9, 2) := by decide +kernel
theorem dX7_readPart_232 : decode cX7_readPart 232 = .ok (.invokevirtual 80, 3) := by decide +kernel
theorem dX7_readPart_235 : decode cX7_readPart 235 = .ok (.istore 4, 2) := by decide +kernel
theorem dX7_readPart_237 : decode cX7_readPart 237 = .ok (.aload_n 0, 1) := by decide +kernel
theorem dX7_readPart_238 : decode cX7_readPart 238 = .ok (.getfield 54, 3) := by decide +kernel
