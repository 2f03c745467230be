theorem dX0_join_0 : decode cX0_join 0 = .ok (.iconst 0, 1) := by decide +kernel
theorem dX0_join_1 : decode cX0_join 1 = .ok (.istore_n 3, 1) := by decide +kernel
theorem dX0_join_2 : decode cX0_join 2 = .ok (.iload_n 3, 1) := by decide +kernel
theorem dX0_join_3 : decode cX0_join 3 = .ok (.aload_n 1, 1) := by decide +kernel
theorem dX0_join_4 : decode cX0_join 4 = .ok (.getfield 31, 3) := by decide +kernel
theorem dX0_join_7 : decode cX0_join 7 = .ok (.if_icmp .ge 16, 3) := by decide +kernel
theorem dX0_join_10 : decode cX0_join 10 = .ok (.aload_n 0, 1) := by decide +kernel
theorem dX0_join_11 : decode cX0_join 11 = .ok (.getfield 9, 3) := by decide +kernel
theorem dX0_join_14 : decode cX0_join 14 = .ok (.iload_n 3, 1) := by decide +kernel
theorem dX0_join_15 : decode cX0_join 15 = .ok (.iload_n 3, 1) := by decide +kernel
theorem dX0_join_16 : decode cX0_join 16 = .ok (.iastore, 1) := by decide +kernel
theorem dX0_join_17 : decode cX0_join 17 = .ok (.iinc 3 1, 3) := by decide +kernel
theorem dX0_join_20 : decode cX0_join 20 = .ok (.goto (-18), 3) := by decide +kernel
theorem dX0_join_23 : decode cX0_join 23 = .ok (.iconst 0, 1) := by decide +kernel
theorem dX0_join_24 : decode cX0_join 24 = .ok (.istore_n 3, 1) := by decide +kernel
theorem dX0_join_25 : decode cX0_join 25 = .ok (.iload_n 3, 1) := by decide +kernel
theorem dX0_join_26 : decode cX0_join 26 = .ok (.aload_n 2, 1) := by decide +kernel
theorem dX0_join_27 : decode cX0_join 27 = .ok (.getfield 36, 3) := by decide +kernel
theorem dX0_join_30 : decode cX0_join 30 = .ok (.if_icmp .ge 34, 3) := by decide +kernel
theorem dX0_join_33 : decode cX0_join 33 = .ok (.aload_n 2, 1) := by decide +kernel
theorem dX0_join_34 : decode cX0_join 34 = .ok (.getfield 41, 3) := by decide +kernel
theorem dX0_join_37 : decode cX0_join 37 = .ok (.iload_n 3, 1) := by decide +kernel
theorem dX0_join_38 : decode cX0_join 38 = .ok (.iaload, 1) := by decide +kernel
theorem dX0_join_39 : decode cX0_join 39 = .ok (.ifCond .ne 19, 3) := by decide +kernel
theorem dX0_join_42 : decode cX0_join 42 = .ok (.aload_n 0, 1) := by decide +kernel
theorem dX0_join_43 : decode cX0_join 43 = .ok (.aload_n 2, 1) := by decide +kernel
theorem dX0_join_44 : decode cX0_join 44 = .ok (.getfield 44, 3) := by decide +kernel
theorem dX0_join_47 : decode cX0_join 47 = .ok (.iload_n 3, 1) := by decide +kernel
theorem dX0_join_48 : decode cX0_join 48 = .ok (.iaload, 1) := by decide +kernel
theorem dX0_join_49 : decode cX0_join 49 = .ok (.aload_n 2, 1) := by decide +kernel
theorem dX0_join_50 : decode cX0_join 50 = .ok (.getfield 47, 3) := by decide +kernel
theorem dX0_join_53 : decode cX0_join 53 = .ok (.iload_n 3, 1) := by decide +kernel
theorem dX0_join_54 : decode cX0_join 54 = .ok (.iaload, 1) := by decide +kernel
theorem dX0_join_55 : decode cX0_join 55 = .ok (.invokevirtual 50, 3) := by decide +kernel
theorem dX0_join_58 : decode cX0_join 58 = .ok (.iinc 3 1, 3) := by decide +kernel
theorem dX0_join_61 : decode cX0_join 61 = .ok (.goto (-36), 3) := by decide +kernel
theorem dX0_join_64 : decode cX0_join 64 = .ok (.aload_n 0, 1) := by decide +kernel
theorem dX0_join_65 : decode cX0_join 65 = .ok (.aload_n 1, 1) := by decide +kernel
theorem dX0_join_66 : decode cX0_join 66 = .ok (.getfield 31, 3) := by decide +kernel
theorem dX0_join_69 : decode cX0_join 69 = .ok (.invokevirtual 54, 3) := by decide +kernel
theorem dX0_join_72 : decode cX0_join 72 = .ok (.aload_n 0, 1) := by decide +kernel
theorem dX0_join_73 : decode cX0_join 73 = .ok (.aload_n 1, 1) := by decide +kernel
theorem dX0_join_74 : decode cX0_join 74 = .ok (.invokevirtual 58, 3) := by decide +kernel
theorem dX0_join_77 : decode cX0_join 77 = .ok (.aload_n 0, 1) := by decide +kernel
theorem dX0_join_78 : decode cX0_join 78 = .ok (.aload_n 2, 1) := by decide +kernel
theorem dX0_join_79 : decode cX0_join 79 = .ok (.invokevirtual 62, 3) := by decide +kernel
theorem dX0_join_82 : decode cX0_join 82 = .ok (.return_, 1) := by decide +kernel
theorem dX0_unite_0 : decode cX0_unite 0 = .ok (.aload_n 0, 1) := by decide +kernel
theorem dX0_unite_1 : decode cX0_unite 1 = .ok (.iload_n 1, 1) := by decide +kernel
theorem dX0_unite_2 : decode cX0_unite 2 = .ok (.invokevirtual 66, 3) := by decide +kernel
theorem dX0_unite_5 : decode cX0_unite 5 = .ok (.istore_n 3, 1) := by decide +kernel
theorem dX0_unite_6 : decode cX0_unite 6 = .ok (.aload_n 0, 1) := by decide +kernel
theorem dX0_unite_7 : decode cX0_unite 7 = .ok (.iload_n 2, 1) := by decide +kernel
theorem dX0_unite_8 : decode cX0_unite 8 = .ok (.invokevirtual 66, 3) := by decide +kernel
theorem dX0_unite_11 : decode cX0_unite 11 = .ok (.istore 4, 2) := by decide +kernel
theorem dX0_unite_13 : decode cX0_unite 13 = .ok (.aload_n 0, 1) := by decide +kernel
theorem dX0_unite_14 : decode cX0_unite 14 = .ok (.getfield 9, 3) := by decide +kernel
theorem dX0_unite_17 : decode cX0_unite 17 = .ok (.iload_n 3, 1) := by decide +kernel
theorem dX0_unite_18 : decode cX0_unite 18 = .ok (.iload 4, 2) := by decide +kernel
theorem dX0_unite_20 : decode cX0_unite 20 = .ok (.invokestatic 70, 3) := by decide +kernel
theorem dX0_unite_23 : decode cX0_unite 23 = .ok (.iload_n 3, 1) := by decide +kernel
theorem dX0_unite_24 : decode cX0_unite 24 = .ok (.iload 4, 2) := by decide +kernel
theorem dX0_unite_26 : decode cX0_unite 26 = .ok (.invokestatic 76, 3) := by decide +kernel
theorem dX0_unite_29 : decode cX0_unite 29 = .ok (.iastore, 1) := by decide +kernel
theorem dX0_unite_30 : decode cX0_unite 30 = .ok (.return_, 1) := by decide +kernel
theorem dX0_rootOf_0 : decode cX0_rootOf 0 = .ok (.iload_n 1, 1) := by decide +kernel
theorem dX0_rootOf_1 : decode cX0_rootOf 1 = .ok (.istore_n 2, 1) := by decide +kernel
theorem dX0_rootOf_2 : decode cX0_rootOf 2 = .ok (.iconst 0, 1) := by decide +kernel
theorem dX0_rootOf_3 : decode cX0_rootOf 3 = .ok (.istore_n 3, 1) := by decide +kernel
theorem dX0_rootOf_4 : decode cX0_rootOf 4 = .ok (.iload_n 3, 1) := by decide +kernel
theorem dX0_rootOf_5 : decode cX0_rootOf 5 = .ok (.sipush 726, 3) := by decide +kernel
theorem dX0_rootOf_8 : decode cX0_rootOf 8 = .ok (.if_icmp .ge 26, 3) := by decide +kernel
theorem dX0_rootOf_11 : decode cX0_rootOf 11 = .ok (.aload_n 0, 1) := by decide +kernel
theorem dX0_rootOf_12 : decode cX0_rootOf 12 = .ok (.getfield 9, 3) := by decide +kernel
theorem dX0_rootOf_15 : decode cX0_rootOf 15 = .ok (.iload_n 2, 1) := by decide +kernel
theorem dX0_rootOf_16 : decode cX0_rootOf 16 = .ok (.iaload, 1) := by decide +kernel
theorem dX0_rootOf_17 : decode cX0_rootOf 17 = .ok (.iload_n 2, 1) := by decide +kernel
theorem dX0_rootOf_18 : decode cX0_rootOf 18 = .ok (.if_icmp .eq 16, 3) := by decide +kernel
theorem dX0_rootOf_21 : decode cX0_rootOf 21 = .ok (.aload_n 0, 1) := by decide +kernel
theorem dX0_rootOf_22 : decode cX0_rootOf 22 = .ok (.getfield 9, 3) := by decide +kernel
theorem dX0_rootOf_25 : decode cX0_rootOf 25 = .ok (.iload_n 2, 1) := by decide +kernel
theorem dX0_rootOf_26 : decode cX0_rootOf 26 = .ok (.iaload, 1) := by decide +kernel
theorem dX0_rootOf_27 : decode cX0_rootOf 27 = .ok (.istore_n 2, 1) := by decide +kernel
theorem dX0_rootOf_28 : decode cX0_rootOf 28 = .ok (.iinc 3 1, 3) := by decide +kernel
theorem dX0_rootOf_31 : decode cX0_rootOf 31 = .ok (.goto (-27), 3) := by decide +kernel
theorem dX0_rootOf_34 : decode cX0_rootOf 34 = .ok (.iload_n 2, 1) := by decide +kernel
theorem dX0_rootOf_35 : decode cX0_rootOf 35 = .ok (.ireturn, 1) := by decide +kernel
theorem dX0_number_0 : decode cX0_number 0 = .ok (.aload_n 0, 1) := by decide +kernel
theorem dX0_number_1 : decode cX0_number 1 = .ok (.iconst 0, 1) := by decide +kernel
theorem dX0_number_2 : decode cX0_number 2 = .ok (.putfield 79, 3) := by decide +kernel
theorem dX0_number_5 : decode cX0_number 5 = .ok (.iconst 0, 1) := by decide +kernel
theorem dX0_number_6 : decode cX0_number 6 = .ok (.istore_n 2, 1) := by decide +kernel
theorem dX0_number_7 : decode cX0_number 7 = .ok (.iload_n 2, 1) := by decide +kernel
theorem dX0_number_8 : decode cX0_number 8 = .ok (.iload_n 1, 1) := by decide +kernel
theorem dX0_number_9 : decode cX0_number 9 = .ok (.if_icmp .ge 119, 3) := by decide +kernel
theorem dX0_number_12 : decode cX0_number 12 = .ok (.aload_n 0, 1) := by decide +kernel
theorem dX0_number_13 : decode cX0_number 13 = .ok (.iload_n 2, 1) := by decide +kernel
theorem dX0_number_14 : decode cX0_number 14 = .ok (.invokevirtual 66, 3) := by decide +kernel
theorem dX0_number_17 : decode cX0_number 17 = .ok (.istore_n 3, 1) := by decide +kernel
theorem dX0_number_18 : decode cX0_number 18 = .ok (.iload_n 3, 1) := by decide +kernel
theorem dX0_number_19 : decode cX0_number 19 = .ok (.iload_n 2, 1) := by decide +kernel
theorem dX0_number_20 : decode cX0_number 20 = .ok (.if_icmp .eq 18, 3) := by decide +kernel
theorem dX0_number_23 : decode cX0_number 23 = .ok (.aload_n 0, 1) := by decide +kernel
theorem dX0_number_24 : decode cX0_number 24 = .ok (.getfield 15, 3) := by decide +kernel
theorem dX0_number_27 : decode cX0_number 27 = .ok (.iload_n 2, 1) := by decide +kernel
theorem dX0_number_28 : decode cX0_number 28 = .ok (.aload_n 0, 1) := by decide +kernel
theorem dX0_number_29 : decode cX0_number 29 = .ok (.getfield 15, 3) := by decide +kernel
theorem dX0_number_32 : decode cX0_number 32 = .ok (.iload_n 3, 1) := by decide +kernel
theorem dX0_number_33 : decode cX0_number 33 = .ok (.iaload, 1) := by decide +kernel
theorem dX0_number_34 : decode cX0_number 34 = .ok (.iastore, 1) := by decide +kernel
theorem dX0_number_35 : decode cX0_number 35 = .ok (.goto 72, 3) := by decide +kernel
theorem dX0_number_38 : decode cX0_number 38 = .ok (.aload_n 0, 1) := by decide +kernel
theorem dX0_number_39 : decode cX0_number 39 = .ok (.getfield 79, 3) := by decide +kernel
theorem dX0_number_42 : decode cX0_number 42 = .ok (.bipush 64, 2) := by decide +kernel
theorem dX0_number_44 : decode cX0_number 44 = .ok (.if_icmp .ge 63, 3) := by decide +kernel
theorem dX0_number_47 : decode cX0_number 47 = .ok (.aload_n 0, 1) := by decide +kernel
theorem dX0_number_48 : decode cX0_number 48 = .ok (.getfield 15, 3) := by decide +kernel
theorem dX0_number_51 : decode cX0_number 51 = .ok (.iload_n 2, 1) := by decide +kernel
theorem dX0_number_52 : decode cX0_number 52 = .ok (.aload_n 0, 1) := by decide +kernel
theorem dX0_number_53 : decode cX0_number 53 = .ok (.getfield 79, 3) := by decide +kernel
theorem dX0_number_56 : decode cX0_number 56 = .ok (.iastore, 1) := by decide +kernel
theorem dX0_number_57 : decode cX0_number 57 = .ok (.aload_n 0, 1) := by decide +kernel
theorem dX0_number_58 : decode cX0_number 58 = .ok (.getfield 18, 3) := by decide +kernel
theorem dX0_number_61 : decode cX0_number 61 = .ok (.aload_n 0, 1) := by decide +kernel
theorem dX0_number_62 : decode cX0_number 62 = .ok (.getfield 79, 3) := by decide +kernel
theorem dX0_number_65 : decode cX0_number 65 = .ok (.iload_n 2, 1) := by decide +kernel
theorem dX0_number_66 : decode cX0_number 66 = .ok (.iastore, 1) := by decide +kernel
theorem dX0_number_67 : decode cX0_number 67 = .ok (.aload_n 0, 1) := by decide +kernel
theorem dX0_number_68 : decode cX0_number 68 = .ok (.getfield 21, 3) := by decide +kernel
theorem dX0_number_71 : decode cX0_number 71 = .ok (.aload_n 0, 1) := by decide +kernel
theorem dX0_number_72 : decode cX0_number 72 = .ok (.getfield 79, 3) := by decide +kernel
theorem dX0_number_75 : decode cX0_number 75 = .ok (.iconst 0, 1) := by decide +kernel
theorem dX0_number_76 : decode cX0_number 76 = .ok (.iastore, 1) := by decide +kernel
theorem dX0_number_77 : decode cX0_number 77 = .ok (.aload_n 0, 1) := by decide +kernel
theorem dX0_number_78 : decode cX0_number 78 = .ok (.getfield 24, 3) := by decide +kernel
theorem dX0_number_81 : decode cX0_number 81 = .ok (.aload_n 0, 1) := by decide +kernel
theorem dX0_number_82 : decode cX0_number 82 = .ok (.getfield 79, 3) := by decide +kernel
theorem dX0_number_85 : decode cX0_number 85 = .ok (.iconst 0, 1) := by decide +kernel
theorem dX0_number_86 : decode cX0_number 86 = .ok (.iastore, 1) := by decide +kernel
theorem dX0_number_87 : decode cX0_number 87 = .ok (.aload_n 0, 1) := by decide +kernel
theorem dX0_number_88 : decode cX0_number 88 = .ok (.getfield 27, 3) := by decide +kernel
theorem dX0_number_91 : decode cX0_number 91 = .ok (.aload_n 0, 1) := by decide +kernel
theorem dX0_number_92 : decode cX0_number 92 = .ok (.getfield 79, 3) := by decide +kernel
theorem dX0_number_95 : decode cX0_number 95 = .ok (.lconst 0, 1) := by decide +kernel
theorem dX0_number_96 : decode cX0_number 96 = .ok (.lastore, 1) := by decide +kernel
theorem dX0_number_97 : decode cX0_number 97 = .ok (.aload_n 0, 1) := by decide +kernel
theorem dX0_number_98 : decode cX0_number 98 = .ok (.dup, 1) := by decide +kernel
theorem dX0_number_99 : decode cX0_number 99 = .ok (.getfield 79, 3) := by decide +kernel
theorem dX0_number_102 : decode cX0_number 102 = .ok (.iconst 1, 1) := by decide +kernel
theorem dX0_number_103 : decode cX0_number 103 = .ok (.iadd, 1) := by decide +kernel
theorem dX0_number_104 : decode cX0_number 104 = .ok (.putfield 79, 3) := by decide +kernel
theorem dX0_number_107 : decode cX0_number 107 = .ok (.aload_n 0, 1) := by decide +kernel
theorem dX0_number_108 : decode cX0_number 108 = .ok (.getfield 21, 3) := by decide +kernel
theorem dX0_number_111 : decode cX0_number 111 = .ok (.aload_n 0, 1) := by decide +kernel
theorem dX0_number_112 : decode cX0_number 112 = .ok (.getfield 15, 3) := by decide +kernel
theorem dX0_number_115 : decode cX0_number 115 = .ok (.iload_n 2, 1) := by decide +kernel
theorem dX0_number_116 : decode cX0_number 116 = .ok (.iaload, 1) := by decide +kernel
theorem dX0_number_117 : decode cX0_number 117 = .ok (.dup2, 1) := by decide +kernel
theorem dX0_number_118 : decode cX0_number 118 = .ok (.iaload, 1) := by decide +kernel
theorem dX0_number_119 : decode cX0_number 119 = .ok (.iconst 1, 1) := by decide +kernel
theorem dX0_number_120 : decode cX0_number 120 = .ok (.iadd, 1) := by decide +kernel
theorem dX0_number_121 : decode cX0_number 121 = .ok (.iastore, 1) := by decide +kernel
theorem dX0_number_122 : decode cX0_number 122 = .ok (.iinc 2 1, 3) := by decide +kernel
theorem dX0_number_125 : decode cX0_number 125 = .ok (.goto (-118), 3) := by decide +kernel
theorem dX0_number_128 : decode cX0_number 128 = .ok (.return_, 1) := by decide +kernel
theorem dX0_boundByCells_0 : decode cX0_boundByCells 0 = .ok (.iconst 0, 1) := by decide +kernel
theorem dX0_boundByCells_1 : decode cX0_boundByCells 1 = .ok (.istore_n 2, 1) := by decide +kernel
theorem dX0_boundByCells_2 : decode cX0_boundByCells 2 = .ok (.iload_n 2, 1) := by decide +kernel
theorem dX0_boundByCells_3 : decode cX0_boundByCells 3 = .ok (.aload_n 1, 1) := by decide +kernel
theorem dX0_boundByCells_4 : decode cX0_boundByCells 4 = .ok (.getfield 31, 3) := by decide +kernel
theorem dX0_boundByCells_7 : decode cX0_boundByCells 7 = .ok (.if_icmp .ge 73, 3) := by decide +kernel
theorem dX0_boundByCells_10 : decode cX0_boundByCells 10 = .ok (.aload_n 0, 1) := by decide +kernel
theorem dX0_boundByCells_11 : decode cX0_boundByCells 11 = .ok (.getfield 24, 3) := by decide +kernel
theorem dX0_boundByCells_14 : decode cX0_boundByCells 14 = .ok (.aload_n 0, 1) := by decide +kernel
theorem dX0_boundByCells_15 : decode cX0_boundByCells 15 = .ok (.getfield 15, 3) := by decide +kernel
theorem dX0_boundByCells_18 : decode cX0_boundByCells 18 = .ok (.iload_n 2, 1) := by decide +kernel
theorem dX0_boundByCells_19 : decode cX0_boundByCells 19 = .ok (.iaload, 1) := by decide +kernel
theorem dX0_boundByCells_20 : decode cX0_boundByCells 20 = .ok (.dup2, 1) := by decide +kernel
theorem dX0_boundByCells_21 : decode cX0_boundByCells 21 = .ok (.iaload, 1) := by decide +kernel
theorem dX0_boundByCells_22 : decode cX0_boundByCells 22 = .ok (.aload_n 1, 1) := by decide +kernel
theorem dX0_boundByCells_23 : decode cX0_boundByCells 23 = .ok (.getfield 80, 3) := by decide +kernel
theorem dX0_boundByCells_26 : decode cX0_boundByCells 26 = .ok (.iload_n 2, 1) := by decide +kernel
theorem dX0_boundByCells_27 : decode cX0_boundByCells 27 = .ok (.iaload, 1) := by decide +kernel
theorem dX0_boundByCells_28 : decode cX0_boundByCells 28 = .ok (.aload_n 1, 1) := by decide +kernel
theorem dX0_boundByCells_29 : decode cX0_boundByCells 29 = .ok (.getfield 83, 3) := by decide +kernel
theorem dX0_boundByCells_32 : decode cX0_boundByCells 32 = .ok (.iload_n 2, 1) := by decide +kernel
theorem dX0_boundByCells_33 : decode cX0_boundByCells 33 = .ok (.iaload, 1) := by decide +kernel
theorem dX0_boundByCells_34 : decode cX0_boundByCells 34 = .ok (.ior, 1) := by decide +kernel
theorem dX0_boundByCells_35 : decode cX0_boundByCells 35 = .ok (.ior, 1) := by decide +kernel
theorem dX0_boundByCells_36 : decode cX0_boundByCells 36 = .ok (.iastore, 1) := by decide +kernel
theorem dX0_boundByCells_37 : decode cX0_boundByCells 37 = .ok (.aload_n 1, 1) := by decide +kernel
theorem dX0_boundByCells_38 : decode cX0_boundByCells 38 = .ok (.getfield 83, 3) := by decide +kernel
theorem dX0_boundByCells_41 : decode cX0_boundByCells 41 = .ok (.iload_n 2, 1) := by decide +kernel
theorem dX0_boundByCells_42 : decode cX0_boundByCells 42 = .ok (.iaload, 1) := by decide +kernel
theorem dX0_boundByCells_43 : decode cX0_boundByCells 43 = .ok (.ifCond .eq 31, 3) := by decide +kernel
theorem dX0_boundByCells_46 : decode cX0_boundByCells 46 = .ok (.iload_n 2, 1) := by decide +kernel
theorem dX0_boundByCells_47 : decode cX0_boundByCells 47 = .ok (.iconst 1, 1) := by decide +kernel
theorem dX0_boundByCells_48 : decode cX0_boundByCells 48 = .ok (.iadd, 1) := by decide +kernel
theorem dX0_boundByCells_49 : decode cX0_boundByCells 49 = .ok (.aload_n 1, 1) := by decide +kernel
theorem dX0_boundByCells_50 : decode cX0_boundByCells 50 = .ok (.getfield 31, 3) := by decide +kernel
theorem dX0_boundByCells_53 : decode cX0_boundByCells 53 = .ok (.if_icmp .ge 21, 3) := by decide +kernel
theorem dX0_boundByCells_56 : decode cX0_boundByCells 56 = .ok (.aload_n 0, 1) := by decide +kernel
theorem dX0_boundByCells_57 : decode cX0_boundByCells 57 = .ok (.aload_n 0, 1) := by decide +kernel
theorem dX0_boundByCells_58 : decode cX0_boundByCells 58 = .ok (.getfield 15, 3) := by decide +kernel
theorem dX0_boundByCells_61 : decode cX0_boundByCells 61 = .ok (.iload_n 2, 1) := by decide +kernel
theorem dX0_boundByCells_62 : decode cX0_boundByCells 62 = .ok (.iaload, 1) := by decide +kernel
theorem dX0_boundByCells_63 : decode cX0_boundByCells 63 = .ok (.aload_n 0, 1) := by decide +kernel
theorem dX0_boundByCells_64 : decode cX0_boundByCells 64 = .ok (.getfield 15, 3) := by decide +kernel
theorem dX0_boundByCells_67 : decode cX0_boundByCells 67 = .ok (.iload_n 2, 1) := by decide +kernel
theorem dX0_boundByCells_68 : decode cX0_boundByCells 68 = .ok (.iconst 1, 1) := by decide +kernel
theorem dX0_boundByCells_69 : decode cX0_boundByCells 69 = .ok (.iadd, 1) := by decide +kernel
theorem dX0_boundByCells_70 : decode cX0_boundByCells 70 = .ok (.iaload, 1) := by decide +kernel
theorem dX0_boundByCells_71 : decode cX0_boundByCells 71 = .ok (.invokevirtual 86, 3) := by decide +kernel
theorem dX0_boundByCells_74 : decode cX0_boundByCells 74 = .ok (.iinc 2 1, 3) := by decide +kernel
theorem dX0_boundByCells_77 : decode cX0_boundByCells 77 = .ok (.goto (-75), 3) := by decide +kernel
theorem dX0_boundByCells_80 : decode cX0_boundByCells 80 = .ok (.return_, 1) := by decide +kernel
theorem dX0_boundByUprights_0 : decode cX0_boundByUprights 0 = .ok (.iconst 0, 1) := by decide +kernel
theorem dX0_boundByUprights_1 : decode cX0_boundByUprights 1 = .ok (.istore_n 2, 1) := by decide +kernel
theorem dX0_boundByUprights_2 : decode cX0_boundByUprights 2 = .ok (.iload_n 2, 1) := by decide +kernel
theorem dX0_boundByUprights_3 : decode cX0_boundByUprights 3 = .ok (.aload_n 1, 1) := by decide +kernel
theorem dX0_boundByUprights_4 : decode cX0_boundByUprights 4 = .ok (.getfield 36, 3) := by decide +kernel
theorem dX0_boundByUprights_7 : decode cX0_boundByUprights 7 = .ok (.if_icmp .ge 81, 3) := by decide +kernel
theorem dX0_boundByUprights_10 : decode cX0_boundByUprights 10 = .ok (.aload_n 1, 1) := by decide +kernel
theorem dX0_boundByUprights_11 : decode cX0_boundByUprights 11 = .ok (.getfield 41, 3) := by decide +kernel
theorem dX0_boundByUprights_14 : decode cX0_boundByUprights 14 = .ok (.iload_n 2, 1) := by decide +kernel
theorem dX0_boundByUprights_15 : decode cX0_boundByUprights 15 = .ok (.iaload, 1) := by decide +kernel
theorem dX0_boundByUprights_16 : decode cX0_boundByUprights 16 = .ok (.ifCond .eq 66, 3) := by decide +kernel
theorem dX0_boundByUprights_19 : decode cX0_boundByUprights 19 = .ok (.aload_n 0, 1) := by decide +kernel
theorem dX0_boundByUprights_20 : decode cX0_boundByUprights 20 = .ok (.getfield 15, 3) := by decide +kernel
theorem dX0_boundByUprights_23 : decode cX0_boundByUprights 23 = .ok (.aload_n 1, 1) := by decide +kernel
theorem dX0_boundByUprights_24 : decode cX0_boundByUprights 24 = .ok (.getfield 44, 3) := by decide +kernel
theorem dX0_boundByUprights_27 : decode cX0_boundByUprights 27 = .ok (.iload_n 2, 1) := by decide +kernel
theorem dX0_boundByUprights_28 : decode cX0_boundByUprights 28 = .ok (.iaload, 1) := by decide +kernel
theorem dX0_boundByUprights_29 : decode cX0_boundByUprights 29 = .ok (.iaload, 1) := by decide +kernel
theorem dX0_boundByUprights_30 : decode cX0_boundByUprights 30 = .ok (.istore_n 3, 1) := by decide +kernel
theorem dX0_boundByUprights_31 : decode cX0_boundByUprights 31 = .ok (.aload_n 0, 1) := by decide +kernel
theorem dX0_boundByUprights_32 : decode cX0_boundByUprights 32 = .ok (.getfield 15, 3) := by decide +kernel
theorem dX0_boundByUprights_35 : decode cX0_boundByUprights 35 = .ok (.aload_n 1, 1) := by decide +kernel
theorem dX0_boundByUprights_36 : decode cX0_boundByUprights 36 = .ok (.getfield 47, 3) := by decide +kernel
theorem dX0_boundByUprights_39 : decode cX0_boundByUprights 39 = .ok (.iload_n 2, 1) := by decide +kernel
theorem dX0_boundByUprights_40 : decode cX0_boundByUprights 40 = .ok (.iaload, 1) := by decide +kernel
theorem dX0_boundByUprights_41 : decode cX0_boundByUprights 41 = .ok (.iaload, 1) := by decide +kernel
theorem dX0_boundByUprights_42 : decode cX0_boundByUprights 42 = .ok (.istore 4, 2) := by decide +kernel
theorem dX0_boundByUprights_44 : decode cX0_boundByUprights 44 = .ok (.aload_n 0, 1) := by decide +kernel
theorem dX0_boundByUprights_45 : decode cX0_boundByUprights 45 = .ok (.getfield 24, 3) := by decide +kernel
theorem dX0_boundByUprights_48 : decode cX0_boundByUprights 48 = .ok (.iload_n 3, 1) := by decide +kernel
theorem dX0_boundByUprights_49 : decode cX0_boundByUprights 49 = .ok (.dup2, 1) := by decide +kernel
theorem dX0_boundByUprights_50 : decode cX0_boundByUprights 50 = .ok (.iaload, 1) := by decide +kernel
theorem dX0_boundByUprights_51 : decode cX0_boundByUprights 51 = .ok (.aload_n 1, 1) := by decide +kernel
theorem dX0_boundByUprights_52 : decode cX0_boundByUprights 52 = .ok (.getfield 41, 3) := by decide +kernel
theorem dX0_boundByUprights_55 : decode cX0_boundByUprights 55 = .ok (.iload_n 2, 1) := by decide +kernel
theorem dX0_boundByUprights_56 : decode cX0_boundByUprights 56 = .ok (.iaload, 1) := by decide +kernel
theorem dX0_boundByUprights_57 : decode cX0_boundByUprights 57 = .ok (.ior, 1) := by decide +kernel
theorem dX0_boundByUprights_58 : decode cX0_boundByUprights 58 = .ok (.iastore, 1) := by decide +kernel
theorem dX0_boundByUprights_59 : decode cX0_boundByUprights 59 = .ok (.aload_n 0, 1) := by decide +kernel
theorem dX0_boundByUprights_60 : decode cX0_boundByUprights 60 = .ok (.getfield 24, 3) := by decide +kernel
theorem dX0_boundByUprights_63 : decode cX0_boundByUprights 63 = .ok (.iload 4, 2) := by decide +kernel
theorem dX0_boundByUprights_65 : decode cX0_boundByUprights 65 = .ok (.dup2, 1) := by decide +kernel
theorem dX0_boundByUprights_66 : decode cX0_boundByUprights 66 = .ok (.iaload, 1) := by decide +kernel
theorem dX0_boundByUprights_67 : decode cX0_boundByUprights 67 = .ok (.aload_n 1, 1) := by decide +kernel
theorem dX0_boundByUprights_68 : decode cX0_boundByUprights 68 = .ok (.getfield 41, 3) := by decide +kernel
theorem dX0_boundByUprights_71 : decode cX0_boundByUprights 71 = .ok (.iload_n 2, 1) := by decide +kernel
theorem dX0_boundByUprights_72 : decode cX0_boundByUprights 72 = .ok (.iaload, 1) := by decide +kernel
theorem dX0_boundByUprights_73 : decode cX0_boundByUprights 73 = .ok (.ior, 1) := by decide +kernel
theorem dX0_boundByUprights_74 : decode cX0_boundByUprights 74 = .ok (.iastore, 1) := by decide +kernel
theorem dX0_boundByUprights_75 : decode cX0_boundByUprights 75 = .ok (.aload_n 0, 1) := by decide +kernel
theorem dX0_boundByUprights_76 : decode cX0_boundByUprights 76 = .ok (.iload_n 3, 1) := by decide +kernel
theorem dX0_boundByUprights_77 : decode cX0_boundByUprights 77 = .ok (.iload 4, 2) := by decide +kernel
theorem dX0_boundByUprights_79 : decode cX0_boundByUprights 79 = .ok (.invokevirtual 86, 3) := by decide +kernel
theorem dX0_boundByUprights_82 : decode cX0_boundByUprights 82 = .ok (.iinc 2 1, 3) := by decide +kernel
theorem dX0_boundByUprights_85 : decode cX0_boundByUprights 85 = .ok (.goto (-83), 3) := by decide +kernel
theorem dX0_boundByUprights_88 : decode cX0_boundByUprights 88 = .ok (.return_, 1) := by decide +kernel
theorem dX0_link_0 : decode cX0_link 0 = .ok (.iload_n 1, 1) := by decide +kernel
theorem dX0_link_1 : decode cX0_link 1 = .ok (.iload_n 2, 1) := by decide +kernel
theorem dX0_link_2 : decode cX0_link 2 = .ok (.if_icmp .eq 27, 3) := by decide +kernel
theorem dX0_link_5 : decode cX0_link 5 = .ok (.aload_n 0, 1) := by decide +kernel
theorem dX0_link_6 : decode cX0_link 6 = .ok (.getfield 27, 3) := by decide +kernel
theorem dX0_link_9 : decode cX0_link 9 = .ok (.iload_n 1, 1) := by decide +kernel
theorem dX0_link_10 : decode cX0_link 10 = .ok (.dup2, 1) := by decide +kernel
theorem dX0_link_11 : decode cX0_link 11 = .ok (.laload, 1) := by decide +kernel
theorem dX0_link_12 : decode cX0_link 12 = .ok (.lconst 1, 1) := by decide +kernel
theorem dX0_link_13 : decode cX0_link 13 = .ok (.iload_n 2, 1) := by decide +kernel
theorem dX0_link_14 : decode cX0_link 14 = .ok (.lshl, 1) := by decide +kernel
theorem dX0_link_15 : decode cX0_link 15 = .ok (.lor, 1) := by decide +kernel
theorem dX0_link_16 : decode cX0_link 16 = .ok (.lastore, 1) := by decide +kernel
theorem dX0_link_17 : decode cX0_link 17 = .ok (.aload_n 0, 1) := by decide +kernel
theorem dX0_link_18 : decode cX0_link 18 = .ok (.getfield 27, 3) := by decide +kernel
theorem dX0_link_21 : decode cX0_link 21 = .ok (.iload_n 2, 1) := by decide +kernel
theorem dX0_link_22 : decode cX0_link 22 = .ok (.dup2, 1) := by decide +kernel
theorem dX0_link_23 : decode cX0_link 23 = .ok (.laload, 1) := by decide +kernel
theorem dX0_link_24 : decode cX0_link 24 = .ok (.lconst 1, 1) := by decide +kernel
theorem dX0_link_25 : decode cX0_link 25 = .ok (.iload_n 1, 1) := by decide +kernel
theorem dX0_link_26 : decode cX0_link 26 = .ok (.lshl, 1) := by decide +kernel
theorem dX0_link_27 : decode cX0_link 27 = .ok (.lor, 1) := by decide +kernel
theorem dX0_link_28 : decode cX0_link 28 = .ok (.lastore, 1) := by decide +kernel
theorem dX0_link_29 : decode cX0_link 29 = .ok (.return_, 1) := by decide +kernel
theorem dX0_way_0 : decode cX0_way 0 = .ok (.lconst 1, 1) := by decide +kernel
theorem dX0_way_1 : decode cX0_way 1 = .ok (.iload_n 1, 1) := by decide +kernel
theorem dX0_way_2 : decode cX0_way 2 = .ok (.lshl, 1) := by decide +kernel
theorem dX0_way_3 : decode cX0_way 3 = .ok (.lstore_n 3, 1) := by decide +kernel
theorem dX0_way_4 : decode cX0_way 4 = .ok (.iconst 0, 1) := by decide +kernel
theorem dX0_way_5 : decode cX0_way 5 = .ok (.istore 5, 2) := by decide +kernel
theorem dX0_way_7 : decode cX0_way 7 = .ok (.iload 5, 2) := by decide +kernel
theorem dX0_way_9 : decode cX0_way 9 = .ok (.aload_n 0, 1) := by decide +kernel
theorem dX0_way_10 : decode cX0_way 10 = .ok (.getfield 79, 3) := by decide +kernel
theorem dX0_way_13 : decode cX0_way 13 = .ok (.if_icmp .gt 71, 3) := by decide +kernel
theorem dX0_way_16 : decode cX0_way 16 = .ok (.lload_n 3, 1) := by decide +kernel
theorem dX0_way_17 : decode cX0_way 17 = .ok (.iload_n 2, 1) := by decide +kernel
theorem dX0_way_18 : decode cX0_way 18 = .ok (.lushr, 1) := by decide +kernel
theorem dX0_way_19 : decode cX0_way 19 = .ok (.lconst 1, 1) := by decide +kernel
theorem dX0_way_20 : decode cX0_way 20 = .ok (.land, 1) := by decide +kernel
theorem dX0_way_21 : decode cX0_way 21 = .ok (.lconst 0, 1) := by decide +kernel
theorem dX0_way_22 : decode cX0_way 22 = .ok (.lcmp, 1) := by decide +kernel
theorem dX0_way_23 : decode cX0_way 23 = .ok (.ifCond .eq 6, 3) := by decide +kernel
theorem dX0_way_26 : decode cX0_way 26 = .ok (.iload 5, 2) := by decide +kernel
theorem dX0_way_28 : decode cX0_way 28 = .ok (.ireturn, 1) := by decide +kernel
theorem dX0_way_29 : decode cX0_way 29 = .ok (.lconst 0, 1) := by decide +kernel
theorem dX0_way_30 : decode cX0_way 30 = .ok (.lstore 6, 2) := by decide +kernel
theorem dX0_way_32 : decode cX0_way 32 = .ok (.iconst 0, 1) := by decide +kernel
theorem dX0_way_33 : decode cX0_way 33 = .ok (.istore 8, 2) := by decide +kernel
theorem dX0_way_35 : decode cX0_way 35 = .ok (.iload 8, 2) := by decide +kernel
theorem dX0_way_37 : decode cX0_way 37 = .ok (.aload_n 0, 1) := by decide +kernel
theorem dX0_way_38 : decode cX0_way 38 = .ok (.getfield 79, 3) := by decide +kernel
theorem dX0_way_41 : decode cX0_way 41 = .ok (.if_icmp .ge 32, 3) := by decide +kernel
theorem dX0_way_44 : decode cX0_way 44 = .ok (.lload_n 3, 1) := by decide +kernel
theorem dX0_way_45 : decode cX0_way 45 = .ok (.iload 8, 2) := by decide +kernel
theorem dX0_way_47 : decode cX0_way 47 = .ok (.lushr, 1) := by decide +kernel
theorem dX0_way_48 : decode cX0_way 48 = .ok (.lconst 1, 1) := by decide +kernel
theorem dX0_way_49 : decode cX0_way 49 = .ok (.land, 1) := by decide +kernel
theorem dX0_way_50 : decode cX0_way 50 = .ok (.lconst 0, 1) := by decide +kernel
theorem dX0_way_51 : decode cX0_way 51 = .ok (.lcmp, 1) := by decide +kernel
theorem dX0_way_52 : decode cX0_way 52 = .ok (.ifCond .eq 15, 3) := by decide +kernel
theorem dX0_way_55 : decode cX0_way 55 = .ok (.lload 6, 2) := by decide +kernel
theorem dX0_way_57 : decode cX0_way 57 = .ok (.aload_n 0, 1) := by decide +kernel
theorem dX0_way_58 : decode cX0_way 58 = .ok (.getfield 27, 3) := by decide +kernel
theorem dX0_way_61 : decode cX0_way 61 = .ok (.iload 8, 2) := by decide +kernel
theorem dX0_way_63 : decode cX0_way 63 = .ok (.laload, 1) := by decide +kernel
theorem dX0_way_64 : decode cX0_way 64 = .ok (.lor, 1) := by decide +kernel
theorem dX0_way_65 : decode cX0_way 65 = .ok (.lstore 6, 2) := by decide +kernel
theorem dX0_way_67 : decode cX0_way 67 = .ok (.iinc 8 1, 3) := by decide +kernel
theorem dX0_way_70 : decode cX0_way 70 = .ok (.goto (-35), 3) := by decide +kernel
theorem dX0_way_73 : decode cX0_way 73 = .ok (.lload_n 3, 1) := by decide +kernel
theorem dX0_way_74 : decode cX0_way 74 = .ok (.lload 6, 2) := by decide +kernel
theorem dX0_way_76 : decode cX0_way 76 = .ok (.lor, 1) := by decide +kernel
theorem dX0_way_77 : decode cX0_way 77 = .ok (.lstore_n 3, 1) := by decide +kernel
theorem dX0_way_78 : decode cX0_way 78 = .ok (.iinc 5 1, 3) := by decide +kernel
theorem dX0_way_81 : decode cX0_way 81 = .ok (.goto (-74), 3) := by decide +kernel
theorem dX0_way_84 : decode cX0_way 84 = .ok (.iconst (-1), 1) := by decide +kernel
theorem dX0_way_85 : decode cX0_way 85 = .ok (.ireturn, 1) := by decide +kernel
theorem dX1_peel_0 : decode cX1_peel 0 = .ok (.aload_n 0, 1) := by decide +kernel
theorem dX1_peel_1 : decode cX1_peel 1 = .ok (.iconst 0, 1) := by decide +kernel
theorem dX1_peel_2 : decode cX1_peel 2 = .ok (.putfield 21, 3) := by decide +kernel
theorem dX1_peel_5 : decode cX1_peel 5 = .ok (.iconst 0, 1) := by decide +kernel
theorem dX1_peel_6 : decode cX1_peel 6 = .ok (.istore_n 2, 1) := by decide +kernel
theorem dX1_peel_7 : decode cX1_peel 7 = .ok (.iload_n 2, 1) := by decide +kernel
theorem dX1_peel_8 : decode cX1_peel 8 = .ok (.aload_n 1, 1) := by decide +kernel
theorem dX1_peel_9 : decode cX1_peel 9 = .ok (.getfield 25, 3) := by decide +kernel
theorem dX1_peel_12 : decode cX1_peel 12 = .ok (.if_icmp .ge 41, 3) := by decide +kernel
theorem dX1_peel_15 : decode cX1_peel 15 = .ok (.aload_n 0, 1) := by decide +kernel
theorem dX1_peel_16 : decode cX1_peel 16 = .ok (.aload_n 1, 1) := by decide +kernel
theorem dX1_peel_17 : decode cX1_peel 17 = .ok (.getfield 30, 3) := by decide +kernel
theorem dX1_peel_20 : decode cX1_peel 20 = .ok (.iload_n 2, 1) := by decide +kernel
theorem dX1_peel_21 : decode cX1_peel 21 = .ok (.iaload, 1) := by decide +kernel
theorem dX1_peel_22 : decode cX1_peel 22 = .ok (.aload_n 1, 1) := by decide +kernel
theorem dX1_peel_23 : decode cX1_peel 23 = .ok (.getfield 33, 3) := by decide +kernel
theorem dX1_peel_26 : decode cX1_peel 26 = .ok (.iload_n 2, 1) := by decide +kernel
theorem dX1_peel_27 : decode cX1_peel 27 = .ok (.iaload, 1) := by decide +kernel
theorem dX1_peel_28 : decode cX1_peel 28 = .ok (.invokevirtual 36, 3) := by decide +kernel
theorem dX1_peel_31 : decode cX1_peel 31 = .ok (.aload_n 0, 1) := by decide +kernel
theorem dX1_peel_32 : decode cX1_peel 32 = .ok (.aload_n 1, 1) := by decide +kernel
theorem dX1_peel_33 : decode cX1_peel 33 = .ok (.getfield 40, 3) := by decide +kernel
theorem dX1_peel_36 : decode cX1_peel 36 = .ok (.iload_n 2, 1) := by decide +kernel
theorem dX1_peel_37 : decode cX1_peel 37 = .ok (.iaload, 1) := by decide +kernel
theorem dX1_peel_38 : decode cX1_peel 38 = .ok (.aload_n 1, 1) := by decide +kernel
theorem dX1_peel_39 : decode cX1_peel 39 = .ok (.getfield 43, 3) := by decide +kernel
theorem dX1_peel_42 : decode cX1_peel 42 = .ok (.iload_n 2, 1) := by decide +kernel
theorem dX1_peel_43 : decode cX1_peel 43 = .ok (.iaload, 1) := by decide +kernel
theorem dX1_peel_44 : decode cX1_peel 44 = .ok (.invokevirtual 36, 3) := by decide +kernel
theorem dX1_peel_47 : decode cX1_peel 47 = .ok (.iinc 2 1, 3) := by decide +kernel
theorem dX1_peel_50 : decode cX1_peel 50 = .ok (.goto (-43), 3) := by decide +kernel
theorem dX1_peel_53 : decode cX1_peel 53 = .ok (.aload_n 0, 1) := by decide +kernel
theorem dX1_peel_54 : decode cX1_peel 54 = .ok (.iconst 0, 1) := by decide +kernel
theorem dX1_peel_55 : decode cX1_peel 55 = .ok (.putfield 46, 3) := by decide +kernel
theorem dX1_peel_58 : decode cX1_peel 58 = .ok (.aload_n 0, 1) := by decide +kernel
theorem dX1_peel_59 : decode cX1_peel 59 = .ok (.getfield 21, 3) := by decide +kernel
theorem dX1_peel_62 : decode cX1_peel 62 = .ok (.istore_n 2, 1) := by decide +kernel
theorem dX1_peel_63 : decode cX1_peel 63 = .ok (.iconst 0, 1) := by decide +kernel
theorem dX1_peel_64 : decode cX1_peel 64 = .ok (.istore_n 3, 1) := by decide +kernel
theorem dX1_peel_65 : decode cX1_peel 65 = .ok (.iload_n 3, 1) := by decide +kernel
theorem dX1_peel_66 : decode cX1_peel 66 = .ok (.aload_n 0, 1) := by decide +kernel
theorem dX1_peel_67 : decode cX1_peel 67 = .ok (.getfield 21, 3) := by decide +kernel
theorem dX1_peel_70 : decode cX1_peel 70 = .ok (.if_icmp .ge 31, 3) := by decide +kernel
theorem dX1_peel_73 : decode cX1_peel 73 = .ok (.iload_n 2, 1) := by decide +kernel
theorem dX1_peel_74 : decode cX1_peel 74 = .ok (.ifCond .le 27, 3) := by decide +kernel
theorem dX1_peel_77 : decode cX1_peel 77 = .ok (.iload_n 2, 1) := by decide +kernel
theorem dX1_peel_78 : decode cX1_peel 78 = .ok (.aload_n 0, 1) := by decide +kernel
theorem dX1_peel_79 : decode cX1_peel 79 = .ok (.iload_n 3, 1) := by decide +kernel
theorem dX1_peel_80 : decode cX1_peel 80 = .ok (.invokevirtual 47, 3) := by decide +kernel
theorem dX1_peel_83 : decode cX1_peel 83 = .ok (.isub, 1) := by decide +kernel
theorem dX1_peel_84 : decode cX1_peel 84 = .ok (.istore_n 2, 1) := by decide +kernel
theorem dX1_peel_85 : decode cX1_peel 85 = .ok (.aload_n 0, 1) := by decide +kernel
theorem dX1_peel_86 : decode cX1_peel 86 = .ok (.dup, 1) := by decide +kernel
theorem dX1_peel_87 : decode cX1_peel 87 = .ok (.getfield 46, 3) := by decide +kernel
theorem dX1_peel_90 : decode cX1_peel 90 = .ok (.iconst 1, 1) := by decide +kernel
theorem dX1_peel_91 : decode cX1_peel 91 = .ok (.iadd, 1) := by decide +kernel
theorem dX1_peel_92 : decode cX1_peel 92 = .ok (.putfield 46, 3) := by decide +kernel
theorem dX1_peel_95 : decode cX1_peel 95 = .ok (.iinc 3 1, 3) := by decide +kernel
theorem dX1_peel_98 : decode cX1_peel 98 = .ok (.goto (-33), 3) := by decide +kernel
theorem dX1_peel_101 : decode cX1_peel 101 = .ok (.return_, 1) := by decide +kernel
theorem dX1_add_0 : decode cX1_add 0 = .ok (.aload_n 0, 1) := by decide +kernel
theorem dX1_add_1 : decode cX1_add 1 = .ok (.iload_n 1, 1) := by decide +kernel
theorem dX1_add_2 : decode cX1_add 2 = .ok (.iload_n 2, 1) := by decide +kernel
theorem dX1_add_3 : decode cX1_add 3 = .ok (.invokevirtual 51, 3) := by decide +kernel
theorem dX1_add_6 : decode cX1_add 6 = .ok (.bipush (-2), 2) := by decide +kernel
theorem dX1_add_8 : decode cX1_add 8 = .ok (.if_icmp .ne 52, 3) := by decide +kernel
theorem dX1_add_11 : decode cX1_add 11 = .ok (.aload_n 0, 1) := by decide +kernel
theorem dX1_add_12 : decode cX1_add 12 = .ok (.getfield 21, 3) := by decide +kernel
theorem dX1_add_15 : decode cX1_add 15 = .ok (.bipush 20, 2) := by decide +kernel
theorem dX1_add_17 : decode cX1_add 17 = .ok (.if_icmp .ge 43, 3) := by decide +kernel
theorem dX1_add_20 : decode cX1_add 20 = .ok (.aload_n 0, 1) := by decide +kernel
theorem dX1_add_21 : decode cX1_add 21 = .ok (.getfield 9, 3) := by decide +kernel
theorem dX1_add_24 : decode cX1_add 24 = .ok (.aload_n 0, 1) := by decide +kernel
theorem dX1_add_25 : decode cX1_add 25 = .ok (.getfield 21, 3) := by decide +kernel
theorem dX1_add_28 : decode cX1_add 28 = .ok (.iload_n 1, 1) := by decide +kernel
theorem dX1_add_29 : decode cX1_add 29 = .ok (.iastore, 1) := by decide +kernel
theorem dX1_add_30 : decode cX1_add 30 = .ok (.aload_n 0, 1) := by decide +kernel
theorem dX1_add_31 : decode cX1_add 31 = .ok (.getfield 15, 3) := by decide +kernel
theorem dX1_add_34 : decode cX1_add 34 = .ok (.aload_n 0, 1) := by decide +kernel
theorem dX1_add_35 : decode cX1_add 35 = .ok (.getfield 21, 3) := by decide +kernel
theorem dX1_add_38 : decode cX1_add 38 = .ok (.iload_n 2, 1) := by decide +kernel
theorem dX1_add_39 : decode cX1_add 39 = .ok (.iastore, 1) := by decide +kernel
theorem dX1_add_40 : decode cX1_add 40 = .ok (.aload_n 0, 1) := by decide +kernel
theorem dX1_add_41 : decode cX1_add 41 = .ok (.getfield 18, 3) := by decide +kernel
theorem dX1_add_44 : decode cX1_add 44 = .ok (.aload_n 0, 1) := by decide +kernel
theorem dX1_add_45 : decode cX1_add 45 = .ok (.getfield 21, 3) := by decide +kernel
theorem dX1_add_48 : decode cX1_add 48 = .ok (.iconst (-1), 1) := by decide +kernel
theorem dX1_add_49 : decode cX1_add 49 = .ok (.iastore, 1) := by decide +kernel
theorem dX1_add_50 : decode cX1_add 50 = .ok (.aload_n 0, 1) := by decide +kernel
theorem dX1_add_51 : decode cX1_add 51 = .ok (.dup, 1) := by decide +kernel
theorem dX1_add_52 : decode cX1_add 52 = .ok (.getfield 21, 3) := by decide +kernel
theorem dX1_add_55 : decode cX1_add 55 = .ok (.iconst 1, 1) := by decide +kernel
theorem dX1_add_56 : decode cX1_add 56 = .ok (.iadd, 1) := by decide +kernel
theorem dX1_add_57 : decode cX1_add 57 = .ok (.putfield 21, 3) := by decide +kernel
theorem dX1_add_60 : decode cX1_add 60 = .ok (.return_, 1) := by decide +kernel
theorem dX1_hullOf_0 : decode cX1_hullOf 0 = .ok (.iconst 0, 1) := by decide +kernel
theorem dX1_hullOf_1 : decode cX1_hullOf 1 = .ok (.istore_n 3, 1) := by decide +kernel
theorem dX1_hullOf_2 : decode cX1_hullOf 2 = .ok (.iload_n 3, 1) := by decide +kernel
theorem dX1_hullOf_3 : decode cX1_hullOf 3 = .ok (.aload_n 0, 1) := by decide +kernel
theorem dX1_hullOf_4 : decode cX1_hullOf 4 = .ok (.getfield 21, 3) := by decide +kernel
theorem dX1_hullOf_7 : decode cX1_hullOf 7 = .ok (.if_icmp .ge 36, 3) := by decide +kernel
theorem dX1_hullOf_10 : decode cX1_hullOf 10 = .ok (.aload_n 0, 1) := by decide +kernel
theorem dX1_hullOf_11 : decode cX1_hullOf 11 = .ok (.getfield 9, 3) := by decide +kernel
theorem dX1_hullOf_14 : decode cX1_hullOf 14 = .ok (.iload_n 3, 1) := by decide +kernel
theorem dX1_hullOf_15 : decode cX1_hullOf 15 = .ok (.iaload, 1) := by decide +kernel
theorem dX1_hullOf_16 : decode cX1_hullOf 16 = .ok (.iload_n 1, 1) := by decide +kernel
theorem dX1_hullOf_17 : decode cX1_hullOf 17 = .ok (.if_icmp .ne 20, 3) := by decide +kernel
theorem dX1_hullOf_20 : decode cX1_hullOf 20 = .ok (.aload_n 0, 1) := by decide +kernel
theorem dX1_hullOf_21 : decode cX1_hullOf 21 = .ok (.getfield 15, 3) := by decide +kernel
theorem dX1_hullOf_24 : decode cX1_hullOf 24 = .ok (.iload_n 3, 1) := by decide +kernel
theorem dX1_hullOf_25 : decode cX1_hullOf 25 = .ok (.iaload, 1) := by decide +kernel
theorem dX1_hullOf_26 : decode cX1_hullOf 26 = .ok (.iload_n 2, 1) := by decide +kernel
theorem dX1_hullOf_27 : decode cX1_hullOf 27 = .ok (.if_icmp .ne 10, 3) := by decide +kernel
theorem dX1_hullOf_30 : decode cX1_hullOf 30 = .ok (.aload_n 0, 1) := by decide +kernel
theorem dX1_hullOf_31 : decode cX1_hullOf 31 = .ok (.getfield 18, 3) := by decide +kernel
theorem dX1_hullOf_34 : decode cX1_hullOf 34 = .ok (.iload_n 3, 1) := by decide +kernel
theorem dX1_hullOf_35 : decode cX1_hullOf 35 = .ok (.iaload, 1) := by decide +kernel
theorem dX1_hullOf_36 : decode cX1_hullOf 36 = .ok (.ireturn, 1) := by decide +kernel
theorem dX1_hullOf_37 : decode cX1_hullOf 37 = .ok (.iinc 3 1, 3) := by decide +kernel
theorem dX1_hullOf_40 : decode cX1_hullOf 40 = .ok (.goto (-38), 3) := by decide +kernel
theorem dX1_hullOf_43 : decode cX1_hullOf 43 = .ok (.bipush (-2), 2) := by decide +kernel
theorem dX1_hullOf_45 : decode cX1_hullOf 45 = .ok (.ireturn, 1) := by decide +kernel
theorem dX1_peelOff_0 : decode cX1_peelOff 0 = .ok (.iconst 0, 1) := by decide +kernel
theorem dX1_peelOff_1 : decode cX1_peelOff 1 = .ok (.istore_n 2, 1) := by decide +kernel
theorem dX1_peelOff_2 : decode cX1_peelOff 2 = .ok (.iconst 0, 1) := by decide +kernel
theorem dX1_peelOff_3 : decode cX1_peelOff 3 = .ok (.istore_n 3, 1) := by decide +kernel
theorem dX1_peelOff_4 : decode cX1_peelOff 4 = .ok (.iload_n 3, 1) := by decide +kernel
theorem dX1_peelOff_5 : decode cX1_peelOff 5 = .ok (.aload_n 0, 1) := by decide +kernel
theorem dX1_peelOff_6 : decode cX1_peelOff 6 = .ok (.getfield 21, 3) := by decide +kernel
theorem dX1_peelOff_9 : decode cX1_peelOff 9 = .ok (.if_icmp .ge 38, 3) := by decide +kernel
theorem dX1_peelOff_12 : decode cX1_peelOff 12 = .ok (.aload_n 0, 1) := by decide +kernel
theorem dX1_peelOff_13 : decode cX1_peelOff 13 = .ok (.getfield 18, 3) := by decide +kernel
theorem dX1_peelOff_16 : decode cX1_peelOff 16 = .ok (.iload_n 3, 1) := by decide +kernel
theorem dX1_peelOff_17 : decode cX1_peelOff 17 = .ok (.iaload, 1) := by decide +kernel
theorem dX1_peelOff_18 : decode cX1_peelOff 18 = .ok (.iconst (-1), 1) := by decide +kernel
theorem dX1_peelOff_19 : decode cX1_peelOff 19 = .ok (.if_icmp .ne 22, 3) := by decide +kernel
theorem dX1_peelOff_22 : decode cX1_peelOff 22 = .ok (.aload_n 0, 1) := by decide +kernel
theorem dX1_peelOff_23 : decode cX1_peelOff 23 = .ok (.iload_n 3, 1) := by decide +kernel
theorem dX1_peelOff_24 : decode cX1_peelOff 24 = .ok (.iload_n 1, 1) := by decide +kernel
theorem dX1_peelOff_25 : decode cX1_peelOff 25 = .ok (.invokevirtual 55, 3) := by decide +kernel
theorem dX1_peelOff_28 : decode cX1_peelOff 28 = .ok (.ifCond .eq 13, 3) := by decide +kernel
theorem dX1_peelOff_31 : decode cX1_peelOff 31 = .ok (.aload_n 0, 1) := by decide +kernel
theorem dX1_peelOff_32 : decode cX1_peelOff 32 = .ok (.getfield 18, 3) := by decide +kernel
theorem dX1_peelOff_35 : decode cX1_peelOff 35 = .ok (.iload_n 3, 1) := by decide +kernel
theorem dX1_peelOff_36 : decode cX1_peelOff 36 = .ok (.iload_n 1, 1) := by decide +kernel
theorem dX1_peelOff_37 : decode cX1_peelOff 37 = .ok (.iastore, 1) := by decide +kernel
theorem dX1_peelOff_38 : decode cX1_peelOff 38 = .ok (.iinc 2 1, 3) := by decide +kernel
theorem dX1_peelOff_41 : decode cX1_peelOff 41 = .ok (.iinc 3 1, 3) := by decide +kernel
theorem dX1_peelOff_44 : decode cX1_peelOff 44 = .ok (.goto (-40), 3) := by decide +kernel
theorem dX1_peelOff_47 : decode cX1_peelOff 47 = .ok (.iload_n 2, 1) := by decide +kernel
theorem dX1_peelOff_48 : decode cX1_peelOff 48 = .ok (.ireturn, 1) := by decide +kernel
theorem dX1_isLeft_0 : decode cX1_isLeft 0 = .ok (.aload_n 0, 1) := by decide +kernel
theorem dX1_isLeft_1 : decode cX1_isLeft 1 = .ok (.getfield 18, 3) := by decide +kernel
theorem dX1_isLeft_4 : decode cX1_isLeft 4 = .ok (.iload_n 1, 1) := by decide +kernel
theorem dX1_isLeft_5 : decode cX1_isLeft 5 = .ok (.iaload, 1) := by decide +kernel
theorem dX1_isLeft_6 : decode cX1_isLeft 6 = .ok (.iconst (-1), 1) := by decide +kernel
theorem dX1_isLeft_7 : decode cX1_isLeft 7 = .ok (.if_icmp .eq 13, 3) := by decide +kernel
theorem dX1_isLeft_10 : decode cX1_isLeft 10 = .ok (.aload_n 0, 1) := by decide +kernel
theorem dX1_isLeft_11 : decode cX1_isLeft 11 = .ok (.getfield 18, 3) := by decide +kernel
theorem dX1_isLeft_14 : decode cX1_isLeft 14 = .ok (.iload_n 1, 1) := by decide +kernel
theorem dX1_isLeft_15 : decode cX1_isLeft 15 = .ok (.iaload, 1) := by decide +kernel
theorem dX1_isLeft_16 : decode cX1_isLeft 16 = .ok (.iload_n 2, 1) := by decide +kernel
theorem dX1_isLeft_17 : decode cX1_isLeft 17 = .ok (.if_icmp .ne 7, 3) := by decide +kernel
theorem dX1_isLeft_20 : decode cX1_isLeft 20 = .ok (.iconst 1, 1) := by decide +kernel
theorem dX1_isLeft_21 : decode cX1_isLeft 21 = .ok (.goto 4, 3) := by decide +kernel
theorem dX1_isLeft_24 : decode cX1_isLeft 24 = .ok (.iconst 0, 1) := by decide +kernel
theorem dX1_isLeft_25 : decode cX1_isLeft 25 = .ok (.ireturn, 1) := by decide +kernel
theorem dX1_isOnBorder_0 : decode cX1_isOnBorder 0 = .ok (.iconst 1, 1) := by decide +kernel
theorem dX1_isOnBorder_1 : decode cX1_isOnBorder 1 = .ok (.istore_n 3, 1) := by decide +kernel
theorem dX1_isOnBorder_2 : decode cX1_isOnBorder 2 = .ok (.iconst 0, 1) := by decide +kernel
theorem dX1_isOnBorder_3 : decode cX1_isOnBorder 3 = .ok (.istore 4, 2) := by decide +kernel
theorem dX1_isOnBorder_5 : decode cX1_isOnBorder 5 = .ok (.iload 4, 2) := by decide +kernel
theorem dX1_isOnBorder_7 : decode cX1_isOnBorder 7 = .ok (.aload_n 0, 1) := by decide +kernel
theorem dX1_isOnBorder_8 : decode cX1_isOnBorder 8 = .ok (.getfield 21, 3) := by decide +kernel
theorem dX1_isOnBorder_11 : decode cX1_isOnBorder 11 = .ok (.if_icmp .ge 40, 3) := by decide +kernel
theorem dX1_isOnBorder_14 : decode cX1_isOnBorder 14 = .ok (.iload 4, 2) := by decide +kernel
theorem dX1_isOnBorder_16 : decode cX1_isOnBorder 16 = .ok (.iload_n 1, 1) := by decide +kernel
theorem dX1_isOnBorder_17 : decode cX1_isOnBorder 17 = .ok (.if_icmp .eq 28, 3) := by decide +kernel
theorem dX1_isOnBorder_20 : decode cX1_isOnBorder 20 = .ok (.aload_n 0, 1) := by decide +kernel
theorem dX1_isOnBorder_21 : decode cX1_isOnBorder 21 = .ok (.iload 4, 2) := by decide +kernel
theorem dX1_isOnBorder_23 : decode cX1_isOnBorder 23 = .ok (.iload_n 2, 1) := by decide +kernel
theorem dX1_isOnBorder_24 : decode cX1_isOnBorder 24 = .ok (.invokevirtual 59, 3) := by decide +kernel
theorem dX1_isOnBorder_27 : decode cX1_isOnBorder 27 = .ok (.ifCond .eq 18, 3) := by decide +kernel
theorem dX1_isOnBorder_30 : decode cX1_isOnBorder 30 = .ok (.iconst 0, 1) := by decide +kernel
theorem dX1_isOnBorder_31 : decode cX1_isOnBorder 31 = .ok (.istore_n 3, 1) := by decide +kernel
theorem dX1_isOnBorder_32 : decode cX1_isOnBorder 32 = .ok (.aload_n 0, 1) := by decide +kernel
theorem dX1_isOnBorder_33 : decode cX1_isOnBorder 33 = .ok (.iload_n 1, 1) := by decide +kernel
theorem dX1_isOnBorder_34 : decode cX1_isOnBorder 34 = .ok (.iload 4, 2) := by decide +kernel
theorem dX1_isOnBorder_36 : decode cX1_isOnBorder 36 = .ok (.iload_n 2, 1) := by decide +kernel
theorem dX1_isOnBorder_37 : decode cX1_isOnBorder 37 = .ok (.invokevirtual 62, 3) := by decide +kernel
theorem dX1_isOnBorder_40 : decode cX1_isOnBorder 40 = .ok (.ifCond .eq 5, 3) := by decide +kernel
theorem dX1_isOnBorder_43 : decode cX1_isOnBorder 43 = .ok (.iconst 1, 1) := by decide +kernel
theorem dX1_isOnBorder_44 : decode cX1_isOnBorder 44 = .ok (.ireturn, 1) := by decide +kernel
theorem dX1_isOnBorder_45 : decode cX1_isOnBorder 45 = .ok (.iinc 4 1, 3) := by decide +kernel
theorem dX1_isOnBorder_48 : decode cX1_isOnBorder 48 = .ok (.goto (-43), 3) := by decide +kernel
theorem dX1_isOnBorder_51 : decode cX1_isOnBorder 51 = .ok (.iload_n 3, 1) := by decide +kernel
theorem dX1_isOnBorder_52 : decode cX1_isOnBorder 52 = .ok (.ireturn, 1) := by decide +kernel
theorem dX1_noneAtTheLeft_0 : decode cX1_noneAtTheLeft 0 = .ok (.iconst 0, 1) := by decide +kernel
theorem dX1_noneAtTheLeft_1 : decode cX1_noneAtTheLeft 1 = .ok (.istore 4, 2) := by decide +kernel
theorem dX1_noneAtTheLeft_3 : decode cX1_noneAtTheLeft 3 = .ok (.iload 4, 2) := by decide +kernel
theorem dX1_noneAtTheLeft_5 : decode cX1_noneAtTheLeft 5 = .ok (.aload_n 0, 1) := by decide +kernel
theorem dX1_noneAtTheLeft_6 : decode cX1_noneAtTheLeft 6 = .ok (.getfield 21, 3) := by decide +kernel
theorem dX1_noneAtTheLeft_9 : decode cX1_noneAtTheLeft 9 = .ok (.if_icmp .ge 85, 3) := by decide +kernel
theorem dX1_noneAtTheLeft_12 : decode cX1_noneAtTheLeft 12 = .ok (.aload_n 0, 1) := by decide +kernel
theorem dX1_noneAtTheLeft_13 : decode cX1_noneAtTheLeft 13 = .ok (.getfield 9, 3) := by decide +kernel
theorem dX1_noneAtTheLeft_16 : decode cX1_noneAtTheLeft 16 = .ok (.iload_n 2, 1) := by decide +kernel
theorem dX1_noneAtTheLeft_17 : decode cX1_noneAtTheLeft 17 = .ok (.iaload, 1) := by decide +kernel
theorem dX1_noneAtTheLeft_18 : decode cX1_noneAtTheLeft 18 = .ok (.aload_n 0, 1) := by decide +kernel
theorem dX1_noneAtTheLeft_19 : decode cX1_noneAtTheLeft 19 = .ok (.getfield 9, 3) := by decide +kernel
theorem dX1_noneAtTheLeft_22 : decode cX1_noneAtTheLeft 22 = .ok (.iload_n 1, 1) := by decide +kernel
theorem dX1_noneAtTheLeft_23 : decode cX1_noneAtTheLeft 23 = .ok (.iaload, 1) := by decide +kernel
theorem dX1_noneAtTheLeft_24 : decode cX1_noneAtTheLeft 24 = .ok (.isub, 1) := by decide +kernel
theorem dX1_noneAtTheLeft_25 : decode cX1_noneAtTheLeft 25 = .ok (.aload_n 0, 1) := by decide +kernel
theorem dX1_noneAtTheLeft_26 : decode cX1_noneAtTheLeft 26 = .ok (.getfield 15, 3) := by decide +kernel
theorem dX1_noneAtTheLeft_29 : decode cX1_noneAtTheLeft 29 = .ok (.iload 4, 2) := by decide +kernel
theorem dX1_noneAtTheLeft_31 : decode cX1_noneAtTheLeft 31 = .ok (.iaload, 1) := by decide +kernel
theorem dX1_noneAtTheLeft_32 : decode cX1_noneAtTheLeft 32 = .ok (.aload_n 0, 1) := by decide +kernel
theorem dX1_noneAtTheLeft_33 : decode cX1_noneAtTheLeft 33 = .ok (.getfield 15, 3) := by decide +kernel
theorem dX1_noneAtTheLeft_36 : decode cX1_noneAtTheLeft 36 = .ok (.iload_n 1, 1) := by decide +kernel
theorem dX1_noneAtTheLeft_37 : decode cX1_noneAtTheLeft 37 = .ok (.iaload, 1) := by decide +kernel
theorem dX1_noneAtTheLeft_38 : decode cX1_noneAtTheLeft 38 = .ok (.isub, 1) := by decide +kernel
theorem dX1_noneAtTheLeft_39 : decode cX1_noneAtTheLeft 39 = .ok (.imul, 1) := by decide +kernel
theorem dX1_noneAtTheLeft_40 : decode cX1_noneAtTheLeft 40 = .ok (.aload_n 0, 1) := by decide +kernel
theorem dX1_noneAtTheLeft_41 : decode cX1_noneAtTheLeft 41 = .ok (.getfield 15, 3) := by decide +kernel
theorem dX1_noneAtTheLeft_44 : decode cX1_noneAtTheLeft 44 = .ok (.iload_n 2, 1) := by decide +kernel
theorem dX1_noneAtTheLeft_45 : decode cX1_noneAtTheLeft 45 = .ok (.iaload, 1) := by decide +kernel
theorem dX1_noneAtTheLeft_46 : decode cX1_noneAtTheLeft 46 = .ok (.aload_n 0, 1) := by decide +kernel
theorem dX1_noneAtTheLeft_47 : decode cX1_noneAtTheLeft 47 = .ok (.getfield 15, 3) := by decide +kernel
theorem dX1_noneAtTheLeft_50 : decode cX1_noneAtTheLeft 50 = .ok (.iload_n 1, 1) := by decide +kernel
theorem dX1_noneAtTheLeft_51 : decode cX1_noneAtTheLeft 51 = .ok (.iaload, 1) := by decide +kernel
theorem dX1_noneAtTheLeft_52 : decode cX1_noneAtTheLeft 52 = .ok (.isub, 1) := by decide +kernel
theorem dX1_noneAtTheLeft_53 : decode cX1_noneAtTheLeft 53 = .ok (.aload_n 0, 1) := by decide +kernel
theorem dX1_noneAtTheLeft_54 : decode cX1_noneAtTheLeft 54 = .ok (.getfield 9, 3) := by decide +kernel
theorem dX1_noneAtTheLeft_57 : decode cX1_noneAtTheLeft 57 = .ok (.iload 4, 2) := by decide +kernel
theorem dX1_noneAtTheLeft_59 : decode cX1_noneAtTheLeft 59 = .ok (.iaload, 1) := by decide +kernel
theorem dX1_noneAtTheLeft_60 : decode cX1_noneAtTheLeft 60 = .ok (.aload_n 0, 1) := by decide +kernel
theorem dX1_noneAtTheLeft_61 : decode cX1_noneAtTheLeft 61 = .ok (.getfield 9, 3) := by decide +kernel
theorem dX1_noneAtTheLeft_64 : decode cX1_noneAtTheLeft 64 = .ok (.iload_n 1, 1) := by decide +kernel
theorem dX1_noneAtTheLeft_65 : decode cX1_noneAtTheLeft 65 = .ok (.iaload, 1) := by decide +kernel
theorem dX1_noneAtTheLeft_66 : decode cX1_noneAtTheLeft 66 = .ok (.isub, 1) := by decide +kernel
theorem dX1_noneAtTheLeft_67 : decode cX1_noneAtTheLeft 67 = .ok (.imul, 1) := by decide +kernel
theorem dX1_noneAtTheLeft_68 : decode cX1_noneAtTheLeft 68 = .ok (.isub, 1) := by decide +kernel
theorem dX1_noneAtTheLeft_69 : decode cX1_noneAtTheLeft 69 = .ok (.istore 5, 2) := by decide +kernel
theorem dX1_noneAtTheLeft_71 : decode cX1_noneAtTheLeft 71 = .ok (.iload 5, 2) := by decide +kernel
theorem dX1_noneAtTheLeft_73 : decode cX1_noneAtTheLeft 73 = .ok (.ifCond .le 15, 3) := by decide +kernel
theorem dX1_noneAtTheLeft_76 : decode cX1_noneAtTheLeft 76 = .ok (.aload_n 0, 1) := by decide +kernel
theorem dX1_noneAtTheLeft_77 : decode cX1_noneAtTheLeft 77 = .ok (.iload 4, 2) := by decide +kernel
theorem dX1_noneAtTheLeft_79 : decode cX1_noneAtTheLeft 79 = .ok (.iload_n 3, 1) := by decide +kernel
theorem dX1_noneAtTheLeft_80 : decode cX1_noneAtTheLeft 80 = .ok (.invokevirtual 59, 3) := by decide +kernel
theorem dX1_noneAtTheLeft_83 : decode cX1_noneAtTheLeft 83 = .ok (.ifCond .eq 5, 3) := by decide +kernel
theorem dX1_noneAtTheLeft_86 : decode cX1_noneAtTheLeft 86 = .ok (.iconst 0, 1) := by decide +kernel
theorem dX1_noneAtTheLeft_87 : decode cX1_noneAtTheLeft 87 = .ok (.ireturn, 1) := by decide +kernel
theorem dX1_noneAtTheLeft_88 : decode cX1_noneAtTheLeft 88 = .ok (.iinc 4 1, 3) := by decide +kernel
theorem dX1_noneAtTheLeft_91 : decode cX1_noneAtTheLeft 91 = .ok (.goto (-88), 3) := by decide +kernel
theorem dX1_noneAtTheLeft_94 : decode cX1_noneAtTheLeft 94 = .ok (.iconst 1, 1) := by decide +kernel
theorem dX1_noneAtTheLeft_95 : decode cX1_noneAtTheLeft 95 = .ok (.ireturn, 1) := by decide +kernel
theorem dX2_has_0 : decode cX2_has 0 = .ok (.iload_n 1, 1) := by decide +kernel
theorem dX2_has_1 : decode cX2_has 1 = .ok (.ifCond .lt 15, 3) := by decide +kernel
theorem dX2_has_4 : decode cX2_has 4 = .ok (.iload_n 1, 1) := by decide +kernel
theorem dX2_has_5 : decode cX2_has 5 = .ok (.aload_n 0, 1) := by decide +kernel
theorem dX2_has_6 : decode cX2_has 6 = .ok (.getfield 24, 3) := by decide +kernel
theorem dX2_has_9 : decode cX2_has 9 = .ok (.if_icmp .ge 7, 3) := by decide +kernel
theorem dX2_has_12 : decode cX2_has 12 = .ok (.iconst 1, 1) := by decide +kernel
theorem dX2_has_13 : decode cX2_has 13 = .ok (.goto 4, 3) := by decide +kernel
theorem dX2_has_16 : decode cX2_has 16 = .ok (.iconst 0, 1) := by decide +kernel
theorem dX2_has_17 : decode cX2_has 17 = .ok (.ireturn, 1) := by decide +kernel
theorem dX2_isFull_0 : decode cX2_isFull 0 = .ok (.aload_n 0, 1) := by decide +kernel
theorem dX2_isFull_1 : decode cX2_isFull 1 = .ok (.getfield 24, 3) := by decide +kernel
theorem dX2_isFull_4 : decode cX2_isFull 4 = .ok (.bipush 10, 2) := by decide +kernel
theorem dX2_isFull_6 : decode cX2_isFull 6 = .ok (.if_icmp .lt 7, 3) := by decide +kernel
theorem dX2_isFull_9 : decode cX2_isFull 9 = .ok (.iconst 1, 1) := by decide +kernel
theorem dX2_isFull_10 : decode cX2_isFull 10 = .ok (.goto 4, 3) := by decide +kernel
theorem dX2_isFull_13 : decode cX2_isFull 13 = .ok (.iconst 0, 1) := by decide +kernel
theorem dX2_isFull_14 : decode cX2_isFull 14 = .ok (.ireturn, 1) := by decide +kernel
theorem dX2_add_0 : decode cX2_add 0 = .ok (.aload_n 0, 1) := by decide +kernel
theorem dX2_add_1 : decode cX2_add 1 = .ok (.invokevirtual 28, 3) := by decide +kernel
theorem dX2_add_4 : decode cX2_add 4 = .ok (.ifCond .eq 6, 3) := by decide +kernel
theorem dX2_add_7 : decode cX2_add 7 = .ok (.bipush (-4), 2) := by decide +kernel
theorem dX2_add_9 : decode cX2_add 9 = .ok (.ireturn, 1) := by decide +kernel
theorem dX2_add_10 : decode cX2_add 10 = .ok (.aload_n 0, 1) := by decide +kernel
theorem dX2_add_11 : decode cX2_add 11 = .ok (.dup, 1) := by decide +kernel
theorem dX2_add_12 : decode cX2_add 12 = .ok (.getfield 24, 3) := by decide +kernel
theorem dX2_add_15 : decode cX2_add 15 = .ok (.iconst 1, 1) := by decide +kernel
theorem dX2_add_16 : decode cX2_add 16 = .ok (.iadd, 1) := by decide +kernel
theorem dX2_add_17 : decode cX2_add 17 = .ok (.putfield 24, 3) := by decide +kernel
theorem dX2_add_20 : decode cX2_add 20 = .ok (.aload_n 0, 1) := by decide +kernel
theorem dX2_add_21 : decode cX2_add 21 = .ok (.aload_n 0, 1) := by decide +kernel
theorem dX2_add_22 : decode cX2_add 22 = .ok (.getfield 24, 3) := by decide +kernel
theorem dX2_add_25 : decode cX2_add 25 = .ok (.iconst 1, 1) := by decide +kernel
theorem dX2_add_26 : decode cX2_add 26 = .ok (.isub, 1) := by decide +kernel
theorem dX2_add_27 : decode cX2_add 27 = .ok (.iload_n 1, 1) := by decide +kernel
theorem dX2_add_28 : decode cX2_add 28 = .ok (.iload_n 2, 1) := by decide +kernel
theorem dX2_add_29 : decode cX2_add 29 = .ok (.iload_n 3, 1) := by decide +kernel
theorem dX2_add_30 : decode cX2_add 30 = .ok (.iload 4, 2) := by decide +kernel
theorem dX2_add_32 : decode cX2_add 32 = .ok (.invokevirtual 32, 3) := by decide +kernel
theorem dX2_add_35 : decode cX2_add 35 = .ok (.aload_n 0, 1) := by decide +kernel
theorem dX2_add_36 : decode cX2_add 36 = .ok (.getfield 24, 3) := by decide +kernel
theorem dX2_add_39 : decode cX2_add 39 = .ok (.iconst 1, 1) := by decide +kernel
theorem dX2_add_40 : decode cX2_add 40 = .ok (.isub, 1) := by decide +kernel
theorem dX2_add_41 : decode cX2_add 41 = .ok (.ireturn, 1) := by decide +kernel
theorem dX2_lay_0 : decode cX2_lay 0 = .ok (.aload_n 0, 1) := by decide +kernel
theorem dX2_lay_1 : decode cX2_lay 1 = .ok (.iload_n 1, 1) := by decide +kernel
theorem dX2_lay_2 : decode cX2_lay 2 = .ok (.invokevirtual 36, 3) := by decide +kernel
theorem dX2_lay_5 : decode cX2_lay 5 = .ok (.ifCond .ne 4, 3) := by decide +kernel
theorem dX2_lay_8 : decode cX2_lay 8 = .ok (.return_, 1) := by decide +kernel
theorem dX2_lay_9 : decode cX2_lay 9 = .ok (.iload_n 2, 1) := by decide +kernel
theorem dX2_lay_10 : decode cX2_lay 10 = .ok (.iload 4, 2) := by decide +kernel
theorem dX2_lay_12 : decode cX2_lay 12 = .ok (.if_icmp .lt 15, 3) := by decide +kernel
theorem dX2_lay_15 : decode cX2_lay 15 = .ok (.iload_n 2, 1) := by decide +kernel
theorem dX2_lay_16 : decode cX2_lay 16 = .ok (.iload 4, 2) := by decide +kernel
theorem dX2_lay_18 : decode cX2_lay 18 = .ok (.if_icmp .ne 13, 3) := by decide +kernel
theorem dX2_lay_21 : decode cX2_lay 21 = .ok (.iload_n 3, 1) := by decide +kernel
theorem dX2_lay_22 : decode cX2_lay 22 = .ok (.iload 5, 2) := by decide +kernel
theorem dX2_lay_24 : decode cX2_lay 24 = .ok (.if_icmp .ge 7, 3) := by decide +kernel
theorem dX2_lay_27 : decode cX2_lay 27 = .ok (.iconst 1, 1) := by decide +kernel
theorem dX2_lay_28 : decode cX2_lay 28 = .ok (.goto 4, 3) := by decide +kernel
theorem dX2_lay_31 : decode cX2_lay 31 = .ok (.iconst 0, 1) := by decide +kernel
theorem dX2_lay_32 : decode cX2_lay 32 = .ok (.istore 6, 2) := by decide +kernel
theorem dX2_lay_34 : decode cX2_lay 34 = .ok (.aload_n 0, 1) := by decide +kernel
theorem dX2_lay_35 : decode cX2_lay 35 = .ok (.getfield 9, 3) := by decide +kernel
theorem dX2_lay_38 : decode cX2_lay 38 = .ok (.iload_n 1, 1) := by decide +kernel
theorem dX2_lay_39 : decode cX2_lay 39 = .ok (.iload 6, 2) := by decide +kernel
theorem dX2_lay_41 : decode cX2_lay 41 = .ok (.ifCond .eq 7, 3) := by decide +kernel
theorem dX2_lay_44 : decode cX2_lay 44 = .ok (.iload_n 2, 1) := by decide +kernel
theorem dX2_lay_45 : decode cX2_lay 45 = .ok (.goto 5, 3) := by decide +kernel
theorem dX2_lay_48 : decode cX2_lay 48 = .ok (.iload 4, 2) := by decide +kernel
theorem dX2_lay_50 : decode cX2_lay 50 = .ok (.iastore, 1) := by decide +kernel
theorem dX2_lay_51 : decode cX2_lay 51 = .ok (.aload_n 0, 1) := by decide +kernel
theorem dX2_lay_52 : decode cX2_lay 52 = .ok (.getfield 15, 3) := by decide +kernel
theorem dX2_lay_55 : decode cX2_lay 55 = .ok (.iload_n 1, 1) := by decide +kernel
theorem dX2_lay_56 : decode cX2_lay 56 = .ok (.iload 6, 2) := by decide +kernel
theorem dX2_lay_58 : decode cX2_lay 58 = .ok (.ifCond .eq 7, 3) := by decide +kernel
theorem dX2_lay_61 : decode cX2_lay 61 = .ok (.iload_n 3, 1) := by decide +kernel
theorem dX2_lay_62 : decode cX2_lay 62 = .ok (.goto 5, 3) := by decide +kernel
theorem dX2_lay_65 : decode cX2_lay 65 = .ok (.iload 5, 2) := by decide +kernel
theorem dX2_lay_67 : decode cX2_lay 67 = .ok (.iastore, 1) := by decide +kernel
theorem dX2_lay_68 : decode cX2_lay 68 = .ok (.aload_n 0, 1) := by decide +kernel
theorem dX2_lay_69 : decode cX2_lay 69 = .ok (.getfield 18, 3) := by decide +kernel
theorem dX2_lay_72 : decode cX2_lay 72 = .ok (.iload_n 1, 1) := by decide +kernel
theorem dX2_lay_73 : decode cX2_lay 73 = .ok (.iload 6, 2) := by decide +kernel
theorem dX2_lay_75 : decode cX2_lay 75 = .ok (.ifCond .eq 8, 3) := by decide +kernel
theorem dX2_lay_78 : decode cX2_lay 78 = .ok (.iload 4, 2) := by decide +kernel
theorem dX2_lay_80 : decode cX2_lay 80 = .ok (.goto 4, 3) := by decide +kernel
theorem dX2_lay_83 : decode cX2_lay 83 = .ok (.iload_n 2, 1) := by decide +kernel
theorem dX2_lay_84 : decode cX2_lay 84 = .ok (.iastore, 1) := by decide +kernel
theorem dX2_lay_85 : decode cX2_lay 85 = .ok (.aload_n 0, 1) := by decide +kernel
theorem dX2_lay_86 : decode cX2_lay 86 = .ok (.getfield 21, 3) := by decide +kernel
theorem dX2_lay_89 : decode cX2_lay 89 = .ok (.iload_n 1, 1) := by decide +kernel
theorem dX2_lay_90 : decode cX2_lay 90 = .ok (.iload 6, 2) := by decide +kernel
theorem dX2_lay_92 : decode cX2_lay 92 = .ok (.ifCond .eq 8, 3) := by decide +kernel
theorem dX2_lay_95 : decode cX2_lay 95 = .ok (.iload 5, 2) := by decide +kernel
theorem dX2_lay_97 : decode cX2_lay 97 = .ok (.goto 4, 3) := by decide +kernel
theorem dX2_lay_100 : decode cX2_lay 100 = .ok (.iload_n 3, 1) := by decide +kernel
theorem dX2_lay_101 : decode cX2_lay 101 = .ok (.iastore, 1) := by decide +kernel
theorem dX2_lay_102 : decode cX2_lay 102 = .ok (.return_, 1) := by decide +kernel
theorem dX2_remove_0 : decode cX2_remove 0 = .ok (.aload_n 0, 1) := by decide +kernel
theorem dX2_remove_1 : decode cX2_remove 1 = .ok (.iload_n 1, 1) := by decide +kernel
theorem dX2_remove_2 : decode cX2_remove 2 = .ok (.invokevirtual 36, 3) := by decide +kernel
theorem dX2_remove_5 : decode cX2_remove 5 = .ok (.ifCond .ne 4, 3) := by decide +kernel
theorem dX2_remove_8 : decode cX2_remove 8 = .ok (.return_, 1) := by decide +kernel
theorem dX2_remove_9 : decode cX2_remove 9 = .ok (.iload_n 1, 1) := by decide +kernel
theorem dX2_remove_10 : decode cX2_remove 10 = .ok (.istore_n 2, 1) := by decide +kernel
theorem dX2_remove_11 : decode cX2_remove 11 = .ok (.iload_n 2, 1) := by decide +kernel
theorem dX2_remove_12 : decode cX2_remove 12 = .ok (.iconst 1, 1) := by decide +kernel
theorem dX2_remove_13 : decode cX2_remove 13 = .ok (.iadd, 1) := by decide +kernel
theorem dX2_remove_14 : decode cX2_remove 14 = .ok (.aload_n 0, 1) := by decide +kernel
theorem dX2_remove_15 : decode cX2_remove 15 = .ok (.getfield 24, 3) := by decide +kernel
theorem dX2_remove_18 : decode cX2_remove 18 = .ok (.if_icmp .ge 65, 3) := by decide +kernel
theorem dX2_remove_21 : decode cX2_remove 21 = .ok (.aload_n 0, 1) := by decide +kernel
theorem dX2_remove_22 : decode cX2_remove 22 = .ok (.getfield 9, 3) := by decide +kernel
theorem dX2_remove_25 : decode cX2_remove 25 = .ok (.iload_n 2, 1) := by decide +kernel
theorem dX2_remove_26 : decode cX2_remove 26 = .ok (.aload_n 0, 1) := by decide +kernel
theorem dX2_remove_27 : decode cX2_remove 27 = .ok (.getfield 9, 3) := by decide +kernel
theorem dX2_remove_30 : decode cX2_remove 30 = .ok (.iload_n 2, 1) := by decide +kernel
theorem dX2_remove_31 : decode cX2_remove 31 = .ok (.iconst 1, 1) := by decide +kernel
theorem dX2_remove_32 : decode cX2_remove 32 = .ok (.iadd, 1) := by decide +kernel
theorem dX2_remove_33 : decode cX2_remove 33 = .ok (.iaload, 1) := by decide +kernel
theorem dX2_remove_34 : decode cX2_remove 34 = .ok (.iastore, 1) := by decide +kernel
theorem dX2_remove_35 : decode cX2_remove 35 = .ok (.aload_n 0, 1) := by decide +kernel
theorem dX2_remove_36 : decode cX2_remove 36 = .ok (.getfield 15, 3) := by decide +kernel
theorem dX2_remove_39 : decode cX2_remove 39 = .ok (.iload_n 2, 1) := by decide +kernel
theorem dX2_remove_40 : decode cX2_remove 40 = .ok (.aload_n 0, 1) := by decide +kernel
theorem dX2_remove_41 : decode cX2_remove 41 = .ok (.getfield 15, 3) := by decide +kernel
theorem dX2_remove_44 : decode cX2_remove 44 = .ok (.iload_n 2, 1) := by decide +kernel
theorem dX2_remove_45 : decode cX2_remove 45 = .ok (.iconst 1, 1) := by decide +kernel
theorem dX2_remove_46 : decode cX2_remove 46 = .ok (.iadd, 1) := by decide +kernel
theorem dX2_remove_47 : decode cX2_remove 47 = .ok (.iaload, 1) := by decide +kernel
theorem dX2_remove_48 : decode cX2_remove 48 = .ok (.iastore, 1) := by decide +kernel
theorem dX2_remove_49 : decode cX2_remove 49 = .ok (.aload_n 0, 1) := by decide +kernel
theorem dX2_remove_50 : decode cX2_remove 50 = .ok (.getfield 18, 3) := by decide +kernel
theorem dX2_remove_53 : decode cX2_remove 53 = .ok (.iload_n 2, 1) := by decide +kernel
theorem dX2_remove_54 : decode cX2_remove 54 = .ok (.aload_n 0, 1) := by decide +kernel
theorem dX2_remove_55 : decode cX2_remove 55 = .ok (.getfield 18, 3) := by decide +kernel
theorem dX2_remove_58 : decode cX2_remove 58 = .ok (.iload_n 2, 1) := by decide +kernel
theorem dX2_remove_59 : decode cX2_remove 59 = .ok (.iconst 1, 1) := by decide +kernel
theorem dX2_remove_60 : decode cX2_remove 60 = .ok (.iadd, 1) := by decide +kernel
theorem dX2_remove_61 : decode cX2_remove 61 = .ok (.iaload, 1) := by decide +kernel
theorem dX2_remove_62 : decode cX2_remove 62 = .ok (.iastore, 1) := by decide +kernel
theorem dX2_remove_63 : decode cX2_remove 63 = .ok (.aload_n 0, 1) := by decide +kernel
theorem dX2_remove_64 : decode cX2_remove 64 = .ok (.getfield 21, 3) := by decide +kernel
theorem dX2_remove_67 : decode cX2_remove 67 = .ok (.iload_n 2, 1) := by decide +kernel
theorem dX2_remove_68 : decode cX2_remove 68 = .ok (.aload_n 0, 1) := by decide +kernel
theorem dX2_remove_69 : decode cX2_remove 69 = .ok (.getfield 21, 3) := by decide +kernel
theorem dX2_remove_72 : decode cX2_remove 72 = .ok (.iload_n 2, 1) := by decide +kernel
theorem dX2_remove_73 : decode cX2_remove 73 = .ok (.iconst 1, 1) := by decide +kernel
theorem dX2_remove_74 : decode cX2_remove 74 = .ok (.iadd, 1) := by decide +kernel
theorem dX2_remove_75 : decode cX2_remove 75 = .ok (.iaload, 1) := by decide +kernel
theorem dX2_remove_76 : decode cX2_remove 76 = .ok (.iastore, 1) := by decide +kernel
theorem dX2_remove_77 : decode cX2_remove 77 = .ok (.iinc 2 1, 3) := by decide +kernel
theorem dX2_remove_80 : decode cX2_remove 80 = .ok (.goto (-69), 3) := by decide +kernel
theorem dX2_remove_83 : decode cX2_remove 83 = .ok (.aload_n 0, 1) := by decide +kernel
theorem dX2_remove_84 : decode cX2_remove 84 = .ok (.dup, 1) := by decide +kernel
theorem dX2_remove_85 : decode cX2_remove 85 = .ok (.getfield 24, 3) := by decide +kernel
theorem dX2_remove_88 : decode cX2_remove 88 = .ok (.iconst 1, 1) := by decide +kernel
theorem dX2_remove_89 : decode cX2_remove 89 = .ok (.isub, 1) := by decide +kernel
theorem dX2_remove_90 : decode cX2_remove 90 = .ok (.putfield 24, 3) := by decide +kernel
theorem dX2_remove_93 : decode cX2_remove 93 = .ok (.return_, 1) := by decide +kernel
theorem dX2_become_0 : decode cX2_become 0 = .ok (.aload_n 0, 1) := by decide +kernel
theorem dX2_become_1 : decode cX2_become 1 = .ok (.aload_n 1, 1) := by decide +kernel
theorem dX2_become_2 : decode cX2_become 2 = .ok (.getfield 24, 3) := by decide +kernel
theorem dX2_become_5 : decode cX2_become 5 = .ok (.putfield 24, 3) := by decide +kernel
theorem dX2_become_8 : decode cX2_become 8 = .ok (.iconst 0, 1) := by decide +kernel
theorem dX2_become_9 : decode cX2_become 9 = .ok (.istore_n 2, 1) := by decide +kernel
theorem dX2_become_10 : decode cX2_become 10 = .ok (.iload_n 2, 1) := by decide +kernel
theorem dX2_become_11 : decode cX2_become 11 = .ok (.aload_n 0, 1) := by decide +kernel
theorem dX2_become_12 : decode cX2_become 12 = .ok (.getfield 24, 3) := by decide +kernel
theorem dX2_become_15 : decode cX2_become 15 = .ok (.if_icmp .ge 57, 3) := by decide +kernel
theorem dX2_become_18 : decode cX2_become 18 = .ok (.aload_n 0, 1) := by decide +kernel
theorem dX2_become_19 : decode cX2_become 19 = .ok (.getfield 9, 3) := by decide +kernel
theorem dX2_become_22 : decode cX2_become 22 = .ok (.iload_n 2, 1) := by decide +kernel
theorem dX2_become_23 : decode cX2_become 23 = .ok (.aload_n 1, 1) := by decide +kernel
theorem dX2_become_24 : decode cX2_become 24 = .ok (.getfield 9, 3) := by decide +kernel
theorem dX2_become_27 : decode cX2_become 27 = .ok (.iload_n 2, 1) := by decide +kernel
theorem dX2_become_28 : decode cX2_become 28 = .ok (.iaload, 1) := by decide +kernel
theorem dX2_become_29 : decode cX2_become 29 = .ok (.iastore, 1) := by decide +kernel
theorem dX2_become_30 : decode cX2_become 30 = .ok (.aload_n 0, 1) := by decide +kernel
theorem dX2_become_31 : decode cX2_become 31 = .ok (.getfield 15, 3) := by decide +kernel
theorem dX2_become_34 : decode cX2_become 34 = .ok (.iload_n 2, 1) := by decide +kernel
theorem dX2_become_35 : decode cX2_become 35 = .ok (.aload_n 1, 1) := by decide +kernel
theorem dX2_become_36 : decode cX2_become 36 = .ok (.getfield 15, 3) := by decide +kernel
theorem dX2_become_39 : decode cX2_become 39 = .ok (.iload_n 2, 1) := by decide +kernel
theorem dX2_become_40 : decode cX2_become 40 = .ok (.iaload, 1) := by decide +kernel
theorem dX2_become_41 : decode cX2_become 41 = .ok (.iastore, 1) := by decide +kernel
theorem dX2_become_42 : decode cX2_become 42 = .ok (.aload_n 0, 1) := by decide +kernel
theorem dX2_become_43 : decode cX2_become 43 = .ok (.getfield 18, 3) := by decide +kernel
theorem dX2_become_46 : decode cX2_become 46 = .ok (.iload_n 2, 1) := by decide +kernel
theorem dX2_become_47 : decode cX2_become 47 = .ok (.aload_n 1, 1) := by decide +kernel
theorem dX2_become_48 : decode cX2_become 48 = .ok (.getfield 18, 3) := by decide +kernel
theorem dX2_become_51 : decode cX2_become 51 = .ok (.iload_n 2, 1) := by decide +kernel
theorem dX2_become_52 : decode cX2_become 52 = .ok (.iaload, 1) := by decide +kernel
theorem dX2_become_53 : decode cX2_become 53 = .ok (.iastore, 1) := by decide +kernel
theorem dX2_become_54 : decode cX2_become 54 = .ok (.aload_n 0, 1) := by decide +kernel
theorem dX2_become_55 : decode cX2_become 55 = .ok (.getfield 21, 3) := by decide +kernel
theorem dX2_become_58 : decode cX2_become 58 = .ok (.iload_n 2, 1) := by decide +kernel
theorem dX2_become_59 : decode cX2_become 59 = .ok (.aload_n 1, 1) := by decide +kernel
theorem dX2_become_60 : decode cX2_become 60 = .ok (.getfield 21, 3) := by decide +kernel
theorem dX2_become_63 : decode cX2_become 63 = .ok (.iload_n 2, 1) := by decide +kernel
theorem dX2_become_64 : decode cX2_become 64 = .ok (.iaload, 1) := by decide +kernel
theorem dX2_become_65 : decode cX2_become 65 = .ok (.iastore, 1) := by decide +kernel
theorem dX2_become_66 : decode cX2_become 66 = .ok (.iinc 2 1, 3) := by decide +kernel
theorem dX2_become_69 : decode cX2_become 69 = .ok (.goto (-59), 3) := by decide +kernel
theorem dX2_become_72 : decode cX2_become 72 = .ok (.return_, 1) := by decide +kernel
theorem dX2_isUpright_0 : decode cX2_isUpright 0 = .ok (.aload_n 0, 1) := by decide +kernel
theorem dX2_isUpright_1 : decode cX2_isUpright 1 = .ok (.getfield 9, 3) := by decide +kernel
theorem dX2_isUpright_4 : decode cX2_isUpright 4 = .ok (.iload_n 1, 1) := by decide +kernel
theorem dX2_isUpright_5 : decode cX2_isUpright 5 = .ok (.iaload, 1) := by decide +kernel
theorem dX2_isUpright_6 : decode cX2_isUpright 6 = .ok (.aload_n 0, 1) := by decide +kernel
theorem dX2_isUpright_7 : decode cX2_isUpright 7 = .ok (.getfield 18, 3) := by decide +kernel
theorem dX2_isUpright_10 : decode cX2_isUpright 10 = .ok (.iload_n 1, 1) := by decide +kernel
theorem dX2_isUpright_11 : decode cX2_isUpright 11 = .ok (.iaload, 1) := by decide +kernel
theorem dX2_isUpright_12 : decode cX2_isUpright 12 = .ok (.if_icmp .ne 7, 3) := by decide +kernel
theorem dX2_isUpright_15 : decode cX2_isUpright 15 = .ok (.iconst 1, 1) := by decide +kernel
theorem dX2_isUpright_16 : decode cX2_isUpright 16 = .ok (.goto 4, 3) := by decide +kernel
theorem dX2_isUpright_19 : decode cX2_isUpright 19 = .ok (.iconst 0, 1) := by decide +kernel
theorem dX2_isUpright_20 : decode cX2_isUpright 20 = .ok (.ireturn, 1) := by decide +kernel
theorem dX2_run_0 : decode cX2_run 0 = .ok (.aload_n 0, 1) := by decide +kernel
theorem dX2_run_1 : decode cX2_run 1 = .ok (.getfield 18, 3) := by decide +kernel
theorem dX2_run_4 : decode cX2_run 4 = .ok (.iload_n 1, 1) := by decide +kernel
theorem dX2_run_5 : decode cX2_run 5 = .ok (.iaload, 1) := by decide +kernel
theorem dX2_run_6 : decode cX2_run 6 = .ok (.aload_n 0, 1) := by decide +kernel
theorem dX2_run_7 : decode cX2_run 7 = .ok (.getfield 9, 3) := by decide +kernel
theorem dX2_run_10 : decode cX2_run 10 = .ok (.iload_n 1, 1) := by decide +kernel
theorem dX2_run_11 : decode cX2_run 11 = .ok (.iaload, 1) := by decide +kernel
theorem dX2_run_12 : decode cX2_run 12 = .ok (.isub, 1) := by decide +kernel
theorem dX2_run_13 : decode cX2_run 13 = .ok (.i2l, 1) := by decide +kernel
theorem dX2_run_14 : decode cX2_run 14 = .ok (.lreturn, 1) := by decide +kernel
theorem dX2_rise_0 : decode cX2_rise 0 = .ok (.aload_n 0, 1) := by decide +kernel
theorem dX2_rise_1 : decode cX2_rise 1 = .ok (.getfield 21, 3) := by decide +kernel
theorem dX2_rise_4 : decode cX2_rise 4 = .ok (.iload_n 1, 1) := by decide +kernel
theorem dX2_rise_5 : decode cX2_rise 5 = .ok (.iaload, 1) := by decide +kernel
theorem dX2_rise_6 : decode cX2_rise 6 = .ok (.aload_n 0, 1) := by decide +kernel
theorem dX2_rise_7 : decode cX2_rise 7 = .ok (.getfield 15, 3) := by decide +kernel
theorem dX2_rise_10 : decode cX2_rise 10 = .ok (.iload_n 1, 1) := by decide +kernel
theorem dX2_rise_11 : decode cX2_rise 11 = .ok (.iaload, 1) := by decide +kernel
theorem dX2_rise_12 : decode cX2_rise 12 = .ok (.isub, 1) := by decide +kernel
theorem dX2_rise_13 : decode cX2_rise 13 = .ok (.i2l, 1) := by decide +kernel
theorem dX2_rise_14 : decode cX2_rise 14 = .ok (.lreturn, 1) := by decide +kernel
theorem dX2_reaches_0 : decode cX2_reaches 0 = .ok (.aload_n 0, 1) := by decide +kernel
theorem dX2_reaches_1 : decode cX2_reaches 1 = .ok (.getfield 9, 3) := by decide +kernel
theorem dX2_reaches_4 : decode cX2_reaches 4 = .ok (.iload_n 1, 1) := by decide +kernel
theorem dX2_reaches_5 : decode cX2_reaches 5 = .ok (.iaload, 1) := by decide +kernel
theorem dX2_reaches_6 : decode cX2_reaches 6 = .ok (.i2l, 1) := by decide +kernel
theorem dX2_reaches_7 : decode cX2_reaches 7 = .ok (.lload 4, 2) := by decide +kernel
theorem dX2_reaches_9 : decode cX2_reaches 9 = .ok (.lmul, 1) := by decide +kernel
theorem dX2_reaches_10 : decode cX2_reaches 10 = .ok (.lload_n 2, 1) := by decide +kernel
theorem dX2_reaches_11 : decode cX2_reaches 11 = .ok (.lcmp, 1) := by decide +kernel
theorem dX2_reaches_12 : decode cX2_reaches 12 = .ok (.ifCond .gt 22, 3) := by decide +kernel
theorem dX2_reaches_15 : decode cX2_reaches 15 = .ok (.lload_n 2, 1) := by decide +kernel
theorem dX2_reaches_16 : decode cX2_reaches 16 = .ok (.aload_n 0, 1) := by decide +kernel
theorem dX2_reaches_17 : decode cX2_reaches 17 = .ok (.getfield 18, 3) := by decide +kernel
theorem dX2_reaches_20 : decode cX2_reaches 20 = .ok (.iload_n 1, 1) := by decide +kernel
theorem dX2_reaches_21 : decode cX2_reaches 21 = .ok (.iaload, 1) := by decide +kernel
theorem dX2_reaches_22 : decode cX2_reaches 22 = .ok (.i2l, 1) := by decide +kernel
theorem dX2_reaches_23 : decode cX2_reaches 23 = .ok (.lload 4, 2) := by decide +kernel
theorem dX2_reaches_25 : decode cX2_reaches 25 = .ok (.lmul, 1) := by decide +kernel
theorem dX2_reaches_26 : decode cX2_reaches 26 = .ok (.lcmp, 1) := by decide +kernel
theorem dX2_reaches_27 : decode cX2_reaches 27 = .ok (.ifCond .gt 7, 3) := by decide +kernel
theorem dX2_reaches_30 : decode cX2_reaches 30 = .ok (.iconst 1, 1) := by decide +kernel
theorem dX2_reaches_31 : decode cX2_reaches 31 = .ok (.goto 4, 3) := by decide +kernel
theorem dX2_reaches_34 : decode cX2_reaches 34 = .ok (.iconst 0, 1) := by decide +kernel
theorem dX2_reaches_35 : decode cX2_reaches 35 = .ok (.ireturn, 1) := by decide +kernel
theorem dX2_height_0 : decode cX2_height 0 = .ok (.aload_n 0, 1) := by decide +kernel
theorem dX2_height_1 : decode cX2_height 1 = .ok (.getfield 15, 3) := by decide +kernel
theorem dX2_height_4 : decode cX2_height 4 = .ok (.iload_n 1, 1) := by decide +kernel
theorem dX2_height_5 : decode cX2_height 5 = .ok (.iaload, 1) := by decide +kernel
theorem dX2_height_6 : decode cX2_height 6 = .ok (.aload_n 0, 1) := by decide +kernel
theorem dX2_height_7 : decode cX2_height 7 = .ok (.getfield 18, 3) := by decide +kernel
theorem dX2_height_10 : decode cX2_height 10 = .ok (.iload_n 1, 1) := by decide +kernel
theorem dX2_height_11 : decode cX2_height 11 = .ok (.iaload, 1) := by decide +kernel
theorem dX2_height_12 : decode cX2_height 12 = .ok (.aload_n 0, 1) := by decide +kernel
theorem dX2_height_13 : decode cX2_height 13 = .ok (.getfield 9, 3) := by decide +kernel
theorem dX2_height_16 : decode cX2_height 16 = .ok (.iload_n 1, 1) := by decide +kernel
theorem dX2_height_17 : decode cX2_height 17 = .ok (.iaload, 1) := by decide +kernel
theorem dX2_height_18 : decode cX2_height 18 = .ok (.isub, 1) := by decide +kernel
theorem dX2_height_19 : decode cX2_height 19 = .ok (.imul, 1) := by decide +kernel
theorem dX2_height_20 : decode cX2_height 20 = .ok (.i2l, 1) := by decide +kernel
theorem dX2_height_21 : decode cX2_height 21 = .ok (.lload 4, 2) := by decide +kernel
theorem dX2_height_23 : decode cX2_height 23 = .ok (.lmul, 1) := by decide +kernel
theorem dX2_height_24 : decode cX2_height 24 = .ok (.aload_n 0, 1) := by decide +kernel
theorem dX2_height_25 : decode cX2_height 25 = .ok (.getfield 21, 3) := by decide +kernel
theorem dX2_height_28 : decode cX2_height 28 = .ok (.iload_n 1, 1) := by decide +kernel
theorem dX2_height_29 : decode cX2_height 29 = .ok (.iaload, 1) := by decide +kernel
theorem dX2_height_30 : decode cX2_height 30 = .ok (.aload_n 0, 1) := by decide +kernel
theorem dX2_height_31 : decode cX2_height 31 = .ok (.getfield 15, 3) := by decide +kernel
theorem dX2_height_34 : decode cX2_height 34 = .ok (.iload_n 1, 1) := by decide +kernel
theorem dX2_height_35 : decode cX2_height 35 = .ok (.iaload, 1) := by decide +kernel
theorem dX2_height_36 : decode cX2_height 36 = .ok (.isub, 1) := by decide +kernel
theorem dX2_height_37 : decode cX2_height 37 = .ok (.i2l, 1) := by decide +kernel
theorem dX2_height_38 : decode cX2_height 38 = .ok (.lload_n 2, 1) := by decide +kernel
theorem dX2_height_39 : decode cX2_height 39 = .ok (.aload_n 0, 1) := by decide +kernel
theorem dX2_height_40 : decode cX2_height 40 = .ok (.getfield 9, 3) := by decide +kernel
theorem dX2_height_43 : decode cX2_height 43 = .ok (.iload_n 1, 1) := by decide +kernel
theorem dX2_height_44 : decode cX2_height 44 = .ok (.iaload, 1) := by decide +kernel
theorem dX2_height_45 : decode cX2_height 45 = .ok (.i2l, 1) := by decide +kernel
theorem dX2_height_46 : decode cX2_height 46 = .ok (.lload 4, 2) := by decide +kernel
theorem dX2_height_48 : decode cX2_height 48 = .ok (.lmul, 1) := by decide +kernel
theorem dX2_height_49 : decode cX2_height 49 = .ok (.lsub, 1) := by decide +kernel
theorem dX2_height_50 : decode cX2_height 50 = .ok (.lmul, 1) := by decide +kernel
theorem dX2_height_51 : decode cX2_height 51 = .ok (.ladd, 1) := by decide +kernel
theorem dX2_height_52 : decode cX2_height 52 = .ok (.lreturn, 1) := by decide +kernel
theorem dX2_holds_0 : decode cX2_holds 0 = .ok (.aload_n 0, 1) := by decide +kernel
theorem dX2_holds_1 : decode cX2_holds 1 = .ok (.iload_n 1, 1) := by decide +kernel
theorem dX2_holds_2 : decode cX2_holds 2 = .ok (.lload_n 2, 1) := by decide +kernel
theorem dX2_holds_3 : decode cX2_holds 3 = .ok (.lload 4, 2) := by decide +kernel
theorem dX2_holds_5 : decode cX2_holds 5 = .ok (.invokevirtual 40, 3) := by decide +kernel
theorem dX2_holds_8 : decode cX2_holds 8 = .ok (.ifCond .ne 5, 3) := by decide +kernel
theorem dX2_holds_11 : decode cX2_holds 11 = .ok (.iconst 0, 1) := by decide +kernel
theorem dX2_holds_12 : decode cX2_holds 12 = .ok (.ireturn, 1) := by decide +kernel
theorem dX2_holds_13 : decode cX2_holds 13 = .ok (.lload 6, 2) := by decide +kernel
theorem dX2_holds_15 : decode cX2_holds 15 = .ok (.aload_n 0, 1) := by decide +kernel
theorem dX2_holds_16 : decode cX2_holds 16 = .ok (.getfield 15, 3) := by decide +kernel
theorem dX2_holds_19 : decode cX2_holds 19 = .ok (.iload_n 1, 1) := by decide +kernel
theorem dX2_holds_20 : decode cX2_holds 20 = .ok (.iaload, 1) := by decide +kernel
theorem dX2_holds_21 : decode cX2_holds 21 = .ok (.aload_n 0, 1) := by decide +kernel
theorem dX2_holds_22 : decode cX2_holds 22 = .ok (.getfield 21, 3) := by decide +kernel
theorem dX2_holds_25 : decode cX2_holds 25 = .ok (.iload_n 1, 1) := by decide +kernel
theorem dX2_holds_26 : decode cX2_holds 26 = .ok (.iaload, 1) := by decide +kernel
theorem dX2_holds_27 : decode cX2_holds 27 = .ok (.invokestatic 44, 3) := by decide +kernel
theorem dX2_holds_30 : decode cX2_holds 30 = .ok (.i2l, 1) := by decide +kernel
theorem dX2_holds_31 : decode cX2_holds 31 = .ok (.lload 8, 2) := by decide +kernel
theorem dX2_holds_33 : decode cX2_holds 33 = .ok (.lmul, 1) := by decide +kernel
theorem dX2_holds_34 : decode cX2_holds 34 = .ok (.lcmp, 1) := by decide +kernel
theorem dX2_holds_35 : decode cX2_holds 35 = .ok (.ifCond .lt 28, 3) := by decide +kernel
theorem dX2_holds_38 : decode cX2_holds 38 = .ok (.lload 6, 2) := by decide +kernel
theorem dX2_holds_40 : decode cX2_holds 40 = .ok (.aload_n 0, 1) := by decide +kernel
theorem dX2_holds_41 : decode cX2_holds 41 = .ok (.getfield 15, 3) := by decide +kernel
theorem dX2_holds_44 : decode cX2_holds 44 = .ok (.iload_n 1, 1) := by decide +kernel
theorem dX2_holds_45 : decode cX2_holds 45 = .ok (.iaload, 1) := by decide +kernel
theorem dX2_holds_46 : decode cX2_holds 46 = .ok (.aload_n 0, 1) := by decide +kernel
theorem dX2_holds_47 : decode cX2_holds 47 = .ok (.getfield 21, 3) := by decide +kernel
theorem dX2_holds_50 : decode cX2_holds 50 = .ok (.iload_n 1, 1) := by decide +kernel
theorem dX2_holds_51 : decode cX2_holds 51 = .ok (.iaload, 1) := by decide +kernel
theorem dX2_holds_52 : decode cX2_holds 52 = .ok (.invokestatic 50, 3) := by decide +kernel
theorem dX2_holds_55 : decode cX2_holds 55 = .ok (.i2l, 1) := by decide +kernel
theorem dX2_holds_56 : decode cX2_holds 56 = .ok (.lload 8, 2) := by decide +kernel
theorem dX2_holds_58 : decode cX2_holds 58 = .ok (.lmul, 1) := by decide +kernel
theorem dX2_holds_59 : decode cX2_holds 59 = .ok (.lcmp, 1) := by decide +kernel
theorem dX2_holds_60 : decode cX2_holds 60 = .ok (.ifCond .le 5, 3) := by decide +kernel
theorem dX2_holds_63 : decode cX2_holds 63 = .ok (.iconst 0, 1) := by decide +kernel
theorem dX2_holds_64 : decode cX2_holds 64 = .ok (.ireturn, 1) := by decide +kernel
theorem dX2_holds_65 : decode cX2_holds 65 = .ok (.lload_n 2, 1) := by decide +kernel
theorem dX2_holds_66 : decode cX2_holds 66 = .ok (.aload_n 0, 1) := by decide +kernel
theorem dX2_holds_67 : decode cX2_holds 67 = .ok (.getfield 9, 3) := by decide +kernel
theorem dX2_holds_70 : decode cX2_holds 70 = .ok (.iload_n 1, 1) := by decide +kernel
theorem dX2_holds_71 : decode cX2_holds 71 = .ok (.iaload, 1) := by decide +kernel
theorem dX2_holds_72 : decode cX2_holds 72 = .ok (.i2l, 1) := by decide +kernel
theorem dX2_holds_73 : decode cX2_holds 73 = .ok (.lload 4, 2) := by decide +kernel
theorem dX2_holds_75 : decode cX2_holds 75 = .ok (.lmul, 1) := by decide +kernel
theorem dX2_holds_76 : decode cX2_holds 76 = .ok (.lsub, 1) := by decide +kernel
theorem dX2_holds_77 : decode cX2_holds 77 = .ok (.lload 8, 2) := by decide +kernel
theorem dX2_holds_79 : decode cX2_holds 79 = .ok (.lmul, 1) := by decide +kernel
theorem dX2_holds_80 : decode cX2_holds 80 = .ok (.aload_n 0, 1) := by decide +kernel
theorem dX2_holds_81 : decode cX2_holds 81 = .ok (.iload_n 1, 1) := by decide +kernel
theorem dX2_holds_82 : decode cX2_holds 82 = .ok (.invokevirtual 53, 3) := by decide +kernel
theorem dX2_holds_85 : decode cX2_holds 85 = .ok (.lmul, 1) := by decide +kernel
theorem dX2_holds_86 : decode cX2_holds 86 = .ok (.lload 6, 2) := by decide +kernel
theorem dX2_holds_88 : decode cX2_holds 88 = .ok (.aload_n 0, 1) := by decide +kernel
theorem dX2_holds_89 : decode cX2_holds 89 = .ok (.getfield 15, 3) := by decide +kernel
theorem dX2_holds_92 : decode cX2_holds 92 = .ok (.iload_n 1, 1) := by decide +kernel
theorem dX2_holds_93 : decode cX2_holds 93 = .ok (.iaload, 1) := by decide +kernel
theorem dX2_holds_94 : decode cX2_holds 94 = .ok (.i2l, 1) := by decide +kernel
theorem dX2_holds_95 : decode cX2_holds 95 = .ok (.lload 8, 2) := by decide +kernel
theorem dX2_holds_97 : decode cX2_holds 97 = .ok (.lmul, 1) := by decide +kernel
theorem dX2_holds_98 : decode cX2_holds 98 = .ok (.lsub, 1) := by decide +kernel
theorem dX2_holds_99 : decode cX2_holds 99 = .ok (.lload 4, 2) := by decide +kernel
theorem dX2_holds_101 : decode cX2_holds 101 = .ok (.lmul, 1) := by decide +kernel
theorem dX2_holds_102 : decode cX2_holds 102 = .ok (.aload_n 0, 1) := by decide +kernel
theorem dX2_holds_103 : decode cX2_holds 103 = .ok (.iload_n 1, 1) := by decide +kernel
theorem dX2_holds_104 : decode cX2_holds 104 = .ok (.invokevirtual 57, 3) := by decide +kernel
theorem dX2_holds_107 : decode cX2_holds 107 = .ok (.lmul, 1) := by decide +kernel
theorem dX2_holds_108 : decode cX2_holds 108 = .ok (.lcmp, 1) := by decide +kernel
theorem dX2_holds_109 : decode cX2_holds 109 = .ok (.ifCond .ne 7, 3) := by decide +kernel
theorem dX2_holds_112 : decode cX2_holds 112 = .ok (.iconst 1, 1) := by decide +kernel
theorem dX2_holds_113 : decode cX2_holds 113 = .ok (.goto 4, 3) := by decide +kernel
theorem dX2_holds_116 : decode cX2_holds 116 = .ok (.iconst 0, 1) := by decide +kernel
theorem dX2_holds_117 : decode cX2_holds 117 = .ok (.ireturn, 1) := by decide +kernel
theorem dX3_isAtOnePlace_0 : decode cX3_isAtOnePlace 0 = .ok (.aload_n 0, 1) := by decide +kernel
theorem dX3_isAtOnePlace_1 : decode cX3_isAtOnePlace 1 = .ok (.getfield 9, 3) := by decide +kernel
theorem dX3_isAtOnePlace_4 : decode cX3_isAtOnePlace 4 = .ok (.iconst 1, 1) := by decide +kernel
theorem dX3_isAtOnePlace_5 : decode cX3_isAtOnePlace 5 = .ok (.if_icmp .eq 11, 3) := by decide +kernel
theorem dX3_isAtOnePlace_8 : decode cX3_isAtOnePlace 8 = .ok (.aload_n 0, 1) := by decide +kernel
theorem dX3_isAtOnePlace_9 : decode cX3_isAtOnePlace 9 = .ok (.getfield 9, 3) := by decide +kernel
theorem dX3_isAtOnePlace_12 : decode cX3_isAtOnePlace 12 = .ok (.iconst 2, 1) := by decide +kernel
theorem dX3_isAtOnePlace_13 : decode cX3_isAtOnePlace 13 = .ok (.if_icmp .ne 7, 3) := by decide +kernel
theorem dX3_isAtOnePlace_16 : decode cX3_isAtOnePlace 16 = .ok (.iconst 1, 1) := by decide +kernel
theorem dX3_isAtOnePlace_17 : decode cX3_isAtOnePlace 17 = .ok (.goto 4, 3) := by decide +kernel
theorem dX3_isAtOnePlace_20 : decode cX3_isAtOnePlace 20 = .ok (.iconst 0, 1) := by decide +kernel
theorem dX3_isAtOnePlace_21 : decode cX3_isAtOnePlace 21 = .ok (.ireturn, 1) := by decide +kernel
theorem dX3_find_0 : decode cX3_find 0 = .ok (.aload_n 0, 1) := by decide +kernel
theorem dX3_find_1 : decode cX3_find 1 = .ok (.iconst 0, 1) := by decide +kernel
theorem dX3_find_2 : decode cX3_find 2 = .ok (.putfield 9, 3) := by decide +kernel
theorem dX3_find_5 : decode cX3_find 5 = .ok (.aload_n 1, 1) := by decide +kernel
theorem dX3_find_6 : decode cX3_find 6 = .ok (.iload_n 2, 1) := by decide +kernel
theorem dX3_find_7 : decode cX3_find 7 = .ok (.invokevirtual 15, 3) := by decide +kernel
theorem dX3_find_10 : decode cX3_find 10 = .ok (.lstore 4, 2) := by decide +kernel
theorem dX3_find_12 : decode cX3_find 12 = .ok (.aload_n 1, 1) := by decide +kernel
theorem dX3_find_13 : decode cX3_find 13 = .ok (.iload_n 2, 1) := by decide +kernel
theorem dX3_find_14 : decode cX3_find 14 = .ok (.invokevirtual 21, 3) := by decide +kernel
theorem dX3_find_17 : decode cX3_find 17 = .ok (.lstore 6, 2) := by decide +kernel
theorem dX3_find_19 : decode cX3_find 19 = .ok (.aload_n 1, 1) := by decide +kernel
theorem dX3_find_20 : decode cX3_find 20 = .ok (.iload_n 3, 1) := by decide +kernel
theorem dX3_find_21 : decode cX3_find 21 = .ok (.invokevirtual 15, 3) := by decide +kernel
theorem dX3_find_24 : decode cX3_find 24 = .ok (.lstore 8, 2) := by decide +kernel
theorem dX3_find_26 : decode cX3_find 26 = .ok (.aload_n 1, 1) := by decide +kernel
theorem dX3_find_27 : decode cX3_find 27 = .ok (.iload_n 3, 1) := by decide +kernel
theorem dX3_find_28 : decode cX3_find 28 = .ok (.invokevirtual 21, 3) := by decide +kernel
theorem dX3_find_31 : decode cX3_find 31 = .ok (.lstore 10, 2) := by decide +kernel
theorem dX3_find_33 : decode cX3_find 33 = .ok (.aload_n 1, 1) := by decide +kernel
theorem dX3_find_34 : decode cX3_find 34 = .ok (.getfield 24, 3) := by decide +kernel
theorem dX3_find_37 : decode cX3_find 37 = .ok (.iload_n 3, 1) := by decide +kernel
theorem dX3_find_38 : decode cX3_find 38 = .ok (.iaload, 1) := by decide +kernel
theorem dX3_find_39 : decode cX3_find 39 = .ok (.aload_n 1, 1) := by decide +kernel
theorem dX3_find_40 : decode cX3_find 40 = .ok (.getfield 24, 3) := by decide +kernel
theorem dX3_find_43 : decode cX3_find 43 = .ok (.iload_n 2, 1) := by decide +kernel
theorem dX3_find_44 : decode cX3_find 44 = .ok (.iaload, 1) := by decide +kernel
theorem dX3_find_45 : decode cX3_find 45 = .ok (.isub, 1) := by decide +kernel
theorem dX3_find_46 : decode cX3_find 46 = .ok (.i2l, 1) := by decide +kernel
theorem dX3_find_47 : decode cX3_find 47 = .ok (.lstore 12, 2) := by decide +kernel
theorem dX3_find_49 : decode cX3_find 49 = .ok (.aload_n 1, 1) := by decide +kernel
theorem dX3_find_50 : decode cX3_find 50 = .ok (.getfield 28, 3) := by decide +kernel
theorem dX3_find_53 : decode cX3_find 53 = .ok (.iload_n 3, 1) := by decide +kernel
theorem dX3_find_54 : decode cX3_find 54 = .ok (.iaload, 1) := by decide +kernel
theorem dX3_find_55 : decode cX3_find 55 = .ok (.aload_n 1, 1) := by decide +kernel
theorem dX3_find_56 : decode cX3_find 56 = .ok (.getfield 28, 3) := by decide +kernel
theorem dX3_find_59 : decode cX3_find 59 = .ok (.iload_n 2, 1) := by decide +kernel
theorem dX3_find_60 : decode cX3_find 60 = .ok (.iaload, 1) := by decide +kernel
theorem dX3_find_61 : decode cX3_find 61 = .ok (.isub, 1) := by decide +kernel
theorem dX3_find_62 : decode cX3_find 62 = .ok (.i2l, 1) := by decide +kernel
theorem dX3_find_63 : decode cX3_find 63 = .ok (.lstore 14, 2) := by decide +kernel
theorem dX3_find_65 : decode cX3_find 65 = .ok (.lload 4, 2) := by decide +kernel
theorem dX3_find_67 : decode cX3_find 67 = .ok (.lload 10, 2) := by decide +kernel
theorem dX3_find_69 : decode cX3_find 69 = .ok (.lmul, 1) := by decide +kernel
theorem dX3_find_70 : decode cX3_find 70 = .ok (.lload 6, 2) := by decide +kernel
theorem dX3_find_72 : decode cX3_find 72 = .ok (.lload 8, 2) := by decide +kernel
theorem dX3_find_74 : decode cX3_find 74 = .ok (.lmul, 1) := by decide +kernel
theorem dX3_find_75 : decode cX3_find 75 = .ok (.lsub, 1) := by decide +kernel
theorem dX3_find_76 : decode cX3_find 76 = .ok (.lstore 16, 2) := by decide +kernel
theorem dX3_find_78 : decode cX3_find 78 = .ok (.lload 16, 2) := by decide +kernel
theorem dX3_find_80 : decode cX3_find 80 = .ok (.lconst 0, 1) := by decide +kernel
theorem dX3_find_81 : decode cX3_find 81 = .ok (.lcmp, 1) := by decide +kernel
theorem dX3_find_82 : decode cX3_find 82 = .ok (.ifCond .ne 25, 3) := by decide +kernel
theorem dX3_find_85 : decode cX3_find 85 = .ok (.lload 4, 2) := by decide +kernel
theorem dX3_find_87 : decode cX3_find 87 = .ok (.lload 14, 2) := by decide +kernel
theorem dX3_find_89 : decode cX3_find 89 = .ok (.lmul, 1) := by decide +kernel
theorem dX3_find_90 : decode cX3_find 90 = .ok (.lload 6, 2) := by decide +kernel
theorem dX3_find_92 : decode cX3_find 92 = .ok (.lload 12, 2) := by decide +kernel
theorem dX3_find_94 : decode cX3_find 94 = .ok (.lmul, 1) := by decide +kernel
theorem dX3_find_95 : decode cX3_find 95 = .ok (.lcmp, 1) := by decide +kernel
theorem dX3_find_96 : decode cX3_find 96 = .ok (.ifCond .ne 10, 3) := by decide +kernel
theorem dX3_find_99 : decode cX3_find 99 = .ok (.aload_n 0, 1) := by decide +kernel
theorem dX3_find_100 : decode cX3_find 100 = .ok (.aload_n 1, 1) := by decide +kernel
theorem dX3_find_101 : decode cX3_find 101 = .ok (.iload_n 2, 1) := by decide +kernel
theorem dX3_find_102 : decode cX3_find 102 = .ok (.iload_n 3, 1) := by decide +kernel
theorem dX3_find_103 : decode cX3_find 103 = .ok (.invokevirtual 31, 3) := by decide +kernel
theorem dX3_find_106 : decode cX3_find 106 = .ok (.return_, 1) := by decide +kernel
theorem dX3_find_107 : decode cX3_find 107 = .ok (.lload 16, 2) := by decide +kernel
theorem dX3_find_109 : decode cX3_find 109 = .ok (.lconst 0, 1) := by decide +kernel
theorem dX3_find_110 : decode cX3_find 110 = .ok (.lcmp, 1) := by decide +kernel
theorem dX3_find_111 : decode cX3_find 111 = .ok (.ifCond .ge 7, 3) := by decide +kernel
theorem dX3_find_114 : decode cX3_find 114 = .ok (.iconst (-1), 1) := by decide +kernel
theorem dX3_find_115 : decode cX3_find 115 = .ok (.goto 4, 3) := by decide +kernel
theorem dX3_find_118 : decode cX3_find 118 = .ok (.iconst 1, 1) := by decide +kernel
theorem dX3_find_119 : decode cX3_find 119 = .ok (.istore 18, 2) := by decide +kernel
theorem dX3_find_121 : decode cX3_find 121 = .ok (.iload 18, 2) := by decide +kernel
theorem dX3_find_123 : decode cX3_find 123 = .ok (.i2l, 1) := by decide +kernel
theorem dX3_find_124 : decode cX3_find 124 = .ok (.lload 16, 2) := by decide +kernel
theorem dX3_find_126 : decode cX3_find 126 = .ok (.lmul, 1) := by decide +kernel
theorem dX3_find_127 : decode cX3_find 127 = .ok (.lstore 19, 2) := by decide +kernel
theorem dX3_find_129 : decode cX3_find 129 = .ok (.iload 18, 2) := by decide +kernel
theorem dX3_find_131 : decode cX3_find 131 = .ok (.i2l, 1) := by decide +kernel
theorem dX3_find_132 : decode cX3_find 132 = .ok (.lload 12, 2) := by decide +kernel
theorem dX3_find_134 : decode cX3_find 134 = .ok (.lload 10, 2) := by decide +kernel
theorem dX3_find_136 : decode cX3_find 136 = .ok (.lmul, 1) := by decide +kernel
theorem dX3_find_137 : decode cX3_find 137 = .ok (.lload 14, 2) := by decide +kernel
theorem dX3_find_139 : decode cX3_find 139 = .ok (.lload 8, 2) := by decide +kernel
theorem dX3_find_141 : decode cX3_find 141 = .ok (.lmul, 1) := by decide +kernel
theorem dX3_find_142 : decode cX3_find 142 = .ok (.lsub, 1) := by decide +kernel
theorem dX3_find_143 : decode cX3_find 143 = .ok (.lmul, 1) := by decide +kernel
theorem dX3_find_144 : decode cX3_find 144 = .ok (.lstore 21, 2) := by decide +kernel
theorem dX3_find_146 : decode cX3_find 146 = .ok (.iload 18, 2) := by decide +kernel
theorem dX3_find_148 : decode cX3_find 148 = .ok (.i2l, 1) := by decide +kernel
theorem dX3_find_149 : decode cX3_find 149 = .ok (.lload 12, 2) := by decide +kernel
theorem dX3_find_151 : decode cX3_find 151 = .ok (.lload 6, 2) := by decide +kernel
theorem dX3_find_153 : decode cX3_find 153 = .ok (.lmul, 1) := by decide +kernel
theorem dX3_find_154 : decode cX3_find 154 = .ok (.lload 14, 2) := by decide +kernel
theorem dX3_find_156 : decode cX3_find 156 = .ok (.lload 4, 2) := by decide +kernel
theorem dX3_find_158 : decode cX3_find 158 = .ok (.lmul, 1) := by decide +kernel
theorem dX3_find_159 : decode cX3_find 159 = .ok (.lsub, 1) := by decide +kernel
theorem dX3_find_160 : decode cX3_find 160 = .ok (.lmul, 1) := by decide +kernel
theorem dX3_find_161 : decode cX3_find 161 = .ok (.lstore 23, 2) := by decide +kernel
theorem dX3_find_163 : decode cX3_find 163 = .ok (.lload 21, 2) := by decide +kernel
theorem dX3_find_165 : decode cX3_find 165 = .ok (.lconst 0, 1) := by decide +kernel
theorem dX3_find_166 : decode cX3_find 166 = .ok (.lcmp, 1) := by decide +kernel
theorem dX3_find_167 : decode cX3_find 167 = .ok (.ifCond .lt 26, 3) := by decide +kernel
theorem dX3_find_170 : decode cX3_find 170 = .ok (.lload 21, 2) := by decide +kernel
theorem dX3_find_172 : decode cX3_find 172 = .ok (.lload 19, 2) := by decide +kernel
theorem dX3_find_174 : decode cX3_find 174 = .ok (.lcmp, 1) := by decide +kernel
theorem dX3_find_175 : decode cX3_find 175 = .ok (.ifCond .gt 18, 3) := by decide +kernel
theorem dX3_find_178 : decode cX3_find 178 = .ok (.lload 23, 2) := by decide +kernel
theorem dX3_find_180 : decode cX3_find 180 = .ok (.lconst 0, 1) := by decide +kernel
theorem dX3_find_181 : decode cX3_find 181 = .ok (.lcmp, 1) := by decide +kernel
theorem dX3_find_182 : decode cX3_find 182 = .ok (.ifCond .lt 11, 3) := by decide +kernel
theorem dX3_find_185 : decode cX3_find 185 = .ok (.lload 23, 2) := by decide +kernel
theorem dX3_find_187 : decode cX3_find 187 = .ok (.lload 19, 2) := by decide +kernel
theorem dX3_find_189 : decode cX3_find 189 = .ok (.lcmp, 1) := by decide +kernel
theorem dX3_find_190 : decode cX3_find 190 = .ok (.ifCond .le 4, 3) := by decide +kernel
theorem dX3_find_193 : decode cX3_find 193 = .ok (.return_, 1) := by decide +kernel
theorem dX3_find_194 : decode cX3_find 194 = .ok (.lload 21, 2) := by decide +kernel
theorem dX3_find_196 : decode cX3_find 196 = .ok (.lconst 0, 1) := by decide +kernel
theorem dX3_find_197 : decode cX3_find 197 = .ok (.lcmp, 1) := by decide +kernel
theorem dX3_find_198 : decode cX3_find 198 = .ok (.ifCond .le 30, 3) := by decide +kernel
theorem dX3_find_201 : decode cX3_find 201 = .ok (.lload 21, 2) := by decide +kernel
theorem dX3_find_203 : decode cX3_find 203 = .ok (.lload 19, 2) := by decide +kernel
theorem dX3_find_205 : decode cX3_find 205 = .ok (.lcmp, 1) := by decide +kernel
theorem dX3_find_206 : decode cX3_find 206 = .ok (.ifCond .ge 22, 3) := by decide +kernel
theorem dX3_find_209 : decode cX3_find 209 = .ok (.lload 23, 2) := by decide +kernel
theorem dX3_find_211 : decode cX3_find 211 = .ok (.lconst 0, 1) := by decide +kernel
theorem dX3_find_212 : decode cX3_find 212 = .ok (.lcmp, 1) := by decide +kernel
theorem dX3_find_213 : decode cX3_find 213 = .ok (.ifCond .le 15, 3) := by decide +kernel
theorem dX3_find_216 : decode cX3_find 216 = .ok (.lload 23, 2) := by decide +kernel
theorem dX3_find_218 : decode cX3_find 218 = .ok (.lload 19, 2) := by decide +kernel
theorem dX3_find_220 : decode cX3_find 220 = .ok (.lcmp, 1) := by decide +kernel
theorem dX3_find_221 : decode cX3_find 221 = .ok (.ifCond .ge 7, 3) := by decide +kernel
theorem dX3_find_224 : decode cX3_find 224 = .ok (.iconst 1, 1) := by decide +kernel
theorem dX3_find_225 : decode cX3_find 225 = .ok (.goto 4, 3) := by decide +kernel
theorem dX3_find_228 : decode cX3_find 228 = .ok (.iconst 0, 1) := by decide +kernel
theorem dX3_find_229 : decode cX3_find 229 = .ok (.istore 25, 2) := by decide +kernel
theorem dX3_find_231 : decode cX3_find 231 = .ok (.aload_n 0, 1) := by decide +kernel
theorem dX3_find_232 : decode cX3_find 232 = .ok (.iload 25, 2) := by decide +kernel
theorem dX3_find_234 : decode cX3_find 234 = .ok (.ifCond .eq 7, 3) := by decide +kernel
theorem dX3_find_237 : decode cX3_find 237 = .ok (.iconst 1, 1) := by decide +kernel
theorem dX3_find_238 : decode cX3_find 238 = .ok (.goto 4, 3) := by decide +kernel
theorem dX3_find_241 : decode cX3_find 241 = .ok (.iconst 2, 1) := by decide +kernel
theorem dX3_find_242 : decode cX3_find 242 = .ok (.putfield 9, 3) := by decide +kernel
theorem dX3_find_245 : decode cX3_find 245 = .ok (.aload_n 0, 1) := by decide +kernel
theorem dX3_find_246 : decode cX3_find 246 = .ok (.aload_n 1, 1) := by decide +kernel
theorem dX3_find_247 : decode cX3_find 247 = .ok (.getfield 24, 3) := by decide +kernel
theorem dX3_find_250 : decode cX3_find 250 = .ok (.iload_n 2, 1) := by decide +kernel
theorem dX3_find_251 : decode cX3_find 251 = .ok (.iaload, 1) := by decide +kernel
theorem dX3_find_252 : decode cX3_find 252 = .ok (.i2l, 1) := by decide +kernel
theorem dX3_find_253 : decode cX3_find 253 = .ok (.lload 19, 2) := by decide +kernel
theorem dX3_find_255 : decode cX3_find 255 = .ok (.lmul, 1) := by decide +kernel
theorem dX3_find_256 : decode cX3_find 256 = .ok (.lload 21, 2) := by decide +kernel
theorem dX3_find_258 : decode cX3_find 258 = .ok (.lload 4, 2) := by decide +kernel
theorem dX3_find_260 : decode cX3_find 260 = .ok (.lmul, 1) := by decide +kernel
theorem dX3_find_261 : decode cX3_find 261 = .ok (.ladd, 1) := by decide +kernel
theorem dX3_find_262 : decode cX3_find 262 = .ok (.aload_n 1, 1) := by decide +kernel
theorem dX3_find_263 : decode cX3_find 263 = .ok (.getfield 28, 3) := by decide +kernel
theorem dX3_find_266 : decode cX3_find 266 = .ok (.iload_n 2, 1) := by decide +kernel
theorem dX3_find_267 : decode cX3_find 267 = .ok (.iaload, 1) := by decide +kernel
theorem dX3_find_268 : decode cX3_find 268 = .ok (.i2l, 1) := by decide +kernel
theorem dX3_find_269 : decode cX3_find 269 = .ok (.lload 19, 2) := by decide +kernel
theorem dX3_find_271 : decode cX3_find 271 = .ok (.lmul, 1) := by decide +kernel
theorem dX3_find_272 : decode cX3_find 272 = .ok (.lload 21, 2) := by decide +kernel
theorem dX3_find_274 : decode cX3_find 274 = .ok (.lload 6, 2) := by decide +kernel
theorem dX3_find_276 : decode cX3_find 276 = .ok (.lmul, 1) := by decide +kernel
theorem dX3_find_277 : decode cX3_find 277 = .ok (.ladd, 1) := by decide +kernel
theorem dX3_find_278 : decode cX3_find 278 = .ok (.lload 19, 2) := by decide +kernel
theorem dX3_find_280 : decode cX3_find 280 = .ok (.invokevirtual 35, 3) := by decide +kernel
theorem dX3_find_283 : decode cX3_find 283 = .ok (.return_, 1) := by decide +kernel
theorem dX3_findInOneRow_0 : decode cX3_findInOneRow 0 = .ok (.aload_n 1, 1) := by decide +kernel
theorem dX3_findInOneRow_1 : decode cX3_findInOneRow 1 = .ok (.getfield 24, 3) := by decide +kernel
theorem dX3_findInOneRow_4 : decode cX3_findInOneRow 4 = .ok (.iload_n 2, 1) := by decide +kernel
theorem dX3_findInOneRow_5 : decode cX3_findInOneRow 5 = .ok (.iaload, 1) := by decide +kernel
theorem dX3_findInOneRow_6 : decode cX3_findInOneRow 6 = .ok (.aload_n 1, 1) := by decide +kernel
theorem dX3_findInOneRow_7 : decode cX3_findInOneRow 7 = .ok (.getfield 28, 3) := by decide +kernel
theorem dX3_findInOneRow_10 : decode cX3_findInOneRow 10 = .ok (.iload_n 2, 1) := by decide +kernel
theorem dX3_findInOneRow_11 : decode cX3_findInOneRow 11 = .ok (.iaload, 1) := by decide +kernel
theorem dX3_findInOneRow_12 : decode cX3_findInOneRow 12 = .ok (.aload_n 1, 1) := by decide +kernel
theorem dX3_findInOneRow_13 : decode cX3_findInOneRow 13 = .ok (.getfield 24, 3) := by decide +kernel
theorem dX3_findInOneRow_16 : decode cX3_findInOneRow 16 = .ok (.iload_n 3, 1) := by decide +kernel
theorem dX3_findInOneRow_17 : decode cX3_findInOneRow 17 = .ok (.iaload, 1) := by decide +kernel
theorem dX3_findInOneRow_18 : decode cX3_findInOneRow 18 = .ok (.aload_n 1, 1) := by decide +kernel
theorem dX3_findInOneRow_19 : decode cX3_findInOneRow 19 = .ok (.getfield 28, 3) := by decide +kernel
theorem dX3_findInOneRow_22 : decode cX3_findInOneRow 22 = .ok (.iload_n 3, 1) := by decide +kernel
theorem dX3_findInOneRow_23 : decode cX3_findInOneRow 23 = .ok (.iaload, 1) := by decide +kernel
theorem dX3_findInOneRow_24 : decode cX3_findInOneRow 24 = .ok (.invokestatic 39, 3) := by decide +kernel
theorem dX3_findInOneRow_27 : decode cX3_findInOneRow 27 = .ok (.istore 4, 2) := by decide +kernel
theorem dX3_findInOneRow_29 : decode cX3_findInOneRow 29 = .ok (.aload_n 1, 1) := by decide +kernel
theorem dX3_findInOneRow_30 : decode cX3_findInOneRow 30 = .ok (.getfield 43, 3) := by decide +kernel
theorem dX3_findInOneRow_33 : decode cX3_findInOneRow 33 = .ok (.iload_n 3, 1) := by decide +kernel
theorem dX3_findInOneRow_34 : decode cX3_findInOneRow 34 = .ok (.iaload, 1) := by decide +kernel
theorem dX3_findInOneRow_35 : decode cX3_findInOneRow 35 = .ok (.aload_n 1, 1) := by decide +kernel
theorem dX3_findInOneRow_36 : decode cX3_findInOneRow 36 = .ok (.getfield 46, 3) := by decide +kernel
theorem dX3_findInOneRow_39 : decode cX3_findInOneRow 39 = .ok (.iload_n 3, 1) := by decide +kernel
theorem dX3_findInOneRow_40 : decode cX3_findInOneRow 40 = .ok (.iaload, 1) := by decide +kernel
theorem dX3_findInOneRow_41 : decode cX3_findInOneRow 41 = .ok (.aload_n 1, 1) := by decide +kernel
theorem dX3_findInOneRow_42 : decode cX3_findInOneRow 42 = .ok (.getfield 43, 3) := by decide +kernel
theorem dX3_findInOneRow_45 : decode cX3_findInOneRow 45 = .ok (.iload_n 2, 1) := by decide +kernel
theorem dX3_findInOneRow_46 : decode cX3_findInOneRow 46 = .ok (.iaload, 1) := by decide +kernel
theorem dX3_findInOneRow_47 : decode cX3_findInOneRow 47 = .ok (.aload_n 1, 1) := by decide +kernel
theorem dX3_findInOneRow_48 : decode cX3_findInOneRow 48 = .ok (.getfield 46, 3) := by decide +kernel
theorem dX3_findInOneRow_51 : decode cX3_findInOneRow 51 = .ok (.iload_n 2, 1) := by decide +kernel
theorem dX3_findInOneRow_52 : decode cX3_findInOneRow 52 = .ok (.iaload, 1) := by decide +kernel
theorem dX3_findInOneRow_53 : decode cX3_findInOneRow 53 = .ok (.invokestatic 39, 3) := by decide +kernel
theorem dX3_findInOneRow_56 : decode cX3_findInOneRow 56 = .ok (.istore 5, 2) := by decide +kernel
theorem dX3_findInOneRow_58 : decode cX3_findInOneRow 58 = .ok (.iload 4, 2) := by decide +kernel
theorem dX3_findInOneRow_60 : decode cX3_findInOneRow 60 = .ok (.ifCond .eq 7, 3) := by decide +kernel
theorem dX3_findInOneRow_63 : decode cX3_findInOneRow 63 = .ok (.iload_n 3, 1) := by decide +kernel
theorem dX3_findInOneRow_64 : decode cX3_findInOneRow 64 = .ok (.goto 4, 3) := by decide +kernel
theorem dX3_findInOneRow_67 : decode cX3_findInOneRow 67 = .ok (.iload_n 2, 1) := by decide +kernel
theorem dX3_findInOneRow_68 : decode cX3_findInOneRow 68 = .ok (.istore 6, 2) := by decide +kernel
theorem dX3_findInOneRow_70 : decode cX3_findInOneRow 70 = .ok (.iload 5, 2) := by decide +kernel
theorem dX3_findInOneRow_72 : decode cX3_findInOneRow 72 = .ok (.ifCond .eq 7, 3) := by decide +kernel
theorem dX3_findInOneRow_75 : decode cX3_findInOneRow 75 = .ok (.iload_n 3, 1) := by decide +kernel
theorem dX3_findInOneRow_76 : decode cX3_findInOneRow 76 = .ok (.goto 4, 3) := by decide +kernel
theorem dX3_findInOneRow_79 : decode cX3_findInOneRow 79 = .ok (.iload_n 2, 1) := by decide +kernel
theorem dX3_findInOneRow_80 : decode cX3_findInOneRow 80 = .ok (.istore 7, 2) := by decide +kernel
theorem dX3_findInOneRow_82 : decode cX3_findInOneRow 82 = .ok (.aload_n 1, 1) := by decide +kernel
theorem dX3_findInOneRow_83 : decode cX3_findInOneRow 83 = .ok (.getfield 24, 3) := by decide +kernel
theorem dX3_findInOneRow_86 : decode cX3_findInOneRow 86 = .ok (.iload 6, 2) := by decide +kernel
theorem dX3_findInOneRow_88 : decode cX3_findInOneRow 88 = .ok (.iaload, 1) := by decide +kernel
theorem dX3_findInOneRow_89 : decode cX3_findInOneRow 89 = .ok (.aload_n 1, 1) := by decide +kernel
theorem dX3_findInOneRow_90 : decode cX3_findInOneRow 90 = .ok (.getfield 28, 3) := by decide +kernel
theorem dX3_findInOneRow_93 : decode cX3_findInOneRow 93 = .ok (.iload 6, 2) := by decide +kernel
theorem dX3_findInOneRow_95 : decode cX3_findInOneRow 95 = .ok (.iaload, 1) := by decide +kernel
theorem dX3_findInOneRow_96 : decode cX3_findInOneRow 96 = .ok (.aload_n 1, 1) := by decide +kernel
theorem dX3_findInOneRow_97 : decode cX3_findInOneRow 97 = .ok (.getfield 43, 3) := by decide +kernel
theorem dX3_findInOneRow_100 : decode cX3_findInOneRow 100 = .ok (.iload 7, 2) := by decide +kernel
theorem dX3_findInOneRow_102 : decode cX3_findInOneRow 102 = .ok (.iaload, 1) := by decide +kernel
theorem dX3_findInOneRow_103 : decode cX3_findInOneRow 103 = .ok (.aload_n 1, 1) := by decide +kernel
theorem dX3_findInOneRow_104 : decode cX3_findInOneRow 104 = .ok (.getfield 46, 3) := by decide +kernel
theorem dX3_findInOneRow_107 : decode cX3_findInOneRow 107 = .ok (.iload 7, 2) := by decide +kernel
theorem dX3_findInOneRow_109 : decode cX3_findInOneRow 109 = .ok (.iaload, 1) := by decide +kernel
theorem dX3_findInOneRow_110 : decode cX3_findInOneRow 110 = .ok (.invokestatic 39, 3) := by decide +kernel
theorem dX3_findInOneRow_113 : decode cX3_findInOneRow 113 = .ok (.ifCond .eq 11, 3) := by decide +kernel
theorem dX3_findInOneRow_116 : decode cX3_findInOneRow 116 = .ok (.aload_n 0, 1) := by decide +kernel
theorem dX3_findInOneRow_117 : decode cX3_findInOneRow 117 = .ok (.iconst 3, 1) := by decide +kernel
theorem dX3_findInOneRow_118 : decode cX3_findInOneRow 118 = .ok (.putfield 9, 3) := by decide +kernel
theorem dX3_findInOneRow_121 : decode cX3_findInOneRow 121 = .ok (.goto 76, 3) := by decide +kernel
theorem dX3_findInOneRow_124 : decode cX3_findInOneRow 124 = .ok (.aload_n 1, 1) := by decide +kernel
theorem dX3_findInOneRow_125 : decode cX3_findInOneRow 125 = .ok (.getfield 24, 3) := by decide +kernel
theorem dX3_findInOneRow_128 : decode cX3_findInOneRow 128 = .ok (.iload 6, 2) := by decide +kernel
theorem dX3_findInOneRow_130 : decode cX3_findInOneRow 130 = .ok (.iaload, 1) := by decide +kernel
theorem dX3_findInOneRow_131 : decode cX3_findInOneRow 131 = .ok (.aload_n 1, 1) := by decide +kernel
theorem dX3_findInOneRow_132 : decode cX3_findInOneRow 132 = .ok (.getfield 43, 3) := by decide +kernel
theorem dX3_findInOneRow_135 : decode cX3_findInOneRow 135 = .ok (.iload 7, 2) := by decide +kernel
theorem dX3_findInOneRow_137 : decode cX3_findInOneRow 137 = .ok (.iaload, 1) := by decide +kernel
theorem dX3_findInOneRow_138 : decode cX3_findInOneRow 138 = .ok (.if_icmp .ne 59, 3) := by decide +kernel
theorem dX3_findInOneRow_141 : decode cX3_findInOneRow 141 = .ok (.aload_n 1, 1) := by decide +kernel
theorem dX3_findInOneRow_142 : decode cX3_findInOneRow 142 = .ok (.getfield 28, 3) := by decide +kernel
theorem dX3_findInOneRow_145 : decode cX3_findInOneRow 145 = .ok (.iload 6, 2) := by decide +kernel
theorem dX3_findInOneRow_147 : decode cX3_findInOneRow 147 = .ok (.iaload, 1) := by decide +kernel
theorem dX3_findInOneRow_148 : decode cX3_findInOneRow 148 = .ok (.aload_n 1, 1) := by decide +kernel
theorem dX3_findInOneRow_149 : decode cX3_findInOneRow 149 = .ok (.getfield 46, 3) := by decide +kernel
theorem dX3_findInOneRow_152 : decode cX3_findInOneRow 152 = .ok (.iload 7, 2) := by decide +kernel
theorem dX3_findInOneRow_154 : decode cX3_findInOneRow 154 = .ok (.iaload, 1) := by decide +kernel
theorem dX3_findInOneRow_155 : decode cX3_findInOneRow 155 = .ok (.if_icmp .ne 42, 3) := by decide +kernel
theorem dX3_findInOneRow_158 : decode cX3_findInOneRow 158 = .ok (.aload_n 0, 1) := by decide +kernel
theorem dX3_findInOneRow_159 : decode cX3_findInOneRow 159 = .ok (.iconst 2, 1) := by decide +kernel
theorem dX3_findInOneRow_160 : decode cX3_findInOneRow 160 = .ok (.putfield 9, 3) := by decide +kernel
theorem dX3_findInOneRow_163 : decode cX3_findInOneRow 163 = .ok (.aload_n 0, 1) := by decide +kernel
theorem dX3_findInOneRow_164 : decode cX3_findInOneRow 164 = .ok (.aload_n 1, 1) := by decide +kernel
theorem dX3_findInOneRow_165 : decode cX3_findInOneRow 165 = .ok (.getfield 24, 3) := by decide +kernel
theorem dX3_findInOneRow_168 : decode cX3_findInOneRow 168 = .ok (.iload 6, 2) := by decide +kernel
theorem dX3_findInOneRow_170 : decode cX3_findInOneRow 170 = .ok (.iaload, 1) := by decide +kernel
theorem dX3_findInOneRow_171 : decode cX3_findInOneRow 171 = .ok (.i2l, 1) := by decide +kernel
theorem dX3_findInOneRow_172 : decode cX3_findInOneRow 172 = .ok (.putfield 49, 3) := by decide +kernel
theorem dX3_findInOneRow_175 : decode cX3_findInOneRow 175 = .ok (.aload_n 0, 1) := by decide +kernel
theorem dX3_findInOneRow_176 : decode cX3_findInOneRow 176 = .ok (.lconst 1, 1) := by decide +kernel
theorem dX3_findInOneRow_177 : decode cX3_findInOneRow 177 = .ok (.putfield 53, 3) := by decide +kernel
theorem dX3_findInOneRow_180 : decode cX3_findInOneRow 180 = .ok (.aload_n 0, 1) := by decide +kernel
theorem dX3_findInOneRow_181 : decode cX3_findInOneRow 181 = .ok (.aload_n 1, 1) := by decide +kernel
theorem dX3_findInOneRow_182 : decode cX3_findInOneRow 182 = .ok (.getfield 28, 3) := by decide +kernel
theorem dX3_findInOneRow_185 : decode cX3_findInOneRow 185 = .ok (.iload 6, 2) := by decide +kernel
theorem dX3_findInOneRow_187 : decode cX3_findInOneRow 187 = .ok (.iaload, 1) := by decide +kernel
theorem dX3_findInOneRow_188 : decode cX3_findInOneRow 188 = .ok (.i2l, 1) := by decide +kernel
theorem dX3_findInOneRow_189 : decode cX3_findInOneRow 189 = .ok (.putfield 56, 3) := by decide +kernel
theorem dX3_findInOneRow_192 : decode cX3_findInOneRow 192 = .ok (.aload_n 0, 1) := by decide +kernel
theorem dX3_findInOneRow_193 : decode cX3_findInOneRow 193 = .ok (.lconst 1, 1) := by decide +kernel
theorem dX3_findInOneRow_194 : decode cX3_findInOneRow 194 = .ok (.putfield 59, 3) := by decide +kernel
theorem dX3_findInOneRow_197 : decode cX3_findInOneRow 197 = .ok (.return_, 1) := by decide +kernel
theorem dX3_isAhead_0 : decode cX3_isAhead 0 = .ok (.iload_n 0, 1) := by decide +kernel
theorem dX3_isAhead_1 : decode cX3_isAhead 1 = .ok (.iload_n 2, 1) := by decide +kernel
theorem dX3_isAhead_2 : decode cX3_isAhead 2 = .ok (.if_icmp .lt 13, 3) := by decide +kernel
theorem dX3_isAhead_5 : decode cX3_isAhead 5 = .ok (.iload_n 0, 1) := by decide +kernel
theorem dX3_isAhead_6 : decode cX3_isAhead 6 = .ok (.iload_n 2, 1) := by decide +kernel
theorem dX3_isAhead_7 : decode cX3_isAhead 7 = .ok (.if_icmp .ne 12, 3) := by decide +kernel
theorem dX3_isAhead_10 : decode cX3_isAhead 10 = .ok (.iload_n 1, 1) := by decide +kernel
theorem dX3_isAhead_11 : decode cX3_isAhead 11 = .ok (.iload_n 3, 1) := by decide +kernel
theorem dX3_isAhead_12 : decode cX3_isAhead 12 = .ok (.if_icmp .ge 7, 3) := by decide +kernel
theorem dX3_isAhead_15 : decode cX3_isAhead 15 = .ok (.iconst 1, 1) := by decide +kernel
theorem dX3_isAhead_16 : decode cX3_isAhead 16 = .ok (.goto 4, 3) := by decide +kernel
theorem dX3_isAhead_19 : decode cX3_isAhead 19 = .ok (.iconst 0, 1) := by decide +kernel
theorem dX3_isAhead_20 : decode cX3_isAhead 20 = .ok (.ireturn, 1) := by decide +kernel
theorem dX3_layAt_0 : decode cX3_layAt 0 = .ok (.lload_n 1, 1) := by decide +kernel
theorem dX3_layAt_1 : decode cX3_layAt 1 = .ok (.lload 5, 2) := by decide +kernel
theorem dX3_layAt_3 : decode cX3_layAt 3 = .ok (.invokestatic 62, 3) := by decide +kernel
theorem dX3_layAt_6 : decode cX3_layAt 6 = .ok (.lstore 7, 2) := by decide +kernel
theorem dX3_layAt_8 : decode cX3_layAt 8 = .ok (.lload_n 3, 1) := by decide +kernel
theorem dX3_layAt_9 : decode cX3_layAt 9 = .ok (.lload 5, 2) := by decide +kernel
theorem dX3_layAt_11 : decode cX3_layAt 11 = .ok (.invokestatic 62, 3) := by decide +kernel
theorem dX3_layAt_14 : decode cX3_layAt 14 = .ok (.lstore 9, 2) := by decide +kernel
theorem dX3_layAt_16 : decode cX3_layAt 16 = .ok (.aload_n 0, 1) := by decide +kernel
theorem dX3_layAt_17 : decode cX3_layAt 17 = .ok (.lload_n 1, 1) := by decide +kernel
theorem dX3_layAt_18 : decode cX3_layAt 18 = .ok (.lload 7, 2) := by decide +kernel
theorem dX3_layAt_20 : decode cX3_layAt 20 = .ok (.ldiv, 1) := by decide +kernel
theorem dX3_layAt_21 : decode cX3_layAt 21 = .ok (.putfield 49, 3) := by decide +kernel
theorem dX3_layAt_24 : decode cX3_layAt 24 = .ok (.aload_n 0, 1) := by decide +kernel
theorem dX3_layAt_25 : decode cX3_layAt 25 = .ok (.lload 5, 2) := by decide +kernel
theorem dX3_layAt_27 : decode cX3_layAt 27 = .ok (.lload 7, 2) := by decide +kernel
theorem dX3_layAt_29 : decode cX3_layAt 29 = .ok (.ldiv, 1) := by decide +kernel
theorem dX3_layAt_30 : decode cX3_layAt 30 = .ok (.putfield 53, 3) := by decide +kernel
theorem dX3_layAt_33 : decode cX3_layAt 33 = .ok (.aload_n 0, 1) := by decide +kernel
theorem dX3_layAt_34 : decode cX3_layAt 34 = .ok (.lload_n 3, 1) := by decide +kernel
theorem dX3_layAt_35 : decode cX3_layAt 35 = .ok (.lload 9, 2) := by decide +kernel
theorem dX3_layAt_37 : decode cX3_layAt 37 = .ok (.ldiv, 1) := by decide +kernel
theorem dX3_layAt_38 : decode cX3_layAt 38 = .ok (.putfield 56, 3) := by decide +kernel
theorem dX3_layAt_41 : decode cX3_layAt 41 = .ok (.aload_n 0, 1) := by decide +kernel
theorem dX3_layAt_42 : decode cX3_layAt 42 = .ok (.lload 5, 2) := by decide +kernel
theorem dX3_layAt_44 : decode cX3_layAt 44 = .ok (.lload 9, 2) := by decide +kernel
theorem dX3_layAt_46 : decode cX3_layAt 46 = .ok (.ldiv, 1) := by decide +kernel
theorem dX3_layAt_47 : decode cX3_layAt 47 = .ok (.putfield 59, 3) := by decide +kernel
theorem dX3_layAt_50 : decode cX3_layAt 50 = .ok (.return_, 1) := by decide +kernel
theorem dX4_find_0 : decode cX4_find 0 = .ok (.aload_n 0, 1) := by decide +kernel
theorem dX4_find_1 : decode cX4_find 1 = .ok (.iconst 0, 1) := by decide +kernel
theorem dX4_find_2 : decode cX4_find 2 = .ok (.putfield 41, 3) := by decide +kernel
theorem dX4_find_5 : decode cX4_find 5 = .ok (.iconst 0, 1) := by decide +kernel
theorem dX4_find_6 : decode cX4_find 6 = .ok (.istore_n 2, 1) := by decide +kernel
theorem dX4_find_7 : decode cX4_find 7 = .ok (.iload_n 2, 1) := by decide +kernel
theorem dX4_find_8 : decode cX4_find 8 = .ok (.aload_n 1, 1) := by decide +kernel
theorem dX4_find_9 : decode cX4_find 9 = .ok (.getfield 45, 3) := by decide +kernel
theorem dX4_find_12 : decode cX4_find 12 = .ok (.if_icmp .ge 49, 3) := by decide +kernel
theorem dX4_find_15 : decode cX4_find 15 = .ok (.aload_n 0, 1) := by decide +kernel
theorem dX4_find_16 : decode cX4_find 16 = .ok (.aload_n 1, 1) := by decide +kernel
theorem dX4_find_17 : decode cX4_find 17 = .ok (.getfield 48, 3) := by decide +kernel
theorem dX4_find_20 : decode cX4_find 20 = .ok (.iload_n 2, 1) := by decide +kernel
theorem dX4_find_21 : decode cX4_find 21 = .ok (.iaload, 1) := by decide +kernel
theorem dX4_find_22 : decode cX4_find 22 = .ok (.i2l, 1) := by decide +kernel
theorem dX4_find_23 : decode cX4_find 23 = .ok (.lconst 1, 1) := by decide +kernel
theorem dX4_find_24 : decode cX4_find 24 = .ok (.aload_n 1, 1) := by decide +kernel
theorem dX4_find_25 : decode cX4_find 25 = .ok (.getfield 51, 3) := by decide +kernel
theorem dX4_find_28 : decode cX4_find 28 = .ok (.iload_n 2, 1) := by decide +kernel
theorem dX4_find_29 : decode cX4_find 29 = .ok (.iaload, 1) := by decide +kernel
theorem dX4_find_30 : decode cX4_find 30 = .ok (.i2l, 1) := by decide +kernel
theorem dX4_find_31 : decode cX4_find 31 = .ok (.lconst 1, 1) := by decide +kernel
theorem dX4_find_32 : decode cX4_find 32 = .ok (.invokevirtual 54, 3) := by decide +kernel
theorem dX4_find_35 : decode cX4_find 35 = .ok (.aload_n 0, 1) := by decide +kernel
theorem dX4_find_36 : decode cX4_find 36 = .ok (.aload_n 1, 1) := by decide +kernel
theorem dX4_find_37 : decode cX4_find 37 = .ok (.getfield 58, 3) := by decide +kernel
theorem dX4_find_40 : decode cX4_find 40 = .ok (.iload_n 2, 1) := by decide +kernel
theorem dX4_find_41 : decode cX4_find 41 = .ok (.iaload, 1) := by decide +kernel
theorem dX4_find_42 : decode cX4_find 42 = .ok (.i2l, 1) := by decide +kernel
theorem dX4_find_43 : decode cX4_find 43 = .ok (.lconst 1, 1) := by decide +kernel
theorem dX4_find_44 : decode cX4_find 44 = .ok (.aload_n 1, 1) := by decide +kernel
theorem dX4_find_45 : decode cX4_find 45 = .ok (.getfield 61, 3) := by decide +kernel
theorem dX4_find_48 : decode cX4_find 48 = .ok (.iload_n 2, 1) := by decide +kernel
theorem dX4_find_49 : decode cX4_find 49 = .ok (.iaload, 1) := by decide +kernel
theorem dX4_find_50 : decode cX4_find 50 = .ok (.i2l, 1) := by decide +kernel
theorem dX4_find_51 : decode cX4_find 51 = .ok (.lconst 1, 1) := by decide +kernel
theorem dX4_find_52 : decode cX4_find 52 = .ok (.invokevirtual 54, 3) := by decide +kernel
theorem dX4_find_55 : decode cX4_find 55 = .ok (.iinc 2 1, 3) := by decide +kernel
theorem dX4_find_58 : decode cX4_find 58 = .ok (.goto (-51), 3) := by decide +kernel
theorem dX4_find_61 : decode cX4_find 61 = .ok (.aload_n 0, 1) := by decide +kernel
theorem dX4_find_62 : decode cX4_find 62 = .ok (.aload_n 1, 1) := by decide +kernel
theorem dX4_find_63 : decode cX4_find 63 = .ok (.invokevirtual 64, 3) := by decide +kernel
theorem dX4_find_66 : decode cX4_find 66 = .ok (.iconst 0, 1) := by decide +kernel
theorem dX4_find_67 : decode cX4_find 67 = .ok (.istore_n 2, 1) := by decide +kernel
theorem dX4_find_68 : decode cX4_find 68 = .ok (.iload_n 2, 1) := by decide +kernel
theorem dX4_find_69 : decode cX4_find 69 = .ok (.aload_n 0, 1) := by decide +kernel
theorem dX4_find_70 : decode cX4_find 70 = .ok (.getfield 41, 3) := by decide +kernel
theorem dX4_find_73 : decode cX4_find 73 = .ok (.if_icmp .ge 28, 3) := by decide +kernel
theorem dX4_find_76 : decode cX4_find 76 = .ok (.aload_n 0, 1) := by decide +kernel
theorem dX4_find_77 : decode cX4_find 77 = .ok (.getfield 24, 3) := by decide +kernel
theorem dX4_find_80 : decode cX4_find 80 = .ok (.iload_n 2, 1) := by decide +kernel
theorem dX4_find_81 : decode cX4_find 81 = .ok (.aload_n 0, 1) := by decide +kernel
theorem dX4_find_82 : decode cX4_find 82 = .ok (.aload_n 1, 1) := by decide +kernel
theorem dX4_find_83 : decode cX4_find 83 = .ok (.iload_n 2, 1) := by decide +kernel
theorem dX4_find_84 : decode cX4_find 84 = .ok (.invokevirtual 68, 3) := by decide +kernel
theorem dX4_find_87 : decode cX4_find 87 = .ok (.iastore, 1) := by decide +kernel
theorem dX4_find_88 : decode cX4_find 88 = .ok (.aload_n 0, 1) := by decide +kernel
theorem dX4_find_89 : decode cX4_find 89 = .ok (.getfield 28, 3) := by decide +kernel
theorem dX4_find_92 : decode cX4_find 92 = .ok (.iload_n 2, 1) := by decide +kernel
theorem dX4_find_93 : decode cX4_find 93 = .ok (.iload_n 2, 1) := by decide +kernel
theorem dX4_find_94 : decode cX4_find 94 = .ok (.iastore, 1) := by decide +kernel
theorem dX4_find_95 : decode cX4_find 95 = .ok (.iinc 2 1, 3) := by decide +kernel
theorem dX4_find_98 : decode cX4_find 98 = .ok (.goto (-30), 3) := by decide +kernel
theorem dX4_find_101 : decode cX4_find 101 = .ok (.aload_n 0, 1) := by decide +kernel
theorem dX4_find_102 : decode cX4_find 102 = .ok (.iconst 0, 1) := by decide +kernel
theorem dX4_find_103 : decode cX4_find 103 = .ok (.putfield 72, 3) := by decide +kernel
theorem dX4_find_106 : decode cX4_find 106 = .ok (.iconst 0, 1) := by decide +kernel
theorem dX4_find_107 : decode cX4_find 107 = .ok (.istore_n 2, 1) := by decide +kernel
theorem dX4_find_108 : decode cX4_find 108 = .ok (.iload_n 2, 1) := by decide +kernel
theorem dX4_find_109 : decode cX4_find 109 = .ok (.aload_n 1, 1) := by decide +kernel
theorem dX4_find_110 : decode cX4_find 110 = .ok (.getfield 45, 3) := by decide +kernel
theorem dX4_find_113 : decode cX4_find 113 = .ok (.if_icmp .ge 14, 3) := by decide +kernel
theorem dX4_find_116 : decode cX4_find 116 = .ok (.aload_n 0, 1) := by decide +kernel
theorem dX4_find_117 : decode cX4_find 117 = .ok (.iload_n 2, 1) := by decide +kernel
theorem dX4_find_118 : decode cX4_find 118 = .ok (.invokevirtual 75, 3) := by decide +kernel
theorem dX4_find_121 : decode cX4_find 121 = .ok (.iinc 2 1, 3) := by decide +kernel
theorem dX4_find_124 : decode cX4_find 124 = .ok (.goto (-16), 3) := by decide +kernel
theorem dX4_find_127 : decode cX4_find 127 = .ok (.aload_n 0, 1) := by decide +kernel
theorem dX4_find_128 : decode cX4_find 128 = .ok (.invokevirtual 79, 3) := by decide +kernel
theorem dX4_find_131 : decode cX4_find 131 = .ok (.return_, 1) := by decide +kernel
theorem dX4_addMeetings_0 : decode cX4_addMeetings 0 = .ok (.iconst 0, 1) := by decide +kernel
theorem dX4_addMeetings_1 : decode cX4_addMeetings 1 = .ok (.istore_n 2, 1) := by decide +kernel
theorem dX4_addMeetings_2 : decode cX4_addMeetings 2 = .ok (.iload_n 2, 1) := by decide +kernel
theorem dX4_addMeetings_3 : decode cX4_addMeetings 3 = .ok (.iconst 3, 1) := by decide +kernel
theorem dX4_addMeetings_4 : decode cX4_addMeetings 4 = .ok (.if_icmp .gt 16, 3) := by decide +kernel
theorem dX4_addMeetings_7 : decode cX4_addMeetings 7 = .ok (.aload_n 0, 1) := by decide +kernel
theorem dX4_addMeetings_8 : decode cX4_addMeetings 8 = .ok (.getfield 31, 3) := by decide +kernel
theorem dX4_addMeetings_11 : decode cX4_addMeetings 11 = .ok (.iload_n 2, 1) := by decide +kernel
theorem dX4_addMeetings_12 : decode cX4_addMeetings 12 = .ok (.iconst 0, 1) := by decide +kernel
theorem dX4_addMeetings_13 : decode cX4_addMeetings 13 = .ok (.iastore, 1) := by decide +kernel
theorem dX4_addMeetings_14 : decode cX4_addMeetings 14 = .ok (.iinc 2 1, 3) := by decide +kernel
theorem dX4_addMeetings_17 : decode cX4_addMeetings 17 = .ok (.goto (-15), 3) := by decide +kernel
theorem dX4_addMeetings_20 : decode cX4_addMeetings 20 = .ok (.iconst 0, 1) := by decide +kernel
theorem dX4_addMeetings_21 : decode cX4_addMeetings 21 = .ok (.istore_n 2, 1) := by decide +kernel
theorem dX4_addMeetings_22 : decode cX4_addMeetings 22 = .ok (.iload_n 2, 1) := by decide +kernel
theorem dX4_addMeetings_23 : decode cX4_addMeetings 23 = .ok (.aload_n 1, 1) := by decide +kernel
theorem dX4_addMeetings_24 : decode cX4_addMeetings 24 = .ok (.getfield 45, 3) := by decide +kernel
theorem dX4_addMeetings_27 : decode cX4_addMeetings 27 = .ok (.if_icmp .ge 96, 3) := by decide +kernel
theorem dX4_addMeetings_30 : decode cX4_addMeetings 30 = .ok (.iload_n 2, 1) := by decide +kernel
theorem dX4_addMeetings_31 : decode cX4_addMeetings 31 = .ok (.iconst 1, 1) := by decide +kernel
theorem dX4_addMeetings_32 : decode cX4_addMeetings 32 = .ok (.iadd, 1) := by decide +kernel
theorem dX4_addMeetings_33 : decode cX4_addMeetings 33 = .ok (.istore_n 3, 1) := by decide +kernel
theorem dX4_addMeetings_34 : decode cX4_addMeetings 34 = .ok (.iload_n 3, 1) := by decide +kernel
theorem dX4_addMeetings_35 : decode cX4_addMeetings 35 = .ok (.aload_n 1, 1) := by decide +kernel
theorem dX4_addMeetings_36 : decode cX4_addMeetings 36 = .ok (.getfield 45, 3) := by decide +kernel
theorem dX4_addMeetings_39 : decode cX4_addMeetings 39 = .ok (.if_icmp .ge 78, 3) := by decide +kernel
theorem dX4_addMeetings_42 : decode cX4_addMeetings 42 = .ok (.aload_n 0, 1) := by decide +kernel
theorem dX4_addMeetings_43 : decode cX4_addMeetings 43 = .ok (.getfield 37, 3) := by decide +kernel
theorem dX4_addMeetings_46 : decode cX4_addMeetings 46 = .ok (.aload_n 1, 1) := by decide +kernel
theorem dX4_addMeetings_47 : decode cX4_addMeetings 47 = .ok (.iload_n 2, 1) := by decide +kernel
theorem dX4_addMeetings_48 : decode cX4_addMeetings 48 = .ok (.iload_n 3, 1) := by decide +kernel
theorem dX4_addMeetings_49 : decode cX4_addMeetings 49 = .ok (.invokevirtual 82, 3) := by decide +kernel
theorem dX4_addMeetings_52 : decode cX4_addMeetings 52 = .ok (.aload_n 0, 1) := by decide +kernel
theorem dX4_addMeetings_53 : decode cX4_addMeetings 53 = .ok (.getfield 31, 3) := by decide +kernel
theorem dX4_addMeetings_56 : decode cX4_addMeetings 56 = .ok (.aload_n 0, 1) := by decide +kernel
theorem dX4_addMeetings_57 : decode cX4_addMeetings 57 = .ok (.getfield 37, 3) := by decide +kernel
theorem dX4_addMeetings_60 : decode cX4_addMeetings 60 = .ok (.getfield 86, 3) := by decide +kernel
theorem dX4_addMeetings_63 : decode cX4_addMeetings 63 = .ok (.dup2, 1) := by decide +kernel
theorem dX4_addMeetings_64 : decode cX4_addMeetings 64 = .ok (.iaload, 1) := by decide +kernel
theorem dX4_addMeetings_65 : decode cX4_addMeetings 65 = .ok (.iconst 1, 1) := by decide +kernel
theorem dX4_addMeetings_66 : decode cX4_addMeetings 66 = .ok (.iadd, 1) := by decide +kernel
theorem dX4_addMeetings_67 : decode cX4_addMeetings 67 = .ok (.iastore, 1) := by decide +kernel
theorem dX4_addMeetings_68 : decode cX4_addMeetings 68 = .ok (.aload_n 0, 1) := by decide +kernel
theorem dX4_addMeetings_69 : decode cX4_addMeetings 69 = .ok (.getfield 37, 3) := by decide +kernel
theorem dX4_addMeetings_72 : decode cX4_addMeetings 72 = .ok (.getfield 86, 3) := by decide +kernel
theorem dX4_addMeetings_75 : decode cX4_addMeetings 75 = .ok (.iconst 1, 1) := by decide +kernel
theorem dX4_addMeetings_76 : decode cX4_addMeetings 76 = .ok (.if_icmp .ne 35, 3) := by decide +kernel
theorem dX4_addMeetings_79 : decode cX4_addMeetings 79 = .ok (.aload_n 0, 1) := by decide +kernel
theorem dX4_addMeetings_80 : decode cX4_addMeetings 80 = .ok (.aload_n 0, 1) := by decide +kernel
theorem dX4_addMeetings_81 : decode cX4_addMeetings 81 = .ok (.getfield 37, 3) := by decide +kernel
theorem dX4_addMeetings_84 : decode cX4_addMeetings 84 = .ok (.getfield 89, 3) := by decide +kernel
theorem dX4_addMeetings_87 : decode cX4_addMeetings 87 = .ok (.aload_n 0, 1) := by decide +kernel
theorem dX4_addMeetings_88 : decode cX4_addMeetings 88 = .ok (.getfield 37, 3) := by decide +kernel
theorem dX4_addMeetings_91 : decode cX4_addMeetings 91 = .ok (.getfield 92, 3) := by decide +kernel
theorem dX4_addMeetings_94 : decode cX4_addMeetings 94 = .ok (.aload_n 0, 1) := by decide +kernel
theorem dX4_addMeetings_95 : decode cX4_addMeetings 95 = .ok (.getfield 37, 3) := by decide +kernel
theorem dX4_addMeetings_98 : decode cX4_addMeetings 98 = .ok (.getfield 94, 3) := by decide +kernel
theorem dX4_addMeetings_101 : decode cX4_addMeetings 101 = .ok (.aload_n 0, 1) := by decide +kernel
theorem dX4_addMeetings_102 : decode cX4_addMeetings 102 = .ok (.getfield 37, 3) := by decide +kernel
theorem dX4_addMeetings_105 : decode cX4_addMeetings 105 = .ok (.getfield 96, 3) := by decide +kernel
theorem dX4_addMeetings_108 : decode cX4_addMeetings 108 = .ok (.invokevirtual 54, 3) := by decide +kernel
theorem dX4_addMeetings_111 : decode cX4_addMeetings 111 = .ok (.iinc 3 1, 3) := by decide +kernel
theorem dX4_addMeetings_114 : decode cX4_addMeetings 114 = .ok (.goto (-80), 3) := by decide +kernel
theorem dX4_addMeetings_117 : decode cX4_addMeetings 117 = .ok (.iinc 2 1, 3) := by decide +kernel
theorem dX4_addMeetings_120 : decode cX4_addMeetings 120 = .ok (.goto (-98), 3) := by decide +kernel
theorem dX4_addMeetings_123 : decode cX4_addMeetings 123 = .ok (.return_, 1) := by decide +kernel
theorem dX4_add_0 : decode cX4_add 0 = .ok (.aload_n 0, 1) := by decide +kernel
theorem dX4_add_1 : decode cX4_add 1 = .ok (.getfield 41, 3) := by decide +kernel
theorem dX4_add_4 : decode cX4_add 4 = .ok (.istore 9, 2) := by decide +kernel
theorem dX4_add_6 : decode cX4_add 6 = .ok (.aload_n 0, 1) := by decide +kernel
theorem dX4_add_7 : decode cX4_add 7 = .ok (.getfield 41, 3) := by decide +kernel
theorem dX4_add_10 : decode cX4_add 10 = .ok (.iconst 1, 1) := by decide +kernel
theorem dX4_add_11 : decode cX4_add 11 = .ok (.isub, 1) := by decide +kernel
theorem dX4_add_12 : decode cX4_add 12 = .ok (.istore 10, 2) := by decide +kernel
theorem dX4_add_14 : decode cX4_add 14 = .ok (.iload 10, 2) := by decide +kernel
theorem dX4_add_16 : decode cX4_add 16 = .ok (.ifCond .lt 41, 3) := by decide +kernel
theorem dX4_add_19 : decode cX4_add 19 = .ok (.aload_n 0, 1) := by decide +kernel
theorem dX4_add_20 : decode cX4_add 20 = .ok (.iload 10, 2) := by decide +kernel
theorem dX4_add_22 : decode cX4_add 22 = .ok (.lload_n 1, 1) := by decide +kernel
theorem dX4_add_23 : decode cX4_add 23 = .ok (.lload_n 3, 1) := by decide +kernel
theorem dX4_add_24 : decode cX4_add 24 = .ok (.lload 5, 2) := by decide +kernel
theorem dX4_add_26 : decode cX4_add 26 = .ok (.lload 7, 2) := by decide +kernel
theorem dX4_add_28 : decode cX4_add 28 = .ok (.invokevirtual 98, 3) := by decide +kernel
theorem dX4_add_31 : decode cX4_add 31 = .ok (.istore 11, 2) := by decide +kernel
theorem dX4_add_33 : decode cX4_add 33 = .ok (.iload 11, 2) := by decide +kernel
theorem dX4_add_35 : decode cX4_add 35 = .ok (.ifCond .ne 4, 3) := by decide +kernel
theorem dX4_add_38 : decode cX4_add 38 = .ok (.return_, 1) := by decide +kernel
theorem dX4_add_39 : decode cX4_add 39 = .ok (.iload 11, 2) := by decide +kernel
theorem dX4_add_41 : decode cX4_add 41 = .ok (.ifCond .ge 6, 3) := by decide +kernel
theorem dX4_add_44 : decode cX4_add 44 = .ok (.goto 13, 3) := by decide +kernel
theorem dX4_add_47 : decode cX4_add 47 = .ok (.iload 10, 2) := by decide +kernel
theorem dX4_add_49 : decode cX4_add 49 = .ok (.istore 9, 2) := by decide +kernel
theorem dX4_add_51 : decode cX4_add 51 = .ok (.iinc 10 (-1), 3) := by decide +kernel
theorem dX4_add_54 : decode cX4_add 54 = .ok (.goto (-40), 3) := by decide +kernel
theorem dX4_add_57 : decode cX4_add 57 = .ok (.aload_n 0, 1) := by decide +kernel
theorem dX4_add_58 : decode cX4_add 58 = .ok (.getfield 41, 3) := by decide +kernel
theorem dX4_add_61 : decode cX4_add 61 = .ok (.bipush 65, 2) := by decide +kernel
theorem dX4_add_63 : decode cX4_add 63 = .ok (.if_icmp .lt 4, 3) := by decide +kernel
theorem dX4_add_66 : decode cX4_add 66 = .ok (.return_, 1) := by decide +kernel
theorem dX4_add_67 : decode cX4_add 67 = .ok (.aload_n 0, 1) := by decide +kernel
theorem dX4_add_68 : decode cX4_add 68 = .ok (.getfield 41, 3) := by decide +kernel
theorem dX4_add_71 : decode cX4_add 71 = .ok (.istore 10, 2) := by decide +kernel
theorem dX4_add_73 : decode cX4_add 73 = .ok (.iload 10, 2) := by decide +kernel
theorem dX4_add_75 : decode cX4_add 75 = .ok (.iload 9, 2) := by decide +kernel
theorem dX4_add_77 : decode cX4_add 77 = .ok (.if_icmp .le 73, 3) := by decide +kernel
theorem dX4_add_80 : decode cX4_add 80 = .ok (.aload_n 0, 1) := by decide +kernel
theorem dX4_add_81 : decode cX4_add 81 = .ok (.getfield 9, 3) := by decide +kernel
theorem dX4_add_84 : decode cX4_add 84 = .ok (.iload 10, 2) := by decide +kernel
theorem dX4_add_86 : decode cX4_add 86 = .ok (.aload_n 0, 1) := by decide +kernel
theorem dX4_add_87 : decode cX4_add 87 = .ok (.getfield 9, 3) := by decide +kernel
theorem dX4_add_90 : decode cX4_add 90 = .ok (.iload 10, 2) := by decide +kernel
theorem dX4_add_92 : decode cX4_add 92 = .ok (.iconst 1, 1) := by decide +kernel
theorem dX4_add_93 : decode cX4_add 93 = .ok (.isub, 1) := by decide +kernel
theorem dX4_add_94 : decode cX4_add 94 = .ok (.laload, 1) := by decide +kernel
theorem dX4_add_95 : decode cX4_add 95 = .ok (.lastore, 1) := by decide +kernel
theorem dX4_add_96 : decode cX4_add 96 = .ok (.aload_n 0, 1) := by decide +kernel
theorem dX4_add_97 : decode cX4_add 97 = .ok (.getfield 15, 3) := by decide +kernel
theorem dX4_add_100 : decode cX4_add 100 = .ok (.iload 10, 2) := by decide +kernel
theorem dX4_add_102 : decode cX4_add 102 = .ok (.aload_n 0, 1) := by decide +kernel
theorem dX4_add_103 : decode cX4_add 103 = .ok (.getfield 15, 3) := by decide +kernel
theorem dX4_add_106 : decode cX4_add 106 = .ok (.iload 10, 2) := by decide +kernel
theorem dX4_add_108 : decode cX4_add 108 = .ok (.iconst 1, 1) := by decide +kernel
theorem dX4_add_109 : decode cX4_add 109 = .ok (.isub, 1) := by decide +kernel
theorem dX4_add_110 : decode cX4_add 110 = .ok (.laload, 1) := by decide +kernel
theorem dX4_add_111 : decode cX4_add 111 = .ok (.lastore, 1) := by decide +kernel
theorem dX4_add_112 : decode cX4_add 112 = .ok (.aload_n 0, 1) := by decide +kernel
theorem dX4_add_113 : decode cX4_add 113 = .ok (.getfield 18, 3) := by decide +kernel
theorem dX4_add_116 : decode cX4_add 116 = .ok (.iload 10, 2) := by decide +kernel
theorem dX4_add_118 : decode cX4_add 118 = .ok (.aload_n 0, 1) := by decide +kernel
theorem dX4_add_119 : decode cX4_add 119 = .ok (.getfield 18, 3) := by decide +kernel
theorem dX4_add_122 : decode cX4_add 122 = .ok (.iload 10, 2) := by decide +kernel
theorem dX4_add_124 : decode cX4_add 124 = .ok (.iconst 1, 1) := by decide +kernel
theorem dX4_add_125 : decode cX4_add 125 = .ok (.isub, 1) := by decide +kernel
theorem dX4_add_126 : decode cX4_add 126 = .ok (.laload, 1) := by decide +kernel
theorem dX4_add_127 : decode cX4_add 127 = .ok (.lastore, 1) := by decide +kernel
theorem dX4_add_128 : decode cX4_add 128 = .ok (.aload_n 0, 1) := by decide +kernel
theorem dX4_add_129 : decode cX4_add 129 = .ok (.getfield 21, 3) := by decide +kernel
theorem dX4_add_132 : decode cX4_add 132 = .ok (.iload 10, 2) := by decide +kernel
theorem dX4_add_134 : decode cX4_add 134 = .ok (.aload_n 0, 1) := by decide +kernel
theorem dX4_add_135 : decode cX4_add 135 = .ok (.getfield 21, 3) := by decide +kernel
theorem dX4_add_138 : decode cX4_add 138 = .ok (.iload 10, 2) := by decide +kernel
theorem dX4_add_140 : decode cX4_add 140 = .ok (.iconst 1, 1) := by decide +kernel
theorem dX4_add_141 : decode cX4_add 141 = .ok (.isub, 1) := by decide +kernel
theorem dX4_add_142 : decode cX4_add 142 = .ok (.laload, 1) := by decide +kernel
theorem dX4_add_143 : decode cX4_add 143 = .ok (.lastore, 1) := by decide +kernel
theorem dX4_add_144 : decode cX4_add 144 = .ok (.iinc 10 (-1), 3) := by decide +kernel
theorem dX4_add_147 : decode cX4_add 147 = .ok (.goto (-74), 3) := by decide +kernel
theorem dX4_add_150 : decode cX4_add 150 = .ok (.aload_n 0, 1) := by decide +kernel
theorem dX4_add_151 : decode cX4_add 151 = .ok (.getfield 9, 3) := by decide +kernel
theorem dX4_add_154 : decode cX4_add 154 = .ok (.iload 9, 2) := by decide +kernel
theorem dX4_add_156 : decode cX4_add 156 = .ok (.lload_n 1, 1) := by decide +kernel
theorem dX4_add_157 : decode cX4_add 157 = .ok (.lastore, 1) := by decide +kernel
theorem dX4_add_158 : decode cX4_add 158 = .ok (.aload_n 0, 1) := by decide +kernel
theorem dX4_add_159 : decode cX4_add 159 = .ok (.getfield 15, 3) := by decide +kernel
theorem dX4_add_162 : decode cX4_add 162 = .ok (.iload 9, 2) := by decide +kernel
theorem dX4_add_164 : decode cX4_add 164 = .ok (.lload_n 3, 1) := by decide +kernel
theorem dX4_add_165 : decode cX4_add 165 = .ok (.lastore, 1) := by decide +kernel
theorem dX4_add_166 : decode cX4_add 166 = .ok (.aload_n 0, 1) := by decide +kernel
theorem dX4_add_167 : decode cX4_add 167 = .ok (.getfield 18, 3) := by decide +kernel
theorem dX4_add_170 : decode cX4_add 170 = .ok (.iload 9, 2) := by decide +kernel
theorem dX4_add_172 : decode cX4_add 172 = .ok (.lload 5, 2) := by decide +kernel
theorem dX4_add_174 : decode cX4_add 174 = .ok (.lastore, 1) := by decide +kernel
theorem dX4_add_175 : decode cX4_add 175 = .ok (.aload_n 0, 1) := by decide +kernel
theorem dX4_add_176 : decode cX4_add 176 = .ok (.getfield 21, 3) := by decide +kernel
theorem dX4_add_179 : decode cX4_add 179 = .ok (.iload 9, 2) := by decide +kernel
theorem dX4_add_181 : decode cX4_add 181 = .ok (.lload 7, 2) := by decide +kernel
theorem dX4_add_183 : decode cX4_add 183 = .ok (.lastore, 1) := by decide +kernel
theorem dX4_add_184 : decode cX4_add 184 = .ok (.aload_n 0, 1) := by decide +kernel
theorem dX4_add_185 : decode cX4_add 185 = .ok (.dup, 1) := by decide +kernel
theorem dX4_add_186 : decode cX4_add 186 = .ok (.getfield 41, 3) := by decide +kernel
theorem dX4_add_189 : decode cX4_add 189 = .ok (.iconst 1, 1) := by decide +kernel
theorem dX4_add_190 : decode cX4_add 190 = .ok (.iadd, 1) := by decide +kernel
theorem dX4_add_191 : decode cX4_add 191 = .ok (.putfield 41, 3) := by decide +kernel
theorem dX4_add_194 : decode cX4_add 194 = .ok (.return_, 1) := by decide +kernel
theorem dX4_compareTo_0 : decode cX4_compareTo 0 = .ok (.aload_n 0, 1) := by decide +kernel
theorem dX4_compareTo_1 : decode cX4_compareTo 1 = .ok (.getfield 9, 3) := by decide +kernel
theorem dX4_compareTo_4 : decode cX4_compareTo 4 = .ok (.iload_n 1, 1) := by decide +kernel
theorem dX4_compareTo_5 : decode cX4_compareTo 5 = .ok (.laload, 1) := by decide +kernel
theorem dX4_compareTo_6 : decode cX4_compareTo 6 = .ok (.aload_n 0, 1) := by decide +kernel
theorem dX4_compareTo_7 : decode cX4_compareTo 7 = .ok (.getfield 15, 3) := by decide +kernel
theorem dX4_compareTo_10 : decode cX4_compareTo 10 = .ok (.iload_n 1, 1) := by decide +kernel
theorem dX4_compareTo_11 : decode cX4_compareTo 11 = .ok (.laload, 1) := by decide +kernel
theorem dX4_compareTo_12 : decode cX4_compareTo 12 = .ok (.lload_n 2, 1) := by decide +kernel
theorem dX4_compareTo_13 : decode cX4_compareTo 13 = .ok (.lload 4, 2) := by decide +kernel
theorem dX4_compareTo_15 : decode cX4_compareTo 15 = .ok (.invokestatic 102, 3) := by decide +kernel
theorem dX4_compareTo_18 : decode cX4_compareTo 18 = .ok (.istore 10, 2) := by decide +kernel
theorem dX4_compareTo_20 : decode cX4_compareTo 20 = .ok (.iload 10, 2) := by decide +kernel
theorem dX4_compareTo_22 : decode cX4_compareTo 22 = .ok (.ifCond .eq 8, 3) := by decide +kernel
theorem dX4_compareTo_25 : decode cX4_compareTo 25 = .ok (.iload 10, 2) := by decide +kernel
theorem dX4_compareTo_27 : decode cX4_compareTo 27 = .ok (.goto 22, 3) := by decide +kernel
theorem dX4_compareTo_30 : decode cX4_compareTo 30 = .ok (.aload_n 0, 1) := by decide +kernel
theorem dX4_compareTo_31 : decode cX4_compareTo 31 = .ok (.getfield 18, 3) := by decide +kernel
theorem dX4_compareTo_34 : decode cX4_compareTo 34 = .ok (.iload_n 1, 1) := by decide +kernel
theorem dX4_compareTo_35 : decode cX4_compareTo 35 = .ok (.laload, 1) := by decide +kernel
theorem dX4_compareTo_36 : decode cX4_compareTo 36 = .ok (.aload_n 0, 1) := by decide +kernel
theorem dX4_compareTo_37 : decode cX4_compareTo 37 = .ok (.getfield 21, 3) := by decide +kernel
theorem dX4_compareTo_40 : decode cX4_compareTo 40 = .ok (.iload_n 1, 1) := by decide +kernel
theorem dX4_compareTo_41 : decode cX4_compareTo 41 = .ok (.laload, 1) := by decide +kernel
theorem dX4_compareTo_42 : decode cX4_compareTo 42 = .ok (.lload 6, 2) := by decide +kernel
theorem dX4_compareTo_44 : decode cX4_compareTo 44 = .ok (.lload 8, 2) := by decide +kernel
theorem dX4_compareTo_46 : decode cX4_compareTo 46 = .ok (.invokestatic 102, 3) := by decide +kernel
theorem dX4_compareTo_49 : decode cX4_compareTo 49 = .ok (.ireturn, 1) := by decide +kernel
theorem dX4_linesThrough_0 : decode cX4_linesThrough 0 = .ok (.iconst 0, 1) := by decide +kernel
theorem dX4_linesThrough_1 : decode cX4_linesThrough 1 = .ok (.istore_n 3, 1) := by decide +kernel
theorem dX4_linesThrough_2 : decode cX4_linesThrough 2 = .ok (.iconst 0, 1) := by decide +kernel
theorem dX4_linesThrough_3 : decode cX4_linesThrough 3 = .ok (.istore 4, 2) := by decide +kernel
theorem dX4_linesThrough_5 : decode cX4_linesThrough 5 = .ok (.iload 4, 2) := by decide +kernel
theorem dX4_linesThrough_7 : decode cX4_linesThrough 7 = .ok (.aload_n 1, 1) := by decide +kernel
theorem dX4_linesThrough_8 : decode cX4_linesThrough 8 = .ok (.getfield 45, 3) := by decide +kernel
theorem dX4_linesThrough_11 : decode cX4_linesThrough 11 = .ok (.if_icmp .ge 49, 3) := by decide +kernel
theorem dX4_linesThrough_14 : decode cX4_linesThrough 14 = .ok (.aload_n 1, 1) := by decide +kernel
theorem dX4_linesThrough_15 : decode cX4_linesThrough 15 = .ok (.iload 4, 2) := by decide +kernel
theorem dX4_linesThrough_17 : decode cX4_linesThrough 17 = .ok (.aload_n 0, 1) := by decide +kernel
theorem dX4_linesThrough_18 : decode cX4_linesThrough 18 = .ok (.getfield 9, 3) := by decide +kernel
theorem dX4_linesThrough_21 : decode cX4_linesThrough 21 = .ok (.iload_n 2, 1) := by decide +kernel
theorem dX4_linesThrough_22 : decode cX4_linesThrough 22 = .ok (.laload, 1) := by decide +kernel
theorem dX4_linesThrough_23 : decode cX4_linesThrough 23 = .ok (.aload_n 0, 1) := by decide +kernel
theorem dX4_linesThrough_24 : decode cX4_linesThrough 24 = .ok (.getfield 15, 3) := by decide +kernel
theorem dX4_linesThrough_27 : decode cX4_linesThrough 27 = .ok (.iload_n 2, 1) := by decide +kernel
theorem dX4_linesThrough_28 : decode cX4_linesThrough 28 = .ok (.laload, 1) := by decide +kernel
theorem dX4_linesThrough_29 : decode cX4_linesThrough 29 = .ok (.aload_n 0, 1) := by decide +kernel
theorem dX4_linesThrough_30 : decode cX4_linesThrough 30 = .ok (.getfield 18, 3) := by decide +kernel
theorem dX4_linesThrough_33 : decode cX4_linesThrough 33 = .ok (.iload_n 2, 1) := by decide +kernel
theorem dX4_linesThrough_34 : decode cX4_linesThrough 34 = .ok (.laload, 1) := by decide +kernel
theorem dX4_linesThrough_35 : decode cX4_linesThrough 35 = .ok (.aload_n 0, 1) := by decide +kernel
theorem dX4_linesThrough_36 : decode cX4_linesThrough 36 = .ok (.getfield 21, 3) := by decide +kernel
theorem dX4_linesThrough_39 : decode cX4_linesThrough 39 = .ok (.iload_n 2, 1) := by decide +kernel
theorem dX4_linesThrough_40 : decode cX4_linesThrough 40 = .ok (.laload, 1) := by decide +kernel
theorem dX4_linesThrough_41 : decode cX4_linesThrough 41 = .ok (.invokevirtual 106, 3) := by decide +kernel
theorem dX4_linesThrough_44 : decode cX4_linesThrough 44 = .ok (.ifCond .eq 10, 3) := by decide +kernel
theorem dX4_linesThrough_47 : decode cX4_linesThrough 47 = .ok (.iload_n 3, 1) := by decide +kernel
theorem dX4_linesThrough_48 : decode cX4_linesThrough 48 = .ok (.iconst 1, 1) := by decide +kernel
theorem dX4_linesThrough_49 : decode cX4_linesThrough 49 = .ok (.iload 4, 2) := by decide +kernel
theorem dX4_linesThrough_51 : decode cX4_linesThrough 51 = .ok (.ishl, 1) := by decide +kernel
theorem dX4_linesThrough_52 : decode cX4_linesThrough 52 = .ok (.ior, 1) := by decide +kernel
theorem dX4_linesThrough_53 : decode cX4_linesThrough 53 = .ok (.istore_n 3, 1) := by decide +kernel
theorem dX4_linesThrough_54 : decode cX4_linesThrough 54 = .ok (.iinc 4 1, 3) := by decide +kernel
theorem dX4_linesThrough_57 : decode cX4_linesThrough 57 = .ok (.goto (-52), 3) := by decide +kernel
theorem dX4_linesThrough_60 : decode cX4_linesThrough 60 = .ok (.iload_n 3, 1) := by decide +kernel
theorem dX4_linesThrough_61 : decode cX4_linesThrough 61 = .ok (.ireturn, 1) := by decide +kernel
theorem dX4_walkAlong_0 : decode cX4_walkAlong 0 = .ok (.iconst (-1), 1) := by decide +kernel
theorem dX4_walkAlong_1 : decode cX4_walkAlong 1 = .ok (.istore_n 2, 1) := by decide +kernel
theorem dX4_walkAlong_2 : decode cX4_walkAlong 2 = .ok (.iconst 0, 1) := by decide +kernel
theorem dX4_walkAlong_3 : decode cX4_walkAlong 3 = .ok (.istore_n 3, 1) := by decide +kernel
theorem dX4_walkAlong_4 : decode cX4_walkAlong 4 = .ok (.iload_n 3, 1) := by decide +kernel
theorem dX4_walkAlong_5 : decode cX4_walkAlong 5 = .ok (.aload_n 0, 1) := by decide +kernel
theorem dX4_walkAlong_6 : decode cX4_walkAlong 6 = .ok (.getfield 41, 3) := by decide +kernel
theorem dX4_walkAlong_9 : decode cX4_walkAlong 9 = .ok (.if_icmp .ge 68, 3) := by decide +kernel
theorem dX4_walkAlong_12 : decode cX4_walkAlong 12 = .ok (.aload_n 0, 1) := by decide +kernel
theorem dX4_walkAlong_13 : decode cX4_walkAlong 13 = .ok (.getfield 24, 3) := by decide +kernel
theorem dX4_walkAlong_16 : decode cX4_walkAlong 16 = .ok (.iload_n 3, 1) := by decide +kernel
theorem dX4_walkAlong_17 : decode cX4_walkAlong 17 = .ok (.iaload, 1) := by decide +kernel
theorem dX4_walkAlong_18 : decode cX4_walkAlong 18 = .ok (.iload_n 1, 1) := by decide +kernel
theorem dX4_walkAlong_19 : decode cX4_walkAlong 19 = .ok (.ishr, 1) := by decide +kernel
theorem dX4_walkAlong_20 : decode cX4_walkAlong 20 = .ok (.iconst 1, 1) := by decide +kernel
theorem dX4_walkAlong_21 : decode cX4_walkAlong 21 = .ok (.iand, 1) := by decide +kernel
theorem dX4_walkAlong_22 : decode cX4_walkAlong 22 = .ok (.ifCond .ne 6, 3) := by decide +kernel
theorem dX4_walkAlong_25 : decode cX4_walkAlong 25 = .ok (.goto 46, 3) := by decide +kernel
theorem dX4_walkAlong_28 : decode cX4_walkAlong 28 = .ok (.iload_n 2, 1) := by decide +kernel
theorem dX4_walkAlong_29 : decode cX4_walkAlong 29 = .ok (.iconst (-1), 1) := by decide +kernel
theorem dX4_walkAlong_30 : decode cX4_walkAlong 30 = .ok (.if_icmp .eq 39, 3) := by decide +kernel
theorem dX4_walkAlong_33 : decode cX4_walkAlong 33 = .ok (.aload_n 0, 1) := by decide +kernel
theorem dX4_walkAlong_34 : decode cX4_walkAlong 34 = .ok (.getfield 24, 3) := by decide +kernel
theorem dX4_walkAlong_37 : decode cX4_walkAlong 37 = .ok (.iload_n 2, 1) := by decide +kernel
theorem dX4_walkAlong_38 : decode cX4_walkAlong 38 = .ok (.iaload, 1) := by decide +kernel
theorem dX4_walkAlong_39 : decode cX4_walkAlong 39 = .ok (.aload_n 0, 1) := by decide +kernel
theorem dX4_walkAlong_40 : decode cX4_walkAlong 40 = .ok (.getfield 24, 3) := by decide +kernel
theorem dX4_walkAlong_43 : decode cX4_walkAlong 43 = .ok (.iload_n 3, 1) := by decide +kernel
theorem dX4_walkAlong_44 : decode cX4_walkAlong 44 = .ok (.iaload, 1) := by decide +kernel
theorem dX4_walkAlong_45 : decode cX4_walkAlong 45 = .ok (.iand, 1) := by decide +kernel
theorem dX4_walkAlong_46 : decode cX4_walkAlong 46 = .ok (.invokestatic 110, 3) := by decide +kernel
theorem dX4_walkAlong_49 : decode cX4_walkAlong 49 = .ok (.iload_n 1, 1) := by decide +kernel
theorem dX4_walkAlong_50 : decode cX4_walkAlong 50 = .ok (.if_icmp .ne 13, 3) := by decide +kernel
theorem dX4_walkAlong_53 : decode cX4_walkAlong 53 = .ok (.aload_n 0, 1) := by decide +kernel
theorem dX4_walkAlong_54 : decode cX4_walkAlong 54 = .ok (.dup, 1) := by decide +kernel
theorem dX4_walkAlong_55 : decode cX4_walkAlong 55 = .ok (.getfield 72, 3) := by decide +kernel
theorem dX4_walkAlong_58 : decode cX4_walkAlong 58 = .ok (.iconst 1, 1) := by decide +kernel
theorem dX4_walkAlong_59 : decode cX4_walkAlong 59 = .ok (.iadd, 1) := by decide +kernel
theorem dX4_walkAlong_60 : decode cX4_walkAlong 60 = .ok (.putfield 72, 3) := by decide +kernel
theorem dX4_walkAlong_63 : decode cX4_walkAlong 63 = .ok (.aload_n 0, 1) := by decide +kernel
theorem dX4_walkAlong_64 : decode cX4_walkAlong 64 = .ok (.iload_n 2, 1) := by decide +kernel
theorem dX4_walkAlong_65 : decode cX4_walkAlong 65 = .ok (.iload_n 3, 1) := by decide +kernel
theorem dX4_walkAlong_66 : decode cX4_walkAlong 66 = .ok (.invokevirtual 114, 3) := by decide +kernel
theorem dX4_walkAlong_69 : decode cX4_walkAlong 69 = .ok (.iload_n 3, 1) := by decide +kernel
theorem dX4_walkAlong_70 : decode cX4_walkAlong 70 = .ok (.istore_n 2, 1) := by decide +kernel
theorem dX4_walkAlong_71 : decode cX4_walkAlong 71 = .ok (.iinc 3 1, 3) := by decide +kernel
theorem dX4_walkAlong_74 : decode cX4_walkAlong 74 = .ok (.goto (-70), 3) := by decide +kernel
theorem dX4_walkAlong_77 : decode cX4_walkAlong 77 = .ok (.return_, 1) := by decide +kernel
theorem dX4_unite_0 : decode cX4_unite 0 = .ok (.aload_n 0, 1) := by decide +kernel
theorem dX4_unite_1 : decode cX4_unite 1 = .ok (.iload_n 1, 1) := by decide +kernel
theorem dX4_unite_2 : decode cX4_unite 2 = .ok (.invokevirtual 118, 3) := by decide +kernel
theorem dX4_unite_5 : decode cX4_unite 5 = .ok (.istore_n 3, 1) := by decide +kernel
theorem dX4_unite_6 : decode cX4_unite 6 = .ok (.aload_n 0, 1) := by decide +kernel
theorem dX4_unite_7 : decode cX4_unite 7 = .ok (.iload_n 2, 1) := by decide +kernel
theorem dX4_unite_8 : decode cX4_unite 8 = .ok (.invokevirtual 118, 3) := by decide +kernel
theorem dX4_unite_11 : decode cX4_unite 11 = .ok (.istore 4, 2) := by decide +kernel
theorem dX4_unite_13 : decode cX4_unite 13 = .ok (.aload_n 0, 1) := by decide +kernel
theorem dX4_unite_14 : decode cX4_unite 14 = .ok (.getfield 28, 3) := by decide +kernel
theorem dX4_unite_17 : decode cX4_unite 17 = .ok (.iload_n 3, 1) := by decide +kernel
theorem dX4_unite_18 : decode cX4_unite 18 = .ok (.iload 4, 2) := by decide +kernel
theorem dX4_unite_20 : decode cX4_unite 20 = .ok (.invokestatic 121, 3) := by decide +kernel
theorem dX4_unite_23 : decode cX4_unite 23 = .ok (.iload_n 3, 1) := by decide +kernel
theorem dX4_unite_24 : decode cX4_unite 24 = .ok (.iload 4, 2) := by decide +kernel
theorem dX4_unite_26 : decode cX4_unite 26 = .ok (.invokestatic 127, 3) := by decide +kernel
theorem dX4_unite_29 : decode cX4_unite 29 = .ok (.iastore, 1) := by decide +kernel
theorem dX4_unite_30 : decode cX4_unite 30 = .ok (.return_, 1) := by decide +kernel
theorem dX4_rootOf_0 : decode cX4_rootOf 0 = .ok (.iload_n 1, 1) := by decide +kernel
theorem dX4_rootOf_1 : decode cX4_rootOf 1 = .ok (.istore_n 2, 1) := by decide +kernel
theorem dX4_rootOf_2 : decode cX4_rootOf 2 = .ok (.iconst 0, 1) := by decide +kernel
theorem dX4_rootOf_3 : decode cX4_rootOf 3 = .ok (.istore_n 3, 1) := by decide +kernel
theorem dX4_rootOf_4 : decode cX4_rootOf 4 = .ok (.iload_n 3, 1) := by decide +kernel
theorem dX4_rootOf_5 : decode cX4_rootOf 5 = .ok (.aload_n 0, 1) := by decide +kernel
theorem dX4_rootOf_6 : decode cX4_rootOf 6 = .ok (.getfield 41, 3) := by decide +kernel
theorem dX4_rootOf_9 : decode cX4_rootOf 9 = .ok (.if_icmp .ge 26, 3) := by decide +kernel
theorem dX4_rootOf_12 : decode cX4_rootOf 12 = .ok (.aload_n 0, 1) := by decide +kernel
theorem dX4_rootOf_13 : decode cX4_rootOf 13 = .ok (.getfield 28, 3) := by decide +kernel
theorem dX4_rootOf_16 : decode cX4_rootOf 16 = .ok (.iload_n 2, 1) := by decide +kernel
theorem dX4_rootOf_17 : decode cX4_rootOf 17 = .ok (.iaload, 1) := by decide +kernel
theorem dX4_rootOf_18 : decode cX4_rootOf 18 = .ok (.iload_n 2, 1) := by decide +kernel
theorem dX4_rootOf_19 : decode cX4_rootOf 19 = .ok (.if_icmp .eq 16, 3) := by decide +kernel
theorem dX4_rootOf_22 : decode cX4_rootOf 22 = .ok (.aload_n 0, 1) := by decide +kernel
theorem dX4_rootOf_23 : decode cX4_rootOf 23 = .ok (.getfield 28, 3) := by decide +kernel
theorem dX4_rootOf_26 : decode cX4_rootOf 26 = .ok (.iload_n 2, 1) := by decide +kernel
theorem dX4_rootOf_27 : decode cX4_rootOf 27 = .ok (.iaload, 1) := by decide +kernel
theorem dX4_rootOf_28 : decode cX4_rootOf 28 = .ok (.istore_n 2, 1) := by decide +kernel
theorem dX4_rootOf_29 : decode cX4_rootOf 29 = .ok (.iinc 3 1, 3) := by decide +kernel
theorem dX4_rootOf_32 : decode cX4_rootOf 32 = .ok (.goto (-28), 3) := by decide +kernel
theorem dX4_rootOf_35 : decode cX4_rootOf 35 = .ok (.iload_n 2, 1) := by decide +kernel
theorem dX4_rootOf_36 : decode cX4_rootOf 36 = .ok (.ireturn, 1) := by decide +kernel
theorem dX4_countParts_0 : decode cX4_countParts 0 = .ok (.aload_n 0, 1) := by decide +kernel
theorem dX4_countParts_1 : decode cX4_countParts 1 = .ok (.iconst 0, 1) := by decide +kernel
theorem dX4_countParts_2 : decode cX4_countParts 2 = .ok (.putfield 130, 3) := by decide +kernel
theorem dX4_countParts_5 : decode cX4_countParts 5 = .ok (.iconst 0, 1) := by decide +kernel
theorem dX4_countParts_6 : decode cX4_countParts 6 = .ok (.istore_n 1, 1) := by decide +kernel
theorem dX4_countParts_7 : decode cX4_countParts 7 = .ok (.iload_n 1, 1) := by decide +kernel
theorem dX4_countParts_8 : decode cX4_countParts 8 = .ok (.aload_n 0, 1) := by decide +kernel
theorem dX4_countParts_9 : decode cX4_countParts 9 = .ok (.getfield 41, 3) := by decide +kernel
theorem dX4_countParts_12 : decode cX4_countParts 12 = .ok (.if_icmp .ge 40, 3) := by decide +kernel
theorem dX4_countParts_15 : decode cX4_countParts 15 = .ok (.aload_n 0, 1) := by decide +kernel
theorem dX4_countParts_16 : decode cX4_countParts 16 = .ok (.getfield 28, 3) := by decide +kernel
theorem dX4_countParts_19 : decode cX4_countParts 19 = .ok (.iload_n 1, 1) := by decide +kernel
theorem dX4_countParts_20 : decode cX4_countParts 20 = .ok (.aload_n 0, 1) := by decide +kernel
theorem dX4_countParts_21 : decode cX4_countParts 21 = .ok (.iload_n 1, 1) := by decide +kernel
theorem dX4_countParts_22 : decode cX4_countParts 22 = .ok (.invokevirtual 118, 3) := by decide +kernel
theorem dX4_countParts_25 : decode cX4_countParts 25 = .ok (.iastore, 1) := by decide +kernel
theorem dX4_countParts_26 : decode cX4_countParts 26 = .ok (.aload_n 0, 1) := by decide +kernel
theorem dX4_countParts_27 : decode cX4_countParts 27 = .ok (.getfield 28, 3) := by decide +kernel
theorem dX4_countParts_30 : decode cX4_countParts 30 = .ok (.iload_n 1, 1) := by decide +kernel
theorem dX4_countParts_31 : decode cX4_countParts 31 = .ok (.iaload, 1) := by decide +kernel
theorem dX4_countParts_32 : decode cX4_countParts 32 = .ok (.iload_n 1, 1) := by decide +kernel
theorem dX4_countParts_33 : decode cX4_countParts 33 = .ok (.if_icmp .ne 13, 3) := by decide +kernel
theorem dX4_countParts_36 : decode cX4_countParts 36 = .ok (.aload_n 0, 1) := by decide +kernel
theorem dX4_countParts_37 : decode cX4_countParts 37 = .ok (.dup, 1) := by decide +kernel
theorem dX4_countParts_38 : decode cX4_countParts 38 = .ok (.getfield 130, 3) := by decide +kernel
theorem dX4_countParts_41 : decode cX4_countParts 41 = .ok (.iconst 1, 1) := by decide +kernel
theorem dX4_countParts_42 : decode cX4_countParts 42 = .ok (.iadd, 1) := by decide +kernel
theorem dX4_countParts_43 : decode cX4_countParts 43 = .ok (.putfield 130, 3) := by decide +kernel
theorem dX4_countParts_46 : decode cX4_countParts 46 = .ok (.iinc 1 1, 3) := by decide +kernel
theorem dX4_countParts_49 : decode cX4_countParts 49 = .ok (.goto (-42), 3) := by decide +kernel
theorem dX4_countParts_52 : decode cX4_countParts 52 = .ok (.return_, 1) := by decide +kernel
theorem dX4_facesAround_0 : decode cX4_facesAround 0 = .ok (.aload_n 0, 1) := by decide +kernel
theorem dX4_facesAround_1 : decode cX4_facesAround 1 = .ok (.getfield 72, 3) := by decide +kernel
theorem dX4_facesAround_4 : decode cX4_facesAround 4 = .ok (.aload_n 0, 1) := by decide +kernel
theorem dX4_facesAround_5 : decode cX4_facesAround 5 = .ok (.getfield 41, 3) := by decide +kernel
theorem dX4_facesAround_8 : decode cX4_facesAround 8 = .ok (.isub, 1) := by decide +kernel
theorem dX4_facesAround_9 : decode cX4_facesAround 9 = .ok (.aload_n 0, 1) := by decide +kernel
theorem dX4_facesAround_10 : decode cX4_facesAround 10 = .ok (.getfield 130, 3) := by decide +kernel
theorem dX4_facesAround_13 : decode cX4_facesAround 13 = .ok (.iadd, 1) := by decide +kernel
theorem dX4_facesAround_14 : decode cX4_facesAround 14 = .ok (.iconst 1, 1) := by decide +kernel
theorem dX4_facesAround_15 : decode cX4_facesAround 15 = .ok (.iadd, 1) := by decide +kernel
theorem dX4_facesAround_16 : decode cX4_facesAround 16 = .ok (.ireturn, 1) := by decide +kernel
theorem dX4_countOn_0 : decode cX4_countOn 0 = .ok (.iconst 0, 1) := by decide +kernel
theorem dX4_countOn_1 : decode cX4_countOn 1 = .ok (.istore_n 2, 1) := by decide +kernel
theorem dX4_countOn_2 : decode cX4_countOn 2 = .ok (.iconst 0, 1) := by decide +kernel
theorem dX4_countOn_3 : decode cX4_countOn 3 = .ok (.istore_n 3, 1) := by decide +kernel
theorem dX4_countOn_4 : decode cX4_countOn 4 = .ok (.iload_n 3, 1) := by decide +kernel
theorem dX4_countOn_5 : decode cX4_countOn 5 = .ok (.aload_n 0, 1) := by decide +kernel
theorem dX4_countOn_6 : decode cX4_countOn 6 = .ok (.getfield 41, 3) := by decide +kernel
theorem dX4_countOn_9 : decode cX4_countOn 9 = .ok (.if_icmp .ge 22, 3) := by decide +kernel
theorem dX4_countOn_12 : decode cX4_countOn 12 = .ok (.iload_n 2, 1) := by decide +kernel
theorem dX4_countOn_13 : decode cX4_countOn 13 = .ok (.aload_n 0, 1) := by decide +kernel
theorem dX4_countOn_14 : decode cX4_countOn 14 = .ok (.getfield 24, 3) := by decide +kernel
theorem dX4_countOn_17 : decode cX4_countOn 17 = .ok (.iload_n 3, 1) := by decide +kernel
theorem dX4_countOn_18 : decode cX4_countOn 18 = .ok (.iaload, 1) := by decide +kernel
theorem dX4_countOn_19 : decode cX4_countOn 19 = .ok (.iload_n 1, 1) := by decide +kernel
theorem dX4_countOn_20 : decode cX4_countOn 20 = .ok (.ishr, 1) := by decide +kernel
theorem dX4_countOn_21 : decode cX4_countOn 21 = .ok (.iconst 1, 1) := by decide +kernel
theorem dX4_countOn_22 : decode cX4_countOn 22 = .ok (.iand, 1) := by decide +kernel
theorem dX4_countOn_23 : decode cX4_countOn 23 = .ok (.iadd, 1) := by decide +kernel
theorem dX4_countOn_24 : decode cX4_countOn 24 = .ok (.istore_n 2, 1) := by decide +kernel
theorem dX4_countOn_25 : decode cX4_countOn 25 = .ok (.iinc 3 1, 3) := by decide +kernel
theorem dX4_countOn_28 : decode cX4_countOn 28 = .ok (.goto (-24), 3) := by decide +kernel
theorem dX4_countOn_31 : decode cX4_countOn 31 = .ok (.iload_n 2, 1) := by decide +kernel
theorem dX4_countOn_32 : decode cX4_countOn 32 = .ok (.ireturn, 1) := by decide +kernel
theorem dX4_endsAt_0 : decode cX4_endsAt 0 = .ok (.aload_n 0, 1) := by decide +kernel
theorem dX4_endsAt_1 : decode cX4_endsAt 1 = .ok (.getfield 15, 3) := by decide +kernel
theorem dX4_endsAt_4 : decode cX4_endsAt 4 = .ok (.iload_n 2, 1) := by decide +kernel
theorem dX4_endsAt_5 : decode cX4_endsAt 5 = .ok (.laload, 1) := by decide +kernel
theorem dX4_endsAt_6 : decode cX4_endsAt 6 = .ok (.lconst 1, 1) := by decide +kernel
theorem dX4_endsAt_7 : decode cX4_endsAt 7 = .ok (.lcmp, 1) := by decide +kernel
theorem dX4_endsAt_8 : decode cX4_endsAt 8 = .ok (.ifCond .ne 14, 3) := by decide +kernel
theorem dX4_endsAt_11 : decode cX4_endsAt 11 = .ok (.aload_n 0, 1) := by decide +kernel
theorem dX4_endsAt_12 : decode cX4_endsAt 12 = .ok (.getfield 21, 3) := by decide +kernel
theorem dX4_endsAt_15 : decode cX4_endsAt 15 = .ok (.iload_n 2, 1) := by decide +kernel
theorem dX4_endsAt_16 : decode cX4_endsAt 16 = .ok (.laload, 1) := by decide +kernel
theorem dX4_endsAt_17 : decode cX4_endsAt 17 = .ok (.lconst 1, 1) := by decide +kernel
theorem dX4_endsAt_18 : decode cX4_endsAt 18 = .ok (.lcmp, 1) := by decide +kernel
theorem dX4_endsAt_19 : decode cX4_endsAt 19 = .ok (.ifCond .eq 5, 3) := by decide +kernel
theorem dX4_endsAt_22 : decode cX4_endsAt 22 = .ok (.iconst 0, 1) := by decide +kernel
theorem dX4_endsAt_23 : decode cX4_endsAt 23 = .ok (.ireturn, 1) := by decide +kernel
theorem dX4_endsAt_24 : decode cX4_endsAt 24 = .ok (.iconst 0, 1) := by decide +kernel
theorem dX4_endsAt_25 : decode cX4_endsAt 25 = .ok (.istore_n 3, 1) := by decide +kernel
theorem dX4_endsAt_26 : decode cX4_endsAt 26 = .ok (.iconst 0, 1) := by decide +kernel
theorem dX4_endsAt_27 : decode cX4_endsAt 27 = .ok (.istore 4, 2) := by decide +kernel
theorem dX4_endsAt_29 : decode cX4_endsAt 29 = .ok (.iload 4, 2) := by decide +kernel
theorem dX4_endsAt_31 : decode cX4_endsAt 31 = .ok (.aload_n 1, 1) := by decide +kernel
theorem dX4_endsAt_32 : decode cX4_endsAt 32 = .ok (.getfield 45, 3) := by decide +kernel
theorem dX4_endsAt_35 : decode cX4_endsAt 35 = .ok (.if_icmp .ge 87, 3) := by decide +kernel
theorem dX4_endsAt_38 : decode cX4_endsAt 38 = .ok (.aload_n 1, 1) := by decide +kernel
theorem dX4_endsAt_39 : decode cX4_endsAt 39 = .ok (.getfield 48, 3) := by decide +kernel
theorem dX4_endsAt_42 : decode cX4_endsAt 42 = .ok (.iload 4, 2) := by decide +kernel
theorem dX4_endsAt_44 : decode cX4_endsAt 44 = .ok (.iaload, 1) := by decide +kernel
theorem dX4_endsAt_45 : decode cX4_endsAt 45 = .ok (.i2l, 1) := by decide +kernel
theorem dX4_endsAt_46 : decode cX4_endsAt 46 = .ok (.aload_n 0, 1) := by decide +kernel
theorem dX4_endsAt_47 : decode cX4_endsAt 47 = .ok (.getfield 9, 3) := by decide +kernel
theorem dX4_endsAt_50 : decode cX4_endsAt 50 = .ok (.iload_n 2, 1) := by decide +kernel
theorem dX4_endsAt_51 : decode cX4_endsAt 51 = .ok (.laload, 1) := by decide +kernel
theorem dX4_endsAt_52 : decode cX4_endsAt 52 = .ok (.lcmp, 1) := by decide +kernel
theorem dX4_endsAt_53 : decode cX4_endsAt 53 = .ok (.ifCond .ne 24, 3) := by decide +kernel
theorem dX4_endsAt_56 : decode cX4_endsAt 56 = .ok (.aload_n 1, 1) := by decide +kernel
theorem dX4_endsAt_57 : decode cX4_endsAt 57 = .ok (.getfield 51, 3) := by decide +kernel
theorem dX4_endsAt_60 : decode cX4_endsAt 60 = .ok (.iload 4, 2) := by decide +kernel
theorem dX4_endsAt_62 : decode cX4_endsAt 62 = .ok (.iaload, 1) := by decide +kernel
theorem dX4_endsAt_63 : decode cX4_endsAt 63 = .ok (.i2l, 1) := by decide +kernel
theorem dX4_endsAt_64 : decode cX4_endsAt 64 = .ok (.aload_n 0, 1) := by decide +kernel
theorem dX4_endsAt_65 : decode cX4_endsAt 65 = .ok (.getfield 18, 3) := by decide +kernel
theorem dX4_endsAt_68 : decode cX4_endsAt 68 = .ok (.iload_n 2, 1) := by decide +kernel
theorem dX4_endsAt_69 : decode cX4_endsAt 69 = .ok (.laload, 1) := by decide +kernel
theorem dX4_endsAt_70 : decode cX4_endsAt 70 = .ok (.lcmp, 1) := by decide +kernel
theorem dX4_endsAt_71 : decode cX4_endsAt 71 = .ok (.ifCond .ne 6, 3) := by decide +kernel
theorem dX4_endsAt_74 : decode cX4_endsAt 74 = .ok (.iinc 3 1, 3) := by decide +kernel
theorem dX4_endsAt_77 : decode cX4_endsAt 77 = .ok (.aload_n 1, 1) := by decide +kernel
theorem dX4_endsAt_78 : decode cX4_endsAt 78 = .ok (.getfield 58, 3) := by decide +kernel
theorem dX4_endsAt_81 : decode cX4_endsAt 81 = .ok (.iload 4, 2) := by decide +kernel
theorem dX4_endsAt_83 : decode cX4_endsAt 83 = .ok (.iaload, 1) := by decide +kernel
theorem dX4_endsAt_84 : decode cX4_endsAt 84 = .ok (.i2l, 1) := by decide +kernel
theorem dX4_endsAt_85 : decode cX4_endsAt 85 = .ok (.aload_n 0, 1) := by decide +kernel
theorem dX4_endsAt_86 : decode cX4_endsAt 86 = .ok (.getfield 9, 3) := by decide +kernel
theorem dX4_endsAt_89 : decode cX4_endsAt 89 = .ok (.iload_n 2, 1) := by decide +kernel
theorem dX4_endsAt_90 : decode cX4_endsAt 90 = .ok (.laload, 1) := by decide +kernel
theorem dX4_endsAt_91 : decode cX4_endsAt 91 = .ok (.lcmp, 1) := by decide +kernel
theorem dX4_endsAt_92 : decode cX4_endsAt 92 = .ok (.ifCond .ne 24, 3) := by decide +kernel
theorem dX4_endsAt_95 : decode cX4_endsAt 95 = .ok (.aload_n 1, 1) := by decide +kernel
theorem dX4_endsAt_96 : decode cX4_endsAt 96 = .ok (.getfield 61, 3) := by decide +kernel
theorem dX4_endsAt_99 : decode cX4_endsAt 99 = .ok (.iload 4, 2) := by decide +kernel
theorem dX4_endsAt_101 : decode cX4_endsAt 101 = .ok (.iaload, 1) := by decide +kernel
theorem dX4_endsAt_102 : decode cX4_endsAt 102 = .ok (.i2l, 1) := by decide +kernel
theorem dX4_endsAt_103 : decode cX4_endsAt 103 = .ok (.aload_n 0, 1) := by decide +kernel
theorem dX4_endsAt_104 : decode cX4_endsAt 104 = .ok (.getfield 18, 3) := by decide +kernel
theorem dX4_endsAt_107 : decode cX4_endsAt 107 = .ok (.iload_n 2, 1) := by decide +kernel
theorem dX4_endsAt_108 : decode cX4_endsAt 108 = .ok (.laload, 1) := by decide +kernel
theorem dX4_endsAt_109 : decode cX4_endsAt 109 = .ok (.lcmp, 1) := by decide +kernel
theorem dX4_endsAt_110 : decode cX4_endsAt 110 = .ok (.ifCond .ne 6, 3) := by decide +kernel
theorem dX4_endsAt_113 : decode cX4_endsAt 113 = .ok (.iinc 3 1, 3) := by decide +kernel
theorem dX4_endsAt_116 : decode cX4_endsAt 116 = .ok (.iinc 4 1, 3) := by decide +kernel
theorem dX4_endsAt_119 : decode cX4_endsAt 119 = .ok (.goto (-90), 3) := by decide +kernel
theorem dX4_endsAt_122 : decode cX4_endsAt 122 = .ok (.iload_n 3, 1) := by decide +kernel
theorem dX4_endsAt_123 : decode cX4_endsAt 123 = .ok (.ireturn, 1) := by decide +kernel
theorem dX5_isOne_0 : decode cX5_isOne 0 = .ok (.iload_n 1, 1) := by decide +kernel
theorem dX5_isOne_1 : decode cX5_isOne 1 = .ok (.ifCond .lt 12, 3) := by decide +kernel
theorem dX5_isOne_4 : decode cX5_isOne 4 = .ok (.iload_n 1, 1) := by decide +kernel
theorem dX5_isOne_5 : decode cX5_isOne 5 = .ok (.iconst 4, 1) := by decide +kernel
theorem dX5_isOne_6 : decode cX5_isOne 6 = .ok (.if_icmp .ge 7, 3) := by decide +kernel
theorem dX5_isOne_9 : decode cX5_isOne 9 = .ok (.iconst 1, 1) := by decide +kernel
theorem dX5_isOne_10 : decode cX5_isOne 10 = .ok (.goto 4, 3) := by decide +kernel
theorem dX5_isOne_13 : decode cX5_isOne 13 = .ok (.iconst 0, 1) := by decide +kernel
theorem dX5_isOne_14 : decode cX5_isOne 14 = .ok (.ireturn, 1) := by decide +kernel
theorem dX5_isSort_0 : decode cX5_isSort 0 = .ok (.iload_n 1, 1) := by decide +kernel
theorem dX5_isSort_1 : decode cX5_isSort 1 = .ok (.ifCond .eq 8, 3) := by decide +kernel
theorem dX5_isSort_4 : decode cX5_isSort 4 = .ok (.iload_n 1, 1) := by decide +kernel
theorem dX5_isSort_5 : decode cX5_isSort 5 = .ok (.iconst 1, 1) := by decide +kernel
theorem dX5_isSort_6 : decode cX5_isSort 6 = .ok (.if_icmp .ne 7, 3) := by decide +kernel
theorem dX5_isSort_9 : decode cX5_isSort 9 = .ok (.iconst 1, 1) := by decide +kernel
theorem dX5_isSort_10 : decode cX5_isSort 10 = .ok (.goto 4, 3) := by decide +kernel
theorem dX5_isSort_13 : decode cX5_isSort 13 = .ok (.iconst 0, 1) := by decide +kernel
theorem dX5_isSort_14 : decode cX5_isSort 14 = .ok (.ireturn, 1) := by decide +kernel
theorem dX5_isMissing_0 : decode cX5_isMissing 0 = .ok (.aload_n 0, 1) := by decide +kernel
theorem dX5_isMissing_1 : decode cX5_isMissing 1 = .ok (.getfield 9, 3) := by decide +kernel
theorem dX5_isMissing_4 : decode cX5_isMissing 4 = .ok (.iload_n 1, 1) := by decide +kernel
theorem dX5_isMissing_5 : decode cX5_isMissing 5 = .ok (.iaload, 1) := by decide +kernel
theorem dX5_isMissing_6 : decode cX5_isMissing 6 = .ok (.iconst (-1), 1) := by decide +kernel
theorem dX5_isMissing_7 : decode cX5_isMissing 7 = .ok (.if_icmp .ne 7, 3) := by decide +kernel
theorem dX5_isMissing_10 : decode cX5_isMissing 10 = .ok (.iconst 1, 1) := by decide +kernel
theorem dX5_isMissing_11 : decode cX5_isMissing 11 = .ok (.goto 4, 3) := by decide +kernel
theorem dX5_isMissing_14 : decode cX5_isMissing 14 = .ok (.iconst 0, 1) := by decide +kernel
theorem dX5_isMissing_15 : decode cX5_isMissing 15 = .ok (.ireturn, 1) := by decide +kernel
theorem dX5_hasRow_0 : decode cX5_hasRow 0 = .ok (.iload_n 2, 1) := by decide +kernel
theorem dX5_hasRow_1 : decode cX5_hasRow 1 = .ok (.ifCond .lt 19, 3) := by decide +kernel
theorem dX5_hasRow_4 : decode cX5_hasRow 4 = .ok (.iload_n 2, 1) := by decide +kernel
theorem dX5_hasRow_5 : decode cX5_hasRow 5 = .ok (.aload_n 0, 1) := by decide +kernel
theorem dX5_hasRow_6 : decode cX5_hasRow 6 = .ok (.getfield 15, 3) := by decide +kernel
theorem dX5_hasRow_9 : decode cX5_hasRow 9 = .ok (.iload_n 1, 1) := by decide +kernel
theorem dX5_hasRow_10 : decode cX5_hasRow 10 = .ok (.iaload, 1) := by decide +kernel
theorem dX5_hasRow_11 : decode cX5_hasRow 11 = .ok (.iload_n 3, 1) := by decide +kernel
theorem dX5_hasRow_12 : decode cX5_hasRow 12 = .ok (.isub, 1) := by decide +kernel
theorem dX5_hasRow_13 : decode cX5_hasRow 13 = .ok (.if_icmp .gt 7, 3) := by decide +kernel
theorem dX5_hasRow_16 : decode cX5_hasRow 16 = .ok (.iconst 1, 1) := by decide +kernel
theorem dX5_hasRow_17 : decode cX5_hasRow 17 = .ok (.goto 4, 3) := by decide +kernel
theorem dX5_hasRow_20 : decode cX5_hasRow 20 = .ok (.iconst 0, 1) := by decide +kernel
theorem dX5_hasRow_21 : decode cX5_hasRow 21 = .ok (.ireturn, 1) := by decide +kernel
theorem dX5_make_0 : decode cX5_make 0 = .ok (.aload_n 0, 1) := by decide +kernel
theorem dX5_make_1 : decode cX5_make 1 = .ok (.getfield 9, 3) := by decide +kernel
theorem dX5_make_4 : decode cX5_make 4 = .ok (.iload_n 1, 1) := by decide +kernel
theorem dX5_make_5 : decode cX5_make 5 = .ok (.iload_n 2, 1) := by decide +kernel
theorem dX5_make_6 : decode cX5_make 6 = .ok (.iastore, 1) := by decide +kernel
theorem dX5_make_7 : decode cX5_make 7 = .ok (.aload_n 0, 1) := by decide +kernel
theorem dX5_make_8 : decode cX5_make 8 = .ok (.getfield 15, 3) := by decide +kernel
theorem dX5_make_11 : decode cX5_make 11 = .ok (.iload_n 1, 1) := by decide +kernel
theorem dX5_make_12 : decode cX5_make 12 = .ok (.iload_n 3, 1) := by decide +kernel
theorem dX5_make_13 : decode cX5_make 13 = .ok (.iastore, 1) := by decide +kernel
theorem dX5_make_14 : decode cX5_make 14 = .ok (.iconst 0, 1) := by decide +kernel
theorem dX5_make_15 : decode cX5_make 15 = .ok (.istore 4, 2) := by decide +kernel
theorem dX5_make_17 : decode cX5_make 17 = .ok (.iload 4, 2) := by decide +kernel
theorem dX5_make_19 : decode cX5_make 19 = .ok (.bipush 40, 2) := by decide +kernel
theorem dX5_make_21 : decode cX5_make 21 = .ok (.if_icmp .ge 22, 3) := by decide +kernel
theorem dX5_make_24 : decode cX5_make 24 = .ok (.aload_n 0, 1) := by decide +kernel
theorem dX5_make_25 : decode cX5_make 25 = .ok (.getfield 18, 3) := by decide +kernel
theorem dX5_make_28 : decode cX5_make 28 = .ok (.iload_n 1, 1) := by decide +kernel
theorem dX5_make_29 : decode cX5_make 29 = .ok (.bipush 40, 2) := by decide +kernel
theorem dX5_make_31 : decode cX5_make 31 = .ok (.imul, 1) := by decide +kernel
theorem dX5_make_32 : decode cX5_make 32 = .ok (.iload 4, 2) := by decide +kernel
theorem dX5_make_34 : decode cX5_make 34 = .ok (.iadd, 1) := by decide +kernel
theorem dX5_make_35 : decode cX5_make 35 = .ok (.iconst 0, 1) := by decide +kernel
theorem dX5_make_36 : decode cX5_make 36 = .ok (.iastore, 1) := by decide +kernel
theorem dX5_make_37 : decode cX5_make 37 = .ok (.iinc 4 1, 3) := by decide +kernel
theorem dX5_make_40 : decode cX5_make 40 = .ok (.goto (-23), 3) := by decide +kernel
theorem dX5_make_43 : decode cX5_make 43 = .ok (.return_, 1) := by decide +kernel
theorem dX5_item_0 : decode cX5_item 0 = .ok (.aload_n 0, 1) := by decide +kernel
theorem dX5_item_1 : decode cX5_item 1 = .ok (.getfield 18, 3) := by decide +kernel
theorem dX5_item_4 : decode cX5_item 4 = .ok (.iload_n 1, 1) := by decide +kernel
theorem dX5_item_5 : decode cX5_item 5 = .ok (.bipush 40, 2) := by decide +kernel
theorem dX5_item_7 : decode cX5_item 7 = .ok (.imul, 1) := by decide +kernel
theorem dX5_item_8 : decode cX5_item 8 = .ok (.iload_n 2, 1) := by decide +kernel
theorem dX5_item_9 : decode cX5_item 9 = .ok (.iadd, 1) := by decide +kernel
theorem dX5_item_10 : decode cX5_item 10 = .ok (.iaload, 1) := by decide +kernel
theorem dX5_item_11 : decode cX5_item 11 = .ok (.ireturn, 1) := by decide +kernel
theorem dX5_set_0 : decode cX5_set 0 = .ok (.aload_n 0, 1) := by decide +kernel
theorem dX5_set_1 : decode cX5_set 1 = .ok (.getfield 18, 3) := by decide +kernel
theorem dX5_set_4 : decode cX5_set 4 = .ok (.iload_n 1, 1) := by decide +kernel
theorem dX5_set_5 : decode cX5_set 5 = .ok (.bipush 40, 2) := by decide +kernel
theorem dX5_set_7 : decode cX5_set 7 = .ok (.imul, 1) := by decide +kernel
theorem dX5_set_8 : decode cX5_set 8 = .ok (.iload_n 2, 1) := by decide +kernel
theorem dX5_set_9 : decode cX5_set 9 = .ok (.iadd, 1) := by decide +kernel
theorem dX5_set_10 : decode cX5_set 10 = .ok (.aload_n 0, 1) := by decide +kernel
theorem dX5_set_11 : decode cX5_set 11 = .ok (.getfield 9, 3) := by decide +kernel
theorem dX5_set_14 : decode cX5_set 14 = .ok (.iload_n 1, 1) := by decide +kernel
theorem dX5_set_15 : decode cX5_set 15 = .ok (.iaload, 1) := by decide +kernel
theorem dX5_set_16 : decode cX5_set 16 = .ok (.ifCond .ne 8, 3) := by decide +kernel
theorem dX5_set_19 : decode cX5_set 19 = .ok (.iload_n 3, 1) := by decide +kernel
theorem dX5_set_20 : decode cX5_set 20 = .ok (.i2b, 1) := by decide +kernel
theorem dX5_set_21 : decode cX5_set 21 = .ok (.goto 4, 3) := by decide +kernel
theorem dX5_set_24 : decode cX5_set 24 = .ok (.iload_n 3, 1) := by decide +kernel
theorem dX5_set_25 : decode cX5_set 25 = .ok (.iastore, 1) := by decide +kernel
theorem dX5_set_26 : decode cX5_set 26 = .ok (.return_, 1) := by decide +kernel
theorem dX5_firstOtherwise_0 : decode cX5_firstOtherwise 0 = .ok (.iconst 0, 1) := by decide +kernel
theorem dX5_firstOtherwise_1 : decode cX5_firstOtherwise 1 = .ok (.istore 4, 2) := by decide +kernel
theorem dX5_firstOtherwise_3 : decode cX5_firstOtherwise 3 = .ok (.iconst 0, 1) := by decide +kernel
theorem dX5_firstOtherwise_4 : decode cX5_firstOtherwise 4 = .ok (.istore 5, 2) := by decide +kernel
theorem dX5_firstOtherwise_6 : decode cX5_firstOtherwise 6 = .ok (.iload 5, 2) := by decide +kernel
theorem dX5_firstOtherwise_8 : decode cX5_firstOtherwise 8 = .ok (.aload_n 2, 1) := by decide +kernel
theorem dX5_firstOtherwise_9 : decode cX5_firstOtherwise 9 = .ok (.getfield 21, 3) := by decide +kernel
theorem dX5_firstOtherwise_12 : decode cX5_firstOtherwise 12 = .ok (.if_icmp .ge 56, 3) := by decide +kernel
theorem dX5_firstOtherwise_15 : decode cX5_firstOtherwise 15 = .ok (.aload_n 2, 1) := by decide +kernel
theorem dX5_firstOtherwise_16 : decode cX5_firstOtherwise 16 = .ok (.getfield 26, 3) := by decide +kernel
theorem dX5_firstOtherwise_19 : decode cX5_firstOtherwise 19 = .ok (.iload 5, 2) := by decide +kernel
theorem dX5_firstOtherwise_21 : decode cX5_firstOtherwise 21 = .ok (.iaload, 1) := by decide +kernel
theorem dX5_firstOtherwise_22 : decode cX5_firstOtherwise 22 = .ok (.istore 6, 2) := by decide +kernel
theorem dX5_firstOtherwise_24 : decode cX5_firstOtherwise 24 = .ok (.iload 6, 2) := by decide +kernel
theorem dX5_firstOtherwise_26 : decode cX5_firstOtherwise 26 = .ok (.iload_n 3, 1) := by decide +kernel
theorem dX5_firstOtherwise_27 : decode cX5_firstOtherwise 27 = .ok (.if_icmp .ne 6, 3) := by decide +kernel
theorem dX5_firstOtherwise_30 : decode cX5_firstOtherwise 30 = .ok (.goto 32, 3) := by decide +kernel
theorem dX5_firstOtherwise_33 : decode cX5_firstOtherwise 33 = .ok (.iload 4, 2) := by decide +kernel
theorem dX5_firstOtherwise_35 : decode cX5_firstOtherwise 35 = .ok (.aload_n 0, 1) := by decide +kernel
theorem dX5_firstOtherwise_36 : decode cX5_firstOtherwise 36 = .ok (.getfield 15, 3) := by decide +kernel
theorem dX5_firstOtherwise_39 : decode cX5_firstOtherwise 39 = .ok (.iload_n 1, 1) := by decide +kernel
theorem dX5_firstOtherwise_40 : decode cX5_firstOtherwise 40 = .ok (.iaload, 1) := by decide +kernel
theorem dX5_firstOtherwise_41 : decode cX5_firstOtherwise 41 = .ok (.if_icmp .ge 15, 3) := by decide +kernel
theorem dX5_firstOtherwise_44 : decode cX5_firstOtherwise 44 = .ok (.aload_n 0, 1) := by decide +kernel
theorem dX5_firstOtherwise_45 : decode cX5_firstOtherwise 45 = .ok (.iload_n 1, 1) := by decide +kernel
theorem dX5_firstOtherwise_46 : decode cX5_firstOtherwise 46 = .ok (.iload 4, 2) := by decide +kernel
theorem dX5_firstOtherwise_48 : decode cX5_firstOtherwise 48 = .ok (.invokevirtual 29, 3) := by decide +kernel
theorem dX5_firstOtherwise_51 : decode cX5_firstOtherwise 51 = .ok (.iload 6, 2) := by decide +kernel
theorem dX5_firstOtherwise_53 : decode cX5_firstOtherwise 53 = .ok (.if_icmp .eq 6, 3) := by decide +kernel
theorem dX5_firstOtherwise_56 : decode cX5_firstOtherwise 56 = .ok (.iload 4, 2) := by decide +kernel
theorem dX5_firstOtherwise_58 : decode cX5_firstOtherwise 58 = .ok (.ireturn, 1) := by decide +kernel
theorem dX5_firstOtherwise_59 : decode cX5_firstOtherwise 59 = .ok (.iinc 4 1, 3) := by decide +kernel
theorem dX5_firstOtherwise_62 : decode cX5_firstOtherwise 62 = .ok (.iinc 5 1, 3) := by decide +kernel
theorem dX5_firstOtherwise_65 : decode cX5_firstOtherwise 65 = .ok (.goto (-59), 3) := by decide +kernel
theorem dX5_firstOtherwise_68 : decode cX5_firstOtherwise 68 = .ok (.iload 4, 2) := by decide +kernel
theorem dX5_firstOtherwise_70 : decode cX5_firstOtherwise 70 = .ok (.aload_n 0, 1) := by decide +kernel
theorem dX5_firstOtherwise_71 : decode cX5_firstOtherwise 71 = .ok (.getfield 15, 3) := by decide +kernel
theorem dX5_firstOtherwise_74 : decode cX5_firstOtherwise 74 = .ok (.iload_n 1, 1) := by decide +kernel
theorem dX5_firstOtherwise_75 : decode cX5_firstOtherwise 75 = .ok (.iaload, 1) := by decide +kernel
theorem dX5_firstOtherwise_76 : decode cX5_firstOtherwise 76 = .ok (.if_icmp .ge 8, 3) := by decide +kernel
theorem dX5_firstOtherwise_79 : decode cX5_firstOtherwise 79 = .ok (.iload 4, 2) := by decide +kernel
theorem dX5_firstOtherwise_81 : decode cX5_firstOtherwise 81 = .ok (.goto 4, 3) := by decide +kernel
theorem dX5_firstOtherwise_84 : decode cX5_firstOtherwise 84 = .ok (.iconst (-1), 1) := by decide +kernel
theorem dX5_firstOtherwise_85 : decode cX5_firstOtherwise 85 = .ok (.ireturn, 1) := by decide +kernel
theorem dX6_cut_0 : decode cX6_cut 0 = .ok (.aload_n 0, 1) := by decide +kernel
theorem dX6_cut_1 : decode cX6_cut 1 = .ok (.aload_n 2, 1) := by decide +kernel
theorem dX6_cut_2 : decode cX6_cut 2 = .ok (.invokevirtual 31, 3) := by decide +kernel
theorem dX6_cut_5 : decode cX6_cut 5 = .ok (.aload_n 0, 1) := by decide +kernel
theorem dX6_cut_6 : decode cX6_cut 6 = .ok (.iconst 0, 1) := by decide +kernel
theorem dX6_cut_7 : decode cX6_cut 7 = .ok (.putfield 35, 3) := by decide +kernel
theorem dX6_cut_10 : decode cX6_cut 10 = .ok (.iconst 0, 1) := by decide +kernel
theorem dX6_cut_11 : decode cX6_cut 11 = .ok (.istore 4, 2) := by decide +kernel
theorem dX6_cut_13 : decode cX6_cut 13 = .ok (.iload 4, 2) := by decide +kernel
theorem dX6_cut_15 : decode cX6_cut 15 = .ok (.aload_n 0, 1) := by decide +kernel
theorem dX6_cut_16 : decode cX6_cut 16 = .ok (.getfield 39, 3) := by decide +kernel
theorem dX6_cut_19 : decode cX6_cut 19 = .ok (.if_icmp .gt 76, 3) := by decide +kernel
theorem dX6_cut_22 : decode cX6_cut 22 = .ok (.aload_n 0, 1) := by decide +kernel
theorem dX6_cut_23 : decode cX6_cut 23 = .ok (.getfield 18, 3) := by decide +kernel
theorem dX6_cut_26 : decode cX6_cut 26 = .ok (.iload 4, 2) := by decide +kernel
theorem dX6_cut_28 : decode cX6_cut 28 = .ok (.aload_n 0, 1) := by decide +kernel
theorem dX6_cut_29 : decode cX6_cut 29 = .ok (.getfield 35, 3) := by decide +kernel
theorem dX6_cut_32 : decode cX6_cut 32 = .ok (.iastore, 1) := by decide +kernel
theorem dX6_cut_33 : decode cX6_cut 33 = .ok (.iload 4, 2) := by decide +kernel
theorem dX6_cut_35 : decode cX6_cut 35 = .ok (.ifCond .eq 12, 3) := by decide +kernel
theorem dX6_cut_38 : decode cX6_cut 38 = .ok (.iload 4, 2) := by decide +kernel
theorem dX6_cut_40 : decode cX6_cut 40 = .ok (.aload_n 0, 1) := by decide +kernel
theorem dX6_cut_41 : decode cX6_cut 41 = .ok (.getfield 39, 3) := by decide +kernel
theorem dX6_cut_44 : decode cX6_cut 44 = .ok (.if_icmp .ne 14, 3) := by decide +kernel
theorem dX6_cut_47 : decode cX6_cut 47 = .ok (.aload_n 0, 1) := by decide +kernel
theorem dX6_cut_48 : decode cX6_cut 48 = .ok (.iload 4, 2) := by decide +kernel
theorem dX6_cut_50 : decode cX6_cut 50 = .ok (.iconst 0, 1) := by decide +kernel
theorem dX6_cut_51 : decode cX6_cut 51 = .ok (.iconst 0, 1) := by decide +kernel
theorem dX6_cut_52 : decode cX6_cut 52 = .ok (.invokevirtual 42, 3) := by decide +kernel
theorem dX6_cut_55 : decode cX6_cut 55 = .ok (.goto 34, 3) := by decide +kernel
theorem dX6_cut_58 : decode cX6_cut 58 = .ok (.aload_n 3, 1) := by decide +kernel
theorem dX6_cut_59 : decode cX6_cut 59 = .ok (.aload_n 1, 1) := by decide +kernel
theorem dX6_cut_60 : decode cX6_cut 60 = .ok (.aload_n 0, 1) := by decide +kernel
theorem dX6_cut_61 : decode cX6_cut 61 = .ok (.getfield 9, 3) := by decide +kernel
theorem dX6_cut_64 : decode cX6_cut 64 = .ok (.iload 4, 2) := by decide +kernel
theorem dX6_cut_66 : decode cX6_cut 66 = .ok (.iconst 1, 1) := by decide +kernel
theorem dX6_cut_67 : decode cX6_cut 67 = .ok (.isub, 1) := by decide +kernel
theorem dX6_cut_68 : decode cX6_cut 68 = .ok (.laload, 1) := by decide +kernel
theorem dX6_cut_69 : decode cX6_cut 69 = .ok (.aload_n 0, 1) := by decide +kernel
theorem dX6_cut_70 : decode cX6_cut 70 = .ok (.getfield 15, 3) := by decide +kernel
theorem dX6_cut_73 : decode cX6_cut 73 = .ok (.iload 4, 2) := by decide +kernel
theorem dX6_cut_75 : decode cX6_cut 75 = .ok (.iconst 1, 1) := by decide +kernel
theorem dX6_cut_76 : decode cX6_cut 76 = .ok (.isub, 1) := by decide +kernel
theorem dX6_cut_77 : decode cX6_cut 77 = .ok (.laload, 1) := by decide +kernel
theorem dX6_cut_78 : decode cX6_cut 78 = .ok (.invokevirtual 46, 3) := by decide +kernel
theorem dX6_cut_81 : decode cX6_cut 81 = .ok (.aload_n 0, 1) := by decide +kernel
theorem dX6_cut_82 : decode cX6_cut 82 = .ok (.aload_n 1, 1) := by decide +kernel
theorem dX6_cut_83 : decode cX6_cut 83 = .ok (.aload_n 3, 1) := by decide +kernel
theorem dX6_cut_84 : decode cX6_cut 84 = .ok (.iload 4, 2) := by decide +kernel
theorem dX6_cut_86 : decode cX6_cut 86 = .ok (.invokevirtual 52, 3) := by decide +kernel
theorem dX6_cut_89 : decode cX6_cut 89 = .ok (.iinc 4 1, 3) := by decide +kernel
theorem dX6_cut_92 : decode cX6_cut 92 = .ok (.goto (-79), 3) := by decide +kernel
theorem dX6_cut_95 : decode cX6_cut 95 = .ok (.aload_n 0, 1) := by decide +kernel
theorem dX6_cut_96 : decode cX6_cut 96 = .ok (.getfield 18, 3) := by decide +kernel
theorem dX6_cut_99 : decode cX6_cut 99 = .ok (.aload_n 0, 1) := by decide +kernel
theorem dX6_cut_100 : decode cX6_cut 100 = .ok (.getfield 39, 3) := by decide +kernel
theorem dX6_cut_103 : decode cX6_cut 103 = .ok (.iconst 1, 1) := by decide +kernel
theorem dX6_cut_104 : decode cX6_cut 104 = .ok (.iadd, 1) := by decide +kernel
theorem dX6_cut_105 : decode cX6_cut 105 = .ok (.aload_n 0, 1) := by decide +kernel
theorem dX6_cut_106 : decode cX6_cut 106 = .ok (.getfield 35, 3) := by decide +kernel
theorem dX6_cut_109 : decode cX6_cut 109 = .ok (.iastore, 1) := by decide +kernel
theorem dX6_cut_110 : decode cX6_cut 110 = .ok (.return_, 1) := by decide +kernel
theorem dX6_findXs_0 : decode cX6_findXs 0 = .ok (.aload_n 0, 1) := by decide +kernel
theorem dX6_findXs_1 : decode cX6_findXs 1 = .ok (.iconst 0, 1) := by decide +kernel
theorem dX6_findXs_2 : decode cX6_findXs 2 = .ok (.putfield 39, 3) := by decide +kernel
theorem dX6_findXs_5 : decode cX6_findXs 5 = .ok (.iconst 0, 1) := by decide +kernel
theorem dX6_findXs_6 : decode cX6_findXs 6 = .ok (.istore_n 2, 1) := by decide +kernel
theorem dX6_findXs_7 : decode cX6_findXs 7 = .ok (.iload_n 2, 1) := by decide +kernel
theorem dX6_findXs_8 : decode cX6_findXs 8 = .ok (.aload_n 1, 1) := by decide +kernel
theorem dX6_findXs_9 : decode cX6_findXs 9 = .ok (.getfield 56, 3) := by decide +kernel
theorem dX6_findXs_12 : decode cX6_findXs 12 = .ok (.if_icmp .ge 115, 3) := by decide +kernel
theorem dX6_findXs_15 : decode cX6_findXs 15 = .ok (.aload_n 0, 1) := by decide +kernel
theorem dX6_findXs_16 : decode cX6_findXs 16 = .ok (.getfield 39, 3) := by decide +kernel
theorem dX6_findXs_19 : decode cX6_findXs 19 = .ok (.ifCond .eq 43, 3) := by decide +kernel
theorem dX6_findXs_22 : decode cX6_findXs 22 = .ok (.aload_n 0, 1) := by decide +kernel
theorem dX6_findXs_23 : decode cX6_findXs 23 = .ok (.getfield 9, 3) := by decide +kernel
theorem dX6_findXs_26 : decode cX6_findXs 26 = .ok (.aload_n 0, 1) := by decide +kernel
theorem dX6_findXs_27 : decode cX6_findXs 27 = .ok (.getfield 39, 3) := by decide +kernel
theorem dX6_findXs_30 : decode cX6_findXs 30 = .ok (.iconst 1, 1) := by decide +kernel
theorem dX6_findXs_31 : decode cX6_findXs 31 = .ok (.isub, 1) := by decide +kernel
theorem dX6_findXs_32 : decode cX6_findXs 32 = .ok (.laload, 1) := by decide +kernel
theorem dX6_findXs_33 : decode cX6_findXs 33 = .ok (.aload_n 0, 1) := by decide +kernel
theorem dX6_findXs_34 : decode cX6_findXs 34 = .ok (.getfield 15, 3) := by decide +kernel
theorem dX6_findXs_37 : decode cX6_findXs 37 = .ok (.aload_n 0, 1) := by decide +kernel
theorem dX6_findXs_38 : decode cX6_findXs 38 = .ok (.getfield 39, 3) := by decide +kernel
theorem dX6_findXs_41 : decode cX6_findXs 41 = .ok (.iconst 1, 1) := by decide +kernel
theorem dX6_findXs_42 : decode cX6_findXs 42 = .ok (.isub, 1) := by decide +kernel
theorem dX6_findXs_43 : decode cX6_findXs 43 = .ok (.laload, 1) := by decide +kernel
theorem dX6_findXs_44 : decode cX6_findXs 44 = .ok (.aload_n 1, 1) := by decide +kernel
theorem dX6_findXs_45 : decode cX6_findXs 45 = .ok (.getfield 61, 3) := by decide +kernel
theorem dX6_findXs_48 : decode cX6_findXs 48 = .ok (.iload_n 2, 1) := by decide +kernel
theorem dX6_findXs_49 : decode cX6_findXs 49 = .ok (.laload, 1) := by decide +kernel
theorem dX6_findXs_50 : decode cX6_findXs 50 = .ok (.aload_n 1, 1) := by decide +kernel
theorem dX6_findXs_51 : decode cX6_findXs 51 = .ok (.getfield 62, 3) := by decide +kernel
theorem dX6_findXs_54 : decode cX6_findXs 54 = .ok (.iload_n 2, 1) := by decide +kernel
theorem dX6_findXs_55 : decode cX6_findXs 55 = .ok (.laload, 1) := by decide +kernel
theorem dX6_findXs_56 : decode cX6_findXs 56 = .ok (.invokestatic 63, 3) := by decide +kernel
theorem dX6_findXs_59 : decode cX6_findXs 59 = .ok (.ifCond .eq 7, 3) := by decide +kernel
theorem dX6_findXs_62 : decode cX6_findXs 62 = .ok (.iconst 1, 1) := by decide +kernel
theorem dX6_findXs_63 : decode cX6_findXs 63 = .ok (.goto 4, 3) := by decide +kernel
theorem dX6_findXs_66 : decode cX6_findXs 66 = .ok (.iconst 0, 1) := by decide +kernel
theorem dX6_findXs_67 : decode cX6_findXs 67 = .ok (.istore_n 3, 1) := by decide +kernel
theorem dX6_findXs_68 : decode cX6_findXs 68 = .ok (.iload_n 3, 1) := by decide +kernel
theorem dX6_findXs_69 : decode cX6_findXs 69 = .ok (.ifCond .eq 52, 3) := by decide +kernel
theorem dX6_findXs_72 : decode cX6_findXs 72 = .ok (.aload_n 0, 1) := by decide +kernel
theorem dX6_findXs_73 : decode cX6_findXs 73 = .ok (.getfield 39, 3) := by decide +kernel
theorem dX6_findXs_76 : decode cX6_findXs 76 = .ok (.bipush 65, 2) := by decide +kernel
theorem dX6_findXs_78 : decode cX6_findXs 78 = .ok (.if_icmp .ge 43, 3) := by decide +kernel
theorem dX6_findXs_81 : decode cX6_findXs 81 = .ok (.aload_n 0, 1) := by decide +kernel
theorem dX6_findXs_82 : decode cX6_findXs 82 = .ok (.getfield 9, 3) := by decide +kernel
theorem dX6_findXs_85 : decode cX6_findXs 85 = .ok (.aload_n 0, 1) := by decide +kernel
theorem dX6_findXs_86 : decode cX6_findXs 86 = .ok (.getfield 39, 3) := by decide +kernel
theorem dX6_findXs_89 : decode cX6_findXs 89 = .ok (.aload_n 1, 1) := by decide +kernel
theorem dX6_findXs_90 : decode cX6_findXs 90 = .ok (.getfield 61, 3) := by decide +kernel
theorem dX6_findXs_93 : decode cX6_findXs 93 = .ok (.iload_n 2, 1) := by decide +kernel
theorem dX6_findXs_94 : decode cX6_findXs 94 = .ok (.laload, 1) := by decide +kernel
theorem dX6_findXs_95 : decode cX6_findXs 95 = .ok (.lastore, 1) := by decide +kernel
theorem dX6_findXs_96 : decode cX6_findXs 96 = .ok (.aload_n 0, 1) := by decide +kernel
theorem dX6_findXs_97 : decode cX6_findXs 97 = .ok (.getfield 15, 3) := by decide +kernel
theorem dX6_findXs_100 : decode cX6_findXs 100 = .ok (.aload_n 0, 1) := by decide +kernel
theorem dX6_findXs_101 : decode cX6_findXs 101 = .ok (.getfield 39, 3) := by decide +kernel
theorem dX6_findXs_104 : decode cX6_findXs 104 = .ok (.aload_n 1, 1) := by decide +kernel
theorem dX6_findXs_105 : decode cX6_findXs 105 = .ok (.getfield 62, 3) := by decide +kernel
theorem dX6_findXs_108 : decode cX6_findXs 108 = .ok (.iload_n 2, 1) := by decide +kernel
theorem dX6_findXs_109 : decode cX6_findXs 109 = .ok (.laload, 1) := by decide +kernel
theorem dX6_findXs_110 : decode cX6_findXs 110 = .ok (.lastore, 1) := by decide +kernel
theorem dX6_findXs_111 : decode cX6_findXs 111 = .ok (.aload_n 0, 1) := by decide +kernel
theorem dX6_findXs_112 : decode cX6_findXs 112 = .ok (.dup, 1) := by decide +kernel
theorem dX6_findXs_113 : decode cX6_findXs 113 = .ok (.getfield 39, 3) := by decide +kernel
theorem dX6_findXs_116 : decode cX6_findXs 116 = .ok (.iconst 1, 1) := by decide +kernel
theorem dX6_findXs_117 : decode cX6_findXs 117 = .ok (.iadd, 1) := by decide +kernel
theorem dX6_findXs_118 : decode cX6_findXs 118 = .ok (.putfield 39, 3) := by decide +kernel
theorem dX6_findXs_121 : decode cX6_findXs 121 = .ok (.iinc 2 1, 3) := by decide +kernel
theorem dX6_findXs_124 : decode cX6_findXs 124 = .ok (.goto (-117), 3) := by decide +kernel
theorem dX6_findXs_127 : decode cX6_findXs 127 = .ok (.return_, 1) := by decide +kernel
theorem dX6_addCells_0 : decode cX6_addCells 0 = .ok (.iconst 0, 1) := by decide +kernel
theorem dX6_addCells_1 : decode cX6_addCells 1 = .ok (.istore 4, 2) := by decide +kernel
theorem dX6_addCells_3 : decode cX6_addCells 3 = .ok (.iconst 0, 1) := by decide +kernel
theorem dX6_addCells_4 : decode cX6_addCells 4 = .ok (.istore 5, 2) := by decide +kernel
theorem dX6_addCells_6 : decode cX6_addCells 6 = .ok (.iconst (-1), 1) := by decide +kernel
theorem dX6_addCells_7 : decode cX6_addCells 7 = .ok (.istore 6, 2) := by decide +kernel
theorem dX6_addCells_9 : decode cX6_addCells 9 = .ok (.iconst 0, 1) := by decide +kernel
theorem dX6_addCells_10 : decode cX6_addCells 10 = .ok (.istore 7, 2) := by decide +kernel
theorem dX6_addCells_12 : decode cX6_addCells 12 = .ok (.iload 7, 2) := by decide +kernel
theorem dX6_addCells_14 : decode cX6_addCells 14 = .ok (.aload_n 2, 1) := by decide +kernel
theorem dX6_addCells_15 : decode cX6_addCells 15 = .ok (.getfield 67, 3) := by decide +kernel
theorem dX6_addCells_18 : decode cX6_addCells 18 = .ok (.if_icmp .ge 89, 3) := by decide +kernel
theorem dX6_addCells_21 : decode cX6_addCells 21 = .ok (.aload_n 2, 1) := by decide +kernel
theorem dX6_addCells_22 : decode cX6_addCells 22 = .ok (.getfield 68, 3) := by decide +kernel
theorem dX6_addCells_25 : decode cX6_addCells 25 = .ok (.iload 7, 2) := by decide +kernel
theorem dX6_addCells_27 : decode cX6_addCells 27 = .ok (.iaload, 1) := by decide +kernel
theorem dX6_addCells_28 : decode cX6_addCells 28 = .ok (.istore 8, 2) := by decide +kernel
theorem dX6_addCells_30 : decode cX6_addCells 30 = .ok (.aload_n 1, 1) := by decide +kernel
theorem dX6_addCells_31 : decode cX6_addCells 31 = .ok (.iload 8, 2) := by decide +kernel
theorem dX6_addCells_33 : decode cX6_addCells 33 = .ok (.aload_n 0, 1) := by decide +kernel
theorem dX6_addCells_34 : decode cX6_addCells 34 = .ok (.getfield 9, 3) := by decide +kernel
theorem dX6_addCells_37 : decode cX6_addCells 37 = .ok (.iload_n 3, 1) := by decide +kernel
theorem dX6_addCells_38 : decode cX6_addCells 38 = .ok (.laload, 1) := by decide +kernel
theorem dX6_addCells_39 : decode cX6_addCells 39 = .ok (.aload_n 0, 1) := by decide +kernel
theorem dX6_addCells_40 : decode cX6_addCells 40 = .ok (.getfield 15, 3) := by decide +kernel
theorem dX6_addCells_43 : decode cX6_addCells 43 = .ok (.iload_n 3, 1) := by decide +kernel
theorem dX6_addCells_44 : decode cX6_addCells 44 = .ok (.laload, 1) := by decide +kernel
theorem dX6_addCells_45 : decode cX6_addCells 45 = .ok (.invokevirtual 71, 3) := by decide +kernel
theorem dX6_addCells_48 : decode cX6_addCells 48 = .ok (.ifCond .ne 6, 3) := by decide +kernel
theorem dX6_addCells_51 : decode cX6_addCells 51 = .ok (.goto 50, 3) := by decide +kernel
theorem dX6_addCells_54 : decode cX6_addCells 54 = .ok (.iload 6, 2) := by decide +kernel
theorem dX6_addCells_56 : decode cX6_addCells 56 = .ok (.iconst (-1), 1) := by decide +kernel
theorem dX6_addCells_57 : decode cX6_addCells 57 = .ok (.if_icmp .eq 31, 3) := by decide +kernel
theorem dX6_addCells_60 : decode cX6_addCells 60 = .ok (.aload_n 2, 1) := by decide +kernel
theorem dX6_addCells_61 : decode cX6_addCells 61 = .ok (.aload_n 1, 1) := by decide +kernel
theorem dX6_addCells_62 : decode cX6_addCells 62 = .ok (.iload 6, 2) := by decide +kernel
theorem dX6_addCells_64 : decode cX6_addCells 64 = .ok (.iload 8, 2) := by decide +kernel
theorem dX6_addCells_66 : decode cX6_addCells 66 = .ok (.invokevirtual 77, 3) := by decide +kernel
theorem dX6_addCells_69 : decode cX6_addCells 69 = .ok (.ifCond .eq 19, 3) := by decide +kernel
theorem dX6_addCells_72 : decode cX6_addCells 72 = .ok (.aload_n 0, 1) := by decide +kernel
theorem dX6_addCells_73 : decode cX6_addCells 73 = .ok (.iload_n 3, 1) := by decide +kernel
theorem dX6_addCells_74 : decode cX6_addCells 74 = .ok (.iload 4, 2) := by decide +kernel
theorem dX6_addCells_76 : decode cX6_addCells 76 = .ok (.iload 5, 2) := by decide +kernel
theorem dX6_addCells_78 : decode cX6_addCells 78 = .ok (.invokevirtual 42, 3) := by decide +kernel
theorem dX6_addCells_81 : decode cX6_addCells 81 = .ok (.iload 5, 2) := by decide +kernel
theorem dX6_addCells_83 : decode cX6_addCells 83 = .ok (.istore 4, 2) := by decide +kernel
theorem dX6_addCells_85 : decode cX6_addCells 85 = .ok (.iconst 0, 1) := by decide +kernel
theorem dX6_addCells_86 : decode cX6_addCells 86 = .ok (.istore 5, 2) := by decide +kernel
theorem dX6_addCells_88 : decode cX6_addCells 88 = .ok (.iload 5, 2) := by decide +kernel
theorem dX6_addCells_90 : decode cX6_addCells 90 = .ok (.iconst 1, 1) := by decide +kernel
theorem dX6_addCells_91 : decode cX6_addCells 91 = .ok (.iload 8, 2) := by decide +kernel
theorem dX6_addCells_93 : decode cX6_addCells 93 = .ok (.ishl, 1) := by decide +kernel
theorem dX6_addCells_94 : decode cX6_addCells 94 = .ok (.ior, 1) := by decide +kernel
theorem dX6_addCells_95 : decode cX6_addCells 95 = .ok (.istore 5, 2) := by decide +kernel
theorem dX6_addCells_97 : decode cX6_addCells 97 = .ok (.iload 8, 2) := by decide +kernel
theorem dX6_addCells_99 : decode cX6_addCells 99 = .ok (.istore 6, 2) := by decide +kernel
theorem dX6_addCells_101 : decode cX6_addCells 101 = .ok (.iinc 7 1, 3) := by decide +kernel
theorem dX6_addCells_104 : decode cX6_addCells 104 = .ok (.goto (-92), 3) := by decide +kernel
theorem dX6_addCells_107 : decode cX6_addCells 107 = .ok (.iload 6, 2) := by decide +kernel
theorem dX6_addCells_109 : decode cX6_addCells 109 = .ok (.iconst (-1), 1) := by decide +kernel
theorem dX6_addCells_110 : decode cX6_addCells 110 = .ok (.if_icmp .eq 12, 3) := by decide +kernel
theorem dX6_addCells_113 : decode cX6_addCells 113 = .ok (.aload_n 0, 1) := by decide +kernel
theorem dX6_addCells_114 : decode cX6_addCells 114 = .ok (.iload_n 3, 1) := by decide +kernel
theorem dX6_addCells_115 : decode cX6_addCells 115 = .ok (.iload 4, 2) := by decide +kernel
theorem dX6_addCells_117 : decode cX6_addCells 117 = .ok (.iload 5, 2) := by decide +kernel
theorem dX6_addCells_119 : decode cX6_addCells 119 = .ok (.invokevirtual 42, 3) := by decide +kernel
theorem dX6_addCells_122 : decode cX6_addCells 122 = .ok (.aload_n 0, 1) := by decide +kernel
theorem dX6_addCells_123 : decode cX6_addCells 123 = .ok (.iload_n 3, 1) := by decide +kernel
theorem dX6_addCells_124 : decode cX6_addCells 124 = .ok (.iload 5, 2) := by decide +kernel
theorem dX6_addCells_126 : decode cX6_addCells 126 = .ok (.iconst 0, 1) := by decide +kernel
theorem dX6_addCells_127 : decode cX6_addCells 127 = .ok (.invokevirtual 42, 3) := by decide +kernel
theorem dX6_addCells_130 : decode cX6_addCells 130 = .ok (.return_, 1) := by decide +kernel
theorem dX6_addCell_0 : decode cX6_addCell 0 = .ok (.aload_n 0, 1) := by decide +kernel
theorem dX6_addCell_1 : decode cX6_addCell 1 = .ok (.getfield 35, 3) := by decide +kernel
theorem dX6_addCell_4 : decode cX6_addCell 4 = .ok (.sipush 726, 3) := by decide +kernel
theorem dX6_addCell_7 : decode cX6_addCell 7 = .ok (.if_icmp .ge 43, 3) := by decide +kernel
theorem dX6_addCell_10 : decode cX6_addCell 10 = .ok (.aload_n 0, 1) := by decide +kernel
theorem dX6_addCell_11 : decode cX6_addCell 11 = .ok (.getfield 22, 3) := by decide +kernel
theorem dX6_addCell_14 : decode cX6_addCell 14 = .ok (.aload_n 0, 1) := by decide +kernel
theorem dX6_addCell_15 : decode cX6_addCell 15 = .ok (.getfield 35, 3) := by decide +kernel
theorem dX6_addCell_18 : decode cX6_addCell 18 = .ok (.iload_n 1, 1) := by decide +kernel
theorem dX6_addCell_19 : decode cX6_addCell 19 = .ok (.iastore, 1) := by decide +kernel
theorem dX6_addCell_20 : decode cX6_addCell 20 = .ok (.aload_n 0, 1) := by decide +kernel
theorem dX6_addCell_21 : decode cX6_addCell 21 = .ok (.getfield 25, 3) := by decide +kernel
theorem dX6_addCell_24 : decode cX6_addCell 24 = .ok (.aload_n 0, 1) := by decide +kernel
theorem dX6_addCell_25 : decode cX6_addCell 25 = .ok (.getfield 35, 3) := by decide +kernel
theorem dX6_addCell_28 : decode cX6_addCell 28 = .ok (.iload_n 2, 1) := by decide +kernel
theorem dX6_addCell_29 : decode cX6_addCell 29 = .ok (.iastore, 1) := by decide +kernel
theorem dX6_addCell_30 : decode cX6_addCell 30 = .ok (.aload_n 0, 1) := by decide +kernel
theorem dX6_addCell_31 : decode cX6_addCell 31 = .ok (.getfield 28, 3) := by decide +kernel
theorem dX6_addCell_34 : decode cX6_addCell 34 = .ok (.aload_n 0, 1) := by decide +kernel
theorem dX6_addCell_35 : decode cX6_addCell 35 = .ok (.getfield 35, 3) := by decide +kernel
theorem dX6_addCell_38 : decode cX6_addCell 38 = .ok (.iload_n 3, 1) := by decide +kernel
theorem dX6_addCell_39 : decode cX6_addCell 39 = .ok (.iastore, 1) := by decide +kernel
theorem dX6_addCell_40 : decode cX6_addCell 40 = .ok (.aload_n 0, 1) := by decide +kernel
theorem dX6_addCell_41 : decode cX6_addCell 41 = .ok (.dup, 1) := by decide +kernel
theorem dX6_addCell_42 : decode cX6_addCell 42 = .ok (.getfield 35, 3) := by decide +kernel
theorem dX6_addCell_45 : decode cX6_addCell 45 = .ok (.iconst 1, 1) := by decide +kernel
theorem dX6_addCell_46 : decode cX6_addCell 46 = .ok (.iadd, 1) := by decide +kernel
theorem dX6_addCell_47 : decode cX6_addCell 47 = .ok (.putfield 35, 3) := by decide +kernel
theorem dX6_addCell_50 : decode cX6_addCell 50 = .ok (.return_, 1) := by decide +kernel
theorem dX6_cellAround_0 : decode cX6_cellAround 0 = .ok (.iconst 0, 1) := by decide +kernel
theorem dX6_cellAround_1 : decode cX6_cellAround 1 = .ok (.istore 5, 2) := by decide +kernel
theorem dX6_cellAround_3 : decode cX6_cellAround 3 = .ok (.iconst 0, 1) := by decide +kernel
theorem dX6_cellAround_4 : decode cX6_cellAround 4 = .ok (.istore 6, 2) := by decide +kernel
theorem dX6_cellAround_6 : decode cX6_cellAround 6 = .ok (.iload 6, 2) := by decide +kernel
theorem dX6_cellAround_8 : decode cX6_cellAround 8 = .ok (.aload_n 0, 1) := by decide +kernel
theorem dX6_cellAround_9 : decode cX6_cellAround 9 = .ok (.getfield 39, 3) := by decide +kernel
theorem dX6_cellAround_12 : decode cX6_cellAround 12 = .ok (.if_icmp .ge 40, 3) := by decide +kernel
theorem dX6_cellAround_15 : decode cX6_cellAround 15 = .ok (.aload_n 0, 1) := by decide +kernel
theorem dX6_cellAround_16 : decode cX6_cellAround 16 = .ok (.getfield 9, 3) := by decide +kernel
theorem dX6_cellAround_19 : decode cX6_cellAround 19 = .ok (.iload 6, 2) := by decide +kernel
theorem dX6_cellAround_21 : decode cX6_cellAround 21 = .ok (.laload, 1) := by decide +kernel
theorem dX6_cellAround_22 : decode cX6_cellAround 22 = .ok (.iload 4, 2) := by decide +kernel
theorem dX6_cellAround_24 : decode cX6_cellAround 24 = .ok (.i2l, 1) := by decide +kernel
theorem dX6_cellAround_25 : decode cX6_cellAround 25 = .ok (.lmul, 1) := by decide +kernel
theorem dX6_cellAround_26 : decode cX6_cellAround 26 = .ok (.iload_n 2, 1) := by decide +kernel
theorem dX6_cellAround_27 : decode cX6_cellAround 27 = .ok (.i2l, 1) := by decide +kernel
theorem dX6_cellAround_28 : decode cX6_cellAround 28 = .ok (.aload_n 0, 1) := by decide +kernel
theorem dX6_cellAround_29 : decode cX6_cellAround 29 = .ok (.getfield 15, 3) := by decide +kernel
theorem dX6_cellAround_32 : decode cX6_cellAround 32 = .ok (.iload 6, 2) := by decide +kernel
theorem dX6_cellAround_34 : decode cX6_cellAround 34 = .ok (.laload, 1) := by decide +kernel
theorem dX6_cellAround_35 : decode cX6_cellAround 35 = .ok (.lmul, 1) := by decide +kernel
theorem dX6_cellAround_36 : decode cX6_cellAround 36 = .ok (.lcmp, 1) := by decide +kernel
theorem dX6_cellAround_37 : decode cX6_cellAround 37 = .ok (.ifCond .gt 15, 3) := by decide +kernel
theorem dX6_cellAround_40 : decode cX6_cellAround 40 = .ok (.iload 6, 2) := by decide +kernel
theorem dX6_cellAround_42 : decode cX6_cellAround 42 = .ok (.iconst 1, 1) := by decide +kernel
theorem dX6_cellAround_43 : decode cX6_cellAround 43 = .ok (.iadd, 1) := by decide +kernel
theorem dX6_cellAround_44 : decode cX6_cellAround 44 = .ok (.istore 5, 2) := by decide +kernel
theorem dX6_cellAround_46 : decode cX6_cellAround 46 = .ok (.iinc 6 1, 3) := by decide +kernel
theorem dX6_cellAround_49 : decode cX6_cellAround 49 = .ok (.goto (-43), 3) := by decide +kernel
theorem dX6_cellAround_52 : decode cX6_cellAround 52 = .ok (.aload_n 0, 1) := by decide +kernel
theorem dX6_cellAround_53 : decode cX6_cellAround 53 = .ok (.getfield 18, 3) := by decide +kernel
theorem dX6_cellAround_56 : decode cX6_cellAround 56 = .ok (.iload 5, 2) := by decide +kernel
theorem dX6_cellAround_58 : decode cX6_cellAround 58 = .ok (.iaload, 1) := by decide +kernel
theorem dX6_cellAround_59 : decode cX6_cellAround 59 = .ok (.istore 6, 2) := by decide +kernel
theorem dX6_cellAround_61 : decode cX6_cellAround 61 = .ok (.aload_n 0, 1) := by decide +kernel
theorem dX6_cellAround_62 : decode cX6_cellAround 62 = .ok (.getfield 18, 3) := by decide +kernel
theorem dX6_cellAround_65 : decode cX6_cellAround 65 = .ok (.iload 5, 2) := by decide +kernel
theorem dX6_cellAround_67 : decode cX6_cellAround 67 = .ok (.iaload, 1) := by decide +kernel
theorem dX6_cellAround_68 : decode cX6_cellAround 68 = .ok (.istore 7, 2) := by decide +kernel
theorem dX6_cellAround_70 : decode cX6_cellAround 70 = .ok (.iload 7, 2) := by decide +kernel
theorem dX6_cellAround_72 : decode cX6_cellAround 72 = .ok (.iconst 1, 1) := by decide +kernel
theorem dX6_cellAround_73 : decode cX6_cellAround 73 = .ok (.iadd, 1) := by decide +kernel
theorem dX6_cellAround_74 : decode cX6_cellAround 74 = .ok (.aload_n 0, 1) := by decide +kernel
theorem dX6_cellAround_75 : decode cX6_cellAround 75 = .ok (.getfield 18, 3) := by decide +kernel
theorem dX6_cellAround_78 : decode cX6_cellAround 78 = .ok (.iload 5, 2) := by decide +kernel
theorem dX6_cellAround_80 : decode cX6_cellAround 80 = .ok (.iconst 1, 1) := by decide +kernel
theorem dX6_cellAround_81 : decode cX6_cellAround 81 = .ok (.iadd, 1) := by decide +kernel
theorem dX6_cellAround_82 : decode cX6_cellAround 82 = .ok (.iaload, 1) := by decide +kernel
theorem dX6_cellAround_83 : decode cX6_cellAround 83 = .ok (.if_icmp .ge 60, 3) := by decide +kernel
theorem dX6_cellAround_86 : decode cX6_cellAround 86 = .ok (.aload_n 0, 1) := by decide +kernel
theorem dX6_cellAround_87 : decode cX6_cellAround 87 = .ok (.getfield 28, 3) := by decide +kernel
theorem dX6_cellAround_90 : decode cX6_cellAround 90 = .ok (.iload 7, 2) := by decide +kernel
theorem dX6_cellAround_92 : decode cX6_cellAround 92 = .ok (.iaload, 1) := by decide +kernel
theorem dX6_cellAround_93 : decode cX6_cellAround 93 = .ok (.invokestatic 81, 3) := by decide +kernel
theorem dX6_cellAround_96 : decode cX6_cellAround 96 = .ok (.istore 8, 2) := by decide +kernel
theorem dX6_cellAround_98 : decode cX6_cellAround 98 = .ok (.iload 8, 2) := by decide +kernel
theorem dX6_cellAround_100 : decode cX6_cellAround 100 = .ok (.iconst (-1), 1) := by decide +kernel
theorem dX6_cellAround_101 : decode cX6_cellAround 101 = .ok (.if_icmp .eq 42, 3) := by decide +kernel
theorem dX6_cellAround_104 : decode cX6_cellAround 104 = .ok (.aload_n 1, 1) := by decide +kernel
theorem dX6_cellAround_105 : decode cX6_cellAround 105 = .ok (.iload 8, 2) := by decide +kernel
theorem dX6_cellAround_107 : decode cX6_cellAround 107 = .ok (.iload_n 2, 1) := by decide +kernel
theorem dX6_cellAround_108 : decode cX6_cellAround 108 = .ok (.i2l, 1) := by decide +kernel
theorem dX6_cellAround_109 : decode cX6_cellAround 109 = .ok (.iload 4, 2) := by decide +kernel
theorem dX6_cellAround_111 : decode cX6_cellAround 111 = .ok (.i2l, 1) := by decide +kernel
theorem dX6_cellAround_112 : decode cX6_cellAround 112 = .ok (.invokevirtual 85, 3) := by decide +kernel
theorem dX6_cellAround_115 : decode cX6_cellAround 115 = .ok (.iload_n 3, 1) := by decide +kernel
theorem dX6_cellAround_116 : decode cX6_cellAround 116 = .ok (.i2l, 1) := by decide +kernel
theorem dX6_cellAround_117 : decode cX6_cellAround 117 = .ok (.aload_n 1, 1) := by decide +kernel
theorem dX6_cellAround_118 : decode cX6_cellAround 118 = .ok (.iload 8, 2) := by decide +kernel
theorem dX6_cellAround_120 : decode cX6_cellAround 120 = .ok (.invokevirtual 89, 3) := by decide +kernel
theorem dX6_cellAround_123 : decode cX6_cellAround 123 = .ok (.lmul, 1) := by decide +kernel
theorem dX6_cellAround_124 : decode cX6_cellAround 124 = .ok (.lcmp, 1) := by decide +kernel
theorem dX6_cellAround_125 : decode cX6_cellAround 125 = .ok (.ifCond .le 6, 3) := by decide +kernel
theorem dX6_cellAround_128 : decode cX6_cellAround 128 = .ok (.goto 15, 3) := by decide +kernel
theorem dX6_cellAround_131 : decode cX6_cellAround 131 = .ok (.iload 7, 2) := by decide +kernel
theorem dX6_cellAround_133 : decode cX6_cellAround 133 = .ok (.iconst 1, 1) := by decide +kernel
theorem dX6_cellAround_134 : decode cX6_cellAround 134 = .ok (.iadd, 1) := by decide +kernel
theorem dX6_cellAround_135 : decode cX6_cellAround 135 = .ok (.istore 6, 2) := by decide +kernel
theorem dX6_cellAround_137 : decode cX6_cellAround 137 = .ok (.iinc 7 1, 3) := by decide +kernel
theorem dX6_cellAround_140 : decode cX6_cellAround 140 = .ok (.goto (-70), 3) := by decide +kernel
theorem dX6_cellAround_143 : decode cX6_cellAround 143 = .ok (.iload 6, 2) := by decide +kernel
theorem dX6_cellAround_145 : decode cX6_cellAround 145 = .ok (.ireturn, 1) := by decide +kernel
theorem dX7_stand_0 : decode cX7_stand 0 = .ok (.aload_n 0, 1) := by decide +kernel
theorem dX7_stand_1 : decode cX7_stand 1 = .ok (.iconst 0, 1) := by decide +kernel
theorem dX7_stand_2 : decode cX7_stand 2 = .ok (.putfield 19, 3) := by decide +kernel
theorem dX7_stand_5 : decode cX7_stand 5 = .ok (.iconst 0, 1) := by decide +kernel
theorem dX7_stand_6 : decode cX7_stand 6 = .ok (.istore 6, 2) := by decide +kernel
theorem dX7_stand_8 : decode cX7_stand 8 = .ok (.iload 6, 2) := by decide +kernel
theorem dX7_stand_10 : decode cX7_stand 10 = .ok (.aload_n 1, 1) := by decide +kernel
theorem dX7_stand_11 : decode cX7_stand 11 = .ok (.getfield 23, 3) := by decide +kernel
theorem dX7_stand_14 : decode cX7_stand 14 = .ok (.if_icmp .ge 53, 3) := by decide +kernel
theorem dX7_stand_17 : decode cX7_stand 17 = .ok (.aload_n 1, 1) := by decide +kernel
theorem dX7_stand_18 : decode cX7_stand 18 = .ok (.iload 6, 2) := by decide +kernel
theorem dX7_stand_20 : decode cX7_stand 20 = .ok (.invokevirtual 26, 3) := by decide +kernel
theorem dX7_stand_23 : decode cX7_stand 23 = .ok (.ifCond .ne 38, 3) := by decide +kernel
theorem dX7_stand_26 : decode cX7_stand 26 = .ok (.aload_n 1, 1) := by decide +kernel
theorem dX7_stand_27 : decode cX7_stand 27 = .ok (.iload 6, 2) := by decide +kernel
theorem dX7_stand_29 : decode cX7_stand 29 = .ok (.lload_n 2, 1) := by decide +kernel
theorem dX7_stand_30 : decode cX7_stand 30 = .ok (.lload 4, 2) := by decide +kernel
theorem dX7_stand_32 : decode cX7_stand 32 = .ok (.invokevirtual 30, 3) := by decide +kernel
theorem dX7_stand_35 : decode cX7_stand 35 = .ok (.ifCond .eq 26, 3) := by decide +kernel
theorem dX7_stand_38 : decode cX7_stand 38 = .ok (.aload_n 0, 1) := by decide +kernel
theorem dX7_stand_39 : decode cX7_stand 39 = .ok (.getfield 15, 3) := by decide +kernel
theorem dX7_stand_42 : decode cX7_stand 42 = .ok (.iload 6, 2) := by decide +kernel
theorem dX7_stand_44 : decode cX7_stand 44 = .ok (.aload_n 1, 1) := by decide +kernel
theorem dX7_stand_45 : decode cX7_stand 45 = .ok (.iload 6, 2) := by decide +kernel
theorem dX7_stand_47 : decode cX7_stand 47 = .ok (.lload_n 2, 1) := by decide +kernel
theorem dX7_stand_48 : decode cX7_stand 48 = .ok (.lload 4, 2) := by decide +kernel
theorem dX7_stand_50 : decode cX7_stand 50 = .ok (.invokevirtual 34, 3) := by decide +kernel
theorem dX7_stand_53 : decode cX7_stand 53 = .ok (.lastore, 1) := by decide +kernel
theorem dX7_stand_54 : decode cX7_stand 54 = .ok (.aload_n 0, 1) := by decide +kernel
theorem dX7_stand_55 : decode cX7_stand 55 = .ok (.aload_n 1, 1) := by decide +kernel
theorem dX7_stand_56 : decode cX7_stand 56 = .ok (.iload 6, 2) := by decide +kernel
theorem dX7_stand_58 : decode cX7_stand 58 = .ok (.invokevirtual 37, 3) := by decide +kernel
theorem dX7_stand_61 : decode cX7_stand 61 = .ok (.iinc 6 1, 3) := by decide +kernel
theorem dX7_stand_64 : decode cX7_stand 64 = .ok (.goto (-56), 3) := by decide +kernel
theorem dX7_stand_67 : decode cX7_stand 67 = .ok (.return_, 1) := by decide +kernel
theorem dX7_let_0 : decode cX7_let 0 = .ok (.aload_n 0, 1) := by decide +kernel
theorem dX7_let_1 : decode cX7_let 1 = .ok (.getfield 19, 3) := by decide +kernel
theorem dX7_let_4 : decode cX7_let 4 = .ok (.istore_n 3, 1) := by decide +kernel
theorem dX7_let_5 : decode cX7_let 5 = .ok (.aload_n 0, 1) := by decide +kernel
theorem dX7_let_6 : decode cX7_let 6 = .ok (.getfield 19, 3) := by decide +kernel
theorem dX7_let_9 : decode cX7_let 9 = .ok (.iconst 1, 1) := by decide +kernel
theorem dX7_let_10 : decode cX7_let 10 = .ok (.isub, 1) := by decide +kernel
theorem dX7_let_11 : decode cX7_let 11 = .ok (.istore 4, 2) := by decide +kernel
theorem dX7_let_13 : decode cX7_let 13 = .ok (.iload 4, 2) := by decide +kernel
theorem dX7_let_15 : decode cX7_let 15 = .ok (.ifCond .lt 44, 3) := by decide +kernel
theorem dX7_let_18 : decode cX7_let 18 = .ok (.aload_n 0, 1) := by decide +kernel
theorem dX7_let_19 : decode cX7_let 19 = .ok (.aload_n 1, 1) := by decide +kernel
theorem dX7_let_20 : decode cX7_let 20 = .ok (.aload_n 0, 1) := by decide +kernel
theorem dX7_let_21 : decode cX7_let 21 = .ok (.getfield 9, 3) := by decide +kernel
theorem dX7_let_24 : decode cX7_let 24 = .ok (.iload 4, 2) := by decide +kernel
theorem dX7_let_26 : decode cX7_let 26 = .ok (.iaload, 1) := by decide +kernel
theorem dX7_let_27 : decode cX7_let 27 = .ok (.iload_n 2, 1) := by decide +kernel
theorem dX7_let_28 : decode cX7_let 28 = .ok (.invokevirtual 41, 3) := by decide +kernel
theorem dX7_let_31 : decode cX7_let 31 = .ok (.ifCond .le 28, 3) := by decide +kernel
theorem dX7_let_34 : decode cX7_let 34 = .ok (.aload_n 0, 1) := by decide +kernel
theorem dX7_let_35 : decode cX7_let 35 = .ok (.getfield 9, 3) := by decide +kernel
theorem dX7_let_38 : decode cX7_let 38 = .ok (.iload 4, 2) := by decide +kernel
theorem dX7_let_40 : decode cX7_let 40 = .ok (.iconst 1, 1) := by decide +kernel
theorem dX7_let_41 : decode cX7_let 41 = .ok (.iadd, 1) := by decide +kernel
theorem dX7_let_42 : decode cX7_let 42 = .ok (.aload_n 0, 1) := by decide +kernel
theorem dX7_let_43 : decode cX7_let 43 = .ok (.getfield 9, 3) := by decide +kernel
theorem dX7_let_46 : decode cX7_let 46 = .ok (.iload 4, 2) := by decide +kernel
theorem dX7_let_48 : decode cX7_let 48 = .ok (.iaload, 1) := by decide +kernel
theorem dX7_let_49 : decode cX7_let 49 = .ok (.iastore, 1) := by decide +kernel
theorem dX7_let_50 : decode cX7_let 50 = .ok (.iload 4, 2) := by decide +kernel
theorem dX7_let_52 : decode cX7_let 52 = .ok (.istore_n 3, 1) := by decide +kernel
theorem dX7_let_53 : decode cX7_let 53 = .ok (.iinc 4 (-1), 3) := by decide +kernel
theorem dX7_let_56 : decode cX7_let 56 = .ok (.goto (-43), 3) := by decide +kernel
theorem dX7_let_59 : decode cX7_let 59 = .ok (.aload_n 0, 1) := by decide +kernel
theorem dX7_let_60 : decode cX7_let 60 = .ok (.getfield 9, 3) := by decide +kernel
theorem dX7_let_63 : decode cX7_let 63 = .ok (.iload_n 3, 1) := by decide +kernel
theorem dX7_let_64 : decode cX7_let 64 = .ok (.iload_n 2, 1) := by decide +kernel
theorem dX7_let_65 : decode cX7_let 65 = .ok (.iastore, 1) := by decide +kernel
theorem dX7_let_66 : decode cX7_let 66 = .ok (.aload_n 0, 1) := by decide +kernel
theorem dX7_let_67 : decode cX7_let 67 = .ok (.dup, 1) := by decide +kernel
theorem dX7_let_68 : decode cX7_let 68 = .ok (.getfield 19, 3) := by decide +kernel
theorem dX7_let_71 : decode cX7_let 71 = .ok (.iconst 1, 1) := by decide +kernel
theorem dX7_let_72 : decode cX7_let 72 = .ok (.iadd, 1) := by decide +kernel
theorem dX7_let_73 : decode cX7_let 73 = .ok (.putfield 19, 3) := by decide +kernel
theorem dX7_let_76 : decode cX7_let 76 = .ok (.return_, 1) := by decide +kernel
theorem dX7_compareTwo_0 : decode cX7_compareTwo 0 = .ok (.aload_n 0, 1) := by decide +kernel
theorem dX7_compareTwo_1 : decode cX7_compareTwo 1 = .ok (.getfield 15, 3) := by decide +kernel
theorem dX7_compareTwo_4 : decode cX7_compareTwo 4 = .ok (.iload_n 2, 1) := by decide +kernel
theorem dX7_compareTwo_5 : decode cX7_compareTwo 5 = .ok (.laload, 1) := by decide +kernel
theorem dX7_compareTwo_6 : decode cX7_compareTwo 6 = .ok (.aload_n 1, 1) := by decide +kernel
theorem dX7_compareTwo_7 : decode cX7_compareTwo 7 = .ok (.iload_n 2, 1) := by decide +kernel
theorem dX7_compareTwo_8 : decode cX7_compareTwo 8 = .ok (.invokevirtual 45, 3) := by decide +kernel
theorem dX7_compareTwo_11 : decode cX7_compareTwo 11 = .ok (.aload_n 0, 1) := by decide +kernel
theorem dX7_compareTwo_12 : decode cX7_compareTwo 12 = .ok (.getfield 15, 3) := by decide +kernel
theorem dX7_compareTwo_15 : decode cX7_compareTwo 15 = .ok (.iload_n 3, 1) := by decide +kernel
theorem dX7_compareTwo_16 : decode cX7_compareTwo 16 = .ok (.laload, 1) := by decide +kernel
theorem dX7_compareTwo_17 : decode cX7_compareTwo 17 = .ok (.aload_n 1, 1) := by decide +kernel
theorem dX7_compareTwo_18 : decode cX7_compareTwo 18 = .ok (.iload_n 3, 1) := by decide +kernel
theorem dX7_compareTwo_19 : decode cX7_compareTwo 19 = .ok (.invokevirtual 45, 3) := by decide +kernel
theorem dX7_compareTwo_22 : decode cX7_compareTwo 22 = .ok (.invokestatic 49, 3) := by decide +kernel
theorem dX7_compareTwo_25 : decode cX7_compareTwo 25 = .ok (.istore 4, 2) := by decide +kernel
theorem dX7_compareTwo_27 : decode cX7_compareTwo 27 = .ok (.iload 4, 2) := by decide +kernel
theorem dX7_compareTwo_29 : decode cX7_compareTwo 29 = .ok (.ifCond .eq 8, 3) := by decide +kernel
theorem dX7_compareTwo_32 : decode cX7_compareTwo 32 = .ok (.iload 4, 2) := by decide +kernel
theorem dX7_compareTwo_34 : decode cX7_compareTwo 34 = .ok (.goto 26, 3) := by decide +kernel
theorem dX7_compareTwo_37 : decode cX7_compareTwo 37 = .ok (.aload_n 1, 1) := by decide +kernel
theorem dX7_compareTwo_38 : decode cX7_compareTwo 38 = .ok (.iload_n 2, 1) := by decide +kernel
theorem dX7_compareTwo_39 : decode cX7_compareTwo 39 = .ok (.invokevirtual 53, 3) := by decide +kernel
theorem dX7_compareTwo_42 : decode cX7_compareTwo 42 = .ok (.aload_n 1, 1) := by decide +kernel
theorem dX7_compareTwo_43 : decode cX7_compareTwo 43 = .ok (.iload_n 2, 1) := by decide +kernel
theorem dX7_compareTwo_44 : decode cX7_compareTwo 44 = .ok (.invokevirtual 45, 3) := by decide +kernel
theorem dX7_compareTwo_47 : decode cX7_compareTwo 47 = .ok (.aload_n 1, 1) := by decide +kernel
theorem dX7_compareTwo_48 : decode cX7_compareTwo 48 = .ok (.iload_n 3, 1) := by decide +kernel
theorem dX7_compareTwo_49 : decode cX7_compareTwo 49 = .ok (.invokevirtual 53, 3) := by decide +kernel
theorem dX7_compareTwo_52 : decode cX7_compareTwo 52 = .ok (.aload_n 1, 1) := by decide +kernel
theorem dX7_compareTwo_53 : decode cX7_compareTwo 53 = .ok (.iload_n 3, 1) := by decide +kernel
theorem dX7_compareTwo_54 : decode cX7_compareTwo 54 = .ok (.invokevirtual 45, 3) := by decide +kernel
theorem dX7_compareTwo_57 : decode cX7_compareTwo 57 = .ok (.invokestatic 49, 3) := by decide +kernel
theorem dX7_compareTwo_60 : decode cX7_compareTwo 60 = .ok (.ireturn, 1) := by decide +kernel
theorem dX8_find_0 : decode cX8_find 0 = .ok (.aload_n 0, 1) := by decide +kernel
theorem dX8_find_1 : decode cX8_find 1 = .ok (.iconst 0, 1) := by decide +kernel
theorem dX8_find_2 : decode cX8_find 2 = .ok (.putfield 34, 3) := by decide +kernel
theorem dX8_find_5 : decode cX8_find 5 = .ok (.iconst 0, 1) := by decide +kernel
theorem dX8_find_6 : decode cX8_find 6 = .ok (.istore_n 3, 1) := by decide +kernel
theorem dX8_find_7 : decode cX8_find 7 = .ok (.iload_n 3, 1) := by decide +kernel
theorem dX8_find_8 : decode cX8_find 8 = .ok (.aload_n 2, 1) := by decide +kernel
theorem dX8_find_9 : decode cX8_find 9 = .ok (.getfield 38, 3) := by decide +kernel
theorem dX8_find_12 : decode cX8_find 12 = .ok (.if_icmp .ge 127, 3) := by decide +kernel
theorem dX8_find_15 : decode cX8_find 15 = .ok (.aload_n 0, 1) := by decide +kernel
theorem dX8_find_16 : decode cX8_find 16 = .ok (.aload_n 1, 1) := by decide +kernel
theorem dX8_find_17 : decode cX8_find 17 = .ok (.aload_n 2, 1) := by decide +kernel
theorem dX8_find_18 : decode cX8_find 18 = .ok (.getfield 43, 3) := by decide +kernel
theorem dX8_find_21 : decode cX8_find 21 = .ok (.iload_n 3, 1) := by decide +kernel
theorem dX8_find_22 : decode cX8_find 22 = .ok (.laload, 1) := by decide +kernel
theorem dX8_find_23 : decode cX8_find 23 = .ok (.aload_n 2, 1) := by decide +kernel
theorem dX8_find_24 : decode cX8_find 24 = .ok (.getfield 46, 3) := by decide +kernel
theorem dX8_find_27 : decode cX8_find 27 = .ok (.iload_n 3, 1) := by decide +kernel
theorem dX8_find_28 : decode cX8_find 28 = .ok (.laload, 1) := by decide +kernel
theorem dX8_find_29 : decode cX8_find 29 = .ok (.invokevirtual 49, 3) := by decide +kernel
theorem dX8_find_32 : decode cX8_find 32 = .ok (.aload_n 2, 1) := by decide +kernel
theorem dX8_find_33 : decode cX8_find 33 = .ok (.getfield 53, 3) := by decide +kernel
theorem dX8_find_36 : decode cX8_find 36 = .ok (.iload_n 3, 1) := by decide +kernel
theorem dX8_find_37 : decode cX8_find 37 = .ok (.iaload, 1) := by decide +kernel
theorem dX8_find_38 : decode cX8_find 38 = .ok (.istore 4, 2) := by decide +kernel
theorem dX8_find_40 : decode cX8_find 40 = .ok (.aload_n 2, 1) := by decide +kernel
theorem dX8_find_41 : decode cX8_find 41 = .ok (.getfield 53, 3) := by decide +kernel
theorem dX8_find_44 : decode cX8_find 44 = .ok (.iload_n 3, 1) := by decide +kernel
theorem dX8_find_45 : decode cX8_find 45 = .ok (.iconst 1, 1) := by decide +kernel
theorem dX8_find_46 : decode cX8_find 46 = .ok (.iadd, 1) := by decide +kernel
theorem dX8_find_47 : decode cX8_find 47 = .ok (.iaload, 1) := by decide +kernel
theorem dX8_find_48 : decode cX8_find 48 = .ok (.istore 5, 2) := by decide +kernel
theorem dX8_find_50 : decode cX8_find 50 = .ok (.iconst 0, 1) := by decide +kernel
theorem dX8_find_51 : decode cX8_find 51 = .ok (.istore 6, 2) := by decide +kernel
theorem dX8_find_53 : decode cX8_find 53 = .ok (.iload 6, 2) := by decide +kernel
theorem dX8_find_55 : decode cX8_find 55 = .ok (.aload_n 0, 1) := by decide +kernel
theorem dX8_find_56 : decode cX8_find 56 = .ok (.getfield 56, 3) := by decide +kernel
theorem dX8_find_59 : decode cX8_find 59 = .ok (.if_icmp .gt 74, 3) := by decide +kernel
theorem dX8_find_62 : decode cX8_find 62 = .ok (.aload_n 0, 1) := by decide +kernel
theorem dX8_find_63 : decode cX8_find 63 = .ok (.aload_n 2, 1) := by decide +kernel
theorem dX8_find_64 : decode cX8_find 64 = .ok (.iload 4, 2) := by decide +kernel
theorem dX8_find_66 : decode cX8_find 66 = .ok (.aload_n 2, 1) := by decide +kernel
theorem dX8_find_67 : decode cX8_find 67 = .ok (.getfield 53, 3) := by decide +kernel
theorem dX8_find_70 : decode cX8_find 70 = .ok (.iload_n 3, 1) := by decide +kernel
theorem dX8_find_71 : decode cX8_find 71 = .ok (.iconst 1, 1) := by decide +kernel
theorem dX8_find_72 : decode cX8_find 72 = .ok (.iadd, 1) := by decide +kernel
theorem dX8_find_73 : decode cX8_find 73 = .ok (.iaload, 1) := by decide +kernel
theorem dX8_find_74 : decode cX8_find 74 = .ok (.iload 6, 2) := by decide +kernel
theorem dX8_find_76 : decode cX8_find 76 = .ok (.invokevirtual 59, 3) := by decide +kernel
theorem dX8_find_79 : decode cX8_find 79 = .ok (.istore 4, 2) := by decide +kernel
theorem dX8_find_81 : decode cX8_find 81 = .ok (.aload_n 0, 1) := by decide +kernel
theorem dX8_find_82 : decode cX8_find 82 = .ok (.aload_n 2, 1) := by decide +kernel
theorem dX8_find_83 : decode cX8_find 83 = .ok (.iload 5, 2) := by decide +kernel
theorem dX8_find_85 : decode cX8_find 85 = .ok (.aload_n 2, 1) := by decide +kernel
theorem dX8_find_86 : decode cX8_find 86 = .ok (.getfield 53, 3) := by decide +kernel
theorem dX8_find_89 : decode cX8_find 89 = .ok (.iload_n 3, 1) := by decide +kernel
