theorem dX0_init_0 : decode cX0_init 0 = .ok (.aload_n 0, 1) := by decide +kernel
theorem dX0_init_1 : decode cX0_init 1 = .ok (.invokespecial 3, 3) := by decide +kernel
theorem dX0_init_4 : decode cX0_init 4 = .ok (.aload_n 0, 1) := by decide +kernel
theorem dX0_init_5 : decode cX0_init 5 = .ok (.iconst 0, 1) := by decide +kernel
theorem dX0_init_6 : decode cX0_init 6 = .ok (.putfield 9, 3) := by decide +kernel
theorem dX0_init_9 : decode cX0_init 9 = .ok (.aload_n 0, 1) := by decide +kernel
theorem dX0_init_10 : decode cX0_init 10 = .ok (.iconst 5, 1) := by decide +kernel
theorem dX0_init_11 : decode cX0_init 11 = .ok (.newarray .int, 2) := by decide +kernel
theorem dX0_init_13 : decode cX0_init 13 = .ok (.putfield 15, 3) := by decide +kernel
theorem dX0_init_16 : decode cX0_init 16 = .ok (.aload_n 0, 1) := by decide +kernel
theorem dX0_init_17 : decode cX0_init 17 = .ok (.iconst 5, 1) := by decide +kernel
theorem dX0_init_18 : decode cX0_init 18 = .ok (.newarray .int, 2) := by decide +kernel
theorem dX0_init_20 : decode cX0_init 20 = .ok (.putfield 19, 3) := by decide +kernel
theorem dX0_init_23 : decode cX0_init 23 = .ok (.aload_n 0, 1) := by decide +kernel
theorem dX0_init_24 : decode cX0_init 24 = .ok (.iconst 5, 1) := by decide +kernel
theorem dX0_init_25 : decode cX0_init 25 = .ok (.newarray .int, 2) := by decide +kernel
theorem dX0_init_27 : decode cX0_init 27 = .ok (.putfield 22, 3) := by decide +kernel
theorem dX0_init_30 : decode cX0_init 30 = .ok (.aload_n 0, 1) := by decide +kernel
theorem dX0_init_31 : decode cX0_init 31 = .ok (.iconst 0, 1) := by decide +kernel
theorem dX0_init_32 : decode cX0_init 32 = .ok (.putfield 25, 3) := by decide +kernel
theorem dX0_init_35 : decode cX0_init 35 = .ok (.aload_n 0, 1) := by decide +kernel
theorem dX0_init_36 : decode cX0_init 36 = .ok (.iconst 5, 1) := by decide +kernel
theorem dX0_init_37 : decode cX0_init 37 = .ok (.newarray .int, 2) := by decide +kernel
theorem dX0_init_39 : decode cX0_init 39 = .ok (.putfield 28, 3) := by decide +kernel
theorem dX0_init_42 : decode cX0_init 42 = .ok (.aload_n 0, 1) := by decide +kernel
theorem dX0_init_43 : decode cX0_init 43 = .ok (.iconst 5, 1) := by decide +kernel
theorem dX0_init_44 : decode cX0_init 44 = .ok (.newarray .int, 2) := by decide +kernel
theorem dX0_init_46 : decode cX0_init 46 = .ok (.putfield 31, 3) := by decide +kernel
theorem dX0_init_49 : decode cX0_init 49 = .ok (.aload_n 0, 1) := by decide +kernel
theorem dX0_init_50 : decode cX0_init 50 = .ok (.bipush 32, 2) := by decide +kernel
theorem dX0_init_52 : decode cX0_init 52 = .ok (.newarray .int, 2) := by decide +kernel
theorem dX0_init_54 : decode cX0_init 54 = .ok (.putfield 34, 3) := by decide +kernel
theorem dX0_init_57 : decode cX0_init 57 = .ok (.aload_n 0, 1) := by decide +kernel
theorem dX0_init_58 : decode cX0_init 58 = .ok (.bipush 32, 2) := by decide +kernel
theorem dX0_init_60 : decode cX0_init 60 = .ok (.newarray .int, 2) := by decide +kernel
theorem dX0_init_62 : decode cX0_init 62 = .ok (.putfield 37, 3) := by decide +kernel
theorem dX0_init_65 : decode cX0_init 65 = .ok (.aload_n 0, 1) := by decide +kernel
theorem dX0_init_66 : decode cX0_init 66 = .ok (.bipush 32, 2) := by decide +kernel
theorem dX0_init_68 : decode cX0_init 68 = .ok (.newarray .int, 2) := by decide +kernel
theorem dX0_init_70 : decode cX0_init 70 = .ok (.putfield 40, 3) := by decide +kernel
theorem dX0_init_73 : decode cX0_init 73 = .ok (.aload_n 0, 1) := by decide +kernel
theorem dX0_init_74 : decode cX0_init 74 = .ok (.bipush 32, 2) := by decide +kernel
theorem dX0_init_76 : decode cX0_init 76 = .ok (.newarray .int, 2) := by decide +kernel
theorem dX0_init_78 : decode cX0_init 78 = .ok (.putfield 43, 3) := by decide +kernel
theorem dX0_init_81 : decode cX0_init 81 = .ok (.aload_n 0, 1) := by decide +kernel
theorem dX0_init_82 : decode cX0_init 82 = .ok (.bipush 32, 2) := by decide +kernel
theorem dX0_init_84 : decode cX0_init 84 = .ok (.newarray .int, 2) := by decide +kernel
theorem dX0_init_86 : decode cX0_init 86 = .ok (.putfield 46, 3) := by decide +kernel
theorem dX0_init_89 : decode cX0_init 89 = .ok (.aload_n 0, 1) := by decide +kernel
theorem dX0_init_90 : decode cX0_init 90 = .ok (.iconst 0, 1) := by decide +kernel
theorem dX0_init_91 : decode cX0_init 91 = .ok (.putfield 49, 3) := by decide +kernel
theorem dX0_init_94 : decode cX0_init 94 = .ok (.aload_n 0, 1) := by decide +kernel
theorem dX0_init_95 : decode cX0_init 95 = .ok (.iconst 1, 1) := by decide +kernel
theorem dX0_init_96 : decode cX0_init 96 = .ok (.putfield 52, 3) := by decide +kernel
theorem dX0_init_99 : decode cX0_init 99 = .ok (.aload_n 0, 1) := by decide +kernel
theorem dX0_init_100 : decode cX0_init 100 = .ok (.bipush 32, 2) := by decide +kernel
theorem dX0_init_102 : decode cX0_init 102 = .ok (.newarray .int, 2) := by decide +kernel
theorem dX0_init_104 : decode cX0_init 104 = .ok (.putfield 55, 3) := by decide +kernel
theorem dX0_init_107 : decode cX0_init 107 = .ok (.aload_n 0, 1) := by decide +kernel
theorem dX0_init_108 : decode cX0_init 108 = .ok (.aload_n 1, 1) := by decide +kernel
theorem dX0_init_109 : decode cX0_init 109 = .ok (.putfield 58, 3) := by decide +kernel
theorem dX0_init_112 : decode cX0_init 112 = .ok (.return_, 1) := by decide +kernel
theorem dX0_look_0 : decode cX0_look 0 = .ok (.aload_n 0, 1) := by decide +kernel
theorem dX0_look_1 : decode cX0_look 1 = .ok (.aload_n 1, 1) := by decide +kernel
theorem dX0_look_2 : decode cX0_look 2 = .ok (.getfield 62, 3) := by decide +kernel
theorem dX0_look_5 : decode cX0_look 5 = .ok (.putfield 9, 3) := by decide +kernel
theorem dX0_look_8 : decode cX0_look 8 = .ok (.iconst 0, 1) := by decide +kernel
theorem dX0_look_9 : decode cX0_look 9 = .ok (.istore_n 3, 1) := by decide +kernel
theorem dX0_look_10 : decode cX0_look 10 = .ok (.iload_n 3, 1) := by decide +kernel
theorem dX0_look_11 : decode cX0_look 11 = .ok (.aload_n 0, 1) := by decide +kernel
theorem dX0_look_12 : decode cX0_look 12 = .ok (.getfield 9, 3) := by decide +kernel
theorem dX0_look_15 : decode cX0_look 15 = .ok (.if_icmp .ge 71, 3) := by decide +kernel
theorem dX0_look_18 : decode cX0_look 18 = .ok (.aload_n 0, 1) := by decide +kernel
theorem dX0_look_19 : decode cX0_look 19 = .ok (.getfield 58, 3) := by decide +kernel
theorem dX0_look_22 : decode cX0_look 22 = .ok (.aload_n 1, 1) := by decide +kernel
theorem dX0_look_23 : decode cX0_look 23 = .ok (.iload_n 2, 1) := by decide +kernel
theorem dX0_look_24 : decode cX0_look 24 = .ok (.aload_n 1, 1) := by decide +kernel
theorem dX0_look_25 : decode cX0_look 25 = .ok (.getfield 65, 3) := by decide +kernel
theorem dX0_look_28 : decode cX0_look 28 = .ok (.iload_n 3, 1) := by decide +kernel
theorem dX0_look_29 : decode cX0_look 29 = .ok (.iaload, 1) := by decide +kernel
theorem dX0_look_30 : decode cX0_look 30 = .ok (.aload_n 1, 1) := by decide +kernel
theorem dX0_look_31 : decode cX0_look 31 = .ok (.getfield 68, 3) := by decide +kernel
theorem dX0_look_34 : decode cX0_look 34 = .ok (.iload_n 3, 1) := by decide +kernel
theorem dX0_look_35 : decode cX0_look 35 = .ok (.iaload, 1) := by decide +kernel
theorem dX0_look_36 : decode cX0_look 36 = .ok (.iconst (-1), 1) := by decide +kernel
theorem dX0_look_37 : decode cX0_look 37 = .ok (.iconst 0, 1) := by decide +kernel
theorem dX0_look_38 : decode cX0_look 38 = .ok (.invokevirtual 71, 3) := by decide +kernel
theorem dX0_look_41 : decode cX0_look 41 = .ok (.aload_n 0, 1) := by decide +kernel
theorem dX0_look_42 : decode cX0_look 42 = .ok (.getfield 15, 3) := by decide +kernel
theorem dX0_look_45 : decode cX0_look 45 = .ok (.iload_n 3, 1) := by decide +kernel
theorem dX0_look_46 : decode cX0_look 46 = .ok (.aload_n 0, 1) := by decide +kernel
theorem dX0_look_47 : decode cX0_look 47 = .ok (.getfield 58, 3) := by decide +kernel
theorem dX0_look_50 : decode cX0_look 50 = .ok (.getfield 77, 3) := by decide +kernel
theorem dX0_look_53 : decode cX0_look 53 = .ok (.iastore, 1) := by decide +kernel
theorem dX0_look_54 : decode cX0_look 54 = .ok (.aload_n 0, 1) := by decide +kernel
theorem dX0_look_55 : decode cX0_look 55 = .ok (.getfield 19, 3) := by decide +kernel
theorem dX0_look_58 : decode cX0_look 58 = .ok (.iload_n 3, 1) := by decide +kernel
theorem dX0_look_59 : decode cX0_look 59 = .ok (.aload_n 0, 1) := by decide +kernel
theorem dX0_look_60 : decode cX0_look 60 = .ok (.getfield 58, 3) := by decide +kernel
theorem dX0_look_63 : decode cX0_look 63 = .ok (.getfield 79, 3) := by decide +kernel
theorem dX0_look_66 : decode cX0_look 66 = .ok (.iastore, 1) := by decide +kernel
theorem dX0_look_67 : decode cX0_look 67 = .ok (.aload_n 0, 1) := by decide +kernel
theorem dX0_look_68 : decode cX0_look 68 = .ok (.getfield 22, 3) := by decide +kernel
theorem dX0_look_71 : decode cX0_look 71 = .ok (.iload_n 3, 1) := by decide +kernel
theorem dX0_look_72 : decode cX0_look 72 = .ok (.aload_n 0, 1) := by decide +kernel
theorem dX0_look_73 : decode cX0_look 73 = .ok (.getfield 58, 3) := by decide +kernel
theorem dX0_look_76 : decode cX0_look 76 = .ok (.invokevirtual 81, 3) := by decide +kernel
theorem dX0_look_79 : decode cX0_look 79 = .ok (.iastore, 1) := by decide +kernel
theorem dX0_look_80 : decode cX0_look 80 = .ok (.iinc 3 1, 3) := by decide +kernel
theorem dX0_look_83 : decode cX0_look 83 = .ok (.goto (-73), 3) := by decide +kernel
theorem dX0_look_86 : decode cX0_look 86 = .ok (.return_, 1) := by decide +kernel
theorem dX0_behind_0 : decode cX0_behind 0 = .ok (.iload_n 2, 1) := by decide +kernel
theorem dX0_behind_1 : decode cX0_behind 1 = .ok (.aload_n 0, 1) := by decide +kernel
theorem dX0_behind_2 : decode cX0_behind 2 = .ok (.getfield 15, 3) := by decide +kernel
theorem dX0_behind_5 : decode cX0_behind 5 = .ok (.iload_n 1, 1) := by decide +kernel
theorem dX0_behind_6 : decode cX0_behind 6 = .ok (.iaload, 1) := by decide +kernel
theorem dX0_behind_7 : decode cX0_behind 7 = .ok (.iand, 1) := by decide +kernel
theorem dX0_behind_8 : decode cX0_behind 8 = .ok (.aload_n 0, 1) := by decide +kernel
theorem dX0_behind_9 : decode cX0_behind 9 = .ok (.getfield 19, 3) := by decide +kernel
theorem dX0_behind_12 : decode cX0_behind 12 = .ok (.iload_n 1, 1) := by decide +kernel
theorem dX0_behind_13 : decode cX0_behind 13 = .ok (.iaload, 1) := by decide +kernel
theorem dX0_behind_14 : decode cX0_behind 14 = .ok (.ixor, 1) := by decide +kernel
theorem dX0_behind_15 : decode cX0_behind 15 = .ok (.ireturn, 1) := by decide +kernel
theorem dX0_findOrder_0 : decode cX0_findOrder 0 = .ok (.aload_n 0, 1) := by decide +kernel
theorem dX0_findOrder_1 : decode cX0_findOrder 1 = .ok (.aload_n 1, 1) := by decide +kernel
theorem dX0_findOrder_2 : decode cX0_findOrder 2 = .ok (.aload_n 1, 1) := by decide +kernel
theorem dX0_findOrder_3 : decode cX0_findOrder 3 = .ok (.getfield 84, 3) := by decide +kernel
theorem dX0_findOrder_6 : decode cX0_findOrder 6 = .ok (.invokevirtual 87, 3) := by decide +kernel
theorem dX0_findOrder_9 : decode cX0_findOrder 9 = .ok (.aload_n 0, 1) := by decide +kernel
theorem dX0_findOrder_10 : decode cX0_findOrder 10 = .ok (.ldc 91, 2) := by decide +kernel
theorem dX0_findOrder_12 : decode cX0_findOrder 12 = .ok (.putfield 25, 3) := by decide +kernel
theorem dX0_findOrder_15 : decode cX0_findOrder 15 = .ok (.aload_n 0, 1) := by decide +kernel
theorem dX0_findOrder_16 : decode cX0_findOrder 16 = .ok (.aload_n 1, 1) := by decide +kernel
theorem dX0_findOrder_17 : decode cX0_findOrder 17 = .ok (.iconst 0, 1) := by decide +kernel
theorem dX0_findOrder_18 : decode cX0_findOrder 18 = .ok (.iconst 0, 1) := by decide +kernel
theorem dX0_findOrder_19 : decode cX0_findOrder 19 = .ok (.aload_n 1, 1) := by decide +kernel
theorem dX0_findOrder_20 : decode cX0_findOrder 20 = .ok (.getfield 92, 3) := by decide +kernel
theorem dX0_findOrder_23 : decode cX0_findOrder 23 = .ok (.iconst 0, 1) := by decide +kernel
theorem dX0_findOrder_24 : decode cX0_findOrder 24 = .ok (.invokevirtual 95, 3) := by decide +kernel
theorem dX0_findOrder_27 : decode cX0_findOrder 27 = .ok (.return_, 1) := by decide +kernel
theorem dX0_findRest_0 : decode cX0_findRest 0 = .ok (.iload_n 2, 1) := by decide +kernel
theorem dX0_findRest_1 : decode cX0_findRest 1 = .ok (.aload_n 0, 1) := by decide +kernel
theorem dX0_findRest_2 : decode cX0_findRest 2 = .ok (.getfield 9, 3) := by decide +kernel
theorem dX0_findRest_5 : decode cX0_findRest 5 = .ok (.if_icmp .lt 24, 3) := by decide +kernel
theorem dX0_findRest_8 : decode cX0_findRest 8 = .ok (.aload_n 0, 1) := by decide +kernel
theorem dX0_findRest_9 : decode cX0_findRest 9 = .ok (.iload 5, 2) := by decide +kernel
theorem dX0_findRest_11 : decode cX0_findRest 11 = .ok (.putfield 25, 3) := by decide +kernel
theorem dX0_findRest_14 : decode cX0_findRest 14 = .ok (.aload_n 0, 1) := by decide +kernel
theorem dX0_findRest_15 : decode cX0_findRest 15 = .ok (.getfield 31, 3) := by decide +kernel
theorem dX0_findRest_18 : decode cX0_findRest 18 = .ok (.iconst 0, 1) := by decide +kernel
theorem dX0_findRest_19 : decode cX0_findRest 19 = .ok (.aload_n 0, 1) := by decide +kernel
theorem dX0_findRest_20 : decode cX0_findRest 20 = .ok (.getfield 28, 3) := by decide +kernel
theorem dX0_findRest_23 : decode cX0_findRest 23 = .ok (.iconst 0, 1) := by decide +kernel
theorem dX0_findRest_24 : decode cX0_findRest 24 = .ok (.iconst 5, 1) := by decide +kernel
theorem dX0_findRest_25 : decode cX0_findRest 25 = .ok (.invokestatic 99, 3) := by decide +kernel
theorem dX0_findRest_28 : decode cX0_findRest 28 = .ok (.return_, 1) := by decide +kernel
theorem dX0_findRest_29 : decode cX0_findRest 29 = .ok (.iconst 0, 1) := by decide +kernel
theorem dX0_findRest_30 : decode cX0_findRest 30 = .ok (.istore 6, 2) := by decide +kernel
theorem dX0_findRest_32 : decode cX0_findRest 32 = .ok (.iload 6, 2) := by decide +kernel
theorem dX0_findRest_34 : decode cX0_findRest 34 = .ok (.aload_n 0, 1) := by decide +kernel
theorem dX0_findRest_35 : decode cX0_findRest 35 = .ok (.getfield 9, 3) := by decide +kernel
theorem dX0_findRest_38 : decode cX0_findRest 38 = .ok (.if_icmp .ge 85, 3) := by decide +kernel
theorem dX0_findRest_41 : decode cX0_findRest 41 = .ok (.iload_n 3, 1) := by decide +kernel
theorem dX0_findRest_42 : decode cX0_findRest 42 = .ok (.iload 6, 2) := by decide +kernel
theorem dX0_findRest_44 : decode cX0_findRest 44 = .ok (.invokestatic 105, 3) := by decide +kernel
theorem dX0_findRest_47 : decode cX0_findRest 47 = .ok (.ifCond .eq 6, 3) := by decide +kernel
theorem dX0_findRest_50 : decode cX0_findRest 50 = .ok (.goto 67, 3) := by decide +kernel
theorem dX0_findRest_53 : decode cX0_findRest 53 = .ok (.aload_n 0, 1) := by decide +kernel
theorem dX0_findRest_54 : decode cX0_findRest 54 = .ok (.iload 6, 2) := by decide +kernel
theorem dX0_findRest_56 : decode cX0_findRest 56 = .ok (.iload 4, 2) := by decide +kernel
theorem dX0_findRest_58 : decode cX0_findRest 58 = .ok (.invokevirtual 109, 3) := by decide +kernel
theorem dX0_findRest_61 : decode cX0_findRest 61 = .ok (.istore 7, 2) := by decide +kernel
theorem dX0_findRest_63 : decode cX0_findRest 63 = .ok (.iload 5, 2) := by decide +kernel
theorem dX0_findRest_65 : decode cX0_findRest 65 = .ok (.aload_n 1, 1) := by decide +kernel
theorem dX0_findRest_66 : decode cX0_findRest 66 = .ok (.iload 7, 2) := by decide +kernel
theorem dX0_findRest_68 : decode cX0_findRest 68 = .ok (.iload 4, 2) := by decide +kernel
theorem dX0_findRest_70 : decode cX0_findRest 70 = .ok (.iconst (-1), 1) := by decide +kernel
theorem dX0_findRest_71 : decode cX0_findRest 71 = .ok (.ixor, 1) := by decide +kernel
theorem dX0_findRest_72 : decode cX0_findRest 72 = .ok (.iand, 1) := by decide +kernel
theorem dX0_findRest_73 : decode cX0_findRest 73 = .ok (.invokevirtual 113, 3) := by decide +kernel
theorem dX0_findRest_76 : decode cX0_findRest 76 = .ok (.iadd, 1) := by decide +kernel
theorem dX0_findRest_77 : decode cX0_findRest 77 = .ok (.istore 8, 2) := by decide +kernel
theorem dX0_findRest_79 : decode cX0_findRest 79 = .ok (.iload 8, 2) := by decide +kernel
theorem dX0_findRest_81 : decode cX0_findRest 81 = .ok (.aload_n 0, 1) := by decide +kernel
theorem dX0_findRest_82 : decode cX0_findRest 82 = .ok (.getfield 25, 3) := by decide +kernel
theorem dX0_findRest_85 : decode cX0_findRest 85 = .ok (.if_icmp .lt 6, 3) := by decide +kernel
theorem dX0_findRest_88 : decode cX0_findRest 88 = .ok (.goto 29, 3) := by decide +kernel
theorem dX0_findRest_91 : decode cX0_findRest 91 = .ok (.aload_n 0, 1) := by decide +kernel
theorem dX0_findRest_92 : decode cX0_findRest 92 = .ok (.getfield 31, 3) := by decide +kernel
theorem dX0_findRest_95 : decode cX0_findRest 95 = .ok (.iload_n 2, 1) := by decide +kernel
theorem dX0_findRest_96 : decode cX0_findRest 96 = .ok (.iload 6, 2) := by decide +kernel
theorem dX0_findRest_98 : decode cX0_findRest 98 = .ok (.iastore, 1) := by decide +kernel
theorem dX0_findRest_99 : decode cX0_findRest 99 = .ok (.aload_n 0, 1) := by decide +kernel
theorem dX0_findRest_100 : decode cX0_findRest 100 = .ok (.aload_n 1, 1) := by decide +kernel
theorem dX0_findRest_101 : decode cX0_findRest 101 = .ok (.iload_n 2, 1) := by decide +kernel
theorem dX0_findRest_102 : decode cX0_findRest 102 = .ok (.iconst 1, 1) := by decide +kernel
theorem dX0_findRest_103 : decode cX0_findRest 103 = .ok (.iadd, 1) := by decide +kernel
theorem dX0_findRest_104 : decode cX0_findRest 104 = .ok (.iload_n 3, 1) := by decide +kernel
theorem dX0_findRest_105 : decode cX0_findRest 105 = .ok (.iconst 1, 1) := by decide +kernel
theorem dX0_findRest_106 : decode cX0_findRest 106 = .ok (.iload 6, 2) := by decide +kernel
theorem dX0_findRest_108 : decode cX0_findRest 108 = .ok (.ishl, 1) := by decide +kernel
theorem dX0_findRest_109 : decode cX0_findRest 109 = .ok (.ior, 1) := by decide +kernel
theorem dX0_findRest_110 : decode cX0_findRest 110 = .ok (.iload 7, 2) := by decide +kernel
theorem dX0_findRest_112 : decode cX0_findRest 112 = .ok (.iload 8, 2) := by decide +kernel
theorem dX0_findRest_114 : decode cX0_findRest 114 = .ok (.invokevirtual 95, 3) := by decide +kernel
theorem dX0_findRest_117 : decode cX0_findRest 117 = .ok (.iinc 6 1, 3) := by decide +kernel
theorem dX0_findRest_120 : decode cX0_findRest 120 = .ok (.goto (-88), 3) := by decide +kernel
theorem dX0_findRest_123 : decode cX0_findRest 123 = .ok (.return_, 1) := by decide +kernel
theorem dX0_findCodes_0 : decode cX0_findCodes 0 = .ok (.aload_n 0, 1) := by decide +kernel
theorem dX0_findCodes_1 : decode cX0_findCodes 1 = .ok (.aload_n 1, 1) := by decide +kernel
theorem dX0_findCodes_2 : decode cX0_findCodes 2 = .ok (.aload_n 1, 1) := by decide +kernel
theorem dX0_findCodes_3 : decode cX0_findCodes 3 = .ok (.getfield 84, 3) := by decide +kernel
theorem dX0_findCodes_6 : decode cX0_findCodes 6 = .ok (.invokevirtual 87, 3) := by decide +kernel
theorem dX0_findCodes_9 : decode cX0_findCodes 9 = .ok (.iconst 0, 1) := by decide +kernel
theorem dX0_findCodes_10 : decode cX0_findCodes 10 = .ok (.istore_n 2, 1) := by decide +kernel
theorem dX0_findCodes_11 : decode cX0_findCodes 11 = .ok (.iload_n 2, 1) := by decide +kernel
theorem dX0_findCodes_12 : decode cX0_findCodes 12 = .ok (.bipush 32, 2) := by decide +kernel
theorem dX0_findCodes_14 : decode cX0_findCodes 14 = .ok (.if_icmp .ge 16, 3) := by decide +kernel
theorem dX0_findCodes_17 : decode cX0_findCodes 17 = .ok (.aload_n 0, 1) := by decide +kernel
theorem dX0_findCodes_18 : decode cX0_findCodes 18 = .ok (.getfield 34, 3) := by decide +kernel
theorem dX0_findCodes_21 : decode cX0_findCodes 21 = .ok (.iload_n 2, 1) := by decide +kernel
theorem dX0_findCodes_22 : decode cX0_findCodes 22 = .ok (.iconst (-1), 1) := by decide +kernel
theorem dX0_findCodes_23 : decode cX0_findCodes 23 = .ok (.iastore, 1) := by decide +kernel
theorem dX0_findCodes_24 : decode cX0_findCodes 24 = .ok (.iinc 2 1, 3) := by decide +kernel
theorem dX0_findCodes_27 : decode cX0_findCodes 27 = .ok (.goto (-16), 3) := by decide +kernel
theorem dX0_findCodes_30 : decode cX0_findCodes 30 = .ok (.aload_n 0, 1) := by decide +kernel
theorem dX0_findCodes_31 : decode cX0_findCodes 31 = .ok (.getfield 34, 3) := by decide +kernel
theorem dX0_findCodes_34 : decode cX0_findCodes 34 = .ok (.aload_n 1, 1) := by decide +kernel
theorem dX0_findCodes_35 : decode cX0_findCodes 35 = .ok (.getfield 92, 3) := by decide +kernel
theorem dX0_findCodes_38 : decode cX0_findCodes 38 = .ok (.iconst 0, 1) := by decide +kernel
theorem dX0_findCodes_39 : decode cX0_findCodes 39 = .ok (.iastore, 1) := by decide +kernel
theorem dX0_findCodes_40 : decode cX0_findCodes 40 = .ok (.aload_n 0, 1) := by decide +kernel
theorem dX0_findCodes_41 : decode cX0_findCodes 41 = .ok (.getfield 43, 3) := by decide +kernel
theorem dX0_findCodes_44 : decode cX0_findCodes 44 = .ok (.iconst 0, 1) := by decide +kernel
theorem dX0_findCodes_45 : decode cX0_findCodes 45 = .ok (.aload_n 1, 1) := by decide +kernel
theorem dX0_findCodes_46 : decode cX0_findCodes 46 = .ok (.getfield 92, 3) := by decide +kernel
theorem dX0_findCodes_49 : decode cX0_findCodes 49 = .ok (.iastore, 1) := by decide +kernel
theorem dX0_findCodes_50 : decode cX0_findCodes 50 = .ok (.iconst 1, 1) := by decide +kernel
theorem dX0_findCodes_51 : decode cX0_findCodes 51 = .ok (.istore_n 2, 1) := by decide +kernel
theorem dX0_findCodes_52 : decode cX0_findCodes 52 = .ok (.iconst 0, 1) := by decide +kernel
theorem dX0_findCodes_53 : decode cX0_findCodes 53 = .ok (.istore_n 3, 1) := by decide +kernel
theorem dX0_findCodes_54 : decode cX0_findCodes 54 = .ok (.iload_n 3, 1) := by decide +kernel
theorem dX0_findCodes_55 : decode cX0_findCodes 55 = .ok (.iload_n 2, 1) := by decide +kernel
theorem dX0_findCodes_56 : decode cX0_findCodes 56 = .ok (.if_icmp .ge 116, 3) := by decide +kernel
theorem dX0_findCodes_59 : decode cX0_findCodes 59 = .ok (.iload_n 3, 1) := by decide +kernel
theorem dX0_findCodes_60 : decode cX0_findCodes 60 = .ok (.bipush 32, 2) := by decide +kernel
theorem dX0_findCodes_62 : decode cX0_findCodes 62 = .ok (.if_icmp .ge 110, 3) := by decide +kernel
theorem dX0_findCodes_65 : decode cX0_findCodes 65 = .ok (.aload_n 0, 1) := by decide +kernel
theorem dX0_findCodes_66 : decode cX0_findCodes 66 = .ok (.getfield 43, 3) := by decide +kernel
theorem dX0_findCodes_69 : decode cX0_findCodes 69 = .ok (.iload_n 3, 1) := by decide +kernel
theorem dX0_findCodes_70 : decode cX0_findCodes 70 = .ok (.iaload, 1) := by decide +kernel
theorem dX0_findCodes_71 : decode cX0_findCodes 71 = .ok (.istore 4, 2) := by decide +kernel
theorem dX0_findCodes_73 : decode cX0_findCodes 73 = .ok (.iconst 0, 1) := by decide +kernel
theorem dX0_findCodes_74 : decode cX0_findCodes 74 = .ok (.istore 5, 2) := by decide +kernel
theorem dX0_findCodes_76 : decode cX0_findCodes 76 = .ok (.iload 5, 2) := by decide +kernel
theorem dX0_findCodes_78 : decode cX0_findCodes 78 = .ok (.aload_n 0, 1) := by decide +kernel
theorem dX0_findCodes_79 : decode cX0_findCodes 79 = .ok (.getfield 9, 3) := by decide +kernel
theorem dX0_findCodes_82 : decode cX0_findCodes 82 = .ok (.if_icmp .ge 84, 3) := by decide +kernel
theorem dX0_findCodes_85 : decode cX0_findCodes 85 = .ok (.aload_n 0, 1) := by decide +kernel
theorem dX0_findCodes_86 : decode cX0_findCodes 86 = .ok (.iload 5, 2) := by decide +kernel
theorem dX0_findCodes_88 : decode cX0_findCodes 88 = .ok (.iload 4, 2) := by decide +kernel
theorem dX0_findCodes_90 : decode cX0_findCodes 90 = .ok (.invokevirtual 109, 3) := by decide +kernel
theorem dX0_findCodes_93 : decode cX0_findCodes 93 = .ok (.istore 6, 2) := by decide +kernel
theorem dX0_findCodes_95 : decode cX0_findCodes 95 = .ok (.aload_n 0, 1) := by decide +kernel
theorem dX0_findCodes_96 : decode cX0_findCodes 96 = .ok (.getfield 34, 3) := by decide +kernel
theorem dX0_findCodes_99 : decode cX0_findCodes 99 = .ok (.iload 6, 2) := by decide +kernel
theorem dX0_findCodes_101 : decode cX0_findCodes 101 = .ok (.iaload, 1) := by decide +kernel
theorem dX0_findCodes_102 : decode cX0_findCodes 102 = .ok (.iconst (-1), 1) := by decide +kernel
theorem dX0_findCodes_103 : decode cX0_findCodes 103 = .ok (.if_icmp .ne 57, 3) := by decide +kernel
theorem dX0_findCodes_106 : decode cX0_findCodes 106 = .ok (.iload_n 2, 1) := by decide +kernel
theorem dX0_findCodes_107 : decode cX0_findCodes 107 = .ok (.bipush 32, 2) := by decide +kernel
theorem dX0_findCodes_109 : decode cX0_findCodes 109 = .ok (.if_icmp .lt 6, 3) := by decide +kernel
theorem dX0_findCodes_112 : decode cX0_findCodes 112 = .ok (.goto 48, 3) := by decide +kernel
theorem dX0_findCodes_115 : decode cX0_findCodes 115 = .ok (.aload_n 0, 1) := by decide +kernel
theorem dX0_findCodes_116 : decode cX0_findCodes 116 = .ok (.getfield 34, 3) := by decide +kernel
theorem dX0_findCodes_119 : decode cX0_findCodes 119 = .ok (.iload 6, 2) := by decide +kernel
theorem dX0_findCodes_121 : decode cX0_findCodes 121 = .ok (.aload_n 0, 1) := by decide +kernel
theorem dX0_findCodes_122 : decode cX0_findCodes 122 = .ok (.getfield 34, 3) := by decide +kernel
theorem dX0_findCodes_125 : decode cX0_findCodes 125 = .ok (.iload 4, 2) := by decide +kernel
theorem dX0_findCodes_127 : decode cX0_findCodes 127 = .ok (.iaload, 1) := by decide +kernel
theorem dX0_findCodes_128 : decode cX0_findCodes 128 = .ok (.iconst 1, 1) := by decide +kernel
theorem dX0_findCodes_129 : decode cX0_findCodes 129 = .ok (.iadd, 1) := by decide +kernel
theorem dX0_findCodes_130 : decode cX0_findCodes 130 = .ok (.iastore, 1) := by decide +kernel
theorem dX0_findCodes_131 : decode cX0_findCodes 131 = .ok (.aload_n 0, 1) := by decide +kernel
theorem dX0_findCodes_132 : decode cX0_findCodes 132 = .ok (.getfield 37, 3) := by decide +kernel
theorem dX0_findCodes_135 : decode cX0_findCodes 135 = .ok (.iload 6, 2) := by decide +kernel
theorem dX0_findCodes_137 : decode cX0_findCodes 137 = .ok (.iload 4, 2) := by decide +kernel
theorem dX0_findCodes_139 : decode cX0_findCodes 139 = .ok (.iastore, 1) := by decide +kernel
theorem dX0_findCodes_140 : decode cX0_findCodes 140 = .ok (.aload_n 0, 1) := by decide +kernel
theorem dX0_findCodes_141 : decode cX0_findCodes 141 = .ok (.getfield 40, 3) := by decide +kernel
theorem dX0_findCodes_144 : decode cX0_findCodes 144 = .ok (.iload 6, 2) := by decide +kernel
theorem dX0_findCodes_146 : decode cX0_findCodes 146 = .ok (.iload 5, 2) := by decide +kernel
theorem dX0_findCodes_148 : decode cX0_findCodes 148 = .ok (.iastore, 1) := by decide +kernel
theorem dX0_findCodes_149 : decode cX0_findCodes 149 = .ok (.aload_n 0, 1) := by decide +kernel
theorem dX0_findCodes_150 : decode cX0_findCodes 150 = .ok (.getfield 43, 3) := by decide +kernel
theorem dX0_findCodes_153 : decode cX0_findCodes 153 = .ok (.iload_n 2, 1) := by decide +kernel
theorem dX0_findCodes_154 : decode cX0_findCodes 154 = .ok (.iload 6, 2) := by decide +kernel
theorem dX0_findCodes_156 : decode cX0_findCodes 156 = .ok (.iastore, 1) := by decide +kernel
theorem dX0_findCodes_157 : decode cX0_findCodes 157 = .ok (.iinc 2 1, 3) := by decide +kernel
theorem dX0_findCodes_160 : decode cX0_findCodes 160 = .ok (.iinc 5 1, 3) := by decide +kernel
theorem dX0_findCodes_163 : decode cX0_findCodes 163 = .ok (.goto (-87), 3) := by decide +kernel
theorem dX0_findCodes_166 : decode cX0_findCodes 166 = .ok (.iinc 3 1, 3) := by decide +kernel
theorem dX0_findCodes_169 : decode cX0_findCodes 169 = .ok (.goto (-115), 3) := by decide +kernel
theorem dX0_findCodes_172 : decode cX0_findCodes 172 = .ok (.return_, 1) := by decide +kernel
theorem dX0_stepTo_0 : decode cX0_stepTo 0 = .ok (.iload_n 1, 1) := by decide +kernel
theorem dX0_stepTo_1 : decode cX0_stepTo 1 = .ok (.istore_n 3, 1) := by decide +kernel
theorem dX0_stepTo_2 : decode cX0_stepTo 2 = .ok (.aload_n 0, 1) := by decide +kernel
theorem dX0_stepTo_3 : decode cX0_stepTo 3 = .ok (.getfield 34, 3) := by decide +kernel
theorem dX0_stepTo_6 : decode cX0_stepTo 6 = .ok (.iload_n 1, 1) := by decide +kernel
theorem dX0_stepTo_7 : decode cX0_stepTo 7 = .ok (.iaload, 1) := by decide +kernel
theorem dX0_stepTo_8 : decode cX0_stepTo 8 = .ok (.iconst 1, 1) := by decide +kernel
theorem dX0_stepTo_9 : decode cX0_stepTo 9 = .ok (.isub, 1) := by decide +kernel
theorem dX0_stepTo_10 : decode cX0_stepTo 10 = .ok (.istore 4, 2) := by decide +kernel
theorem dX0_stepTo_12 : decode cX0_stepTo 12 = .ok (.iload 4, 2) := by decide +kernel
theorem dX0_stepTo_14 : decode cX0_stepTo 14 = .ok (.iload_n 2, 1) := by decide +kernel
theorem dX0_stepTo_15 : decode cX0_stepTo 15 = .ok (.if_icmp .le 16, 3) := by decide +kernel
theorem dX0_stepTo_18 : decode cX0_stepTo 18 = .ok (.aload_n 0, 1) := by decide +kernel
theorem dX0_stepTo_19 : decode cX0_stepTo 19 = .ok (.getfield 37, 3) := by decide +kernel
theorem dX0_stepTo_22 : decode cX0_stepTo 22 = .ok (.iload_n 3, 1) := by decide +kernel
theorem dX0_stepTo_23 : decode cX0_stepTo 23 = .ok (.iaload, 1) := by decide +kernel
theorem dX0_stepTo_24 : decode cX0_stepTo 24 = .ok (.istore_n 3, 1) := by decide +kernel
theorem dX0_stepTo_25 : decode cX0_stepTo 25 = .ok (.iinc 4 (-1), 3) := by decide +kernel
theorem dX0_stepTo_28 : decode cX0_stepTo 28 = .ok (.goto (-16), 3) := by decide +kernel
theorem dX0_stepTo_31 : decode cX0_stepTo 31 = .ok (.aload_n 0, 1) := by decide +kernel
theorem dX0_stepTo_32 : decode cX0_stepTo 32 = .ok (.getfield 40, 3) := by decide +kernel
theorem dX0_stepTo_35 : decode cX0_stepTo 35 = .ok (.iload_n 3, 1) := by decide +kernel
theorem dX0_stepTo_36 : decode cX0_stepTo 36 = .ok (.iaload, 1) := by decide +kernel
theorem dX0_stepTo_37 : decode cX0_stepTo 37 = .ok (.ireturn, 1) := by decide +kernel
theorem dX0_findEnds_0 : decode cX0_findEnds 0 = .ok (.aload_n 0, 1) := by decide +kernel
theorem dX0_findEnds_1 : decode cX0_findEnds 1 = .ok (.aload_n 1, 1) := by decide +kernel
theorem dX0_findEnds_2 : decode cX0_findEnds 2 = .ok (.aload_n 1, 1) := by decide +kernel
theorem dX0_findEnds_3 : decode cX0_findEnds 3 = .ok (.getfield 84, 3) := by decide +kernel
theorem dX0_findEnds_6 : decode cX0_findEnds 6 = .ok (.invokevirtual 87, 3) := by decide +kernel
theorem dX0_findEnds_9 : decode cX0_findEnds 9 = .ok (.aload_n 0, 1) := by decide +kernel
theorem dX0_findEnds_10 : decode cX0_findEnds 10 = .ok (.getfield 46, 3) := by decide +kernel
theorem dX0_findEnds_13 : decode cX0_findEnds 13 = .ok (.iconst 0, 1) := by decide +kernel
theorem dX0_findEnds_14 : decode cX0_findEnds 14 = .ok (.aload_n 1, 1) := by decide +kernel
theorem dX0_findEnds_15 : decode cX0_findEnds 15 = .ok (.getfield 92, 3) := by decide +kernel
theorem dX0_findEnds_18 : decode cX0_findEnds 18 = .ok (.iastore, 1) := by decide +kernel
theorem dX0_findEnds_19 : decode cX0_findEnds 19 = .ok (.iconst 0, 1) := by decide +kernel
theorem dX0_findEnds_20 : decode cX0_findEnds 20 = .ok (.istore_n 2, 1) := by decide +kernel
theorem dX0_findEnds_21 : decode cX0_findEnds 21 = .ok (.iload_n 2, 1) := by decide +kernel
theorem dX0_findEnds_22 : decode cX0_findEnds 22 = .ok (.aload_n 0, 1) := by decide +kernel
theorem dX0_findEnds_23 : decode cX0_findEnds 23 = .ok (.getfield 9, 3) := by decide +kernel
theorem dX0_findEnds_26 : decode cX0_findEnds 26 = .ok (.if_icmp .ge 45, 3) := by decide +kernel
theorem dX0_findEnds_29 : decode cX0_findEnds 29 = .ok (.iconst 0, 1) := by decide +kernel
theorem dX0_findEnds_30 : decode cX0_findEnds 30 = .ok (.istore_n 3, 1) := by decide +kernel
theorem dX0_findEnds_31 : decode cX0_findEnds 31 = .ok (.iload_n 3, 1) := by decide +kernel
theorem dX0_findEnds_32 : decode cX0_findEnds 32 = .ok (.iconst 1, 1) := by decide +kernel
theorem dX0_findEnds_33 : decode cX0_findEnds 33 = .ok (.iload_n 2, 1) := by decide +kernel
theorem dX0_findEnds_34 : decode cX0_findEnds 34 = .ok (.ishl, 1) := by decide +kernel
theorem dX0_findEnds_35 : decode cX0_findEnds 35 = .ok (.if_icmp .ge 30, 3) := by decide +kernel
theorem dX0_findEnds_38 : decode cX0_findEnds 38 = .ok (.aload_n 0, 1) := by decide +kernel
theorem dX0_findEnds_39 : decode cX0_findEnds 39 = .ok (.getfield 46, 3) := by decide +kernel
theorem dX0_findEnds_42 : decode cX0_findEnds 42 = .ok (.iload_n 3, 1) := by decide +kernel
theorem dX0_findEnds_43 : decode cX0_findEnds 43 = .ok (.iconst 1, 1) := by decide +kernel
theorem dX0_findEnds_44 : decode cX0_findEnds 44 = .ok (.iload_n 2, 1) := by decide +kernel
theorem dX0_findEnds_45 : decode cX0_findEnds 45 = .ok (.ishl, 1) := by decide +kernel
theorem dX0_findEnds_46 : decode cX0_findEnds 46 = .ok (.ior, 1) := by decide +kernel
theorem dX0_findEnds_47 : decode cX0_findEnds 47 = .ok (.aload_n 0, 1) := by decide +kernel
theorem dX0_findEnds_48 : decode cX0_findEnds 48 = .ok (.iload_n 2, 1) := by decide +kernel
theorem dX0_findEnds_49 : decode cX0_findEnds 49 = .ok (.aload_n 0, 1) := by decide +kernel
theorem dX0_findEnds_50 : decode cX0_findEnds 50 = .ok (.getfield 46, 3) := by decide +kernel
theorem dX0_findEnds_53 : decode cX0_findEnds 53 = .ok (.iload_n 3, 1) := by decide +kernel
theorem dX0_findEnds_54 : decode cX0_findEnds 54 = .ok (.iaload, 1) := by decide +kernel
theorem dX0_findEnds_55 : decode cX0_findEnds 55 = .ok (.invokevirtual 109, 3) := by decide +kernel
theorem dX0_findEnds_58 : decode cX0_findEnds 58 = .ok (.iastore, 1) := by decide +kernel
theorem dX0_findEnds_59 : decode cX0_findEnds 59 = .ok (.iinc 3 1, 3) := by decide +kernel
theorem dX0_findEnds_62 : decode cX0_findEnds 62 = .ok (.goto (-31), 3) := by decide +kernel
theorem dX0_findEnds_65 : decode cX0_findEnds 65 = .ok (.iinc 2 1, 3) := by decide +kernel
theorem dX0_findEnds_68 : decode cX0_findEnds 68 = .ok (.goto (-47), 3) := by decide +kernel
theorem dX0_findEnds_71 : decode cX0_findEnds 71 = .ok (.return_, 1) := by decide +kernel
theorem dX0_howManyEndAt_0 : decode cX0_howManyEndAt 0 = .ok (.iconst 0, 1) := by decide +kernel
theorem dX0_howManyEndAt_1 : decode cX0_howManyEndAt 1 = .ok (.istore_n 2, 1) := by decide +kernel
theorem dX0_howManyEndAt_2 : decode cX0_howManyEndAt 2 = .ok (.iconst 0, 1) := by decide +kernel
theorem dX0_howManyEndAt_3 : decode cX0_howManyEndAt 3 = .ok (.istore_n 3, 1) := by decide +kernel
theorem dX0_howManyEndAt_4 : decode cX0_howManyEndAt 4 = .ok (.iload_n 3, 1) := by decide +kernel
theorem dX0_howManyEndAt_5 : decode cX0_howManyEndAt 5 = .ok (.iconst 1, 1) := by decide +kernel
theorem dX0_howManyEndAt_6 : decode cX0_howManyEndAt 6 = .ok (.aload_n 0, 1) := by decide +kernel
theorem dX0_howManyEndAt_7 : decode cX0_howManyEndAt 7 = .ok (.getfield 9, 3) := by decide +kernel
theorem dX0_howManyEndAt_10 : decode cX0_howManyEndAt 10 = .ok (.ishl, 1) := by decide +kernel
theorem dX0_howManyEndAt_11 : decode cX0_howManyEndAt 11 = .ok (.if_icmp .ge 22, 3) := by decide +kernel
theorem dX0_howManyEndAt_14 : decode cX0_howManyEndAt 14 = .ok (.aload_n 0, 1) := by decide +kernel
theorem dX0_howManyEndAt_15 : decode cX0_howManyEndAt 15 = .ok (.getfield 46, 3) := by decide +kernel
theorem dX0_howManyEndAt_18 : decode cX0_howManyEndAt 18 = .ok (.iload_n 3, 1) := by decide +kernel
theorem dX0_howManyEndAt_19 : decode cX0_howManyEndAt 19 = .ok (.iaload, 1) := by decide +kernel
theorem dX0_howManyEndAt_20 : decode cX0_howManyEndAt 20 = .ok (.iload_n 1, 1) := by decide +kernel
theorem dX0_howManyEndAt_21 : decode cX0_howManyEndAt 21 = .ok (.if_icmp .ne 6, 3) := by decide +kernel
theorem dX0_howManyEndAt_24 : decode cX0_howManyEndAt 24 = .ok (.iinc 2 1, 3) := by decide +kernel
theorem dX0_howManyEndAt_27 : decode cX0_howManyEndAt 27 = .ok (.iinc 3 1, 3) := by decide +kernel
theorem dX0_howManyEndAt_30 : decode cX0_howManyEndAt 30 = .ok (.goto (-26), 3) := by decide +kernel
theorem dX0_howManyEndAt_33 : decode cX0_howManyEndAt 33 = .ok (.iload_n 2, 1) := by decide +kernel
theorem dX0_howManyEndAt_34 : decode cX0_howManyEndAt 34 = .ok (.ireturn, 1) := by decide +kernel
theorem dX0_leastThatEndsAt_0 : decode cX0_leastThatEndsAt 0 = .ok (.iconst 0, 1) := by decide +kernel
theorem dX0_leastThatEndsAt_1 : decode cX0_leastThatEndsAt 1 = .ok (.istore_n 2, 1) := by decide +kernel
theorem dX0_leastThatEndsAt_2 : decode cX0_leastThatEndsAt 2 = .ok (.iload_n 2, 1) := by decide +kernel
theorem dX0_leastThatEndsAt_3 : decode cX0_leastThatEndsAt 3 = .ok (.iconst 1, 1) := by decide +kernel
theorem dX0_leastThatEndsAt_4 : decode cX0_leastThatEndsAt 4 = .ok (.aload_n 0, 1) := by decide +kernel
theorem dX0_leastThatEndsAt_5 : decode cX0_leastThatEndsAt 5 = .ok (.getfield 9, 3) := by decide +kernel
theorem dX0_leastThatEndsAt_8 : decode cX0_leastThatEndsAt 8 = .ok (.ishl, 1) := by decide +kernel
theorem dX0_leastThatEndsAt_9 : decode cX0_leastThatEndsAt 9 = .ok (.if_icmp .ge 21, 3) := by decide +kernel
theorem dX0_leastThatEndsAt_12 : decode cX0_leastThatEndsAt 12 = .ok (.aload_n 0, 1) := by decide +kernel
theorem dX0_leastThatEndsAt_13 : decode cX0_leastThatEndsAt 13 = .ok (.getfield 46, 3) := by decide +kernel
theorem dX0_leastThatEndsAt_16 : decode cX0_leastThatEndsAt 16 = .ok (.iload_n 2, 1) := by decide +kernel
theorem dX0_leastThatEndsAt_17 : decode cX0_leastThatEndsAt 17 = .ok (.iaload, 1) := by decide +kernel
theorem dX0_leastThatEndsAt_18 : decode cX0_leastThatEndsAt 18 = .ok (.iload_n 1, 1) := by decide +kernel
theorem dX0_leastThatEndsAt_19 : decode cX0_leastThatEndsAt 19 = .ok (.if_icmp .ne 5, 3) := by decide +kernel
theorem dX0_leastThatEndsAt_22 : decode cX0_leastThatEndsAt 22 = .ok (.iload_n 2, 1) := by decide +kernel
theorem dX0_leastThatEndsAt_23 : decode cX0_leastThatEndsAt 23 = .ok (.ireturn, 1) := by decide +kernel
theorem dX0_leastThatEndsAt_24 : decode cX0_leastThatEndsAt 24 = .ok (.iinc 2 1, 3) := by decide +kernel
theorem dX0_leastThatEndsAt_27 : decode cX0_leastThatEndsAt 27 = .ok (.goto (-25), 3) := by decide +kernel
theorem dX0_leastThatEndsAt_30 : decode cX0_leastThatEndsAt 30 = .ok (.iconst (-1), 1) := by decide +kernel
theorem dX0_leastThatEndsAt_31 : decode cX0_leastThatEndsAt 31 = .ok (.ireturn, 1) := by decide +kernel
theorem dX0_thatRing_0 : decode cX0_thatRing 0 = .ok (.iconst 0, 1) := by decide +kernel
theorem dX0_thatRing_1 : decode cX0_thatRing 1 = .ok (.istore_n 2, 1) := by decide +kernel
theorem dX0_thatRing_2 : decode cX0_thatRing 2 = .ok (.iconst 0, 1) := by decide +kernel
theorem dX0_thatRing_3 : decode cX0_thatRing 3 = .ok (.istore_n 3, 1) := by decide +kernel
theorem dX0_thatRing_4 : decode cX0_thatRing 4 = .ok (.iload_n 3, 1) := by decide +kernel
theorem dX0_thatRing_5 : decode cX0_thatRing 5 = .ok (.aload_n 0, 1) := by decide +kernel
theorem dX0_thatRing_6 : decode cX0_thatRing 6 = .ok (.getfield 9, 3) := by decide +kernel
theorem dX0_thatRing_9 : decode cX0_thatRing 9 = .ok (.if_icmp .ge 25, 3) := by decide +kernel
theorem dX0_thatRing_12 : decode cX0_thatRing 12 = .ok (.aload_n 0, 1) := by decide +kernel
theorem dX0_thatRing_13 : decode cX0_thatRing 13 = .ok (.getfield 22, 3) := by decide +kernel
theorem dX0_thatRing_16 : decode cX0_thatRing 16 = .ok (.iload_n 3, 1) := by decide +kernel
theorem dX0_thatRing_17 : decode cX0_thatRing 17 = .ok (.iaload, 1) := by decide +kernel
theorem dX0_thatRing_18 : decode cX0_thatRing 18 = .ok (.iload_n 1, 1) := by decide +kernel
theorem dX0_thatRing_19 : decode cX0_thatRing 19 = .ok (.if_icmp .ne 9, 3) := by decide +kernel
theorem dX0_thatRing_22 : decode cX0_thatRing 22 = .ok (.iload_n 2, 1) := by decide +kernel
theorem dX0_thatRing_23 : decode cX0_thatRing 23 = .ok (.iconst 1, 1) := by decide +kernel
theorem dX0_thatRing_24 : decode cX0_thatRing 24 = .ok (.iload_n 3, 1) := by decide +kernel
theorem dX0_thatRing_25 : decode cX0_thatRing 25 = .ok (.ishl, 1) := by decide +kernel
theorem dX0_thatRing_26 : decode cX0_thatRing 26 = .ok (.ior, 1) := by decide +kernel
theorem dX0_thatRing_27 : decode cX0_thatRing 27 = .ok (.istore_n 2, 1) := by decide +kernel
theorem dX0_thatRing_28 : decode cX0_thatRing 28 = .ok (.iinc 3 1, 3) := by decide +kernel
theorem dX0_thatRing_31 : decode cX0_thatRing 31 = .ok (.goto (-27), 3) := by decide +kernel
theorem dX0_thatRing_34 : decode cX0_thatRing 34 = .ok (.iload_n 2, 1) := by decide +kernel
theorem dX0_thatRing_35 : decode cX0_thatRing 35 = .ok (.ireturn, 1) := by decide +kernel
theorem dX0_fewestCuts_0 : decode cX0_fewestCuts 0 = .ok (.iconst (-1), 1) := by decide +kernel
theorem dX0_fewestCuts_1 : decode cX0_fewestCuts 1 = .ok (.istore_n 3, 1) := by decide +kernel
theorem dX0_fewestCuts_2 : decode cX0_fewestCuts 2 = .ok (.bipush 6, 2) := by decide +kernel
theorem dX0_fewestCuts_4 : decode cX0_fewestCuts 4 = .ok (.istore 4, 2) := by decide +kernel
theorem dX0_fewestCuts_6 : decode cX0_fewestCuts 6 = .ok (.iconst 0, 1) := by decide +kernel
theorem dX0_fewestCuts_7 : decode cX0_fewestCuts 7 = .ok (.istore 5, 2) := by decide +kernel
theorem dX0_fewestCuts_9 : decode cX0_fewestCuts 9 = .ok (.iload 5, 2) := by decide +kernel
theorem dX0_fewestCuts_11 : decode cX0_fewestCuts 11 = .ok (.iconst 1, 1) := by decide +kernel
theorem dX0_fewestCuts_12 : decode cX0_fewestCuts 12 = .ok (.aload_n 1, 1) := by decide +kernel
theorem dX0_fewestCuts_13 : decode cX0_fewestCuts 13 = .ok (.getfield 117, 3) := by decide +kernel
theorem dX0_fewestCuts_16 : decode cX0_fewestCuts 16 = .ok (.ishl, 1) := by decide +kernel
theorem dX0_fewestCuts_17 : decode cX0_fewestCuts 17 = .ok (.if_icmp .ge 80, 3) := by decide +kernel
theorem dX0_fewestCuts_20 : decode cX0_fewestCuts 20 = .ok (.iload 5, 2) := by decide +kernel
theorem dX0_fewestCuts_22 : decode cX0_fewestCuts 22 = .ok (.aload_n 1, 1) := by decide +kernel
theorem dX0_fewestCuts_23 : decode cX0_fewestCuts 23 = .ok (.getfield 84, 3) := by decide +kernel
theorem dX0_fewestCuts_26 : decode cX0_fewestCuts 26 = .ok (.iconst (-1), 1) := by decide +kernel
theorem dX0_fewestCuts_27 : decode cX0_fewestCuts 27 = .ok (.ixor, 1) := by decide +kernel
theorem dX0_fewestCuts_28 : decode cX0_fewestCuts 28 = .ok (.iand, 1) := by decide +kernel
theorem dX0_fewestCuts_29 : decode cX0_fewestCuts 29 = .ok (.ifCond .ne 62, 3) := by decide +kernel
theorem dX0_fewestCuts_32 : decode cX0_fewestCuts 32 = .ok (.iload 5, 2) := by decide +kernel
theorem dX0_fewestCuts_34 : decode cX0_fewestCuts 34 = .ok (.invokestatic 120, 3) := by decide +kernel
theorem dX0_fewestCuts_37 : decode cX0_fewestCuts 37 = .ok (.iload 4, 2) := by decide +kernel
theorem dX0_fewestCuts_39 : decode cX0_fewestCuts 39 = .ok (.if_icmp .lt 6, 3) := by decide +kernel
theorem dX0_fewestCuts_42 : decode cX0_fewestCuts 42 = .ok (.goto 49, 3) := by decide +kernel
theorem dX0_fewestCuts_45 : decode cX0_fewestCuts 45 = .ok (.aload_n 0, 1) := by decide +kernel
theorem dX0_fewestCuts_46 : decode cX0_fewestCuts 46 = .ok (.aload_n 1, 1) := by decide +kernel
theorem dX0_fewestCuts_47 : decode cX0_fewestCuts 47 = .ok (.aload_n 1, 1) := by decide +kernel
theorem dX0_fewestCuts_48 : decode cX0_fewestCuts 48 = .ok (.getfield 84, 3) := by decide +kernel
theorem dX0_fewestCuts_51 : decode cX0_fewestCuts 51 = .ok (.iload 5, 2) := by decide +kernel
theorem dX0_fewestCuts_53 : decode cX0_fewestCuts 53 = .ok (.iconst (-1), 1) := by decide +kernel
theorem dX0_fewestCuts_54 : decode cX0_fewestCuts 54 = .ok (.ixor, 1) := by decide +kernel
theorem dX0_fewestCuts_55 : decode cX0_fewestCuts 55 = .ok (.iand, 1) := by decide +kernel
theorem dX0_fewestCuts_56 : decode cX0_fewestCuts 56 = .ok (.invokevirtual 87, 3) := by decide +kernel
theorem dX0_fewestCuts_59 : decode cX0_fewestCuts 59 = .ok (.aload_n 0, 1) := by decide +kernel
theorem dX0_fewestCuts_60 : decode cX0_fewestCuts 60 = .ok (.iload_n 2, 1) := by decide +kernel
theorem dX0_fewestCuts_61 : decode cX0_fewestCuts 61 = .ok (.aload_n 1, 1) := by decide +kernel
theorem dX0_fewestCuts_62 : decode cX0_fewestCuts 62 = .ok (.getfield 92, 3) := by decide +kernel
theorem dX0_fewestCuts_65 : decode cX0_fewestCuts 65 = .ok (.iconst (-1), 1) := by decide +kernel
theorem dX0_fewestCuts_66 : decode cX0_fewestCuts 66 = .ok (.ixor, 1) := by decide +kernel
theorem dX0_fewestCuts_67 : decode cX0_fewestCuts 67 = .ok (.iand, 1) := by decide +kernel
theorem dX0_fewestCuts_68 : decode cX0_fewestCuts 68 = .ok (.aload_n 1, 1) := by decide +kernel
theorem dX0_fewestCuts_69 : decode cX0_fewestCuts 69 = .ok (.getfield 92, 3) := by decide +kernel
theorem dX0_fewestCuts_72 : decode cX0_fewestCuts 72 = .ok (.invokevirtual 125, 3) := by decide +kernel
theorem dX0_fewestCuts_75 : decode cX0_fewestCuts 75 = .ok (.ifCond .eq 6, 3) := by decide +kernel
theorem dX0_fewestCuts_78 : decode cX0_fewestCuts 78 = .ok (.goto 13, 3) := by decide +kernel
theorem dX0_fewestCuts_81 : decode cX0_fewestCuts 81 = .ok (.iload 5, 2) := by decide +kernel
theorem dX0_fewestCuts_83 : decode cX0_fewestCuts 83 = .ok (.istore_n 3, 1) := by decide +kernel
theorem dX0_fewestCuts_84 : decode cX0_fewestCuts 84 = .ok (.iload 5, 2) := by decide +kernel
theorem dX0_fewestCuts_86 : decode cX0_fewestCuts 86 = .ok (.invokestatic 120, 3) := by decide +kernel
theorem dX0_fewestCuts_89 : decode cX0_fewestCuts 89 = .ok (.istore 4, 2) := by decide +kernel
theorem dX0_fewestCuts_91 : decode cX0_fewestCuts 91 = .ok (.iinc 5 1, 3) := by decide +kernel
theorem dX0_fewestCuts_94 : decode cX0_fewestCuts 94 = .ok (.goto (-85), 3) := by decide +kernel
theorem dX0_fewestCuts_97 : decode cX0_fewestCuts 97 = .ok (.iload_n 3, 1) := by decide +kernel
theorem dX0_fewestCuts_98 : decode cX0_fewestCuts 98 = .ok (.ireturn, 1) := by decide +kernel
theorem dX0_anyOpens_0 : decode cX0_anyOpens 0 = .ok (.iconst 0, 1) := by decide +kernel
theorem dX0_anyOpens_1 : decode cX0_anyOpens 1 = .ok (.istore_n 3, 1) := by decide +kernel
theorem dX0_anyOpens_2 : decode cX0_anyOpens 2 = .ok (.iload_n 3, 1) := by decide +kernel
theorem dX0_anyOpens_3 : decode cX0_anyOpens 3 = .ok (.aload_n 0, 1) := by decide +kernel
theorem dX0_anyOpens_4 : decode cX0_anyOpens 4 = .ok (.getfield 9, 3) := by decide +kernel
theorem dX0_anyOpens_7 : decode cX0_anyOpens 7 = .ok (.if_icmp .ge 22, 3) := by decide +kernel
theorem dX0_anyOpens_10 : decode cX0_anyOpens 10 = .ok (.aload_n 0, 1) := by decide +kernel
theorem dX0_anyOpens_11 : decode cX0_anyOpens 11 = .ok (.iload_n 3, 1) := by decide +kernel
theorem dX0_anyOpens_12 : decode cX0_anyOpens 12 = .ok (.iload_n 2, 1) := by decide +kernel
theorem dX0_anyOpens_13 : decode cX0_anyOpens 13 = .ok (.invokevirtual 109, 3) := by decide +kernel
theorem dX0_anyOpens_16 : decode cX0_anyOpens 16 = .ok (.iload_n 1, 1) := by decide +kernel
theorem dX0_anyOpens_17 : decode cX0_anyOpens 17 = .ok (.iand, 1) := by decide +kernel
theorem dX0_anyOpens_18 : decode cX0_anyOpens 18 = .ok (.ifCond .eq 5, 3) := by decide +kernel
theorem dX0_anyOpens_21 : decode cX0_anyOpens 21 = .ok (.iconst 1, 1) := by decide +kernel
theorem dX0_anyOpens_22 : decode cX0_anyOpens 22 = .ok (.ireturn, 1) := by decide +kernel
theorem dX0_anyOpens_23 : decode cX0_anyOpens 23 = .ok (.iinc 3 1, 3) := by decide +kernel
theorem dX0_anyOpens_26 : decode cX0_anyOpens 26 = .ok (.goto (-24), 3) := by decide +kernel
theorem dX0_anyOpens_29 : decode cX0_anyOpens 29 = .ok (.iconst 0, 1) := by decide +kernel
theorem dX0_anyOpens_30 : decode cX0_anyOpens 30 = .ok (.ireturn, 1) := by decide +kernel
theorem dX0_findHarmOfRopes_0 : decode cX0_findHarmOfRopes 0 = .ok (.iconst 0, 1) := by decide +kernel
theorem dX0_findHarmOfRopes_1 : decode cX0_findHarmOfRopes 1 = .ok (.istore_n 2, 1) := by decide +kernel
theorem dX0_findHarmOfRopes_2 : decode cX0_findHarmOfRopes 2 = .ok (.iload_n 2, 1) := by decide +kernel
theorem dX0_findHarmOfRopes_3 : decode cX0_findHarmOfRopes 3 = .ok (.iconst 1, 1) := by decide +kernel
theorem dX0_findHarmOfRopes_4 : decode cX0_findHarmOfRopes 4 = .ok (.aload_n 1, 1) := by decide +kernel
theorem dX0_findHarmOfRopes_5 : decode cX0_findHarmOfRopes 5 = .ok (.getfield 117, 3) := by decide +kernel
theorem dX0_findHarmOfRopes_8 : decode cX0_findHarmOfRopes 8 = .ok (.ishl, 1) := by decide +kernel
theorem dX0_findHarmOfRopes_9 : decode cX0_findHarmOfRopes 9 = .ok (.if_icmp .ge 56, 3) := by decide +kernel
theorem dX0_findHarmOfRopes_12 : decode cX0_findHarmOfRopes 12 = .ok (.aload_n 0, 1) := by decide +kernel
theorem dX0_findHarmOfRopes_13 : decode cX0_findHarmOfRopes 13 = .ok (.aload_n 1, 1) := by decide +kernel
theorem dX0_findHarmOfRopes_14 : decode cX0_findHarmOfRopes 14 = .ok (.iload_n 2, 1) := by decide +kernel
theorem dX0_findHarmOfRopes_15 : decode cX0_findHarmOfRopes 15 = .ok (.invokevirtual 87, 3) := by decide +kernel
theorem dX0_findHarmOfRopes_18 : decode cX0_findHarmOfRopes 18 = .ok (.iconst 0, 1) := by decide +kernel
theorem dX0_findHarmOfRopes_19 : decode cX0_findHarmOfRopes 19 = .ok (.istore_n 3, 1) := by decide +kernel
theorem dX0_findHarmOfRopes_20 : decode cX0_findHarmOfRopes 20 = .ok (.iconst 0, 1) := by decide +kernel
theorem dX0_findHarmOfRopes_21 : decode cX0_findHarmOfRopes 21 = .ok (.istore 4, 2) := by decide +kernel
theorem dX0_findHarmOfRopes_23 : decode cX0_findHarmOfRopes 23 = .ok (.iload 4, 2) := by decide +kernel
theorem dX0_findHarmOfRopes_25 : decode cX0_findHarmOfRopes 25 = .ok (.aload_n 0, 1) := by decide +kernel
theorem dX0_findHarmOfRopes_26 : decode cX0_findHarmOfRopes 26 = .ok (.getfield 9, 3) := by decide +kernel
theorem dX0_findHarmOfRopes_29 : decode cX0_findHarmOfRopes 29 = .ok (.if_icmp .ge 23, 3) := by decide +kernel
theorem dX0_findHarmOfRopes_32 : decode cX0_findHarmOfRopes 32 = .ok (.iload_n 3, 1) := by decide +kernel
theorem dX0_findHarmOfRopes_33 : decode cX0_findHarmOfRopes 33 = .ok (.aload_n 1, 1) := by decide +kernel
theorem dX0_findHarmOfRopes_34 : decode cX0_findHarmOfRopes 34 = .ok (.aload_n 0, 1) := by decide +kernel
theorem dX0_findHarmOfRopes_35 : decode cX0_findHarmOfRopes 35 = .ok (.iload 4, 2) := by decide +kernel
theorem dX0_findHarmOfRopes_37 : decode cX0_findHarmOfRopes 37 = .ok (.iconst 0, 1) := by decide +kernel
theorem dX0_findHarmOfRopes_38 : decode cX0_findHarmOfRopes 38 = .ok (.invokevirtual 109, 3) := by decide +kernel
theorem dX0_findHarmOfRopes_41 : decode cX0_findHarmOfRopes 41 = .ok (.invokevirtual 113, 3) := by decide +kernel
theorem dX0_findHarmOfRopes_44 : decode cX0_findHarmOfRopes 44 = .ok (.iadd, 1) := by decide +kernel
theorem dX0_findHarmOfRopes_45 : decode cX0_findHarmOfRopes 45 = .ok (.istore_n 3, 1) := by decide +kernel
theorem dX0_findHarmOfRopes_46 : decode cX0_findHarmOfRopes 46 = .ok (.iinc 4 1, 3) := by decide +kernel
theorem dX0_findHarmOfRopes_49 : decode cX0_findHarmOfRopes 49 = .ok (.goto (-26), 3) := by decide +kernel
theorem dX0_findHarmOfRopes_52 : decode cX0_findHarmOfRopes 52 = .ok (.aload_n 0, 1) := by decide +kernel
theorem dX0_findHarmOfRopes_53 : decode cX0_findHarmOfRopes 53 = .ok (.getfield 55, 3) := by decide +kernel
theorem dX0_findHarmOfRopes_56 : decode cX0_findHarmOfRopes 56 = .ok (.iload_n 2, 1) := by decide +kernel
theorem dX0_findHarmOfRopes_57 : decode cX0_findHarmOfRopes 57 = .ok (.iload_n 3, 1) := by decide +kernel
theorem dX0_findHarmOfRopes_58 : decode cX0_findHarmOfRopes 58 = .ok (.iastore, 1) := by decide +kernel
theorem dX0_findHarmOfRopes_59 : decode cX0_findHarmOfRopes 59 = .ok (.iinc 2 1, 3) := by decide +kernel
theorem dX0_findHarmOfRopes_62 : decode cX0_findHarmOfRopes 62 = .ok (.goto (-60), 3) := by decide +kernel
theorem dX0_findHarmOfRopes_65 : decode cX0_findHarmOfRopes 65 = .ok (.return_, 1) := by decide +kernel
theorem dX0_weighShare_0 : decode cX0_weighShare 0 = .ok (.aload_n 0, 1) := by decide +kernel
theorem dX0_weighShare_1 : decode cX0_weighShare 1 = .ok (.iconst 0, 1) := by decide +kernel
theorem dX0_weighShare_2 : decode cX0_weighShare 2 = .ok (.putfield 49, 3) := by decide +kernel
theorem dX0_weighShare_5 : decode cX0_weighShare 5 = .ok (.aload_n 0, 1) := by decide +kernel
theorem dX0_weighShare_6 : decode cX0_weighShare 6 = .ok (.getstatic 128, 3) := by decide +kernel
theorem dX0_weighShare_9 : decode cX0_weighShare 9 = .ok (.iload_n 1, 1) := by decide +kernel
theorem dX0_weighShare_10 : decode cX0_weighShare 10 = .ok (.iaload, 1) := by decide +kernel
theorem dX0_weighShare_11 : decode cX0_weighShare 11 = .ok (.putfield 52, 3) := by decide +kernel
theorem dX0_weighShare_14 : decode cX0_weighShare 14 = .ok (.iconst 0, 1) := by decide +kernel
theorem dX0_weighShare_15 : decode cX0_weighShare 15 = .ok (.istore_n 3, 1) := by decide +kernel
theorem dX0_weighShare_16 : decode cX0_weighShare 16 = .ok (.iload_n 3, 1) := by decide +kernel
theorem dX0_weighShare_17 : decode cX0_weighShare 17 = .ok (.iconst 1, 1) := by decide +kernel
theorem dX0_weighShare_18 : decode cX0_weighShare 18 = .ok (.iload_n 1, 1) := by decide +kernel
theorem dX0_weighShare_19 : decode cX0_weighShare 19 = .ok (.ishl, 1) := by decide +kernel
theorem dX0_weighShare_20 : decode cX0_weighShare 20 = .ok (.if_icmp .ge 74, 3) := by decide +kernel
theorem dX0_weighShare_23 : decode cX0_weighShare 23 = .ok (.iload_n 3, 1) := by decide +kernel
theorem dX0_weighShare_24 : decode cX0_weighShare 24 = .ok (.iload_n 2, 1) := by decide +kernel
theorem dX0_weighShare_25 : decode cX0_weighShare 25 = .ok (.invokestatic 105, 3) := by decide +kernel
theorem dX0_weighShare_28 : decode cX0_weighShare 28 = .ok (.ifCond .eq 6, 3) := by decide +kernel
theorem dX0_weighShare_31 : decode cX0_weighShare 31 = .ok (.goto 57, 3) := by decide +kernel
theorem dX0_weighShare_34 : decode cX0_weighShare 34 = .ok (.iload_n 3, 1) := by decide +kernel
theorem dX0_weighShare_35 : decode cX0_weighShare 35 = .ok (.invokestatic 120, 3) := by decide +kernel
theorem dX0_weighShare_38 : decode cX0_weighShare 38 = .ok (.istore 4, 2) := by decide +kernel
theorem dX0_weighShare_40 : decode cX0_weighShare 40 = .ok (.getstatic 128, 3) := by decide +kernel
theorem dX0_weighShare_43 : decode cX0_weighShare 43 = .ok (.iload 4, 2) := by decide +kernel
theorem dX0_weighShare_45 : decode cX0_weighShare 45 = .ok (.iaload, 1) := by decide +kernel
theorem dX0_weighShare_46 : decode cX0_weighShare 46 = .ok (.getstatic 128, 3) := by decide +kernel
theorem dX0_weighShare_49 : decode cX0_weighShare 49 = .ok (.iload_n 1, 1) := by decide +kernel
theorem dX0_weighShare_50 : decode cX0_weighShare 50 = .ok (.iconst 1, 1) := by decide +kernel
theorem dX0_weighShare_51 : decode cX0_weighShare 51 = .ok (.isub, 1) := by decide +kernel
theorem dX0_weighShare_52 : decode cX0_weighShare 52 = .ok (.iload 4, 2) := by decide +kernel
theorem dX0_weighShare_54 : decode cX0_weighShare 54 = .ok (.isub, 1) := by decide +kernel
theorem dX0_weighShare_55 : decode cX0_weighShare 55 = .ok (.iaload, 1) := by decide +kernel
theorem dX0_weighShare_56 : decode cX0_weighShare 56 = .ok (.imul, 1) := by decide +kernel
theorem dX0_weighShare_57 : decode cX0_weighShare 57 = .ok (.istore 5, 2) := by decide +kernel
theorem dX0_weighShare_59 : decode cX0_weighShare 59 = .ok (.aload_n 0, 1) := by decide +kernel
theorem dX0_weighShare_60 : decode cX0_weighShare 60 = .ok (.dup, 1) := by decide +kernel
theorem dX0_weighShare_61 : decode cX0_weighShare 61 = .ok (.getfield 49, 3) := by decide +kernel
theorem dX0_weighShare_64 : decode cX0_weighShare 64 = .ok (.iload 5, 2) := by decide +kernel
theorem dX0_weighShare_66 : decode cX0_weighShare 66 = .ok (.aload_n 0, 1) := by decide +kernel
theorem dX0_weighShare_67 : decode cX0_weighShare 67 = .ok (.getfield 55, 3) := by decide +kernel
theorem dX0_weighShare_70 : decode cX0_weighShare 70 = .ok (.iload_n 3, 1) := by decide +kernel
theorem dX0_weighShare_71 : decode cX0_weighShare 71 = .ok (.iconst 1, 1) := by decide +kernel
theorem dX0_weighShare_72 : decode cX0_weighShare 72 = .ok (.iload_n 2, 1) := by decide +kernel
theorem dX0_weighShare_73 : decode cX0_weighShare 73 = .ok (.ishl, 1) := by decide +kernel
theorem dX0_weighShare_74 : decode cX0_weighShare 74 = .ok (.ior, 1) := by decide +kernel
theorem dX0_weighShare_75 : decode cX0_weighShare 75 = .ok (.iaload, 1) := by decide +kernel
theorem dX0_weighShare_76 : decode cX0_weighShare 76 = .ok (.aload_n 0, 1) := by decide +kernel
theorem dX0_weighShare_77 : decode cX0_weighShare 77 = .ok (.getfield 55, 3) := by decide +kernel
theorem dX0_weighShare_80 : decode cX0_weighShare 80 = .ok (.iload_n 3, 1) := by decide +kernel
theorem dX0_weighShare_81 : decode cX0_weighShare 81 = .ok (.iaload, 1) := by decide +kernel
theorem dX0_weighShare_82 : decode cX0_weighShare 82 = .ok (.isub, 1) := by decide +kernel
theorem dX0_weighShare_83 : decode cX0_weighShare 83 = .ok (.imul, 1) := by decide +kernel
theorem dX0_weighShare_84 : decode cX0_weighShare 84 = .ok (.iadd, 1) := by decide +kernel
theorem dX0_weighShare_85 : decode cX0_weighShare 85 = .ok (.putfield 49, 3) := by decide +kernel
theorem dX0_weighShare_88 : decode cX0_weighShare 88 = .ok (.iinc 3 1, 3) := by decide +kernel
theorem dX0_weighShare_91 : decode cX0_weighShare 91 = .ok (.goto (-75), 3) := by decide +kernel
theorem dX0_weighShare_94 : decode cX0_weighShare 94 = .ok (.return_, 1) := by decide +kernel
theorem dX1_init_0 : decode cX1_init 0 = .ok (.aload_n 0, 1) := by decide +kernel
theorem dX1_init_1 : decode cX1_init 1 = .ok (.invokespecial 1, 3) := by decide +kernel
theorem dX1_init_4 : decode cX1_init 4 = .ok (.return_, 1) := by decide +kernel
theorem dX1_becomes_0 : decode cX1_becomes 0 = .ok (.iload_n 2, 1) := by decide +kernel
theorem dX1_becomes_1 : decode cX1_becomes 1 = .ok (.iload_n 3, 1) := by decide +kernel
theorem dX1_becomes_2 : decode cX1_becomes 2 = .ok (.if_icmp .lt 7, 3) := by decide +kernel
theorem dX1_becomes_5 : decode cX1_becomes 5 = .ok (.iconst 1, 1) := by decide +kernel
theorem dX1_becomes_6 : decode cX1_becomes 6 = .ok (.goto 4, 3) := by decide +kernel
theorem dX1_becomes_9 : decode cX1_becomes 9 = .ok (.iconst 0, 1) := by decide +kernel
theorem dX1_becomes_10 : decode cX1_becomes 10 = .ok (.ireturn, 1) := by decide +kernel
theorem dX2_init_0 : decode cX2_init 0 = .ok (.aload_n 0, 1) := by decide +kernel
theorem dX2_init_1 : decode cX2_init 1 = .ok (.invokespecial 1, 3) := by decide +kernel
theorem dX2_init_4 : decode cX2_init 4 = .ok (.aload_n 0, 1) := by decide +kernel
theorem dX2_init_5 : decode cX2_init 5 = .ok (.new 7, 3) := by decide +kernel
theorem dX2_init_8 : decode cX2_init 8 = .ok (.dup, 1) := by decide +kernel
theorem dX2_init_9 : decode cX2_init 9 = .ok (.invokespecial 9, 3) := by decide +kernel
theorem dX2_init_12 : decode cX2_init 12 = .ok (.putfield 10, 3) := by decide +kernel
theorem dX2_init_15 : decode cX2_init 15 = .ok (.aload_n 0, 1) := by decide +kernel
theorem dX2_init_16 : decode cX2_init 16 = .ok (.new 16, 3) := by decide +kernel
theorem dX2_init_19 : decode cX2_init 19 = .ok (.dup, 1) := by decide +kernel
theorem dX2_init_20 : decode cX2_init 20 = .ok (.invokespecial 18, 3) := by decide +kernel
theorem dX2_init_23 : decode cX2_init 23 = .ok (.putfield 19, 3) := by decide +kernel
theorem dX2_init_26 : decode cX2_init 26 = .ok (.aload_n 0, 1) := by decide +kernel
theorem dX2_init_27 : decode cX2_init 27 = .ok (.new 23, 3) := by decide +kernel
theorem dX2_init_30 : decode cX2_init 30 = .ok (.dup, 1) := by decide +kernel
theorem dX2_init_31 : decode cX2_init 31 = .ok (.invokespecial 25, 3) := by decide +kernel
theorem dX2_init_34 : decode cX2_init 34 = .ok (.putfield 26, 3) := by decide +kernel
theorem dX2_init_37 : decode cX2_init 37 = .ok (.aload_n 0, 1) := by decide +kernel
theorem dX2_init_38 : decode cX2_init 38 = .ok (.new 30, 3) := by decide +kernel
theorem dX2_init_41 : decode cX2_init 41 = .ok (.dup, 1) := by decide +kernel
theorem dX2_init_42 : decode cX2_init 42 = .ok (.invokespecial 32, 3) := by decide +kernel
theorem dX2_init_45 : decode cX2_init 45 = .ok (.putfield 33, 3) := by decide +kernel
theorem dX2_init_48 : decode cX2_init 48 = .ok (.aload_n 0, 1) := by decide +kernel
theorem dX2_init_49 : decode cX2_init 49 = .ok (.new 37, 3) := by decide +kernel
theorem dX2_init_52 : decode cX2_init 52 = .ok (.dup, 1) := by decide +kernel
theorem dX2_init_53 : decode cX2_init 53 = .ok (.invokespecial 39, 3) := by decide +kernel
theorem dX2_init_56 : decode cX2_init 56 = .ok (.putfield 40, 3) := by decide +kernel
theorem dX2_init_59 : decode cX2_init 59 = .ok (.return_, 1) := by decide +kernel
theorem dX2_ofNumber_0 : decode cX2_ofNumber 0 = .ok (.iload_n 1, 1) := by decide +kernel
theorem dX2_ofNumber_1 : decode cX2_ofNumber 1 = .ok (.tableswitch 51 1 4 #[31, 36, 41, 46], 31) := by decide +kernel
theorem dX2_ofNumber_32 : decode cX2_ofNumber 32 = .ok (.aload_n 0, 1) := by decide +kernel
theorem dX2_ofNumber_33 : decode cX2_ofNumber 33 = .ok (.getfield 19, 3) := by decide +kernel
theorem dX2_ofNumber_36 : decode cX2_ofNumber 36 = .ok (.areturn, 1) := by decide +kernel
theorem dX2_ofNumber_37 : decode cX2_ofNumber 37 = .ok (.aload_n 0, 1) := by decide +kernel
theorem dX2_ofNumber_38 : decode cX2_ofNumber 38 = .ok (.getfield 26, 3) := by decide +kernel
theorem dX2_ofNumber_41 : decode cX2_ofNumber 41 = .ok (.areturn, 1) := by decide +kernel
theorem dX2_ofNumber_42 : decode cX2_ofNumber 42 = .ok (.aload_n 0, 1) := by decide +kernel
theorem dX2_ofNumber_43 : decode cX2_ofNumber 43 = .ok (.getfield 33, 3) := by decide +kernel
theorem dX2_ofNumber_46 : decode cX2_ofNumber 46 = .ok (.areturn, 1) := by decide +kernel
theorem dX2_ofNumber_47 : decode cX2_ofNumber 47 = .ok (.aload_n 0, 1) := by decide +kernel
theorem dX2_ofNumber_48 : decode cX2_ofNumber 48 = .ok (.getfield 40, 3) := by decide +kernel
theorem dX2_ofNumber_51 : decode cX2_ofNumber 51 = .ok (.areturn, 1) := by decide +kernel
theorem dX2_ofNumber_52 : decode cX2_ofNumber 52 = .ok (.aload_n 0, 1) := by decide +kernel
theorem dX2_ofNumber_53 : decode cX2_ofNumber 53 = .ok (.getfield 10, 3) := by decide +kernel
theorem dX2_ofNumber_56 : decode cX2_ofNumber 56 = .ok (.areturn, 1) := by decide +kernel
theorem dX3_init_0 : decode cX3_init 0 = .ok (.aload_n 0, 1) := by decide +kernel
theorem dX3_init_1 : decode cX3_init 1 = .ok (.invokespecial 1, 3) := by decide +kernel
theorem dX3_init_4 : decode cX3_init 4 = .ok (.return_, 1) := by decide +kernel
theorem dX3_becomes_0 : decode cX3_becomes 0 = .ok (.iload_n 1, 1) := by decide +kernel
theorem dX3_becomes_1 : decode cX3_becomes 1 = .ok (.ifCond .ne 13, 3) := by decide +kernel
theorem dX3_becomes_4 : decode cX3_becomes 4 = .ok (.aload_n 0, 1) := by decide +kernel
theorem dX3_becomes_5 : decode cX3_becomes 5 = .ok (.iload_n 1, 1) := by decide +kernel
theorem dX3_becomes_6 : decode cX3_becomes 6 = .ok (.iload_n 2, 1) := by decide +kernel
theorem dX3_becomes_7 : decode cX3_becomes 7 = .ok (.iload_n 3, 1) := by decide +kernel
theorem dX3_becomes_8 : decode cX3_becomes 8 = .ok (.invokespecial 7, 3) := by decide +kernel
theorem dX3_becomes_11 : decode cX3_becomes 11 = .ok (.ifCond .eq 7, 3) := by decide +kernel
theorem dX3_becomes_14 : decode cX3_becomes 14 = .ok (.iconst 1, 1) := by decide +kernel
theorem dX3_becomes_15 : decode cX3_becomes 15 = .ok (.goto 4, 3) := by decide +kernel
theorem dX3_becomes_18 : decode cX3_becomes 18 = .ok (.iconst 0, 1) := by decide +kernel
theorem dX3_becomes_19 : decode cX3_becomes 19 = .ok (.ireturn, 1) := by decide +kernel
theorem dX4_init_0 : decode cX4_init 0 = .ok (.aload_n 0, 1) := by decide +kernel
theorem dX4_init_1 : decode cX4_init 1 = .ok (.invokespecial 1, 3) := by decide +kernel
theorem dX4_init_4 : decode cX4_init 4 = .ok (.return_, 1) := by decide +kernel
theorem dX4_becomes_0 : decode cX4_becomes 0 = .ok (.iload_n 1, 1) := by decide +kernel
theorem dX4_becomes_1 : decode cX4_becomes 1 = .ok (.ifCond .eq 17, 3) := by decide +kernel
theorem dX4_becomes_4 : decode cX4_becomes 4 = .ok (.aload_n 0, 1) := by decide +kernel
theorem dX4_becomes_5 : decode cX4_becomes 5 = .ok (.iload_n 1, 1) := by decide +kernel
theorem dX4_becomes_6 : decode cX4_becomes 6 = .ok (.iload_n 2, 1) := by decide +kernel
theorem dX4_becomes_7 : decode cX4_becomes 7 = .ok (.iload_n 3, 1) := by decide +kernel
theorem dX4_becomes_8 : decode cX4_becomes 8 = .ok (.invokespecial 7, 3) := by decide +kernel
theorem dX4_becomes_11 : decode cX4_becomes 11 = .ok (.ifCond .ne 7, 3) := by decide +kernel
theorem dX4_becomes_14 : decode cX4_becomes 14 = .ok (.iconst 1, 1) := by decide +kernel
theorem dX4_becomes_15 : decode cX4_becomes 15 = .ok (.goto 4, 3) := by decide +kernel
theorem dX4_becomes_18 : decode cX4_becomes 18 = .ok (.iconst 0, 1) := by decide +kernel
theorem dX4_becomes_19 : decode cX4_becomes 19 = .ok (.ireturn, 1) := by decide +kernel
theorem dX5_init_0 : decode cX5_init 0 = .ok (.aload_n 0, 1) := by decide +kernel
theorem dX5_init_1 : decode cX5_init 1 = .ok (.invokespecial 3, 3) := by decide +kernel
theorem dX5_init_4 : decode cX5_init 4 = .ok (.aload_n 0, 1) := by decide +kernel
theorem dX5_init_5 : decode cX5_init 5 = .ok (.new 9, 3) := by decide +kernel
theorem dX5_init_8 : decode cX5_init 8 = .ok (.dup, 1) := by decide +kernel
theorem dX5_init_9 : decode cX5_init 9 = .ok (.invokespecial 11, 3) := by decide +kernel
theorem dX5_init_12 : decode cX5_init 12 = .ok (.putfield 12, 3) := by decide +kernel
theorem dX5_init_15 : decode cX5_init 15 = .ok (.aload_n 0, 1) := by decide +kernel
theorem dX5_init_16 : decode cX5_init 16 = .ok (.iconst 0, 1) := by decide +kernel
theorem dX5_init_17 : decode cX5_init 17 = .ok (.putfield 18, 3) := by decide +kernel
theorem dX5_init_20 : decode cX5_init 20 = .ok (.aload_n 0, 1) := by decide +kernel
theorem dX5_init_21 : decode cX5_init 21 = .ok (.iconst 0, 1) := by decide +kernel
theorem dX5_init_22 : decode cX5_init 22 = .ok (.putfield 22, 3) := by decide +kernel
theorem dX5_init_25 : decode cX5_init 25 = .ok (.aload_n 0, 1) := by decide +kernel
theorem dX5_init_26 : decode cX5_init 26 = .ok (.iconst 0, 1) := by decide +kernel
theorem dX5_init_27 : decode cX5_init 27 = .ok (.newarray .int, 2) := by decide +kernel
theorem dX5_init_29 : decode cX5_init 29 = .ok (.putfield 25, 3) := by decide +kernel
theorem dX5_init_32 : decode cX5_init 32 = .ok (.aload_n 0, 1) := by decide +kernel
theorem dX5_init_33 : decode cX5_init 33 = .ok (.iconst 0, 1) := by decide +kernel
theorem dX5_init_34 : decode cX5_init 34 = .ok (.putfield 29, 3) := by decide +kernel
theorem dX5_init_37 : decode cX5_init 37 = .ok (.aload_n 0, 1) := by decide +kernel
theorem dX5_init_38 : decode cX5_init 38 = .ok (.iconst 0, 1) := by decide +kernel
theorem dX5_init_39 : decode cX5_init 39 = .ok (.putfield 32, 3) := by decide +kernel
theorem dX5_init_42 : decode cX5_init 42 = .ok (.aload_n 0, 1) := by decide +kernel
theorem dX5_init_43 : decode cX5_init 43 = .ok (.iconst 0, 1) := by decide +kernel
theorem dX5_init_44 : decode cX5_init 44 = .ok (.putfield 35, 3) := by decide +kernel
theorem dX5_init_47 : decode cX5_init 47 = .ok (.aload_n 0, 1) := by decide +kernel
theorem dX5_init_48 : decode cX5_init 48 = .ok (.iconst 0, 1) := by decide +kernel
theorem dX5_init_49 : decode cX5_init 49 = .ok (.putfield 38, 3) := by decide +kernel
theorem dX5_init_52 : decode cX5_init 52 = .ok (.aload_n 0, 1) := by decide +kernel
theorem dX5_init_53 : decode cX5_init 53 = .ok (.iconst 4, 1) := by decide +kernel
theorem dX5_init_54 : decode cX5_init 54 = .ok (.newarray .int, 2) := by decide +kernel
theorem dX5_init_56 : decode cX5_init 56 = .ok (.putfield 41, 3) := by decide +kernel
theorem dX5_init_59 : decode cX5_init 59 = .ok (.return_, 1) := by decide +kernel
theorem dX5_takes_0 : decode cX5_takes 0 = .ok (.aload_n 0, 1) := by decide +kernel
theorem dX5_takes_1 : decode cX5_takes 1 = .ok (.aload_n 1, 1) := by decide +kernel
theorem dX5_takes_2 : decode cX5_takes 2 = .ok (.putfield 25, 3) := by decide +kernel
theorem dX5_takes_5 : decode cX5_takes 5 = .ok (.aload_n 0, 1) := by decide +kernel
theorem dX5_takes_6 : decode cX5_takes 6 = .ok (.iload_n 2, 1) := by decide +kernel
theorem dX5_takes_7 : decode cX5_takes 7 = .ok (.aload_n 1, 1) := by decide +kernel
theorem dX5_takes_8 : decode cX5_takes 8 = .ok (.arraylength, 1) := by decide +kernel
theorem dX5_takes_9 : decode cX5_takes 9 = .ok (.invokestatic 44, 3) := by decide +kernel
theorem dX5_takes_12 : decode cX5_takes 12 = .ok (.putfield 29, 3) := by decide +kernel
theorem dX5_takes_15 : decode cX5_takes 15 = .ok (.aload_n 0, 1) := by decide +kernel
theorem dX5_takes_16 : decode cX5_takes 16 = .ok (.iconst 0, 1) := by decide +kernel
theorem dX5_takes_17 : decode cX5_takes 17 = .ok (.putfield 32, 3) := by decide +kernel
theorem dX5_takes_20 : decode cX5_takes 20 = .ok (.aload_n 0, 1) := by decide +kernel
theorem dX5_takes_21 : decode cX5_takes 21 = .ok (.iconst 0, 1) := by decide +kernel
theorem dX5_takes_22 : decode cX5_takes 22 = .ok (.putfield 18, 3) := by decide +kernel
theorem dX5_takes_25 : decode cX5_takes 25 = .ok (.aload_n 0, 1) := by decide +kernel
theorem dX5_takes_26 : decode cX5_takes 26 = .ok (.getfield 12, 3) := by decide +kernel
theorem dX5_takes_29 : decode cX5_takes 29 = .ok (.invokevirtual 50, 3) := by decide +kernel
theorem dX5_takes_32 : decode cX5_takes 32 = .ok (.iconst 0, 1) := by decide +kernel
theorem dX5_takes_33 : decode cX5_takes 33 = .ok (.istore_n 3, 1) := by decide +kernel
theorem dX5_takes_34 : decode cX5_takes 34 = .ok (.iload_n 3, 1) := by decide +kernel
theorem dX5_takes_35 : decode cX5_takes 35 = .ok (.aload_n 0, 1) := by decide +kernel
theorem dX5_takes_36 : decode cX5_takes 36 = .ok (.getfield 29, 3) := by decide +kernel
theorem dX5_takes_39 : decode cX5_takes 39 = .ok (.if_icmp .gt 48, 3) := by decide +kernel
theorem dX5_takes_42 : decode cX5_takes 42 = .ok (.aload_n 0, 1) := by decide +kernel
theorem dX5_takes_43 : decode cX5_takes 43 = .ok (.invokevirtual 53, 3) := by decide +kernel
theorem dX5_takes_46 : decode cX5_takes 46 = .ok (.aload_n 0, 1) := by decide +kernel
theorem dX5_takes_47 : decode cX5_takes 47 = .ok (.getfield 35, 3) := by decide +kernel
theorem dX5_takes_50 : decode cX5_takes 50 = .ok (.ifCond .ne 5, 3) := by decide +kernel
theorem dX5_takes_53 : decode cX5_takes 53 = .ok (.iconst 1, 1) := by decide +kernel
theorem dX5_takes_54 : decode cX5_takes 54 = .ok (.ireturn, 1) := by decide +kernel
theorem dX5_takes_55 : decode cX5_takes 55 = .ok (.aload_n 0, 1) := by decide +kernel
theorem dX5_takes_56 : decode cX5_takes 56 = .ok (.invokevirtual 56, 3) := by decide +kernel
theorem dX5_takes_59 : decode cX5_takes 59 = .ok (.ifCond .eq 10, 3) := by decide +kernel
theorem dX5_takes_62 : decode cX5_takes 62 = .ok (.aload_n 0, 1) := by decide +kernel
theorem dX5_takes_63 : decode cX5_takes 63 = .ok (.invokevirtual 60, 3) := by decide +kernel
theorem dX5_takes_66 : decode cX5_takes 66 = .ok (.ifCond .ne 5, 3) := by decide +kernel
theorem dX5_takes_69 : decode cX5_takes 69 = .ok (.iconst 0, 1) := by decide +kernel
theorem dX5_takes_70 : decode cX5_takes 70 = .ok (.ireturn, 1) := by decide +kernel
theorem dX5_takes_71 : decode cX5_takes 71 = .ok (.aload_n 0, 1) := by decide +kernel
theorem dX5_takes_72 : decode cX5_takes 72 = .ok (.dup, 1) := by decide +kernel
theorem dX5_takes_73 : decode cX5_takes 73 = .ok (.getfield 18, 3) := by decide +kernel
theorem dX5_takes_76 : decode cX5_takes 76 = .ok (.iconst 1, 1) := by decide +kernel
theorem dX5_takes_77 : decode cX5_takes 77 = .ok (.iadd, 1) := by decide +kernel
theorem dX5_takes_78 : decode cX5_takes 78 = .ok (.putfield 18, 3) := by decide +kernel
theorem dX5_takes_81 : decode cX5_takes 81 = .ok (.iinc 3 1, 3) := by decide +kernel
theorem dX5_takes_84 : decode cX5_takes 84 = .ok (.goto (-50), 3) := by decide +kernel
theorem dX5_takes_87 : decode cX5_takes 87 = .ok (.iconst 0, 1) := by decide +kernel
theorem dX5_takes_88 : decode cX5_takes 88 = .ok (.ireturn, 1) := by decide +kernel
theorem dX5_takesItem_0 : decode cX5_takesItem 0 = .ok (.aload_n 0, 1) := by decide +kernel
theorem dX5_takesItem_1 : decode cX5_takesItem 1 = .ok (.ldc 63, 2) := by decide +kernel
theorem dX5_takesItem_3 : decode cX5_takesItem 3 = .ok (.invokevirtual 65, 3) := by decide +kernel
theorem dX5_takesItem_6 : decode cX5_takesItem 6 = .ok (.ifCond .eq 8, 3) := by decide +kernel
theorem dX5_takesItem_9 : decode cX5_takesItem 9 = .ok (.aload_n 0, 1) := by decide +kernel
theorem dX5_takesItem_10 : decode cX5_takesItem 10 = .ok (.invokevirtual 69, 3) := by decide +kernel
theorem dX5_takesItem_13 : decode cX5_takesItem 13 = .ok (.ireturn, 1) := by decide +kernel
theorem dX5_takesItem_14 : decode cX5_takesItem 14 = .ok (.aload_n 0, 1) := by decide +kernel
theorem dX5_takesItem_15 : decode cX5_takesItem 15 = .ok (.ldc 72, 2) := by decide +kernel
theorem dX5_takesItem_17 : decode cX5_takesItem 17 = .ok (.invokevirtual 65, 3) := by decide +kernel
theorem dX5_takesItem_20 : decode cX5_takesItem 20 = .ok (.ifCond .eq 8, 3) := by decide +kernel
theorem dX5_takesItem_23 : decode cX5_takesItem 23 = .ok (.aload_n 0, 1) := by decide +kernel
theorem dX5_takesItem_24 : decode cX5_takesItem 24 = .ok (.invokevirtual 74, 3) := by decide +kernel
theorem dX5_takesItem_27 : decode cX5_takesItem 27 = .ok (.ireturn, 1) := by decide +kernel
theorem dX5_takesItem_28 : decode cX5_takesItem 28 = .ok (.aload_n 0, 1) := by decide +kernel
theorem dX5_takesItem_29 : decode cX5_takesItem 29 = .ok (.ldc 77, 2) := by decide +kernel
theorem dX5_takesItem_31 : decode cX5_takesItem 31 = .ok (.invokevirtual 65, 3) := by decide +kernel
theorem dX5_takesItem_34 : decode cX5_takesItem 34 = .ok (.ifCond .eq 8, 3) := by decide +kernel
theorem dX5_takesItem_37 : decode cX5_takesItem 37 = .ok (.aload_n 0, 1) := by decide +kernel
theorem dX5_takesItem_38 : decode cX5_takesItem 38 = .ok (.invokevirtual 79, 3) := by decide +kernel
theorem dX5_takesItem_41 : decode cX5_takesItem 41 = .ok (.ireturn, 1) := by decide +kernel
theorem dX5_takesItem_42 : decode cX5_takesItem 42 = .ok (.aload_n 0, 1) := by decide +kernel
theorem dX5_takesItem_43 : decode cX5_takesItem 43 = .ok (.ldc 82, 2) := by decide +kernel
theorem dX5_takesItem_45 : decode cX5_takesItem 45 = .ok (.invokevirtual 65, 3) := by decide +kernel
theorem dX5_takesItem_48 : decode cX5_takesItem 48 = .ok (.ifCond .eq 8, 3) := by decide +kernel
theorem dX5_takesItem_51 : decode cX5_takesItem 51 = .ok (.aload_n 0, 1) := by decide +kernel
theorem dX5_takesItem_52 : decode cX5_takesItem 52 = .ok (.invokevirtual 84, 3) := by decide +kernel
theorem dX5_takesItem_55 : decode cX5_takesItem 55 = .ok (.ireturn, 1) := by decide +kernel
theorem dX5_takesItem_56 : decode cX5_takesItem 56 = .ok (.aload_n 0, 1) := by decide +kernel
theorem dX5_takesItem_57 : decode cX5_takesItem 57 = .ok (.ldc 87, 2) := by decide +kernel
theorem dX5_takesItem_59 : decode cX5_takesItem 59 = .ok (.invokevirtual 65, 3) := by decide +kernel
theorem dX5_takesItem_62 : decode cX5_takesItem 62 = .ok (.ifCond .eq 8, 3) := by decide +kernel
theorem dX5_takesItem_65 : decode cX5_takesItem 65 = .ok (.aload_n 0, 1) := by decide +kernel
theorem dX5_takesItem_66 : decode cX5_takesItem 66 = .ok (.invokevirtual 89, 3) := by decide +kernel
theorem dX5_takesItem_69 : decode cX5_takesItem 69 = .ok (.ireturn, 1) := by decide +kernel
theorem dX5_takesItem_70 : decode cX5_takesItem 70 = .ok (.iconst 0, 1) := by decide +kernel
theorem dX5_takesItem_71 : decode cX5_takesItem 71 = .ok (.ireturn, 1) := by decide +kernel
theorem dX5_takesThing_0 : decode cX5_takesThing 0 = .ok (.aload_n 0, 1) := by decide +kernel
theorem dX5_takesThing_1 : decode cX5_takesThing 1 = .ok (.getfield 12, 3) := by decide +kernel
theorem dX5_takesThing_4 : decode cX5_takesThing 4 = .ok (.getfield 92, 3) := by decide +kernel
theorem dX5_takesThing_7 : decode cX5_takesThing 7 = .ok (.iconst 5, 1) := by decide +kernel
theorem dX5_takesThing_8 : decode cX5_takesThing 8 = .ok (.if_icmp .ge 50, 3) := by decide +kernel
theorem dX5_takesThing_11 : decode cX5_takesThing 11 = .ok (.aload_n 0, 1) := by decide +kernel
theorem dX5_takesThing_12 : decode cX5_takesThing 12 = .ok (.iconst 0, 1) := by decide +kernel
theorem dX5_takesThing_13 : decode cX5_takesThing 13 = .ok (.iconst 0, 1) := by decide +kernel
theorem dX5_takesThing_14 : decode cX5_takesThing 14 = .ok (.iconst 4, 1) := by decide +kernel
theorem dX5_takesThing_15 : decode cX5_takesThing 15 = .ok (.invokevirtual 95, 3) := by decide +kernel
theorem dX5_takesThing_18 : decode cX5_takesThing 18 = .ok (.ifCond .eq 40, 3) := by decide +kernel
theorem dX5_takesThing_21 : decode cX5_takesThing 21 = .ok (.aload_n 0, 1) := by decide +kernel
theorem dX5_takesThing_22 : decode cX5_takesThing 22 = .ok (.iconst 1, 1) := by decide +kernel
theorem dX5_takesThing_23 : decode cX5_takesThing 23 = .ok (.iconst 0, 1) := by decide +kernel
theorem dX5_takesThing_24 : decode cX5_takesThing 24 = .ok (.bipush 9, 2) := by decide +kernel
theorem dX5_takesThing_26 : decode cX5_takesThing 26 = .ok (.invokevirtual 95, 3) := by decide +kernel
theorem dX5_takesThing_29 : decode cX5_takesThing 29 = .ok (.ifCond .eq 29, 3) := by decide +kernel
theorem dX5_takesThing_32 : decode cX5_takesThing 32 = .ok (.aload_n 0, 1) := by decide +kernel
theorem dX5_takesThing_33 : decode cX5_takesThing 33 = .ok (.iconst 2, 1) := by decide +kernel
theorem dX5_takesThing_34 : decode cX5_takesThing 34 = .ok (.iconst 1, 1) := by decide +kernel
theorem dX5_takesThing_35 : decode cX5_takesThing 35 = .ok (.bipush 9, 2) := by decide +kernel
theorem dX5_takesThing_37 : decode cX5_takesThing 37 = .ok (.invokevirtual 95, 3) := by decide +kernel
theorem dX5_takesThing_40 : decode cX5_takesThing 40 = .ok (.ifCond .eq 18, 3) := by decide +kernel
theorem dX5_takesThing_43 : decode cX5_takesThing 43 = .ok (.aload_n 0, 1) := by decide +kernel
theorem dX5_takesThing_44 : decode cX5_takesThing 44 = .ok (.iconst 3, 1) := by decide +kernel
theorem dX5_takesThing_45 : decode cX5_takesThing 45 = .ok (.iconst 0, 1) := by decide +kernel
theorem dX5_takesThing_46 : decode cX5_takesThing 46 = .ok (.bipush 9, 2) := by decide +kernel
theorem dX5_takesThing_48 : decode cX5_takesThing 48 = .ok (.invokevirtual 95, 3) := by decide +kernel
theorem dX5_takesThing_51 : decode cX5_takesThing 51 = .ok (.ifCond .eq 7, 3) := by decide +kernel
theorem dX5_takesThing_54 : decode cX5_takesThing 54 = .ok (.iconst 1, 1) := by decide +kernel
theorem dX5_takesThing_55 : decode cX5_takesThing 55 = .ok (.goto 4, 3) := by decide +kernel
theorem dX5_takesThing_58 : decode cX5_takesThing 58 = .ok (.iconst 0, 1) := by decide +kernel
theorem dX5_takesThing_59 : decode cX5_takesThing 59 = .ok (.istore_n 1, 1) := by decide +kernel
theorem dX5_takesThing_60 : decode cX5_takesThing 60 = .ok (.iload_n 1, 1) := by decide +kernel
theorem dX5_takesThing_61 : decode cX5_takesThing 61 = .ok (.ifCond .eq 34, 3) := by decide +kernel
theorem dX5_takesThing_64 : decode cX5_takesThing 64 = .ok (.aload_n 0, 1) := by decide +kernel
theorem dX5_takesThing_65 : decode cX5_takesThing 65 = .ok (.getfield 12, 3) := by decide +kernel
theorem dX5_takesThing_68 : decode cX5_takesThing 68 = .ok (.aload_n 0, 1) := by decide +kernel
theorem dX5_takesThing_69 : decode cX5_takesThing 69 = .ok (.getfield 41, 3) := by decide +kernel
theorem dX5_takesThing_72 : decode cX5_takesThing 72 = .ok (.iconst 0, 1) := by decide +kernel
theorem dX5_takesThing_73 : decode cX5_takesThing 73 = .ok (.iaload, 1) := by decide +kernel
theorem dX5_takesThing_74 : decode cX5_takesThing 74 = .ok (.aload_n 0, 1) := by decide +kernel
theorem dX5_takesThing_75 : decode cX5_takesThing 75 = .ok (.getfield 41, 3) := by decide +kernel
theorem dX5_takesThing_78 : decode cX5_takesThing 78 = .ok (.iconst 1, 1) := by decide +kernel
theorem dX5_takesThing_79 : decode cX5_takesThing 79 = .ok (.iaload, 1) := by decide +kernel
theorem dX5_takesThing_80 : decode cX5_takesThing 80 = .ok (.aload_n 0, 1) := by decide +kernel
theorem dX5_takesThing_81 : decode cX5_takesThing 81 = .ok (.getfield 41, 3) := by decide +kernel
theorem dX5_takesThing_84 : decode cX5_takesThing 84 = .ok (.iconst 2, 1) := by decide +kernel
theorem dX5_takesThing_85 : decode cX5_takesThing 85 = .ok (.iaload, 1) := by decide +kernel
theorem dX5_takesThing_86 : decode cX5_takesThing 86 = .ok (.aload_n 0, 1) := by decide +kernel
theorem dX5_takesThing_87 : decode cX5_takesThing 87 = .ok (.getfield 41, 3) := by decide +kernel
theorem dX5_takesThing_90 : decode cX5_takesThing 90 = .ok (.iconst 3, 1) := by decide +kernel
theorem dX5_takesThing_91 : decode cX5_takesThing 91 = .ok (.iaload, 1) := by decide +kernel
theorem dX5_takesThing_92 : decode cX5_takesThing 92 = .ok (.invokevirtual 99, 3) := by decide +kernel
theorem dX5_takesThing_95 : decode cX5_takesThing 95 = .ok (.iload_n 1, 1) := by decide +kernel
theorem dX5_takesThing_96 : decode cX5_takesThing 96 = .ok (.ireturn, 1) := by decide +kernel
theorem dX5_takesCut_0 : decode cX5_takesCut 0 = .ok (.aload_n 0, 1) := by decide +kernel
theorem dX5_takesCut_1 : decode cX5_takesCut 1 = .ok (.iconst 0, 1) := by decide +kernel
theorem dX5_takesCut_2 : decode cX5_takesCut 2 = .ok (.iconst 0, 1) := by decide +kernel
theorem dX5_takesCut_3 : decode cX5_takesCut 3 = .ok (.aload_n 0, 1) := by decide +kernel
theorem dX5_takesCut_4 : decode cX5_takesCut 4 = .ok (.getfield 12, 3) := by decide +kernel
theorem dX5_takesCut_7 : decode cX5_takesCut 7 = .ok (.getfield 92, 3) := by decide +kernel
theorem dX5_takesCut_10 : decode cX5_takesCut 10 = .ok (.iconst 1, 1) := by decide +kernel
theorem dX5_takesCut_11 : decode cX5_takesCut 11 = .ok (.isub, 1) := by decide +kernel
theorem dX5_takesCut_12 : decode cX5_takesCut 12 = .ok (.invokevirtual 95, 3) := by decide +kernel
theorem dX5_takesCut_15 : decode cX5_takesCut 15 = .ok (.ifCond .eq 22, 3) := by decide +kernel
theorem dX5_takesCut_18 : decode cX5_takesCut 18 = .ok (.aload_n 0, 1) := by decide +kernel
theorem dX5_takesCut_19 : decode cX5_takesCut 19 = .ok (.getfield 12, 3) := by decide +kernel
theorem dX5_takesCut_22 : decode cX5_takesCut 22 = .ok (.getfield 103, 3) := by decide +kernel
theorem dX5_takesCut_25 : decode cX5_takesCut 25 = .ok (.aload_n 0, 1) := by decide +kernel
theorem dX5_takesCut_26 : decode cX5_takesCut 26 = .ok (.getfield 41, 3) := by decide +kernel
theorem dX5_takesCut_29 : decode cX5_takesCut 29 = .ok (.iconst 0, 1) := by decide +kernel
theorem dX5_takesCut_30 : decode cX5_takesCut 30 = .ok (.iaload, 1) := by decide +kernel
theorem dX5_takesCut_31 : decode cX5_takesCut 31 = .ok (.invokestatic 106, 3) := by decide +kernel
theorem dX5_takesCut_34 : decode cX5_takesCut 34 = .ok (.ifCond .ne 5, 3) := by decide +kernel
theorem dX5_takesCut_37 : decode cX5_takesCut 37 = .ok (.iconst 0, 1) := by decide +kernel
theorem dX5_takesCut_38 : decode cX5_takesCut 38 = .ok (.ireturn, 1) := by decide +kernel
theorem dX5_takesCut_39 : decode cX5_takesCut 39 = .ok (.aload_n 0, 1) := by decide +kernel
theorem dX5_takesCut_40 : decode cX5_takesCut 40 = .ok (.getfield 12, 3) := by decide +kernel
theorem dX5_takesCut_43 : decode cX5_takesCut 43 = .ok (.dup, 1) := by decide +kernel
theorem dX5_takesCut_44 : decode cX5_takesCut 44 = .ok (.getfield 103, 3) := by decide +kernel
theorem dX5_takesCut_47 : decode cX5_takesCut 47 = .ok (.iconst 1, 1) := by decide +kernel
theorem dX5_takesCut_48 : decode cX5_takesCut 48 = .ok (.aload_n 0, 1) := by decide +kernel
theorem dX5_takesCut_49 : decode cX5_takesCut 49 = .ok (.getfield 41, 3) := by decide +kernel
theorem dX5_takesCut_52 : decode cX5_takesCut 52 = .ok (.iconst 0, 1) := by decide +kernel
theorem dX5_takesCut_53 : decode cX5_takesCut 53 = .ok (.iaload, 1) := by decide +kernel
theorem dX5_takesCut_54 : decode cX5_takesCut 54 = .ok (.ishl, 1) := by decide +kernel
theorem dX5_takesCut_55 : decode cX5_takesCut 55 = .ok (.ixor, 1) := by decide +kernel
theorem dX5_takesCut_56 : decode cX5_takesCut 56 = .ok (.putfield 103, 3) := by decide +kernel
theorem dX5_takesCut_59 : decode cX5_takesCut 59 = .ok (.iconst 1, 1) := by decide +kernel
theorem dX5_takesCut_60 : decode cX5_takesCut 60 = .ok (.ireturn, 1) := by decide +kernel
theorem dX5_takesDamp_0 : decode cX5_takesDamp 0 = .ok (.aload_n 0, 1) := by decide +kernel
theorem dX5_takesDamp_1 : decode cX5_takesDamp 1 = .ok (.iconst 0, 1) := by decide +kernel
theorem dX5_takesDamp_2 : decode cX5_takesDamp 2 = .ok (.iconst 0, 1) := by decide +kernel
theorem dX5_takesDamp_3 : decode cX5_takesDamp 3 = .ok (.bipush 9, 2) := by decide +kernel
theorem dX5_takesDamp_5 : decode cX5_takesDamp 5 = .ok (.invokevirtual 95, 3) := by decide +kernel
theorem dX5_takesDamp_8 : decode cX5_takesDamp 8 = .ok (.ifCond .ne 5, 3) := by decide +kernel
theorem dX5_takesDamp_11 : decode cX5_takesDamp 11 = .ok (.iconst 0, 1) := by decide +kernel
theorem dX5_takesDamp_12 : decode cX5_takesDamp 12 = .ok (.ireturn, 1) := by decide +kernel
theorem dX5_takesDamp_13 : decode cX5_takesDamp 13 = .ok (.aload_n 0, 1) := by decide +kernel
theorem dX5_takesDamp_14 : decode cX5_takesDamp 14 = .ok (.getfield 12, 3) := by decide +kernel
theorem dX5_takesDamp_17 : decode cX5_takesDamp 17 = .ok (.aload_n 0, 1) := by decide +kernel
theorem dX5_takesDamp_18 : decode cX5_takesDamp 18 = .ok (.getfield 41, 3) := by decide +kernel
theorem dX5_takesDamp_21 : decode cX5_takesDamp 21 = .ok (.iconst 0, 1) := by decide +kernel
theorem dX5_takesDamp_22 : decode cX5_takesDamp 22 = .ok (.iaload, 1) := by decide +kernel
theorem dX5_takesDamp_23 : decode cX5_takesDamp 23 = .ok (.putfield 110, 3) := by decide +kernel
theorem dX5_takesDamp_26 : decode cX5_takesDamp 26 = .ok (.iconst 1, 1) := by decide +kernel
theorem dX5_takesDamp_27 : decode cX5_takesDamp 27 = .ok (.ireturn, 1) := by decide +kernel
theorem dX5_takesErrand_0 : decode cX5_takesErrand 0 = .ok (.aload_n 0, 1) := by decide +kernel
theorem dX5_takesErrand_1 : decode cX5_takesErrand 1 = .ok (.getfield 12, 3) := by decide +kernel
theorem dX5_takesErrand_4 : decode cX5_takesErrand 4 = .ok (.getfield 112, 3) := by decide +kernel
theorem dX5_takesErrand_7 : decode cX5_takesErrand 7 = .ok (.iconst 5, 1) := by decide +kernel
theorem dX5_takesErrand_8 : decode cX5_takesErrand 8 = .ok (.if_icmp .ge 36, 3) := by decide +kernel
theorem dX5_takesErrand_11 : decode cX5_takesErrand 11 = .ok (.aload_n 0, 1) := by decide +kernel
theorem dX5_takesErrand_12 : decode cX5_takesErrand 12 = .ok (.iconst 0, 1) := by decide +kernel
theorem dX5_takesErrand_13 : decode cX5_takesErrand 13 = .ok (.iconst 0, 1) := by decide +kernel
theorem dX5_takesErrand_14 : decode cX5_takesErrand 14 = .ok (.aload_n 0, 1) := by decide +kernel
theorem dX5_takesErrand_15 : decode cX5_takesErrand 15 = .ok (.getfield 12, 3) := by decide +kernel
theorem dX5_takesErrand_18 : decode cX5_takesErrand 18 = .ok (.getfield 92, 3) := by decide +kernel
theorem dX5_takesErrand_21 : decode cX5_takesErrand 21 = .ok (.iconst 1, 1) := by decide +kernel
theorem dX5_takesErrand_22 : decode cX5_takesErrand 22 = .ok (.isub, 1) := by decide +kernel
theorem dX5_takesErrand_23 : decode cX5_takesErrand 23 = .ok (.invokevirtual 95, 3) := by decide +kernel
theorem dX5_takesErrand_26 : decode cX5_takesErrand 26 = .ok (.ifCond .eq 18, 3) := by decide +kernel
theorem dX5_takesErrand_29 : decode cX5_takesErrand 29 = .ok (.aload_n 0, 1) := by decide +kernel
theorem dX5_takesErrand_30 : decode cX5_takesErrand 30 = .ok (.iconst 1, 1) := by decide +kernel
theorem dX5_takesErrand_31 : decode cX5_takesErrand 31 = .ok (.iconst 0, 1) := by decide +kernel
theorem dX5_takesErrand_32 : decode cX5_takesErrand 32 = .ok (.bipush 20, 2) := by decide +kernel
theorem dX5_takesErrand_34 : decode cX5_takesErrand 34 = .ok (.invokevirtual 95, 3) := by decide +kernel
theorem dX5_takesErrand_37 : decode cX5_takesErrand 37 = .ok (.ifCond .eq 7, 3) := by decide +kernel
theorem dX5_takesErrand_40 : decode cX5_takesErrand 40 = .ok (.iconst 1, 1) := by decide +kernel
theorem dX5_takesErrand_41 : decode cX5_takesErrand 41 = .ok (.goto 4, 3) := by decide +kernel
theorem dX5_takesErrand_44 : decode cX5_takesErrand 44 = .ok (.iconst 0, 1) := by decide +kernel
theorem dX5_takesErrand_45 : decode cX5_takesErrand 45 = .ok (.istore_n 1, 1) := by decide +kernel
theorem dX5_takesErrand_46 : decode cX5_takesErrand 46 = .ok (.iload_n 1, 1) := by decide +kernel
theorem dX5_takesErrand_47 : decode cX5_takesErrand 47 = .ok (.ifCond .eq 22, 3) := by decide +kernel
theorem dX5_takesErrand_50 : decode cX5_takesErrand 50 = .ok (.aload_n 0, 1) := by decide +kernel
theorem dX5_takesErrand_51 : decode cX5_takesErrand 51 = .ok (.getfield 12, 3) := by decide +kernel
theorem dX5_takesErrand_54 : decode cX5_takesErrand 54 = .ok (.aload_n 0, 1) := by decide +kernel
theorem dX5_takesErrand_55 : decode cX5_takesErrand 55 = .ok (.getfield 41, 3) := by decide +kernel
theorem dX5_takesErrand_58 : decode cX5_takesErrand 58 = .ok (.iconst 0, 1) := by decide +kernel
theorem dX5_takesErrand_59 : decode cX5_takesErrand 59 = .ok (.iaload, 1) := by decide +kernel
theorem dX5_takesErrand_60 : decode cX5_takesErrand 60 = .ok (.aload_n 0, 1) := by decide +kernel
theorem dX5_takesErrand_61 : decode cX5_takesErrand 61 = .ok (.getfield 41, 3) := by decide +kernel
theorem dX5_takesErrand_64 : decode cX5_takesErrand 64 = .ok (.iconst 1, 1) := by decide +kernel
theorem dX5_takesErrand_65 : decode cX5_takesErrand 65 = .ok (.iaload, 1) := by decide +kernel
theorem dX5_takesErrand_66 : decode cX5_takesErrand 66 = .ok (.invokevirtual 115, 3) := by decide +kernel
theorem dX5_takesErrand_69 : decode cX5_takesErrand 69 = .ok (.iload_n 1, 1) := by decide +kernel
theorem dX5_takesErrand_70 : decode cX5_takesErrand 70 = .ok (.ireturn, 1) := by decide +kernel
theorem dX5_takesRule_0 : decode cX5_takesRule 0 = .ok (.aload_n 0, 1) := by decide +kernel
theorem dX5_takesRule_1 : decode cX5_takesRule 1 = .ok (.getfield 12, 3) := by decide +kernel
theorem dX5_takesRule_4 : decode cX5_takesRule 4 = .ok (.getfield 119, 3) := by decide +kernel
theorem dX5_takesRule_7 : decode cX5_takesRule 7 = .ok (.iconst 4, 1) := by decide +kernel
theorem dX5_takesRule_8 : decode cX5_takesRule 8 = .ok (.if_icmp .ge 56, 3) := by decide +kernel
theorem dX5_takesRule_11 : decode cX5_takesRule 11 = .ok (.aload_n 0, 1) := by decide +kernel
theorem dX5_takesRule_12 : decode cX5_takesRule 12 = .ok (.iconst 0, 1) := by decide +kernel
theorem dX5_takesRule_13 : decode cX5_takesRule 13 = .ok (.iconst 0, 1) := by decide +kernel
theorem dX5_takesRule_14 : decode cX5_takesRule 14 = .ok (.aload_n 0, 1) := by decide +kernel
theorem dX5_takesRule_15 : decode cX5_takesRule 15 = .ok (.getfield 12, 3) := by decide +kernel
theorem dX5_takesRule_18 : decode cX5_takesRule 18 = .ok (.getfield 92, 3) := by decide +kernel
theorem dX5_takesRule_21 : decode cX5_takesRule 21 = .ok (.iconst 1, 1) := by decide +kernel
theorem dX5_takesRule_22 : decode cX5_takesRule 22 = .ok (.isub, 1) := by decide +kernel
theorem dX5_takesRule_23 : decode cX5_takesRule 23 = .ok (.invokevirtual 95, 3) := by decide +kernel
theorem dX5_takesRule_26 : decode cX5_takesRule 26 = .ok (.ifCond .eq 38, 3) := by decide +kernel
theorem dX5_takesRule_29 : decode cX5_takesRule 29 = .ok (.aload_n 0, 1) := by decide +kernel
theorem dX5_takesRule_30 : decode cX5_takesRule 30 = .ok (.iconst 1, 1) := by decide +kernel
theorem dX5_takesRule_31 : decode cX5_takesRule 31 = .ok (.iconst 0, 1) := by decide +kernel
theorem dX5_takesRule_32 : decode cX5_takesRule 32 = .ok (.bipush 20, 2) := by decide +kernel
theorem dX5_takesRule_34 : decode cX5_takesRule 34 = .ok (.invokevirtual 95, 3) := by decide +kernel
theorem dX5_takesRule_37 : decode cX5_takesRule 37 = .ok (.ifCond .eq 27, 3) := by decide +kernel
theorem dX5_takesRule_40 : decode cX5_takesRule 40 = .ok (.aload_n 0, 1) := by decide +kernel
theorem dX5_takesRule_41 : decode cX5_takesRule 41 = .ok (.iconst 2, 1) := by decide +kernel
theorem dX5_takesRule_42 : decode cX5_takesRule 42 = .ok (.iconst 0, 1) := by decide +kernel
theorem dX5_takesRule_43 : decode cX5_takesRule 43 = .ok (.iconst 1, 1) := by decide +kernel
theorem dX5_takesRule_44 : decode cX5_takesRule 44 = .ok (.aload_n 0, 1) := by decide +kernel
theorem dX5_takesRule_45 : decode cX5_takesRule 45 = .ok (.getfield 12, 3) := by decide +kernel
theorem dX5_takesRule_48 : decode cX5_takesRule 48 = .ok (.getfield 92, 3) := by decide +kernel
theorem dX5_takesRule_51 : decode cX5_takesRule 51 = .ok (.ishl, 1) := by decide +kernel
theorem dX5_takesRule_52 : decode cX5_takesRule 52 = .ok (.iconst 1, 1) := by decide +kernel
theorem dX5_takesRule_53 : decode cX5_takesRule 53 = .ok (.isub, 1) := by decide +kernel
theorem dX5_takesRule_54 : decode cX5_takesRule 54 = .ok (.invokevirtual 95, 3) := by decide +kernel
theorem dX5_takesRule_57 : decode cX5_takesRule 57 = .ok (.ifCond .eq 7, 3) := by decide +kernel
theorem dX5_takesRule_60 : decode cX5_takesRule 60 = .ok (.iconst 1, 1) := by decide +kernel
theorem dX5_takesRule_61 : decode cX5_takesRule 61 = .ok (.goto 4, 3) := by decide +kernel
theorem dX5_takesRule_64 : decode cX5_takesRule 64 = .ok (.iconst 0, 1) := by decide +kernel
theorem dX5_takesRule_65 : decode cX5_takesRule 65 = .ok (.istore_n 1, 1) := by decide +kernel
theorem dX5_takesRule_66 : decode cX5_takesRule 66 = .ok (.iload_n 1, 1) := by decide +kernel
theorem dX5_takesRule_67 : decode cX5_takesRule 67 = .ok (.ifCond .eq 28, 3) := by decide +kernel
theorem dX5_takesRule_70 : decode cX5_takesRule 70 = .ok (.aload_n 0, 1) := by decide +kernel
theorem dX5_takesRule_71 : decode cX5_takesRule 71 = .ok (.getfield 12, 3) := by decide +kernel
theorem dX5_takesRule_74 : decode cX5_takesRule 74 = .ok (.aload_n 0, 1) := by decide +kernel
theorem dX5_takesRule_75 : decode cX5_takesRule 75 = .ok (.getfield 41, 3) := by decide +kernel
theorem dX5_takesRule_78 : decode cX5_takesRule 78 = .ok (.iconst 0, 1) := by decide +kernel
theorem dX5_takesRule_79 : decode cX5_takesRule 79 = .ok (.iaload, 1) := by decide +kernel
theorem dX5_takesRule_80 : decode cX5_takesRule 80 = .ok (.aload_n 0, 1) := by decide +kernel
theorem dX5_takesRule_81 : decode cX5_takesRule 81 = .ok (.getfield 41, 3) := by decide +kernel
theorem dX5_takesRule_84 : decode cX5_takesRule 84 = .ok (.iconst 1, 1) := by decide +kernel
theorem dX5_takesRule_85 : decode cX5_takesRule 85 = .ok (.iaload, 1) := by decide +kernel
theorem dX5_takesRule_86 : decode cX5_takesRule 86 = .ok (.aload_n 0, 1) := by decide +kernel
theorem dX5_takesRule_87 : decode cX5_takesRule 87 = .ok (.getfield 41, 3) := by decide +kernel
theorem dX5_takesRule_90 : decode cX5_takesRule 90 = .ok (.iconst 2, 1) := by decide +kernel
theorem dX5_takesRule_91 : decode cX5_takesRule 91 = .ok (.iaload, 1) := by decide +kernel
theorem dX5_takesRule_92 : decode cX5_takesRule 92 = .ok (.invokevirtual 122, 3) := by decide +kernel
theorem dX5_takesRule_95 : decode cX5_takesRule 95 = .ok (.iload_n 1, 1) := by decide +kernel
theorem dX5_takesRule_96 : decode cX5_takesRule 96 = .ok (.ireturn, 1) := by decide +kernel
theorem dX5_takesNumber_0 : decode cX5_takesNumber 0 = .ok (.aload_n 0, 1) := by decide +kernel
theorem dX5_takesNumber_1 : decode cX5_takesNumber 1 = .ok (.invokevirtual 53, 3) := by decide +kernel
theorem dX5_takesNumber_4 : decode cX5_takesNumber 4 = .ok (.aload_n 0, 1) := by decide +kernel
theorem dX5_takesNumber_5 : decode cX5_takesNumber 5 = .ok (.getfield 35, 3) := by decide +kernel
theorem dX5_takesNumber_8 : decode cX5_takesNumber 8 = .ok (.iconst 2, 1) := by decide +kernel
theorem dX5_takesNumber_9 : decode cX5_takesNumber 9 = .ok (.if_icmp .ne 15, 3) := by decide +kernel
theorem dX5_takesNumber_12 : decode cX5_takesNumber 12 = .ok (.aload_n 0, 1) := by decide +kernel
theorem dX5_takesNumber_13 : decode cX5_takesNumber 13 = .ok (.getfield 38, 3) := by decide +kernel
theorem dX5_takesNumber_16 : decode cX5_takesNumber 16 = .ok (.iload_n 2, 1) := by decide +kernel
theorem dX5_takesNumber_17 : decode cX5_takesNumber 17 = .ok (.iload_n 3, 1) := by decide +kernel
theorem dX5_takesNumber_18 : decode cX5_takesNumber 18 = .ok (.invokestatic 126, 3) := by decide +kernel
theorem dX5_takesNumber_21 : decode cX5_takesNumber 21 = .ok (.ifCond .ne 5, 3) := by decide +kernel
theorem dX5_takesNumber_24 : decode cX5_takesNumber 24 = .ok (.iconst 0, 1) := by decide +kernel
theorem dX5_takesNumber_25 : decode cX5_takesNumber 25 = .ok (.ireturn, 1) := by decide +kernel
theorem dX5_takesNumber_26 : decode cX5_takesNumber 26 = .ok (.aload_n 0, 1) := by decide +kernel
theorem dX5_takesNumber_27 : decode cX5_takesNumber 27 = .ok (.getfield 41, 3) := by decide +kernel
theorem dX5_takesNumber_30 : decode cX5_takesNumber 30 = .ok (.iload_n 1, 1) := by decide +kernel
theorem dX5_takesNumber_31 : decode cX5_takesNumber 31 = .ok (.aload_n 0, 1) := by decide +kernel
theorem dX5_takesNumber_32 : decode cX5_takesNumber 32 = .ok (.getfield 38, 3) := by decide +kernel
theorem dX5_takesNumber_35 : decode cX5_takesNumber 35 = .ok (.iastore, 1) := by decide +kernel
theorem dX5_takesNumber_36 : decode cX5_takesNumber 36 = .ok (.iconst 1, 1) := by decide +kernel
theorem dX5_takesNumber_37 : decode cX5_takesNumber 37 = .ok (.ireturn, 1) := by decide +kernel
theorem dX5_takesEndOfItem_0 : decode cX5_takesEndOfItem 0 = .ok (.aload_n 0, 1) := by decide +kernel
theorem dX5_takesEndOfItem_1 : decode cX5_takesEndOfItem 1 = .ok (.invokevirtual 53, 3) := by decide +kernel
theorem dX5_takesEndOfItem_4 : decode cX5_takesEndOfItem 4 = .ok (.aload_n 0, 1) := by decide +kernel
theorem dX5_takesEndOfItem_5 : decode cX5_takesEndOfItem 5 = .ok (.getfield 35, 3) := by decide +kernel
theorem dX5_takesEndOfItem_8 : decode cX5_takesEndOfItem 8 = .ok (.iconst 3, 1) := by decide +kernel
theorem dX5_takesEndOfItem_9 : decode cX5_takesEndOfItem 9 = .ok (.if_icmp .ne 7, 3) := by decide +kernel
theorem dX5_takesEndOfItem_12 : decode cX5_takesEndOfItem 12 = .ok (.iconst 1, 1) := by decide +kernel
theorem dX5_takesEndOfItem_13 : decode cX5_takesEndOfItem 13 = .ok (.goto 4, 3) := by decide +kernel
theorem dX5_takesEndOfItem_16 : decode cX5_takesEndOfItem 16 = .ok (.iconst 0, 1) := by decide +kernel
theorem dX5_takesEndOfItem_17 : decode cX5_takesEndOfItem 17 = .ok (.ireturn, 1) := by decide +kernel
theorem dX5_nextToken_0 : decode cX5_nextToken 0 = .ok (.aload_n 0, 1) := by decide +kernel
theorem dX5_nextToken_1 : decode cX5_nextToken 1 = .ok (.aload_n 0, 1) := by decide +kernel
theorem dX5_nextToken_2 : decode cX5_nextToken 2 = .ok (.aload_n 0, 1) := by decide +kernel
theorem dX5_nextToken_3 : decode cX5_nextToken 3 = .ok (.getfield 32, 3) := by decide +kernel
theorem dX5_nextToken_6 : decode cX5_nextToken 6 = .ok (.bipush 32, 2) := by decide +kernel
theorem dX5_nextToken_8 : decode cX5_nextToken 8 = .ok (.bipush 32, 2) := by decide +kernel
theorem dX5_nextToken_10 : decode cX5_nextToken 10 = .ok (.invokevirtual 129, 3) := by decide +kernel
theorem dX5_nextToken_13 : decode cX5_nextToken 13 = .ok (.putfield 22, 3) := by decide +kernel
theorem dX5_nextToken_16 : decode cX5_nextToken 16 = .ok (.aload_n 0, 1) := by decide +kernel
theorem dX5_nextToken_17 : decode cX5_nextToken 17 = .ok (.aload_n 0, 1) := by decide +kernel
theorem dX5_nextToken_18 : decode cX5_nextToken 18 = .ok (.getfield 22, 3) := by decide +kernel
theorem dX5_nextToken_21 : decode cX5_nextToken 21 = .ok (.putfield 32, 3) := by decide +kernel
theorem dX5_nextToken_24 : decode cX5_nextToken 24 = .ok (.aload_n 0, 1) := by decide +kernel
theorem dX5_nextToken_25 : decode cX5_nextToken 25 = .ok (.getfield 22, 3) := by decide +kernel
theorem dX5_nextToken_28 : decode cX5_nextToken 28 = .ok (.aload_n 0, 1) := by decide +kernel
theorem dX5_nextToken_29 : decode cX5_nextToken 29 = .ok (.getfield 29, 3) := by decide +kernel
theorem dX5_nextToken_32 : decode cX5_nextToken 32 = .ok (.if_icmp .lt 11, 3) := by decide +kernel
theorem dX5_nextToken_35 : decode cX5_nextToken 35 = .ok (.aload_n 0, 1) := by decide +kernel
theorem dX5_nextToken_36 : decode cX5_nextToken 36 = .ok (.iconst 0, 1) := by decide +kernel
theorem dX5_nextToken_37 : decode cX5_nextToken 37 = .ok (.putfield 35, 3) := by decide +kernel
theorem dX5_nextToken_40 : decode cX5_nextToken 40 = .ok (.goto 139, 3) := by decide +kernel
theorem dX5_nextToken_43 : decode cX5_nextToken 43 = .ok (.aload_n 0, 1) := by decide +kernel
theorem dX5_nextToken_44 : decode cX5_nextToken 44 = .ok (.getfield 25, 3) := by decide +kernel
theorem dX5_nextToken_47 : decode cX5_nextToken 47 = .ok (.aload_n 0, 1) := by decide +kernel
theorem dX5_nextToken_48 : decode cX5_nextToken 48 = .ok (.getfield 22, 3) := by decide +kernel
theorem dX5_nextToken_51 : decode cX5_nextToken 51 = .ok (.iaload, 1) := by decide +kernel
theorem dX5_nextToken_52 : decode cX5_nextToken 52 = .ok (.bipush 97, 2) := by decide +kernel
theorem dX5_nextToken_54 : decode cX5_nextToken 54 = .ok (.if_icmp .lt 41, 3) := by decide +kernel
theorem dX5_nextToken_57 : decode cX5_nextToken 57 = .ok (.aload_n 0, 1) := by decide +kernel
theorem dX5_nextToken_58 : decode cX5_nextToken 58 = .ok (.getfield 25, 3) := by decide +kernel
theorem dX5_nextToken_61 : decode cX5_nextToken 61 = .ok (.aload_n 0, 1) := by decide +kernel
theorem dX5_nextToken_62 : decode cX5_nextToken 62 = .ok (.getfield 22, 3) := by decide +kernel
theorem dX5_nextToken_65 : decode cX5_nextToken 65 = .ok (.iaload, 1) := by decide +kernel
theorem dX5_nextToken_66 : decode cX5_nextToken 66 = .ok (.bipush 122, 2) := by decide +kernel
theorem dX5_nextToken_68 : decode cX5_nextToken 68 = .ok (.if_icmp .gt 27, 3) := by decide +kernel
theorem dX5_nextToken_71 : decode cX5_nextToken 71 = .ok (.aload_n 0, 1) := by decide +kernel
theorem dX5_nextToken_72 : decode cX5_nextToken 72 = .ok (.iconst 1, 1) := by decide +kernel
theorem dX5_nextToken_73 : decode cX5_nextToken 73 = .ok (.putfield 35, 3) := by decide +kernel
theorem dX5_nextToken_76 : decode cX5_nextToken 76 = .ok (.aload_n 0, 1) := by decide +kernel
theorem dX5_nextToken_77 : decode cX5_nextToken 77 = .ok (.aload_n 0, 1) := by decide +kernel
theorem dX5_nextToken_78 : decode cX5_nextToken 78 = .ok (.aload_n 0, 1) := by decide +kernel
theorem dX5_nextToken_79 : decode cX5_nextToken 79 = .ok (.getfield 22, 3) := by decide +kernel
theorem dX5_nextToken_82 : decode cX5_nextToken 82 = .ok (.bipush 97, 2) := by decide +kernel
theorem dX5_nextToken_84 : decode cX5_nextToken 84 = .ok (.bipush 122, 2) := by decide +kernel
theorem dX5_nextToken_86 : decode cX5_nextToken 86 = .ok (.invokevirtual 129, 3) := by decide +kernel
theorem dX5_nextToken_89 : decode cX5_nextToken 89 = .ok (.putfield 32, 3) := by decide +kernel
theorem dX5_nextToken_92 : decode cX5_nextToken 92 = .ok (.goto 87, 3) := by decide +kernel
theorem dX5_nextToken_95 : decode cX5_nextToken 95 = .ok (.aload_n 0, 1) := by decide +kernel
theorem dX5_nextToken_96 : decode cX5_nextToken 96 = .ok (.getfield 25, 3) := by decide +kernel
theorem dX5_nextToken_99 : decode cX5_nextToken 99 = .ok (.aload_n 0, 1) := by decide +kernel
theorem dX5_nextToken_100 : decode cX5_nextToken 100 = .ok (.getfield 22, 3) := by decide +kernel
theorem dX5_nextToken_103 : decode cX5_nextToken 103 = .ok (.iaload, 1) := by decide +kernel
theorem dX5_nextToken_104 : decode cX5_nextToken 104 = .ok (.bipush 48, 2) := by decide +kernel
theorem dX5_nextToken_106 : decode cX5_nextToken 106 = .ok (.if_icmp .lt 40, 3) := by decide +kernel
theorem dX5_nextToken_109 : decode cX5_nextToken 109 = .ok (.aload_n 0, 1) := by decide +kernel
theorem dX5_nextToken_110 : decode cX5_nextToken 110 = .ok (.getfield 25, 3) := by decide +kernel
theorem dX5_nextToken_113 : decode cX5_nextToken 113 = .ok (.aload_n 0, 1) := by decide +kernel
theorem dX5_nextToken_114 : decode cX5_nextToken 114 = .ok (.getfield 22, 3) := by decide +kernel
theorem dX5_nextToken_117 : decode cX5_nextToken 117 = .ok (.iaload, 1) := by decide +kernel
theorem dX5_nextToken_118 : decode cX5_nextToken 118 = .ok (.bipush 57, 2) := by decide +kernel
theorem dX5_nextToken_120 : decode cX5_nextToken 120 = .ok (.if_icmp .gt 26, 3) := by decide +kernel
theorem dX5_nextToken_123 : decode cX5_nextToken 123 = .ok (.aload_n 0, 1) := by decide +kernel
theorem dX5_nextToken_124 : decode cX5_nextToken 124 = .ok (.aload_n 0, 1) := by decide +kernel
theorem dX5_nextToken_125 : decode cX5_nextToken 125 = .ok (.aload_n 0, 1) := by decide +kernel
theorem dX5_nextToken_126 : decode cX5_nextToken 126 = .ok (.getfield 22, 3) := by decide +kernel
theorem dX5_nextToken_129 : decode cX5_nextToken 129 = .ok (.bipush 48, 2) := by decide +kernel
theorem dX5_nextToken_131 : decode cX5_nextToken 131 = .ok (.bipush 57, 2) := by decide +kernel
theorem dX5_nextToken_133 : decode cX5_nextToken 133 = .ok (.invokevirtual 129, 3) := by decide +kernel
theorem dX5_nextToken_136 : decode cX5_nextToken 136 = .ok (.putfield 32, 3) := by decide +kernel
theorem dX5_nextToken_139 : decode cX5_nextToken 139 = .ok (.aload_n 0, 1) := by decide +kernel
theorem dX5_nextToken_140 : decode cX5_nextToken 140 = .ok (.invokevirtual 133, 3) := by decide +kernel
theorem dX5_nextToken_143 : decode cX5_nextToken 143 = .ok (.goto 36, 3) := by decide +kernel
theorem dX5_nextToken_146 : decode cX5_nextToken 146 = .ok (.aload_n 0, 1) := by decide +kernel
theorem dX5_nextToken_147 : decode cX5_nextToken 147 = .ok (.aload_n 0, 1) := by decide +kernel
theorem dX5_nextToken_148 : decode cX5_nextToken 148 = .ok (.getfield 25, 3) := by decide +kernel
theorem dX5_nextToken_151 : decode cX5_nextToken 151 = .ok (.aload_n 0, 1) := by decide +kernel
theorem dX5_nextToken_152 : decode cX5_nextToken 152 = .ok (.getfield 22, 3) := by decide +kernel
theorem dX5_nextToken_155 : decode cX5_nextToken 155 = .ok (.iaload, 1) := by decide +kernel
theorem dX5_nextToken_156 : decode cX5_nextToken 156 = .ok (.bipush 59, 2) := by decide +kernel
theorem dX5_nextToken_158 : decode cX5_nextToken 158 = .ok (.if_icmp .ne 7, 3) := by decide +kernel
theorem dX5_nextToken_161 : decode cX5_nextToken 161 = .ok (.iconst 3, 1) := by decide +kernel
theorem dX5_nextToken_162 : decode cX5_nextToken 162 = .ok (.goto 4, 3) := by decide +kernel
theorem dX5_nextToken_165 : decode cX5_nextToken 165 = .ok (.iconst 4, 1) := by decide +kernel
theorem dX5_nextToken_166 : decode cX5_nextToken 166 = .ok (.putfield 35, 3) := by decide +kernel
theorem dX5_nextToken_169 : decode cX5_nextToken 169 = .ok (.aload_n 0, 1) := by decide +kernel
theorem dX5_nextToken_170 : decode cX5_nextToken 170 = .ok (.aload_n 0, 1) := by decide +kernel
theorem dX5_nextToken_171 : decode cX5_nextToken 171 = .ok (.getfield 22, 3) := by decide +kernel
theorem dX5_nextToken_174 : decode cX5_nextToken 174 = .ok (.iconst 1, 1) := by decide +kernel
theorem dX5_nextToken_175 : decode cX5_nextToken 175 = .ok (.iadd, 1) := by decide +kernel
theorem dX5_nextToken_176 : decode cX5_nextToken 176 = .ok (.putfield 32, 3) := by decide +kernel
theorem dX5_nextToken_179 : decode cX5_nextToken 179 = .ok (.return_, 1) := by decide +kernel
theorem dX5_endOfRun_0 : decode cX5_endOfRun 0 = .ok (.iload_n 1, 1) := by decide +kernel
theorem dX5_endOfRun_1 : decode cX5_endOfRun 1 = .ok (.istore 4, 2) := by decide +kernel
theorem dX5_endOfRun_3 : decode cX5_endOfRun 3 = .ok (.iload 4, 2) := by decide +kernel
theorem dX5_endOfRun_5 : decode cX5_endOfRun 5 = .ok (.aload_n 0, 1) := by decide +kernel
theorem dX5_endOfRun_6 : decode cX5_endOfRun 6 = .ok (.getfield 29, 3) := by decide +kernel
theorem dX5_endOfRun_9 : decode cX5_endOfRun 9 = .ok (.if_icmp .ge 31, 3) := by decide +kernel
theorem dX5_endOfRun_12 : decode cX5_endOfRun 12 = .ok (.aload_n 0, 1) := by decide +kernel
theorem dX5_endOfRun_13 : decode cX5_endOfRun 13 = .ok (.getfield 25, 3) := by decide +kernel
theorem dX5_endOfRun_16 : decode cX5_endOfRun 16 = .ok (.iload 4, 2) := by decide +kernel
theorem dX5_endOfRun_18 : decode cX5_endOfRun 18 = .ok (.iaload, 1) := by decide +kernel
theorem dX5_endOfRun_19 : decode cX5_endOfRun 19 = .ok (.iload_n 2, 1) := by decide +kernel
theorem dX5_endOfRun_20 : decode cX5_endOfRun 20 = .ok (.if_icmp .lt 20, 3) := by decide +kernel
theorem dX5_endOfRun_23 : decode cX5_endOfRun 23 = .ok (.aload_n 0, 1) := by decide +kernel
theorem dX5_endOfRun_24 : decode cX5_endOfRun 24 = .ok (.getfield 25, 3) := by decide +kernel
theorem dX5_endOfRun_27 : decode cX5_endOfRun 27 = .ok (.iload 4, 2) := by decide +kernel
theorem dX5_endOfRun_29 : decode cX5_endOfRun 29 = .ok (.iaload, 1) := by decide +kernel
theorem dX5_endOfRun_30 : decode cX5_endOfRun 30 = .ok (.iload_n 3, 1) := by decide +kernel
theorem dX5_endOfRun_31 : decode cX5_endOfRun 31 = .ok (.if_icmp .gt 9, 3) := by decide +kernel
theorem dX5_endOfRun_34 : decode cX5_endOfRun 34 = .ok (.iinc 4 1, 3) := by decide +kernel
theorem dX5_endOfRun_37 : decode cX5_endOfRun 37 = .ok (.goto (-34), 3) := by decide +kernel
theorem dX5_endOfRun_40 : decode cX5_endOfRun 40 = .ok (.iload 4, 2) := by decide +kernel
theorem dX5_endOfRun_42 : decode cX5_endOfRun 42 = .ok (.ireturn, 1) := by decide +kernel
theorem dX5_takeFigures_0 : decode cX5_takeFigures 0 = .ok (.aload_n 0, 1) := by decide +kernel
theorem dX5_takeFigures_1 : decode cX5_takeFigures 1 = .ok (.aload_n 0, 1) := by decide +kernel
theorem dX5_takeFigures_2 : decode cX5_takeFigures 2 = .ok (.getfield 32, 3) := by decide +kernel
theorem dX5_takeFigures_5 : decode cX5_takeFigures 5 = .ok (.aload_n 0, 1) := by decide +kernel
theorem dX5_takeFigures_6 : decode cX5_takeFigures 6 = .ok (.getfield 22, 3) := by decide +kernel
theorem dX5_takeFigures_9 : decode cX5_takeFigures 9 = .ok (.isub, 1) := by decide +kernel
theorem dX5_takeFigures_10 : decode cX5_takeFigures 10 = .ok (.iconst 2, 1) := by decide +kernel
theorem dX5_takeFigures_11 : decode cX5_takeFigures 11 = .ok (.if_icmp .gt 7, 3) := by decide +kernel
theorem dX5_takeFigures_14 : decode cX5_takeFigures 14 = .ok (.iconst 2, 1) := by decide +kernel
theorem dX5_takeFigures_15 : decode cX5_takeFigures 15 = .ok (.goto 4, 3) := by decide +kernel
theorem dX5_takeFigures_18 : decode cX5_takeFigures 18 = .ok (.iconst 4, 1) := by decide +kernel
theorem dX5_takeFigures_19 : decode cX5_takeFigures 19 = .ok (.putfield 35, 3) := by decide +kernel
theorem dX5_takeFigures_22 : decode cX5_takeFigures 22 = .ok (.aload_n 0, 1) := by decide +kernel
theorem dX5_takeFigures_23 : decode cX5_takeFigures 23 = .ok (.iconst 0, 1) := by decide +kernel
theorem dX5_takeFigures_24 : decode cX5_takeFigures 24 = .ok (.putfield 38, 3) := by decide +kernel
theorem dX5_takeFigures_27 : decode cX5_takeFigures 27 = .ok (.aload_n 0, 1) := by decide +kernel
theorem dX5_takeFigures_28 : decode cX5_takeFigures 28 = .ok (.getfield 22, 3) := by decide +kernel
theorem dX5_takeFigures_31 : decode cX5_takeFigures 31 = .ok (.istore_n 1, 1) := by decide +kernel
theorem dX5_takeFigures_32 : decode cX5_takeFigures 32 = .ok (.iload_n 1, 1) := by decide +kernel
theorem dX5_takeFigures_33 : decode cX5_takeFigures 33 = .ok (.aload_n 0, 1) := by decide +kernel
theorem dX5_takeFigures_34 : decode cX5_takeFigures 34 = .ok (.getfield 32, 3) := by decide +kernel
theorem dX5_takeFigures_37 : decode cX5_takeFigures 37 = .ok (.if_icmp .ge 40, 3) := by decide +kernel
theorem dX5_takeFigures_40 : decode cX5_takeFigures 40 = .ok (.iload_n 1, 1) := by decide +kernel
theorem dX5_takeFigures_41 : decode cX5_takeFigures 41 = .ok (.aload_n 0, 1) := by decide +kernel
theorem dX5_takeFigures_42 : decode cX5_takeFigures 42 = .ok (.getfield 22, 3) := by decide +kernel
theorem dX5_takeFigures_45 : decode cX5_takeFigures 45 = .ok (.iconst 2, 1) := by decide +kernel
theorem dX5_takeFigures_46 : decode cX5_takeFigures 46 = .ok (.iadd, 1) := by decide +kernel
theorem dX5_takeFigures_47 : decode cX5_takeFigures 47 = .ok (.if_icmp .ge 30, 3) := by decide +kernel
theorem dX5_takeFigures_50 : decode cX5_takeFigures 50 = .ok (.aload_n 0, 1) := by decide +kernel
theorem dX5_takeFigures_51 : decode cX5_takeFigures 51 = .ok (.bipush 10, 2) := by decide +kernel
theorem dX5_takeFigures_53 : decode cX5_takeFigures 53 = .ok (.aload_n 0, 1) := by decide +kernel
theorem dX5_takeFigures_54 : decode cX5_takeFigures 54 = .ok (.getfield 38, 3) := by decide +kernel
theorem dX5_takeFigures_57 : decode cX5_takeFigures 57 = .ok (.imul, 1) := by decide +kernel
theorem dX5_takeFigures_58 : decode cX5_takeFigures 58 = .ok (.aload_n 0, 1) := by decide +kernel
theorem dX5_takeFigures_59 : decode cX5_takeFigures 59 = .ok (.getfield 25, 3) := by decide +kernel
theorem dX5_takeFigures_62 : decode cX5_takeFigures 62 = .ok (.iload_n 1, 1) := by decide +kernel
theorem dX5_takeFigures_63 : decode cX5_takeFigures 63 = .ok (.iaload, 1) := by decide +kernel
theorem dX5_takeFigures_64 : decode cX5_takeFigures 64 = .ok (.iadd, 1) := by decide +kernel
theorem dX5_takeFigures_65 : decode cX5_takeFigures 65 = .ok (.bipush 48, 2) := by decide +kernel
theorem dX5_takeFigures_67 : decode cX5_takeFigures 67 = .ok (.isub, 1) := by decide +kernel
theorem dX5_takeFigures_68 : decode cX5_takeFigures 68 = .ok (.putfield 38, 3) := by decide +kernel
theorem dX5_takeFigures_71 : decode cX5_takeFigures 71 = .ok (.iinc 1 1, 3) := by decide +kernel
theorem dX5_takeFigures_74 : decode cX5_takeFigures 74 = .ok (.goto (-42), 3) := by decide +kernel
theorem dX5_takeFigures_77 : decode cX5_takeFigures 77 = .ok (.return_, 1) := by decide +kernel
theorem dX5_isWord_0 : decode cX5_isWord 0 = .ok (.aload_n 0, 1) := by decide +kernel
theorem dX5_isWord_1 : decode cX5_isWord 1 = .ok (.getfield 32, 3) := by decide +kernel
theorem dX5_isWord_4 : decode cX5_isWord 4 = .ok (.aload_n 0, 1) := by decide +kernel
theorem dX5_isWord_5 : decode cX5_isWord 5 = .ok (.getfield 22, 3) := by decide +kernel
theorem dX5_isWord_8 : decode cX5_isWord 8 = .ok (.isub, 1) := by decide +kernel
theorem dX5_isWord_9 : decode cX5_isWord 9 = .ok (.aload_n 1, 1) := by decide +kernel
theorem dX5_isWord_10 : decode cX5_isWord 10 = .ok (.invokevirtual 136, 3) := by decide +kernel
theorem dX5_isWord_13 : decode cX5_isWord 13 = .ok (.if_icmp .eq 5, 3) := by decide +kernel
theorem dX5_isWord_16 : decode cX5_isWord 16 = .ok (.iconst 0, 1) := by decide +kernel
theorem dX5_isWord_17 : decode cX5_isWord 17 = .ok (.ireturn, 1) := by decide +kernel
theorem dX5_isWord_18 : decode cX5_isWord 18 = .ok (.iconst 0, 1) := by decide +kernel
theorem dX5_isWord_19 : decode cX5_isWord 19 = .ok (.istore_n 2, 1) := by decide +kernel
theorem dX5_isWord_20 : decode cX5_isWord 20 = .ok (.iload_n 2, 1) := by decide +kernel
theorem dX5_isWord_21 : decode cX5_isWord 21 = .ok (.aload_n 1, 1) := by decide +kernel
theorem dX5_isWord_22 : decode cX5_isWord 22 = .ok (.invokevirtual 136, 3) := by decide +kernel
theorem dX5_isWord_25 : decode cX5_isWord 25 = .ok (.if_icmp .ge 30, 3) := by decide +kernel
theorem dX5_isWord_28 : decode cX5_isWord 28 = .ok (.aload_n 0, 1) := by decide +kernel
theorem dX5_isWord_29 : decode cX5_isWord 29 = .ok (.getfield 25, 3) := by decide +kernel
theorem dX5_isWord_32 : decode cX5_isWord 32 = .ok (.aload_n 0, 1) := by decide +kernel
theorem dX5_isWord_33 : decode cX5_isWord 33 = .ok (.getfield 22, 3) := by decide +kernel
theorem dX5_isWord_36 : decode cX5_isWord 36 = .ok (.iload_n 2, 1) := by decide +kernel
theorem dX5_isWord_37 : decode cX5_isWord 37 = .ok (.iadd, 1) := by decide +kernel
theorem dX5_isWord_38 : decode cX5_isWord 38 = .ok (.iaload, 1) := by decide +kernel
theorem dX5_isWord_39 : decode cX5_isWord 39 = .ok (.aload_n 1, 1) := by decide +kernel
theorem dX5_isWord_40 : decode cX5_isWord 40 = .ok (.iload_n 2, 1) := by decide +kernel
theorem dX5_isWord_41 : decode cX5_isWord 41 = .ok (.invokevirtual 141, 3) := by decide +kernel
theorem dX5_isWord_44 : decode cX5_isWord 44 = .ok (.if_icmp .eq 5, 3) := by decide +kernel
theorem dX5_isWord_47 : decode cX5_isWord 47 = .ok (.iconst 0, 1) := by decide +kernel
theorem dX5_isWord_48 : decode cX5_isWord 48 = .ok (.ireturn, 1) := by decide +kernel
theorem dX5_isWord_49 : decode cX5_isWord 49 = .ok (.iinc 2 1, 3) := by decide +kernel
theorem dX5_isWord_52 : decode cX5_isWord 52 = .ok (.goto (-32), 3) := by decide +kernel
theorem dX5_isWord_55 : decode cX5_isWord 55 = .ok (.iconst 1, 1) := by decide +kernel
theorem dX5_isWord_56 : decode cX5_isWord 56 = .ok (.ireturn, 1) := by decide +kernel
theorem dX6_init_0 : decode cX6_init 0 = .ok (.aload_n 0, 1) := by decide +kernel
theorem dX6_init_1 : decode cX6_init 1 = .ok (.invokespecial 5, 3) := by decide +kernel
theorem dX6_init_4 : decode cX6_init 4 = .ok (.aload_n 0, 1) := by decide +kernel
theorem dX6_init_5 : decode cX6_init 5 = .ok (.iconst 0, 1) := by decide +kernel
theorem dX6_init_6 : decode cX6_init 6 = .ok (.putfield 11, 3) := by decide +kernel
theorem dX6_init_9 : decode cX6_init 9 = .ok (.aload_n 0, 1) := by decide +kernel
theorem dX6_init_10 : decode cX6_init 10 = .ok (.iconst 0, 1) := by decide +kernel
theorem dX6_init_11 : decode cX6_init 11 = .ok (.putfield 15, 3) := by decide +kernel
theorem dX6_init_14 : decode cX6_init 14 = .ok (.aload_n 0, 1) := by decide +kernel
theorem dX6_init_15 : decode cX6_init 15 = .ok (.iconst 4, 1) := by decide +kernel
theorem dX6_init_16 : decode cX6_init 16 = .ok (.newarray .int, 2) := by decide +kernel
theorem dX6_init_18 : decode cX6_init 18 = .ok (.putfield 18, 3) := by decide +kernel
theorem dX6_init_21 : decode cX6_init 21 = .ok (.aload_n 0, 1) := by decide +kernel
theorem dX6_init_22 : decode cX6_init 22 = .ok (.iconst 4, 1) := by decide +kernel
theorem dX6_init_23 : decode cX6_init 23 = .ok (.newarray .boolean, 2) := by decide +kernel
theorem dX6_init_25 : decode cX6_init 25 = .ok (.putfield 22, 3) := by decide +kernel
theorem dX6_init_28 : decode cX6_init 28 = .ok (.aload_n 0, 1) := by decide +kernel
theorem dX6_init_29 : decode cX6_init 29 = .ok (.bipush 20, 2) := by decide +kernel
theorem dX6_init_31 : decode cX6_init 31 = .ok (.newarray .int, 2) := by decide +kernel
theorem dX6_init_33 : decode cX6_init 33 = .ok (.putfield 26, 3) := by decide +kernel
theorem dX6_init_36 : decode cX6_init 36 = .ok (.aload_n 0, 1) := by decide +kernel
theorem dX6_init_37 : decode cX6_init 37 = .ok (.bipush 25, 2) := by decide +kernel
theorem dX6_init_39 : decode cX6_init 39 = .ok (.newarray .int, 2) := by decide +kernel
theorem dX6_init_41 : decode cX6_init 41 = .ok (.putfield 29, 3) := by decide +kernel
theorem dX6_init_44 : decode cX6_init 44 = .ok (.aload_n 0, 1) := by decide +kernel
theorem dX6_init_45 : decode cX6_init 45 = .ok (.bipush 25, 2) := by decide +kernel
theorem dX6_init_47 : decode cX6_init 47 = .ok (.newarray .int, 2) := by decide +kernel
theorem dX6_init_49 : decode cX6_init 49 = .ok (.putfield 32, 3) := by decide +kernel
theorem dX6_init_52 : decode cX6_init 52 = .ok (.aload_n 0, 1) := by decide +kernel
theorem dX6_init_53 : decode cX6_init 53 = .ok (.iconst 5, 1) := by decide +kernel
theorem dX6_init_54 : decode cX6_init 54 = .ok (.newarray .int, 2) := by decide +kernel
theorem dX6_init_56 : decode cX6_init 56 = .ok (.putfield 35, 3) := by decide +kernel
theorem dX6_init_59 : decode cX6_init 59 = .ok (.aload_n 0, 1) := by decide +kernel
theorem dX6_init_60 : decode cX6_init 60 = .ok (.aload_n 1, 1) := by decide +kernel
theorem dX6_init_61 : decode cX6_init 61 = .ok (.putfield 38, 3) := by decide +kernel
theorem dX6_init_64 : decode cX6_init 64 = .ok (.return_, 1) := by decide +kernel
theorem dX6_learn_0 : decode cX6_learn 0 = .ok (.aload_n 0, 1) := by decide +kernel
theorem dX6_learn_1 : decode cX6_learn 1 = .ok (.aload_n 1, 1) := by decide +kernel
theorem dX6_learn_2 : decode cX6_learn 2 = .ok (.getfield 42, 3) := by decide +kernel
theorem dX6_learn_5 : decode cX6_learn 5 = .ok (.putfield 11, 3) := by decide +kernel
theorem dX6_learn_8 : decode cX6_learn 8 = .ok (.aload_n 0, 1) := by decide +kernel
theorem dX6_learn_9 : decode cX6_learn 9 = .ok (.aload_n 1, 1) := by decide +kernel
theorem dX6_learn_10 : decode cX6_learn 10 = .ok (.getfield 45, 3) := by decide +kernel
theorem dX6_learn_13 : decode cX6_learn 13 = .ok (.putfield 15, 3) := by decide +kernel
theorem dX6_learn_16 : decode cX6_learn 16 = .ok (.iconst 0, 1) := by decide +kernel
theorem dX6_learn_17 : decode cX6_learn 17 = .ok (.istore_n 2, 1) := by decide +kernel
theorem dX6_learn_18 : decode cX6_learn 18 = .ok (.iload_n 2, 1) := by decide +kernel
theorem dX6_learn_19 : decode cX6_learn 19 = .ok (.aload_n 0, 1) := by decide +kernel
theorem dX6_learn_20 : decode cX6_learn 20 = .ok (.getfield 15, 3) := by decide +kernel
theorem dX6_learn_23 : decode cX6_learn 23 = .ok (.if_icmp .ge 74, 3) := by decide +kernel
theorem dX6_learn_26 : decode cX6_learn 26 = .ok (.aload_n 1, 1) := by decide +kernel
theorem dX6_learn_27 : decode cX6_learn 27 = .ok (.getfield 46, 3) := by decide +kernel
theorem dX6_learn_30 : decode cX6_learn 30 = .ok (.iload_n 2, 1) := by decide +kernel
theorem dX6_learn_31 : decode cX6_learn 31 = .ok (.iaload, 1) := by decide +kernel
theorem dX6_learn_32 : decode cX6_learn 32 = .ok (.istore_n 3, 1) := by decide +kernel
theorem dX6_learn_33 : decode cX6_learn 33 = .ok (.aload_n 0, 1) := by decide +kernel
theorem dX6_learn_34 : decode cX6_learn 34 = .ok (.getfield 18, 3) := by decide +kernel
theorem dX6_learn_37 : decode cX6_learn 37 = .ok (.iload_n 2, 1) := by decide +kernel
theorem dX6_learn_38 : decode cX6_learn 38 = .ok (.iload_n 3, 1) := by decide +kernel
theorem dX6_learn_39 : decode cX6_learn 39 = .ok (.iastore, 1) := by decide +kernel
theorem dX6_learn_40 : decode cX6_learn 40 = .ok (.aload_n 0, 1) := by decide +kernel
theorem dX6_learn_41 : decode cX6_learn 41 = .ok (.getfield 22, 3) := by decide +kernel
theorem dX6_learn_44 : decode cX6_learn 44 = .ok (.iload_n 2, 1) := by decide +kernel
theorem dX6_learn_45 : decode cX6_learn 45 = .ok (.aload_n 0, 1) := by decide +kernel
theorem dX6_learn_46 : decode cX6_learn 46 = .ok (.aload_n 1, 1) := by decide +kernel
theorem dX6_learn_47 : decode cX6_learn 47 = .ok (.iload_n 2, 1) := by decide +kernel
theorem dX6_learn_48 : decode cX6_learn 48 = .ok (.iload_n 3, 1) := by decide +kernel
theorem dX6_learn_49 : decode cX6_learn 49 = .ok (.iconst 0, 1) := by decide +kernel
theorem dX6_learn_50 : decode cX6_learn 50 = .ok (.invokevirtual 49, 3) := by decide +kernel
theorem dX6_learn_53 : decode cX6_learn 53 = .ok (.bastore, 1) := by decide +kernel
theorem dX6_learn_54 : decode cX6_learn 54 = .ok (.iconst 0, 1) := by decide +kernel
theorem dX6_learn_55 : decode cX6_learn 55 = .ok (.istore 4, 2) := by decide +kernel
theorem dX6_learn_57 : decode cX6_learn 57 = .ok (.iload 4, 2) := by decide +kernel
theorem dX6_learn_59 : decode cX6_learn 59 = .ok (.aload_n 0, 1) := by decide +kernel
theorem dX6_learn_60 : decode cX6_learn 60 = .ok (.getfield 11, 3) := by decide +kernel
theorem dX6_learn_63 : decode cX6_learn 63 = .ok (.if_icmp .ge 28, 3) := by decide +kernel
theorem dX6_learn_66 : decode cX6_learn 66 = .ok (.aload_n 0, 1) := by decide +kernel
theorem dX6_learn_67 : decode cX6_learn 67 = .ok (.getfield 26, 3) := by decide +kernel
theorem dX6_learn_70 : decode cX6_learn 70 = .ok (.iload_n 2, 1) := by decide +kernel
theorem dX6_learn_71 : decode cX6_learn 71 = .ok (.iconst 5, 1) := by decide +kernel
theorem dX6_learn_72 : decode cX6_learn 72 = .ok (.imul, 1) := by decide +kernel
theorem dX6_learn_73 : decode cX6_learn 73 = .ok (.iload 4, 2) := by decide +kernel
theorem dX6_learn_75 : decode cX6_learn 75 = .ok (.iadd, 1) := by decide +kernel
theorem dX6_learn_76 : decode cX6_learn 76 = .ok (.aload_n 0, 1) := by decide +kernel
theorem dX6_learn_77 : decode cX6_learn 77 = .ok (.aload_n 1, 1) := by decide +kernel
theorem dX6_learn_78 : decode cX6_learn 78 = .ok (.iload_n 2, 1) := by decide +kernel
theorem dX6_learn_79 : decode cX6_learn 79 = .ok (.iload 4, 2) := by decide +kernel
theorem dX6_learn_81 : decode cX6_learn 81 = .ok (.invokevirtual 53, 3) := by decide +kernel
theorem dX6_learn_84 : decode cX6_learn 84 = .ok (.iastore, 1) := by decide +kernel
theorem dX6_learn_85 : decode cX6_learn 85 = .ok (.iinc 4 1, 3) := by decide +kernel
theorem dX6_learn_88 : decode cX6_learn 88 = .ok (.goto (-31), 3) := by decide +kernel
theorem dX6_learn_91 : decode cX6_learn 91 = .ok (.iinc 2 1, 3) := by decide +kernel
theorem dX6_learn_94 : decode cX6_learn 94 = .ok (.goto (-76), 3) := by decide +kernel
theorem dX6_learn_97 : decode cX6_learn 97 = .ok (.return_, 1) := by decide +kernel
theorem dX6_sumsFor_0 : decode cX6_sumsFor 0 = .ok (.iconst 0, 1) := by decide +kernel
theorem dX6_sumsFor_1 : decode cX6_sumsFor 1 = .ok (.istore 4, 2) := by decide +kernel
theorem dX6_sumsFor_3 : decode cX6_sumsFor 3 = .ok (.iconst 0, 1) := by decide +kernel
theorem dX6_sumsFor_4 : decode cX6_sumsFor 4 = .ok (.istore 5, 2) := by decide +kernel
theorem dX6_sumsFor_6 : decode cX6_sumsFor 6 = .ok (.iload 5, 2) := by decide +kernel
theorem dX6_sumsFor_8 : decode cX6_sumsFor 8 = .ok (.bipush 19, 2) := by decide +kernel
theorem dX6_sumsFor_10 : decode cX6_sumsFor 10 = .ok (.if_icmp .ge 30, 3) := by decide +kernel
theorem dX6_sumsFor_13 : decode cX6_sumsFor 13 = .ok (.aload_n 0, 1) := by decide +kernel
theorem dX6_sumsFor_14 : decode cX6_sumsFor 14 = .ok (.aload_n 1, 1) := by decide +kernel
theorem dX6_sumsFor_15 : decode cX6_sumsFor 15 = .ok (.iload_n 2, 1) := by decide +kernel
theorem dX6_sumsFor_16 : decode cX6_sumsFor 16 = .ok (.iload_n 3, 1) := by decide +kernel
theorem dX6_sumsFor_17 : decode cX6_sumsFor 17 = .ok (.iload 5, 2) := by decide +kernel
theorem dX6_sumsFor_19 : decode cX6_sumsFor 19 = .ok (.invokevirtual 49, 3) := by decide +kernel
theorem dX6_sumsFor_22 : decode cX6_sumsFor 22 = .ok (.ifCond .eq 12, 3) := by decide +kernel
theorem dX6_sumsFor_25 : decode cX6_sumsFor 25 = .ok (.iload 4, 2) := by decide +kernel
theorem dX6_sumsFor_27 : decode cX6_sumsFor 27 = .ok (.iconst 1, 1) := by decide +kernel
theorem dX6_sumsFor_28 : decode cX6_sumsFor 28 = .ok (.iload 5, 2) := by decide +kernel
theorem dX6_sumsFor_30 : decode cX6_sumsFor 30 = .ok (.ishl, 1) := by decide +kernel
theorem dX6_sumsFor_31 : decode cX6_sumsFor 31 = .ok (.ior, 1) := by decide +kernel
theorem dX6_sumsFor_32 : decode cX6_sumsFor 32 = .ok (.istore 4, 2) := by decide +kernel
theorem dX6_sumsFor_34 : decode cX6_sumsFor 34 = .ok (.iinc 5 1, 3) := by decide +kernel
theorem dX6_sumsFor_37 : decode cX6_sumsFor 37 = .ok (.goto (-31), 3) := by decide +kernel
theorem dX6_sumsFor_40 : decode cX6_sumsFor 40 = .ok (.iload 4, 2) := by decide +kernel
theorem dX6_sumsFor_42 : decode cX6_sumsFor 42 = .ok (.ireturn, 1) := by decide +kernel
theorem dX6_isSo_0 : decode cX6_isSo 0 = .ok (.iconst 0, 1) := by decide +kernel
theorem dX6_isSo_1 : decode cX6_isSo 1 = .ok (.aload_n 1, 1) := by decide +kernel
theorem dX6_isSo_2 : decode cX6_isSo 2 = .ok (.getfield 57, 3) := by decide +kernel
theorem dX6_isSo_5 : decode cX6_isSo 5 = .ok (.iload_n 2, 1) := by decide +kernel
theorem dX6_isSo_6 : decode cX6_isSo 6 = .ok (.iaload, 1) := by decide +kernel
theorem dX6_isSo_7 : decode cX6_isSo 7 = .ok (.iload 4, 2) := by decide +kernel
theorem dX6_isSo_9 : decode cX6_isSo 9 = .ok (.isub, 1) := by decide +kernel
theorem dX6_isSo_10 : decode cX6_isSo 10 = .ok (.invokestatic 60, 3) := by decide +kernel
theorem dX6_isSo_13 : decode cX6_isSo 13 = .ok (.istore 5, 2) := by decide +kernel
theorem dX6_isSo_15 : decode cX6_isSo 15 = .ok (.aload_n 0, 1) := by decide +kernel
theorem dX6_isSo_16 : decode cX6_isSo 16 = .ok (.getfield 38, 3) := by decide +kernel
theorem dX6_isSo_19 : decode cX6_isSo 19 = .ok (.aload_n 1, 1) := by decide +kernel
theorem dX6_isSo_20 : decode cX6_isSo 20 = .ok (.getfield 66, 3) := by decide +kernel
theorem dX6_isSo_23 : decode cX6_isSo 23 = .ok (.iload_n 3, 1) := by decide +kernel
theorem dX6_isSo_24 : decode cX6_isSo 24 = .ok (.iaload, 1) := by decide +kernel
theorem dX6_isSo_25 : decode cX6_isSo 25 = .ok (.invokevirtual 69, 3) := by decide +kernel
theorem dX6_isSo_28 : decode cX6_isSo 28 = .ok (.iconst 0, 1) := by decide +kernel
theorem dX6_isSo_29 : decode cX6_isSo 29 = .ok (.iload 5, 2) := by decide +kernel
theorem dX6_isSo_31 : decode cX6_isSo 31 = .ok (.aload_n 1, 1) := by decide +kernel
theorem dX6_isSo_32 : decode cX6_isSo 32 = .ok (.getfield 75, 3) := by decide +kernel
theorem dX6_isSo_35 : decode cX6_isSo 35 = .ok (.iload_n 3, 1) := by decide +kernel
theorem dX6_isSo_36 : decode cX6_isSo 36 = .ok (.iaload, 1) := by decide +kernel
theorem dX6_isSo_37 : decode cX6_isSo 37 = .ok (.invokevirtual 78, 3) := by decide +kernel
theorem dX6_isSo_40 : decode cX6_isSo 40 = .ok (.istore 6, 2) := by decide +kernel
theorem dX6_isSo_42 : decode cX6_isSo 42 = .ok (.iload 6, 2) := by decide +kernel
theorem dX6_isSo_44 : decode cX6_isSo 44 = .ok (.aload_n 1, 1) := by decide +kernel
theorem dX6_isSo_45 : decode cX6_isSo 45 = .ok (.getfield 84, 3) := by decide +kernel
theorem dX6_isSo_48 : decode cX6_isSo 48 = .ok (.iload_n 2, 1) := by decide +kernel
theorem dX6_isSo_49 : decode cX6_isSo 49 = .ok (.iaload, 1) := by decide +kernel
theorem dX6_isSo_50 : decode cX6_isSo 50 = .ok (.iload_n 3, 1) := by decide +kernel
theorem dX6_isSo_51 : decode cX6_isSo 51 = .ok (.invokestatic 87, 3) := by decide +kernel
theorem dX6_isSo_54 : decode cX6_isSo 54 = .ok (.if_icmp .ne 7, 3) := by decide +kernel
theorem dX6_isSo_57 : decode cX6_isSo 57 = .ok (.iconst 1, 1) := by decide +kernel
theorem dX6_isSo_58 : decode cX6_isSo 58 = .ok (.goto 4, 3) := by decide +kernel
theorem dX6_isSo_61 : decode cX6_isSo 61 = .ok (.iconst 0, 1) := by decide +kernel
theorem dX6_isSo_62 : decode cX6_isSo 62 = .ok (.ireturn, 1) := by decide +kernel
theorem dX6_fewestGivenUp_0 : decode cX6_fewestGivenUp 0 = .ok (.iconst 1, 1) := by decide +kernel
theorem dX6_fewestGivenUp_1 : decode cX6_fewestGivenUp 1 = .ok (.aload_n 0, 1) := by decide +kernel
theorem dX6_fewestGivenUp_2 : decode cX6_fewestGivenUp 2 = .ok (.getfield 15, 3) := by decide +kernel
theorem dX6_fewestGivenUp_5 : decode cX6_fewestGivenUp 5 = .ok (.ishl, 1) := by decide +kernel
theorem dX6_fewestGivenUp_6 : decode cX6_fewestGivenUp 6 = .ok (.iconst 1, 1) := by decide +kernel
theorem dX6_fewestGivenUp_7 : decode cX6_fewestGivenUp 7 = .ok (.isub, 1) := by decide +kernel
theorem dX6_fewestGivenUp_8 : decode cX6_fewestGivenUp 8 = .ok (.istore_n 1, 1) := by decide +kernel
theorem dX6_fewestGivenUp_9 : decode cX6_fewestGivenUp 9 = .ok (.iconst 0, 1) := by decide +kernel
theorem dX6_fewestGivenUp_10 : decode cX6_fewestGivenUp 10 = .ok (.istore_n 2, 1) := by decide +kernel
theorem dX6_fewestGivenUp_11 : decode cX6_fewestGivenUp 11 = .ok (.iload_n 2, 1) := by decide +kernel
theorem dX6_fewestGivenUp_12 : decode cX6_fewestGivenUp 12 = .ok (.iconst 1, 1) := by decide +kernel
theorem dX6_fewestGivenUp_13 : decode cX6_fewestGivenUp 13 = .ok (.aload_n 0, 1) := by decide +kernel
theorem dX6_fewestGivenUp_14 : decode cX6_fewestGivenUp 14 = .ok (.getfield 15, 3) := by decide +kernel
theorem dX6_fewestGivenUp_17 : decode cX6_fewestGivenUp 17 = .ok (.ishl, 1) := by decide +kernel
theorem dX6_fewestGivenUp_18 : decode cX6_fewestGivenUp 18 = .ok (.if_icmp .ge 44, 3) := by decide +kernel
theorem dX6_fewestGivenUp_21 : decode cX6_fewestGivenUp 21 = .ok (.iload_n 2, 1) := by decide +kernel
theorem dX6_fewestGivenUp_22 : decode cX6_fewestGivenUp 22 = .ok (.ifCond .eq 14, 3) := by decide +kernel
theorem dX6_fewestGivenUp_25 : decode cX6_fewestGivenUp 25 = .ok (.iload_n 2, 1) := by decide +kernel
theorem dX6_fewestGivenUp_26 : decode cX6_fewestGivenUp 26 = .ok (.invokestatic 91, 3) := by decide +kernel
theorem dX6_fewestGivenUp_29 : decode cX6_fewestGivenUp 29 = .ok (.iload_n 1, 1) := by decide +kernel
theorem dX6_fewestGivenUp_30 : decode cX6_fewestGivenUp 30 = .ok (.invokestatic 91, 3) := by decide +kernel
theorem dX6_fewestGivenUp_33 : decode cX6_fewestGivenUp 33 = .ok (.if_icmp .ge 7, 3) := by decide +kernel
theorem dX6_fewestGivenUp_36 : decode cX6_fewestGivenUp 36 = .ok (.iconst 1, 1) := by decide +kernel
theorem dX6_fewestGivenUp_37 : decode cX6_fewestGivenUp 37 = .ok (.goto 4, 3) := by decide +kernel
theorem dX6_fewestGivenUp_40 : decode cX6_fewestGivenUp 40 = .ok (.iconst 0, 1) := by decide +kernel
theorem dX6_fewestGivenUp_41 : decode cX6_fewestGivenUp 41 = .ok (.istore_n 3, 1) := by decide +kernel
theorem dX6_fewestGivenUp_42 : decode cX6_fewestGivenUp 42 = .ok (.iload_n 3, 1) := by decide +kernel
theorem dX6_fewestGivenUp_43 : decode cX6_fewestGivenUp 43 = .ok (.ifCond .eq 13, 3) := by decide +kernel
theorem dX6_fewestGivenUp_46 : decode cX6_fewestGivenUp 46 = .ok (.aload_n 0, 1) := by decide +kernel
theorem dX6_fewestGivenUp_47 : decode cX6_fewestGivenUp 47 = .ok (.iload_n 2, 1) := by decide +kernel
theorem dX6_fewestGivenUp_48 : decode cX6_fewestGivenUp 48 = .ok (.invokevirtual 97, 3) := by decide +kernel
theorem dX6_fewestGivenUp_51 : decode cX6_fewestGivenUp 51 = .ok (.ifCond .eq 5, 3) := by decide +kernel
theorem dX6_fewestGivenUp_54 : decode cX6_fewestGivenUp 54 = .ok (.iload_n 2, 1) := by decide +kernel
theorem dX6_fewestGivenUp_55 : decode cX6_fewestGivenUp 55 = .ok (.istore_n 1, 1) := by decide +kernel
theorem dX6_fewestGivenUp_56 : decode cX6_fewestGivenUp 56 = .ok (.iinc 2 1, 3) := by decide +kernel
theorem dX6_fewestGivenUp_59 : decode cX6_fewestGivenUp 59 = .ok (.goto (-48), 3) := by decide +kernel
theorem dX6_fewestGivenUp_62 : decode cX6_fewestGivenUp 62 = .ok (.iload_n 1, 1) := by decide +kernel
theorem dX6_fewestGivenUp_63 : decode cX6_fewestGivenUp 63 = .ok (.ireturn, 1) := by decide +kernel
theorem dX6_fitsWithout_0 : decode cX6_fitsWithout 0 = .ok (.iconst 0, 1) := by decide +kernel
theorem dX6_fitsWithout_1 : decode cX6_fitsWithout 1 = .ok (.istore_n 2, 1) := by decide +kernel
theorem dX6_fitsWithout_2 : decode cX6_fitsWithout 2 = .ok (.iload_n 2, 1) := by decide +kernel
theorem dX6_fitsWithout_3 : decode cX6_fitsWithout 3 = .ok (.bipush 25, 2) := by decide +kernel
theorem dX6_fitsWithout_5 : decode cX6_fitsWithout 5 = .ok (.if_icmp .ge 17, 3) := by decide +kernel
theorem dX6_fitsWithout_8 : decode cX6_fitsWithout 8 = .ok (.aload_n 0, 1) := by decide +kernel
theorem dX6_fitsWithout_9 : decode cX6_fitsWithout 9 = .ok (.getfield 29, 3) := by decide +kernel
theorem dX6_fitsWithout_12 : decode cX6_fitsWithout 12 = .ok (.iload_n 2, 1) := by decide +kernel
theorem dX6_fitsWithout_13 : decode cX6_fitsWithout 13 = .ok (.ldc 101, 2) := by decide +kernel
theorem dX6_fitsWithout_15 : decode cX6_fitsWithout 15 = .ok (.iastore, 1) := by decide +kernel
theorem dX6_fitsWithout_16 : decode cX6_fitsWithout 16 = .ok (.iinc 2 1, 3) := by decide +kernel
theorem dX6_fitsWithout_19 : decode cX6_fitsWithout 19 = .ok (.goto (-17), 3) := by decide +kernel
theorem dX6_fitsWithout_22 : decode cX6_fitsWithout 22 = .ok (.iconst 0, 1) := by decide +kernel
theorem dX6_fitsWithout_23 : decode cX6_fitsWithout 23 = .ok (.istore_n 2, 1) := by decide +kernel
theorem dX6_fitsWithout_24 : decode cX6_fitsWithout 24 = .ok (.iload_n 2, 1) := by decide +kernel
theorem dX6_fitsWithout_25 : decode cX6_fitsWithout 25 = .ok (.aload_n 0, 1) := by decide +kernel
theorem dX6_fitsWithout_26 : decode cX6_fitsWithout 26 = .ok (.getfield 15, 3) := by decide +kernel
theorem dX6_fitsWithout_29 : decode cX6_fitsWithout 29 = .ok (.if_icmp .ge 36, 3) := by decide +kernel
theorem dX6_fitsWithout_32 : decode cX6_fitsWithout 32 = .ok (.iload_n 1, 1) := by decide +kernel
theorem dX6_fitsWithout_33 : decode cX6_fitsWithout 33 = .ok (.iload_n 2, 1) := by decide +kernel
theorem dX6_fitsWithout_34 : decode cX6_fitsWithout 34 = .ok (.invokestatic 87, 3) := by decide +kernel
theorem dX6_fitsWithout_37 : decode cX6_fitsWithout 37 = .ok (.ifCond .eq 6, 3) := by decide +kernel
theorem dX6_fitsWithout_40 : decode cX6_fitsWithout 40 = .ok (.goto 19, 3) := by decide +kernel
theorem dX6_fitsWithout_43 : decode cX6_fitsWithout 43 = .ok (.aload_n 0, 1) := by decide +kernel
theorem dX6_fitsWithout_44 : decode cX6_fitsWithout 44 = .ok (.getfield 22, 3) := by decide +kernel
theorem dX6_fitsWithout_47 : decode cX6_fitsWithout 47 = .ok (.iload_n 2, 1) := by decide +kernel
theorem dX6_fitsWithout_48 : decode cX6_fitsWithout 48 = .ok (.baload, 1) := by decide +kernel
theorem dX6_fitsWithout_49 : decode cX6_fitsWithout 49 = .ok (.ifCond .ne 5, 3) := by decide +kernel
theorem dX6_fitsWithout_52 : decode cX6_fitsWithout 52 = .ok (.iconst 0, 1) := by decide +kernel
theorem dX6_fitsWithout_53 : decode cX6_fitsWithout 53 = .ok (.ireturn, 1) := by decide +kernel
theorem dX6_fitsWithout_54 : decode cX6_fitsWithout 54 = .ok (.aload_n 0, 1) := by decide +kernel
theorem dX6_fitsWithout_55 : decode cX6_fitsWithout 55 = .ok (.iload_n 2, 1) := by decide +kernel
theorem dX6_fitsWithout_56 : decode cX6_fitsWithout 56 = .ok (.invokevirtual 102, 3) := by decide +kernel
theorem dX6_fitsWithout_59 : decode cX6_fitsWithout 59 = .ok (.iinc 2 1, 3) := by decide +kernel
theorem dX6_fitsWithout_62 : decode cX6_fitsWithout 62 = .ok (.goto (-38), 3) := by decide +kernel
theorem dX6_fitsWithout_65 : decode cX6_fitsWithout 65 = .ok (.iconst 0, 1) := by decide +kernel
theorem dX6_fitsWithout_66 : decode cX6_fitsWithout 66 = .ok (.istore_n 2, 1) := by decide +kernel
theorem dX6_fitsWithout_67 : decode cX6_fitsWithout 67 = .ok (.iload_n 2, 1) := by decide +kernel
theorem dX6_fitsWithout_68 : decode cX6_fitsWithout 68 = .ok (.aload_n 0, 1) := by decide +kernel
theorem dX6_fitsWithout_69 : decode cX6_fitsWithout 69 = .ok (.getfield 11, 3) := by decide +kernel
theorem dX6_fitsWithout_72 : decode cX6_fitsWithout 72 = .ok (.if_icmp .ge 18, 3) := by decide +kernel
theorem dX6_fitsWithout_75 : decode cX6_fitsWithout 75 = .ok (.aload_n 0, 1) := by decide +kernel
theorem dX6_fitsWithout_76 : decode cX6_fitsWithout 76 = .ok (.getfield 32, 3) := by decide +kernel
theorem dX6_fitsWithout_79 : decode cX6_fitsWithout 79 = .ok (.iload_n 2, 1) := by decide +kernel
theorem dX6_fitsWithout_80 : decode cX6_fitsWithout 80 = .ok (.sipush 1023, 3) := by decide +kernel
theorem dX6_fitsWithout_83 : decode cX6_fitsWithout 83 = .ok (.iastore, 1) := by decide +kernel
theorem dX6_fitsWithout_84 : decode cX6_fitsWithout 84 = .ok (.iinc 2 1, 3) := by decide +kernel
theorem dX6_fitsWithout_87 : decode cX6_fitsWithout 87 = .ok (.goto (-20), 3) := by decide +kernel
theorem dX6_fitsWithout_90 : decode cX6_fitsWithout 90 = .ok (.aload_n 0, 1) := by decide +kernel
theorem dX6_fitsWithout_91 : decode cX6_fitsWithout 91 = .ok (.invokevirtual 106, 3) := by decide +kernel
theorem dX6_fitsWithout_94 : decode cX6_fitsWithout 94 = .ok (.ifCond .eq 15, 3) := by decide +kernel
theorem dX6_fitsWithout_97 : decode cX6_fitsWithout 97 = .ok (.aload_n 0, 1) := by decide +kernel
theorem dX6_fitsWithout_98 : decode cX6_fitsWithout 98 = .ok (.iconst 0, 1) := by decide +kernel
theorem dX6_fitsWithout_99 : decode cX6_fitsWithout 99 = .ok (.invokevirtual 110, 3) := by decide +kernel
theorem dX6_fitsWithout_102 : decode cX6_fitsWithout 102 = .ok (.ifCond .eq 7, 3) := by decide +kernel
theorem dX6_fitsWithout_105 : decode cX6_fitsWithout 105 = .ok (.iconst 1, 1) := by decide +kernel
theorem dX6_fitsWithout_106 : decode cX6_fitsWithout 106 = .ok (.goto 4, 3) := by decide +kernel
theorem dX6_fitsWithout_109 : decode cX6_fitsWithout 109 = .ok (.iconst 0, 1) := by decide +kernel
theorem dX6_fitsWithout_110 : decode cX6_fitsWithout 110 = .ok (.ireturn, 1) := by decide +kernel
theorem dX6_narrowPairs_0 : decode cX6_narrowPairs 0 = .ok (.aload_n 0, 1) := by decide +kernel
theorem dX6_narrowPairs_1 : decode cX6_narrowPairs 1 = .ok (.getfield 18, 3) := by decide +kernel
theorem dX6_narrowPairs_4 : decode cX6_narrowPairs 4 = .ok (.iload_n 1, 1) := by decide +kernel
theorem dX6_narrowPairs_5 : decode cX6_narrowPairs 5 = .ok (.iaload, 1) := by decide +kernel
theorem dX6_narrowPairs_6 : decode cX6_narrowPairs 6 = .ok (.istore_n 2, 1) := by decide +kernel
theorem dX6_narrowPairs_7 : decode cX6_narrowPairs 7 = .ok (.iconst 0, 1) := by decide +kernel
theorem dX6_narrowPairs_8 : decode cX6_narrowPairs 8 = .ok (.istore_n 3, 1) := by decide +kernel
theorem dX6_narrowPairs_9 : decode cX6_narrowPairs 9 = .ok (.iload_n 3, 1) := by decide +kernel
theorem dX6_narrowPairs_10 : decode cX6_narrowPairs 10 = .ok (.aload_n 0, 1) := by decide +kernel
theorem dX6_narrowPairs_11 : decode cX6_narrowPairs 11 = .ok (.getfield 11, 3) := by decide +kernel
theorem dX6_narrowPairs_14 : decode cX6_narrowPairs 14 = .ok (.if_icmp .ge 59, 3) := by decide +kernel
theorem dX6_narrowPairs_17 : decode cX6_narrowPairs 17 = .ok (.iload_n 3, 1) := by decide +kernel
theorem dX6_narrowPairs_18 : decode cX6_narrowPairs 18 = .ok (.iload_n 2, 1) := by decide +kernel
theorem dX6_narrowPairs_19 : decode cX6_narrowPairs 19 = .ok (.if_icmp .ne 6, 3) := by decide +kernel
theorem dX6_narrowPairs_22 : decode cX6_narrowPairs 22 = .ok (.goto 45, 3) := by decide +kernel
theorem dX6_narrowPairs_25 : decode cX6_narrowPairs 25 = .ok (.aload_n 0, 1) := by decide +kernel
theorem dX6_narrowPairs_26 : decode cX6_narrowPairs 26 = .ok (.getfield 26, 3) := by decide +kernel
theorem dX6_narrowPairs_29 : decode cX6_narrowPairs 29 = .ok (.iload_n 1, 1) := by decide +kernel
theorem dX6_narrowPairs_30 : decode cX6_narrowPairs 30 = .ok (.iconst 5, 1) := by decide +kernel
theorem dX6_narrowPairs_31 : decode cX6_narrowPairs 31 = .ok (.imul, 1) := by decide +kernel
theorem dX6_narrowPairs_32 : decode cX6_narrowPairs 32 = .ok (.iload_n 3, 1) := by decide +kernel
theorem dX6_narrowPairs_33 : decode cX6_narrowPairs 33 = .ok (.iadd, 1) := by decide +kernel
theorem dX6_narrowPairs_34 : decode cX6_narrowPairs 34 = .ok (.iaload, 1) := by decide +kernel
theorem dX6_narrowPairs_35 : decode cX6_narrowPairs 35 = .ok (.istore 4, 2) := by decide +kernel
theorem dX6_narrowPairs_37 : decode cX6_narrowPairs 37 = .ok (.aload_n 0, 1) := by decide +kernel
theorem dX6_narrowPairs_38 : decode cX6_narrowPairs 38 = .ok (.getfield 29, 3) := by decide +kernel
theorem dX6_narrowPairs_41 : decode cX6_narrowPairs 41 = .ok (.iload_n 2, 1) := by decide +kernel
theorem dX6_narrowPairs_42 : decode cX6_narrowPairs 42 = .ok (.iconst 5, 1) := by decide +kernel
theorem dX6_narrowPairs_43 : decode cX6_narrowPairs 43 = .ok (.imul, 1) := by decide +kernel
theorem dX6_narrowPairs_44 : decode cX6_narrowPairs 44 = .ok (.iload_n 3, 1) := by decide +kernel
theorem dX6_narrowPairs_45 : decode cX6_narrowPairs 45 = .ok (.iadd, 1) := by decide +kernel
theorem dX6_narrowPairs_46 : decode cX6_narrowPairs 46 = .ok (.dup2, 1) := by decide +kernel
theorem dX6_narrowPairs_47 : decode cX6_narrowPairs 47 = .ok (.iaload, 1) := by decide +kernel
theorem dX6_narrowPairs_48 : decode cX6_narrowPairs 48 = .ok (.iload 4, 2) := by decide +kernel
theorem dX6_narrowPairs_50 : decode cX6_narrowPairs 50 = .ok (.iand, 1) := by decide +kernel
theorem dX6_narrowPairs_51 : decode cX6_narrowPairs 51 = .ok (.iastore, 1) := by decide +kernel
theorem dX6_narrowPairs_52 : decode cX6_narrowPairs 52 = .ok (.aload_n 0, 1) := by decide +kernel
theorem dX6_narrowPairs_53 : decode cX6_narrowPairs 53 = .ok (.getfield 29, 3) := by decide +kernel
theorem dX6_narrowPairs_56 : decode cX6_narrowPairs 56 = .ok (.iload_n 3, 1) := by decide +kernel
theorem dX6_narrowPairs_57 : decode cX6_narrowPairs 57 = .ok (.iconst 5, 1) := by decide +kernel
theorem dX6_narrowPairs_58 : decode cX6_narrowPairs 58 = .ok (.imul, 1) := by decide +kernel
theorem dX6_narrowPairs_59 : decode cX6_narrowPairs 59 = .ok (.iload_n 2, 1) := by decide +kernel
theorem dX6_narrowPairs_60 : decode cX6_narrowPairs 60 = .ok (.iadd, 1) := by decide +kernel
theorem dX6_narrowPairs_61 : decode cX6_narrowPairs 61 = .ok (.dup2, 1) := by decide +kernel
theorem dX6_narrowPairs_62 : decode cX6_narrowPairs 62 = .ok (.iaload, 1) := by decide +kernel
theorem dX6_narrowPairs_63 : decode cX6_narrowPairs 63 = .ok (.iload 4, 2) := by decide +kernel
theorem dX6_narrowPairs_65 : decode cX6_narrowPairs 65 = .ok (.iand, 1) := by decide +kernel
theorem dX6_narrowPairs_66 : decode cX6_narrowPairs 66 = .ok (.iastore, 1) := by decide +kernel
theorem dX6_narrowPairs_67 : decode cX6_narrowPairs 67 = .ok (.iinc 3 1, 3) := by decide +kernel
theorem dX6_narrowPairs_70 : decode cX6_narrowPairs 70 = .ok (.goto (-61), 3) := by decide +kernel
theorem dX6_narrowPairs_73 : decode cX6_narrowPairs 73 = .ok (.return_, 1) := by decide +kernel
theorem dX6_strikesOut_0 : decode cX6_strikesOut 0 = .ok (.iconst 1, 1) := by decide +kernel
theorem dX6_strikesOut_1 : decode cX6_strikesOut 1 = .ok (.istore_n 1, 1) := by decide +kernel
theorem dX6_strikesOut_2 : decode cX6_strikesOut 2 = .ok (.iconst 0, 1) := by decide +kernel
theorem dX6_strikesOut_3 : decode cX6_strikesOut 3 = .ok (.istore_n 2, 1) := by decide +kernel
theorem dX6_strikesOut_4 : decode cX6_strikesOut 4 = .ok (.iload_n 2, 1) := by decide +kernel
theorem dX6_strikesOut_5 : decode cX6_strikesOut 5 = .ok (.bipush 51, 2) := by decide +kernel
theorem dX6_strikesOut_7 : decode cX6_strikesOut 7 = .ok (.if_icmp .ge 74, 3) := by decide +kernel
theorem dX6_strikesOut_10 : decode cX6_strikesOut 10 = .ok (.iload_n 1, 1) := by decide +kernel
theorem dX6_strikesOut_11 : decode cX6_strikesOut 11 = .ok (.ifCond .eq 70, 3) := by decide +kernel
theorem dX6_strikesOut_14 : decode cX6_strikesOut 14 = .ok (.iconst 0, 1) := by decide +kernel
theorem dX6_strikesOut_15 : decode cX6_strikesOut 15 = .ok (.istore_n 1, 1) := by decide +kernel
theorem dX6_strikesOut_16 : decode cX6_strikesOut 16 = .ok (.iconst 0, 1) := by decide +kernel
theorem dX6_strikesOut_17 : decode cX6_strikesOut 17 = .ok (.istore_n 3, 1) := by decide +kernel
theorem dX6_strikesOut_18 : decode cX6_strikesOut 18 = .ok (.iload_n 3, 1) := by decide +kernel
theorem dX6_strikesOut_19 : decode cX6_strikesOut 19 = .ok (.aload_n 0, 1) := by decide +kernel
theorem dX6_strikesOut_20 : decode cX6_strikesOut 20 = .ok (.getfield 11, 3) := by decide +kernel
theorem dX6_strikesOut_23 : decode cX6_strikesOut 23 = .ok (.if_icmp .ge 52, 3) := by decide +kernel
theorem dX6_strikesOut_26 : decode cX6_strikesOut 26 = .ok (.aload_n 0, 1) := by decide +kernel
theorem dX6_strikesOut_27 : decode cX6_strikesOut 27 = .ok (.iload_n 3, 1) := by decide +kernel
theorem dX6_strikesOut_28 : decode cX6_strikesOut 28 = .ok (.invokevirtual 113, 3) := by decide +kernel
theorem dX6_strikesOut_31 : decode cX6_strikesOut 31 = .ok (.istore 4, 2) := by decide +kernel
theorem dX6_strikesOut_33 : decode cX6_strikesOut 33 = .ok (.iload 4, 2) := by decide +kernel
theorem dX6_strikesOut_35 : decode cX6_strikesOut 35 = .ok (.ifCond .ne 5, 3) := by decide +kernel
theorem dX6_strikesOut_38 : decode cX6_strikesOut 38 = .ok (.iconst 0, 1) := by decide +kernel
theorem dX6_strikesOut_39 : decode cX6_strikesOut 39 = .ok (.ireturn, 1) := by decide +kernel
theorem dX6_strikesOut_40 : decode cX6_strikesOut 40 = .ok (.iload_n 1, 1) := by decide +kernel
theorem dX6_strikesOut_41 : decode cX6_strikesOut 41 = .ok (.ifCond .ne 14, 3) := by decide +kernel
theorem dX6_strikesOut_44 : decode cX6_strikesOut 44 = .ok (.iload 4, 2) := by decide +kernel
theorem dX6_strikesOut_46 : decode cX6_strikesOut 46 = .ok (.aload_n 0, 1) := by decide +kernel
theorem dX6_strikesOut_47 : decode cX6_strikesOut 47 = .ok (.getfield 32, 3) := by decide +kernel
theorem dX6_strikesOut_50 : decode cX6_strikesOut 50 = .ok (.iload_n 3, 1) := by decide +kernel
theorem dX6_strikesOut_51 : decode cX6_strikesOut 51 = .ok (.iaload, 1) := by decide +kernel
theorem dX6_strikesOut_52 : decode cX6_strikesOut 52 = .ok (.if_icmp .eq 7, 3) := by decide +kernel
theorem dX6_strikesOut_55 : decode cX6_strikesOut 55 = .ok (.iconst 1, 1) := by decide +kernel
theorem dX6_strikesOut_56 : decode cX6_strikesOut 56 = .ok (.goto 4, 3) := by decide +kernel
theorem dX6_strikesOut_59 : decode cX6_strikesOut 59 = .ok (.iconst 0, 1) := by decide +kernel
theorem dX6_strikesOut_60 : decode cX6_strikesOut 60 = .ok (.istore_n 1, 1) := by decide +kernel
theorem dX6_strikesOut_61 : decode cX6_strikesOut 61 = .ok (.aload_n 0, 1) := by decide +kernel
theorem dX6_strikesOut_62 : decode cX6_strikesOut 62 = .ok (.getfield 32, 3) := by decide +kernel
theorem dX6_strikesOut_65 : decode cX6_strikesOut 65 = .ok (.iload_n 3, 1) := by decide +kernel
theorem dX6_strikesOut_66 : decode cX6_strikesOut 66 = .ok (.iload 4, 2) := by decide +kernel
theorem dX6_strikesOut_68 : decode cX6_strikesOut 68 = .ok (.iastore, 1) := by decide +kernel
theorem dX6_strikesOut_69 : decode cX6_strikesOut 69 = .ok (.iinc 3 1, 3) := by decide +kernel
theorem dX6_strikesOut_72 : decode cX6_strikesOut 72 = .ok (.goto (-54), 3) := by decide +kernel
theorem dX6_strikesOut_75 : decode cX6_strikesOut 75 = .ok (.iinc 2 1, 3) := by decide +kernel
theorem dX6_strikesOut_78 : decode cX6_strikesOut 78 = .ok (.goto (-74), 3) := by decide +kernel
theorem dX6_strikesOut_81 : decode cX6_strikesOut 81 = .ok (.iconst 1, 1) := by decide +kernel
theorem dX6_strikesOut_82 : decode cX6_strikesOut 82 = .ok (.ireturn, 1) := by decide +kernel
theorem dX6_fittedBySome_0 : decode cX6_fittedBySome 0 = .ok (.aload_n 0, 1) := by decide +kernel
theorem dX6_fittedBySome_1 : decode cX6_fittedBySome 1 = .ok (.getfield 32, 3) := by decide +kernel
theorem dX6_fittedBySome_4 : decode cX6_fittedBySome 4 = .ok (.iload_n 1, 1) := by decide +kernel
theorem dX6_fittedBySome_5 : decode cX6_fittedBySome 5 = .ok (.iaload, 1) := by decide +kernel
theorem dX6_fittedBySome_6 : decode cX6_fittedBySome 6 = .ok (.istore_n 2, 1) := by decide +kernel
theorem dX6_fittedBySome_7 : decode cX6_fittedBySome 7 = .ok (.iconst 0, 1) := by decide +kernel
theorem dX6_fittedBySome_8 : decode cX6_fittedBySome 8 = .ok (.istore_n 3, 1) := by decide +kernel
theorem dX6_fittedBySome_9 : decode cX6_fittedBySome 9 = .ok (.iload_n 3, 1) := by decide +kernel
theorem dX6_fittedBySome_10 : decode cX6_fittedBySome 10 = .ok (.aload_n 0, 1) := by decide +kernel
theorem dX6_fittedBySome_11 : decode cX6_fittedBySome 11 = .ok (.getfield 11, 3) := by decide +kernel
theorem dX6_fittedBySome_14 : decode cX6_fittedBySome 14 = .ok (.if_icmp .ge 69, 3) := by decide +kernel
theorem dX6_fittedBySome_17 : decode cX6_fittedBySome 17 = .ok (.iload_n 3, 1) := by decide +kernel
theorem dX6_fittedBySome_18 : decode cX6_fittedBySome 18 = .ok (.iload_n 1, 1) := by decide +kernel
theorem dX6_fittedBySome_19 : decode cX6_fittedBySome 19 = .ok (.if_icmp .ne 6, 3) := by decide +kernel
theorem dX6_fittedBySome_22 : decode cX6_fittedBySome 22 = .ok (.goto 55, 3) := by decide +kernel
theorem dX6_fittedBySome_25 : decode cX6_fittedBySome 25 = .ok (.aload_n 0, 1) := by decide +kernel
theorem dX6_fittedBySome_26 : decode cX6_fittedBySome 26 = .ok (.getfield 29, 3) := by decide +kernel
theorem dX6_fittedBySome_29 : decode cX6_fittedBySome 29 = .ok (.iload_n 1, 1) := by decide +kernel
theorem dX6_fittedBySome_30 : decode cX6_fittedBySome 30 = .ok (.iconst 5, 1) := by decide +kernel
theorem dX6_fittedBySome_31 : decode cX6_fittedBySome 31 = .ok (.imul, 1) := by decide +kernel
theorem dX6_fittedBySome_32 : decode cX6_fittedBySome 32 = .ok (.iload_n 3, 1) := by decide +kernel
theorem dX6_fittedBySome_33 : decode cX6_fittedBySome 33 = .ok (.iadd, 1) := by decide +kernel
theorem dX6_fittedBySome_34 : decode cX6_fittedBySome 34 = .ok (.iaload, 1) := by decide +kernel
theorem dX6_fittedBySome_35 : decode cX6_fittedBySome 35 = .ok (.istore 4, 2) := by decide +kernel
theorem dX6_fittedBySome_37 : decode cX6_fittedBySome 37 = .ok (.iconst 0, 1) := by decide +kernel
theorem dX6_fittedBySome_38 : decode cX6_fittedBySome 38 = .ok (.istore 5, 2) := by decide +kernel
theorem dX6_fittedBySome_40 : decode cX6_fittedBySome 40 = .ok (.iload 5, 2) := by decide +kernel
theorem dX6_fittedBySome_42 : decode cX6_fittedBySome 42 = .ok (.bipush 9, 2) := by decide +kernel
theorem dX6_fittedBySome_44 : decode cX6_fittedBySome 44 = .ok (.if_icmp .gt 33, 3) := by decide +kernel
theorem dX6_fittedBySome_47 : decode cX6_fittedBySome 47 = .ok (.iload 4, 2) := by decide +kernel
theorem dX6_fittedBySome_49 : decode cX6_fittedBySome 49 = .ok (.iload 5, 2) := by decide +kernel
theorem dX6_fittedBySome_51 : decode cX6_fittedBySome 51 = .ok (.ishr, 1) := by decide +kernel
theorem dX6_fittedBySome_52 : decode cX6_fittedBySome 52 = .ok (.aload_n 0, 1) := by decide +kernel
theorem dX6_fittedBySome_53 : decode cX6_fittedBySome 53 = .ok (.getfield 32, 3) := by decide +kernel
theorem dX6_fittedBySome_56 : decode cX6_fittedBySome 56 = .ok (.iload_n 3, 1) := by decide +kernel
theorem dX6_fittedBySome_57 : decode cX6_fittedBySome 57 = .ok (.iaload, 1) := by decide +kernel
theorem dX6_fittedBySome_58 : decode cX6_fittedBySome 58 = .ok (.iand, 1) := by decide +kernel
theorem dX6_fittedBySome_59 : decode cX6_fittedBySome 59 = .ok (.ifCond .ne 12, 3) := by decide +kernel
theorem dX6_fittedBySome_62 : decode cX6_fittedBySome 62 = .ok (.iload_n 2, 1) := by decide +kernel
theorem dX6_fittedBySome_63 : decode cX6_fittedBySome 63 = .ok (.iconst 1, 1) := by decide +kernel
theorem dX6_fittedBySome_64 : decode cX6_fittedBySome 64 = .ok (.iload 5, 2) := by decide +kernel
theorem dX6_fittedBySome_66 : decode cX6_fittedBySome 66 = .ok (.ishl, 1) := by decide +kernel
theorem dX6_fittedBySome_67 : decode cX6_fittedBySome 67 = .ok (.iconst (-1), 1) := by decide +kernel
theorem dX6_fittedBySome_68 : decode cX6_fittedBySome 68 = .ok (.ixor, 1) := by decide +kernel
theorem dX6_fittedBySome_69 : decode cX6_fittedBySome 69 = .ok (.iand, 1) := by decide +kernel
theorem dX6_fittedBySome_70 : decode cX6_fittedBySome 70 = .ok (.istore_n 2, 1) := by decide +kernel
theorem dX6_fittedBySome_71 : decode cX6_fittedBySome 71 = .ok (.iinc 5 1, 3) := by decide +kernel
theorem dX6_fittedBySome_74 : decode cX6_fittedBySome 74 = .ok (.goto (-34), 3) := by decide +kernel
theorem dX6_fittedBySome_77 : decode cX6_fittedBySome 77 = .ok (.iinc 3 1, 3) := by decide +kernel
theorem dX6_fittedBySome_80 : decode cX6_fittedBySome 80 = .ok (.goto (-71), 3) := by decide +kernel
theorem dX6_fittedBySome_83 : decode cX6_fittedBySome 83 = .ok (.iload_n 2, 1) := by decide +kernel
theorem dX6_fittedBySome_84 : decode cX6_fittedBySome 84 = .ok (.ireturn, 1) := by decide +kernel
theorem dX6_fitsFrom_0 : decode cX6_fitsFrom 0 = .ok (.iload_n 1, 1) := by decide +kernel
theorem dX6_fitsFrom_1 : decode cX6_fitsFrom 1 = .ok (.aload_n 0, 1) := by decide +kernel
theorem dX6_fitsFrom_2 : decode cX6_fitsFrom 2 = .ok (.getfield 11, 3) := by decide +kernel
theorem dX6_fitsFrom_5 : decode cX6_fitsFrom 5 = .ok (.if_icmp .lt 5, 3) := by decide +kernel
theorem dX6_fitsFrom_8 : decode cX6_fitsFrom 8 = .ok (.iconst 1, 1) := by decide +kernel
theorem dX6_fitsFrom_9 : decode cX6_fitsFrom 9 = .ok (.ireturn, 1) := by decide +kernel
theorem dX6_fitsFrom_10 : decode cX6_fitsFrom 10 = .ok (.aload_n 0, 1) := by decide +kernel
theorem dX6_fitsFrom_11 : decode cX6_fitsFrom 11 = .ok (.getfield 32, 3) := by decide +kernel
theorem dX6_fitsFrom_14 : decode cX6_fitsFrom 14 = .ok (.iload_n 1, 1) := by decide +kernel
theorem dX6_fitsFrom_15 : decode cX6_fitsFrom 15 = .ok (.iconst 5, 1) := by decide +kernel
theorem dX6_fitsFrom_16 : decode cX6_fitsFrom 16 = .ok (.imul, 1) := by decide +kernel
theorem dX6_fitsFrom_17 : decode cX6_fitsFrom 17 = .ok (.iload_n 1, 1) := by decide +kernel
theorem dX6_fitsFrom_18 : decode cX6_fitsFrom 18 = .ok (.iadd, 1) := by decide +kernel
theorem dX6_fitsFrom_19 : decode cX6_fitsFrom 19 = .ok (.iaload, 1) := by decide +kernel
theorem dX6_fitsFrom_20 : decode cX6_fitsFrom 20 = .ok (.istore_n 2, 1) := by decide +kernel
theorem dX6_fitsFrom_21 : decode cX6_fitsFrom 21 = .ok (.iconst 0, 1) := by decide +kernel
theorem dX6_fitsFrom_22 : decode cX6_fitsFrom 22 = .ok (.istore_n 3, 1) := by decide +kernel
theorem dX6_fitsFrom_23 : decode cX6_fitsFrom 23 = .ok (.iload_n 3, 1) := by decide +kernel
theorem dX6_fitsFrom_24 : decode cX6_fitsFrom 24 = .ok (.bipush 9, 2) := by decide +kernel
theorem dX6_fitsFrom_26 : decode cX6_fitsFrom 26 = .ok (.if_icmp .gt 48, 3) := by decide +kernel
theorem dX6_fitsFrom_29 : decode cX6_fitsFrom 29 = .ok (.iload_n 2, 1) := by decide +kernel
theorem dX6_fitsFrom_30 : decode cX6_fitsFrom 30 = .ok (.iload_n 3, 1) := by decide +kernel
theorem dX6_fitsFrom_31 : decode cX6_fitsFrom 31 = .ok (.invokestatic 87, 3) := by decide +kernel
theorem dX6_fitsFrom_34 : decode cX6_fitsFrom 34 = .ok (.ifCond .eq 34, 3) := by decide +kernel
theorem dX6_fitsFrom_37 : decode cX6_fitsFrom 37 = .ok (.aload_n 0, 1) := by decide +kernel
theorem dX6_fitsFrom_38 : decode cX6_fitsFrom 38 = .ok (.iload_n 1, 1) := by decide +kernel
theorem dX6_fitsFrom_39 : decode cX6_fitsFrom 39 = .ok (.iload_n 3, 1) := by decide +kernel
theorem dX6_fitsFrom_40 : decode cX6_fitsFrom 40 = .ok (.invokevirtual 116, 3) := by decide +kernel
theorem dX6_fitsFrom_43 : decode cX6_fitsFrom 43 = .ok (.ifCond .ne 6, 3) := by decide +kernel
theorem dX6_fitsFrom_46 : decode cX6_fitsFrom 46 = .ok (.goto 22, 3) := by decide +kernel
theorem dX6_fitsFrom_49 : decode cX6_fitsFrom 49 = .ok (.aload_n 0, 1) := by decide +kernel
theorem dX6_fitsFrom_50 : decode cX6_fitsFrom 50 = .ok (.getfield 35, 3) := by decide +kernel
theorem dX6_fitsFrom_53 : decode cX6_fitsFrom 53 = .ok (.iload_n 1, 1) := by decide +kernel
theorem dX6_fitsFrom_54 : decode cX6_fitsFrom 54 = .ok (.iload_n 3, 1) := by decide +kernel
theorem dX6_fitsFrom_55 : decode cX6_fitsFrom 55 = .ok (.iastore, 1) := by decide +kernel
theorem dX6_fitsFrom_56 : decode cX6_fitsFrom 56 = .ok (.aload_n 0, 1) := by decide +kernel
theorem dX6_fitsFrom_57 : decode cX6_fitsFrom 57 = .ok (.iload_n 1, 1) := by decide +kernel
theorem dX6_fitsFrom_58 : decode cX6_fitsFrom 58 = .ok (.iconst 1, 1) := by decide +kernel
theorem dX6_fitsFrom_59 : decode cX6_fitsFrom 59 = .ok (.iadd, 1) := by decide +kernel
theorem dX6_fitsFrom_60 : decode cX6_fitsFrom 60 = .ok (.invokevirtual 110, 3) := by decide +kernel
theorem dX6_fitsFrom_63 : decode cX6_fitsFrom 63 = .ok (.ifCond .eq 5, 3) := by decide +kernel
theorem dX6_fitsFrom_66 : decode cX6_fitsFrom 66 = .ok (.iconst 1, 1) := by decide +kernel
theorem dX6_fitsFrom_67 : decode cX6_fitsFrom 67 = .ok (.ireturn, 1) := by decide +kernel
theorem dX6_fitsFrom_68 : decode cX6_fitsFrom 68 = .ok (.iinc 3 1, 3) := by decide +kernel
theorem dX6_fitsFrom_71 : decode cX6_fitsFrom 71 = .ok (.goto (-48), 3) := by decide +kernel
theorem dX6_fitsFrom_74 : decode cX6_fitsFrom 74 = .ok (.iconst 0, 1) := by decide +kernel
theorem dX6_fitsFrom_75 : decode cX6_fitsFrom 75 = .ok (.ireturn, 1) := by decide +kernel
theorem dX6_leavesSome_0 : decode cX6_leavesSome 0 = .ok (.iload_n 1, 1) := by decide +kernel
theorem dX6_leavesSome_1 : decode cX6_leavesSome 1 = .ok (.iconst 1, 1) := by decide +kernel
theorem dX6_leavesSome_2 : decode cX6_leavesSome 2 = .ok (.iadd, 1) := by decide +kernel
theorem dX6_leavesSome_3 : decode cX6_leavesSome 3 = .ok (.istore_n 3, 1) := by decide +kernel
theorem dX6_leavesSome_4 : decode cX6_leavesSome 4 = .ok (.iload_n 3, 1) := by decide +kernel
theorem dX6_leavesSome_5 : decode cX6_leavesSome 5 = .ok (.aload_n 0, 1) := by decide +kernel
theorem dX6_leavesSome_6 : decode cX6_leavesSome 6 = .ok (.getfield 11, 3) := by decide +kernel
theorem dX6_leavesSome_9 : decode cX6_leavesSome 9 = .ok (.if_icmp .ge 59, 3) := by decide +kernel
theorem dX6_leavesSome_12 : decode cX6_leavesSome 12 = .ok (.aload_n 0, 1) := by decide +kernel
theorem dX6_leavesSome_13 : decode cX6_leavesSome 13 = .ok (.getfield 29, 3) := by decide +kernel
theorem dX6_leavesSome_16 : decode cX6_leavesSome 16 = .ok (.iload_n 1, 1) := by decide +kernel
theorem dX6_leavesSome_17 : decode cX6_leavesSome 17 = .ok (.iconst 5, 1) := by decide +kernel
theorem dX6_leavesSome_18 : decode cX6_leavesSome 18 = .ok (.imul, 1) := by decide +kernel
theorem dX6_leavesSome_19 : decode cX6_leavesSome 19 = .ok (.iload_n 3, 1) := by decide +kernel
theorem dX6_leavesSome_20 : decode cX6_leavesSome 20 = .ok (.iadd, 1) := by decide +kernel
theorem dX6_leavesSome_21 : decode cX6_leavesSome 21 = .ok (.iaload, 1) := by decide +kernel
theorem dX6_leavesSome_22 : decode cX6_leavesSome 22 = .ok (.iload_n 2, 1) := by decide +kernel
theorem dX6_leavesSome_23 : decode cX6_leavesSome 23 = .ok (.ishr, 1) := by decide +kernel
theorem dX6_leavesSome_24 : decode cX6_leavesSome 24 = .ok (.istore 4, 2) := by decide +kernel
theorem dX6_leavesSome_26 : decode cX6_leavesSome 26 = .ok (.aload_n 0, 1) := by decide +kernel
theorem dX6_leavesSome_27 : decode cX6_leavesSome 27 = .ok (.getfield 32, 3) := by decide +kernel
theorem dX6_leavesSome_30 : decode cX6_leavesSome 30 = .ok (.iload_n 1, 1) := by decide +kernel
theorem dX6_leavesSome_31 : decode cX6_leavesSome 31 = .ok (.iconst 5, 1) := by decide +kernel
theorem dX6_leavesSome_32 : decode cX6_leavesSome 32 = .ok (.imul, 1) := by decide +kernel
theorem dX6_leavesSome_33 : decode cX6_leavesSome 33 = .ok (.iload_n 3, 1) := by decide +kernel
theorem dX6_leavesSome_34 : decode cX6_leavesSome 34 = .ok (.iadd, 1) := by decide +kernel
theorem dX6_leavesSome_35 : decode cX6_leavesSome 35 = .ok (.iaload, 1) := by decide +kernel
theorem dX6_leavesSome_36 : decode cX6_leavesSome 36 = .ok (.iload 4, 2) := by decide +kernel
theorem dX6_leavesSome_38 : decode cX6_leavesSome 38 = .ok (.iand, 1) := by decide +kernel
theorem dX6_leavesSome_39 : decode cX6_leavesSome 39 = .ok (.istore 5, 2) := by decide +kernel
theorem dX6_leavesSome_41 : decode cX6_leavesSome 41 = .ok (.iload 5, 2) := by decide +kernel
theorem dX6_leavesSome_43 : decode cX6_leavesSome 43 = .ok (.ifCond .ne 5, 3) := by decide +kernel
theorem dX6_leavesSome_46 : decode cX6_leavesSome 46 = .ok (.iconst 0, 1) := by decide +kernel
theorem dX6_leavesSome_47 : decode cX6_leavesSome 47 = .ok (.ireturn, 1) := by decide +kernel
theorem dX6_leavesSome_48 : decode cX6_leavesSome 48 = .ok (.aload_n 0, 1) := by decide +kernel
theorem dX6_leavesSome_49 : decode cX6_leavesSome 49 = .ok (.getfield 32, 3) := by decide +kernel
theorem dX6_leavesSome_52 : decode cX6_leavesSome 52 = .ok (.iload_n 1, 1) := by decide +kernel
theorem dX6_leavesSome_53 : decode cX6_leavesSome 53 = .ok (.iconst 1, 1) := by decide +kernel
theorem dX6_leavesSome_54 : decode cX6_leavesSome 54 = .ok (.iadd, 1) := by decide +kernel
theorem dX6_leavesSome_55 : decode cX6_leavesSome 55 = .ok (.iconst 5, 1) := by decide +kernel
theorem dX6_leavesSome_56 : decode cX6_leavesSome 56 = .ok (.imul, 1) := by decide +kernel
theorem dX6_leavesSome_57 : decode cX6_leavesSome 57 = .ok (.iload_n 3, 1) := by decide +kernel
theorem dX6_leavesSome_58 : decode cX6_leavesSome 58 = .ok (.iadd, 1) := by decide +kernel
theorem dX6_leavesSome_59 : decode cX6_leavesSome 59 = .ok (.iload 5, 2) := by decide +kernel
theorem dX6_leavesSome_61 : decode cX6_leavesSome 61 = .ok (.iastore, 1) := by decide +kernel
theorem dX6_leavesSome_62 : decode cX6_leavesSome 62 = .ok (.iinc 3 1, 3) := by decide +kernel
theorem dX6_leavesSome_65 : decode cX6_leavesSome 65 = .ok (.goto (-61), 3) := by decide +kernel
theorem dX6_leavesSome_68 : decode cX6_leavesSome 68 = .ok (.iconst 1, 1) := by decide +kernel
theorem dX6_leavesSome_69 : decode cX6_leavesSome 69 = .ok (.ireturn, 1) := by decide +kernel
theorem dX7_init_0 : decode cX7_init 0 = .ok (.aload_n 0, 1) := by decide +kernel
theorem dX7_init_1 : decode cX7_init 1 = .ok (.invokespecial 1, 3) := by decide +kernel
theorem dX7_init_4 : decode cX7_init 4 = .ok (.return_, 1) := by decide +kernel
theorem dX7_becomes_0 : decode cX7_becomes 0 = .ok (.iload_n 2, 1) := by decide +kernel
theorem dX7_becomes_1 : decode cX7_becomes 1 = .ok (.iload_n 3, 1) := by decide +kernel
theorem dX7_becomes_2 : decode cX7_becomes 2 = .ok (.iconst 3, 1) := by decide +kernel
theorem dX7_becomes_3 : decode cX7_becomes 3 = .ok (.iadd, 1) := by decide +kernel
theorem dX7_becomes_4 : decode cX7_becomes 4 = .ok (.if_icmp .ge 17, 3) := by decide +kernel
theorem dX7_becomes_7 : decode cX7_becomes 7 = .ok (.aload_n 0, 1) := by decide +kernel
theorem dX7_becomes_8 : decode cX7_becomes 8 = .ok (.iload_n 1, 1) := by decide +kernel
theorem dX7_becomes_9 : decode cX7_becomes 9 = .ok (.iload_n 2, 1) := by decide +kernel
theorem dX7_becomes_10 : decode cX7_becomes 10 = .ok (.iload_n 3, 1) := by decide +kernel
theorem dX7_becomes_11 : decode cX7_becomes 11 = .ok (.invokespecial 9, 3) := by decide +kernel
theorem dX7_becomes_14 : decode cX7_becomes 14 = .ok (.ifCond .eq 7, 3) := by decide +kernel
theorem dX7_becomes_17 : decode cX7_becomes 17 = .ok (.iconst 1, 1) := by decide +kernel
theorem dX7_becomes_18 : decode cX7_becomes 18 = .ok (.goto 4, 3) := by decide +kernel
theorem dX7_becomes_21 : decode cX7_becomes 21 = .ok (.iconst 0, 1) := by decide +kernel
theorem dX7_becomes_22 : decode cX7_becomes 22 = .ok (.ireturn, 1) := by decide +kernel
theorem dX8_init_0 : decode cX8_init 0 = .ok (.aload_n 0, 1) := by decide +kernel
theorem dX8_init_1 : decode cX8_init 1 = .ok (.invokespecial 3, 3) := by decide +kernel
theorem dX8_init_4 : decode cX8_init 4 = .ok (.aload_n 0, 1) := by decide +kernel
theorem dX8_init_5 : decode cX8_init 5 = .ok (.iconst (-1), 1) := by decide +kernel
theorem dX8_init_6 : decode cX8_init 6 = .ok (.putfield 9, 3) := by decide +kernel
theorem dX8_init_9 : decode cX8_init 9 = .ok (.aload_n 0, 1) := by decide +kernel
theorem dX8_init_10 : decode cX8_init 10 = .ok (.iconst 0, 1) := by decide +kernel
theorem dX8_init_11 : decode cX8_init 11 = .ok (.putfield 15, 3) := by decide +kernel
theorem dX8_init_14 : decode cX8_init 14 = .ok (.aload_n 0, 1) := by decide +kernel
theorem dX8_init_15 : decode cX8_init 15 = .ok (.iconst (-1), 1) := by decide +kernel
theorem dX8_init_16 : decode cX8_init 16 = .ok (.putfield 18, 3) := by decide +kernel
theorem dX8_init_19 : decode cX8_init 19 = .ok (.aload_n 0, 1) := by decide +kernel
theorem dX8_init_20 : decode cX8_init 20 = .ok (.iconst 0, 1) := by decide +kernel
theorem dX8_init_21 : decode cX8_init 21 = .ok (.putfield 21, 3) := by decide +kernel
theorem dX8_init_24 : decode cX8_init 24 = .ok (.aload_n 0, 1) := by decide +kernel
theorem dX8_init_25 : decode cX8_init 25 = .ok (.iconst 0, 1) := by decide +kernel
theorem dX8_init_26 : decode cX8_init 26 = .ok (.putfield 24, 3) := by decide +kernel
theorem dX8_init_29 : decode cX8_init 29 = .ok (.aload_n 0, 1) := by decide +kernel
theorem dX8_init_30 : decode cX8_init 30 = .ok (.iconst 0, 1) := by decide +kernel
theorem dX8_init_31 : decode cX8_init 31 = .ok (.putfield 27, 3) := by decide +kernel
theorem dX8_init_34 : decode cX8_init 34 = .ok (.aload_n 0, 1) := by decide +kernel
theorem dX8_init_35 : decode cX8_init 35 = .ok (.iconst 0, 1) := by decide +kernel
theorem dX8_init_36 : decode cX8_init 36 = .ok (.putfield 30, 3) := by decide +kernel
theorem dX8_init_39 : decode cX8_init 39 = .ok (.aload_n 0, 1) := by decide +kernel
theorem dX8_init_40 : decode cX8_init 40 = .ok (.aload_n 1, 1) := by decide +kernel
theorem dX8_init_41 : decode cX8_init 41 = .ok (.putfield 33, 3) := by decide +kernel
theorem dX8_init_44 : decode cX8_init 44 = .ok (.return_, 1) := by decide +kernel
theorem dX8_by_0 : decode cX8_by 0 = .ok (.aload_n 0, 1) := by decide +kernel
theorem dX8_by_1 : decode cX8_by 1 = .ok (.iload_n 3, 1) := by decide +kernel
theorem dX8_by_2 : decode cX8_by 2 = .ok (.putfield 9, 3) := by decide +kernel
theorem dX8_by_5 : decode cX8_by 5 = .ok (.aload_n 0, 1) := by decide +kernel
theorem dX8_by_6 : decode cX8_by 6 = .ok (.iload 4, 2) := by decide +kernel
theorem dX8_by_8 : decode cX8_by 8 = .ok (.putfield 15, 3) := by decide +kernel
theorem dX8_by_11 : decode cX8_by 11 = .ok (.aload_n 0, 1) := by decide +kernel
theorem dX8_by_12 : decode cX8_by 12 = .ok (.iload 5, 2) := by decide +kernel
theorem dX8_by_14 : decode cX8_by 14 = .ok (.putfield 18, 3) := by decide +kernel
theorem dX8_by_17 : decode cX8_by 17 = .ok (.aload_n 0, 1) := by decide +kernel
theorem dX8_by_18 : decode cX8_by 18 = .ok (.iload 6, 2) := by decide +kernel
theorem dX8_by_20 : decode cX8_by 20 = .ok (.putfield 21, 3) := by decide +kernel
theorem dX8_by_23 : decode cX8_by 23 = .ok (.aload_n 0, 1) := by decide +kernel
theorem dX8_by_24 : decode cX8_by 24 = .ok (.aload_n 1, 1) := by decide +kernel
theorem dX8_by_25 : decode cX8_by 25 = .ok (.iload_n 2, 1) := by decide +kernel
theorem dX8_by_26 : decode cX8_by 26 = .ok (.iload_n 3, 1) := by decide +kernel
theorem dX8_by_27 : decode cX8_by 27 = .ok (.iload 4, 2) := by decide +kernel
theorem dX8_by_29 : decode cX8_by 29 = .ok (.invokestatic 37, 3) := by decide +kernel
theorem dX8_by_32 : decode cX8_by 32 = .ok (.aload_n 1, 1) := by decide +kernel
theorem dX8_by_33 : decode cX8_by 33 = .ok (.iload_n 2, 1) := by decide +kernel
theorem dX8_by_34 : decode cX8_by 34 = .ok (.iload 5, 2) := by decide +kernel
theorem dX8_by_36 : decode cX8_by 36 = .ok (.iload 6, 2) := by decide +kernel
theorem dX8_by_38 : decode cX8_by 38 = .ok (.invokestatic 37, 3) := by decide +kernel
theorem dX8_by_41 : decode cX8_by 41 = .ok (.iadd, 1) := by decide +kernel
theorem dX8_by_42 : decode cX8_by 42 = .ok (.putfield 24, 3) := by decide +kernel
theorem dX8_by_45 : decode cX8_by 45 = .ok (.aload_n 0, 1) := by decide +kernel
theorem dX8_by_46 : decode cX8_by 46 = .ok (.iconst 0, 1) := by decide +kernel
theorem dX8_by_47 : decode cX8_by 47 = .ok (.putfield 27, 3) := by decide +kernel
theorem dX8_by_50 : decode cX8_by 50 = .ok (.aload_n 0, 1) := by decide +kernel
theorem dX8_by_51 : decode cX8_by 51 = .ok (.iconst 0, 1) := by decide +kernel
theorem dX8_by_52 : decode cX8_by 52 = .ok (.putfield 30, 3) := by decide +kernel
theorem dX8_by_55 : decode cX8_by 55 = .ok (.iconst 0, 1) := by decide +kernel
theorem dX8_by_56 : decode cX8_by 56 = .ok (.istore 7, 2) := by decide +kernel
theorem dX8_by_58 : decode cX8_by 58 = .ok (.iload 7, 2) := by decide +kernel
theorem dX8_by_60 : decode cX8_by 60 = .ok (.aload_n 1, 1) := by decide +kernel
theorem dX8_by_61 : decode cX8_by 61 = .ok (.getfield 41, 3) := by decide +kernel
theorem dX8_by_64 : decode cX8_by 64 = .ok (.if_icmp .ge 107, 3) := by decide +kernel
theorem dX8_by_67 : decode cX8_by 67 = .ok (.aload_n 0, 1) := by decide +kernel
theorem dX8_by_68 : decode cX8_by 68 = .ok (.getfield 33, 3) := by decide +kernel
theorem dX8_by_71 : decode cX8_by 71 = .ok (.aload_n 1, 1) := by decide +kernel
theorem dX8_by_72 : decode cX8_by 72 = .ok (.getfield 46, 3) := by decide +kernel
theorem dX8_by_75 : decode cX8_by 75 = .ok (.iload 7, 2) := by decide +kernel
theorem dX8_by_77 : decode cX8_by 77 = .ok (.iaload, 1) := by decide +kernel
theorem dX8_by_78 : decode cX8_by 78 = .ok (.invokevirtual 50, 3) := by decide +kernel
theorem dX8_by_81 : decode cX8_by 81 = .ok (.astore 8, 2) := by decide +kernel
theorem dX8_by_83 : decode cX8_by 83 = .ok (.aload_n 0, 1) := by decide +kernel
theorem dX8_by_84 : decode cX8_by 84 = .ok (.aload_n 1, 1) := by decide +kernel
theorem dX8_by_85 : decode cX8_by 85 = .ok (.iload_n 2, 1) := by decide +kernel
theorem dX8_by_86 : decode cX8_by 86 = .ok (.iload 7, 2) := by decide +kernel
theorem dX8_by_88 : decode cX8_by 88 = .ok (.invokevirtual 56, 3) := by decide +kernel
theorem dX8_by_91 : decode cX8_by 91 = .ok (.istore 9, 2) := by decide +kernel
theorem dX8_by_93 : decode cX8_by 93 = .ok (.aload 8, 2) := by decide +kernel
theorem dX8_by_95 : decode cX8_by 95 = .ok (.iconst 0, 1) := by decide +kernel
theorem dX8_by_96 : decode cX8_by 96 = .ok (.iload 9, 2) := by decide +kernel
theorem dX8_by_98 : decode cX8_by 98 = .ok (.aload_n 1, 1) := by decide +kernel
theorem dX8_by_99 : decode cX8_by 99 = .ok (.getfield 60, 3) := by decide +kernel
theorem dX8_by_102 : decode cX8_by 102 = .ok (.iload 7, 2) := by decide +kernel
theorem dX8_by_104 : decode cX8_by 104 = .ok (.iaload, 1) := by decide +kernel
theorem dX8_by_105 : decode cX8_by 105 = .ok (.invokevirtual 63, 3) := by decide +kernel
theorem dX8_by_108 : decode cX8_by 108 = .ok (.istore 10, 2) := by decide +kernel
theorem dX8_by_110 : decode cX8_by 110 = .ok (.aload 8, 2) := by decide +kernel
theorem dX8_by_112 : decode cX8_by 112 = .ok (.iconst 1, 1) := by decide +kernel
theorem dX8_by_113 : decode cX8_by 113 = .ok (.iload 9, 2) := by decide +kernel
theorem dX8_by_115 : decode cX8_by 115 = .ok (.aload_n 1, 1) := by decide +kernel
theorem dX8_by_116 : decode cX8_by 116 = .ok (.getfield 60, 3) := by decide +kernel
theorem dX8_by_119 : decode cX8_by 119 = .ok (.iload 7, 2) := by decide +kernel
theorem dX8_by_121 : decode cX8_by 121 = .ok (.iaload, 1) := by decide +kernel
theorem dX8_by_122 : decode cX8_by 122 = .ok (.invokevirtual 63, 3) := by decide +kernel
theorem dX8_by_125 : decode cX8_by 125 = .ok (.istore 11, 2) := by decide +kernel
theorem dX8_by_127 : decode cX8_by 127 = .ok (.iload 10, 2) := by decide +kernel
theorem dX8_by_129 : decode cX8_by 129 = .ok (.ifCond .eq 16, 3) := by decide +kernel
theorem dX8_by_132 : decode cX8_by 132 = .ok (.aload_n 0, 1) := by decide +kernel
theorem dX8_by_133 : decode cX8_by 133 = .ok (.dup, 1) := by decide +kernel
theorem dX8_by_134 : decode cX8_by 134 = .ok (.getfield 30, 3) := by decide +kernel
theorem dX8_by_137 : decode cX8_by 137 = .ok (.iconst 1, 1) := by decide +kernel
theorem dX8_by_138 : decode cX8_by 138 = .ok (.iload 7, 2) := by decide +kernel
theorem dX8_by_140 : decode cX8_by 140 = .ok (.ishl, 1) := by decide +kernel
theorem dX8_by_141 : decode cX8_by 141 = .ok (.ior, 1) := by decide +kernel
theorem dX8_by_142 : decode cX8_by 142 = .ok (.putfield 30, 3) := by decide +kernel
theorem dX8_by_145 : decode cX8_by 145 = .ok (.iload 10, 2) := by decide +kernel
theorem dX8_by_147 : decode cX8_by 147 = .ok (.iload 11, 2) := by decide +kernel
theorem dX8_by_149 : decode cX8_by 149 = .ok (.if_icmp .eq 16, 3) := by decide +kernel
theorem dX8_by_152 : decode cX8_by 152 = .ok (.aload_n 0, 1) := by decide +kernel
theorem dX8_by_153 : decode cX8_by 153 = .ok (.dup, 1) := by decide +kernel
theorem dX8_by_154 : decode cX8_by 154 = .ok (.getfield 27, 3) := by decide +kernel
theorem dX8_by_157 : decode cX8_by 157 = .ok (.iconst 1, 1) := by decide +kernel
theorem dX8_by_158 : decode cX8_by 158 = .ok (.iload 7, 2) := by decide +kernel
theorem dX8_by_160 : decode cX8_by 160 = .ok (.ishl, 1) := by decide +kernel
theorem dX8_by_161 : decode cX8_by 161 = .ok (.ior, 1) := by decide +kernel
theorem dX8_by_162 : decode cX8_by 162 = .ok (.putfield 27, 3) := by decide +kernel
theorem dX8_by_165 : decode cX8_by 165 = .ok (.iinc 7 1, 3) := by decide +kernel
theorem dX8_by_168 : decode cX8_by 168 = .ok (.goto (-110), 3) := by decide +kernel
theorem dX8_by_171 : decode cX8_by 171 = .ok (.return_, 1) := by decide +kernel
theorem dX8_rings_0 : decode cX8_rings 0 = .ok (.aload_n 0, 1) := by decide +kernel
theorem dX8_rings_1 : decode cX8_rings 1 = .ok (.getfield 24, 3) := by decide +kernel
theorem dX8_rings_4 : decode cX8_rings 4 = .ok (.iconst 3, 1) := by decide +kernel
theorem dX8_rings_5 : decode cX8_rings 5 = .ok (.idiv, 1) := by decide +kernel
theorem dX8_rings_6 : decode cX8_rings 6 = .ok (.ireturn, 1) := by decide +kernel
theorem dX8_behind_0 : decode cX8_behind 0 = .ok (.iload_n 1, 1) := by decide +kernel
theorem dX8_behind_1 : decode cX8_behind 1 = .ok (.aload_n 0, 1) := by decide +kernel
theorem dX8_behind_2 : decode cX8_behind 2 = .ok (.getfield 27, 3) := by decide +kernel
theorem dX8_behind_5 : decode cX8_behind 5 = .ok (.iand, 1) := by decide +kernel
theorem dX8_behind_6 : decode cX8_behind 6 = .ok (.aload_n 0, 1) := by decide +kernel
theorem dX8_behind_7 : decode cX8_behind 7 = .ok (.getfield 30, 3) := by decide +kernel
theorem dX8_behind_10 : decode cX8_behind 10 = .ok (.ixor, 1) := by decide +kernel
theorem dX8_behind_11 : decode cX8_behind 11 = .ok (.ireturn, 1) := by decide +kernel
theorem dX8_moveOf_0 : decode cX8_moveOf 0 = .ok (.iload_n 3, 1) := by decide +kernel
theorem dX8_moveOf_1 : decode cX8_moveOf 1 = .ok (.aload_n 0, 1) := by decide +kernel
theorem dX8_moveOf_2 : decode cX8_moveOf 2 = .ok (.getfield 9, 3) := by decide +kernel
theorem dX8_moveOf_5 : decode cX8_moveOf 5 = .ok (.if_icmp .ne 8, 3) := by decide +kernel
theorem dX8_moveOf_8 : decode cX8_moveOf 8 = .ok (.aload_n 0, 1) := by decide +kernel
theorem dX8_moveOf_9 : decode cX8_moveOf 9 = .ok (.getfield 15, 3) := by decide +kernel
theorem dX8_moveOf_12 : decode cX8_moveOf 12 = .ok (.ireturn, 1) := by decide +kernel
theorem dX8_moveOf_13 : decode cX8_moveOf 13 = .ok (.iload_n 3, 1) := by decide +kernel
theorem dX8_moveOf_14 : decode cX8_moveOf 14 = .ok (.aload_n 0, 1) := by decide +kernel
theorem dX8_moveOf_15 : decode cX8_moveOf 15 = .ok (.getfield 18, 3) := by decide +kernel
theorem dX8_moveOf_18 : decode cX8_moveOf 18 = .ok (.if_icmp .ne 8, 3) := by decide +kernel
theorem dX8_moveOf_21 : decode cX8_moveOf 21 = .ok (.aload_n 0, 1) := by decide +kernel
theorem dX8_moveOf_22 : decode cX8_moveOf 22 = .ok (.getfield 21, 3) := by decide +kernel
theorem dX8_moveOf_25 : decode cX8_moveOf 25 = .ok (.ireturn, 1) := by decide +kernel
theorem dX8_moveOf_26 : decode cX8_moveOf 26 = .ok (.iload_n 2, 1) := by decide +kernel
theorem dX8_moveOf_27 : decode cX8_moveOf 27 = .ok (.iload_n 3, 1) := by decide +kernel
theorem dX8_moveOf_28 : decode cX8_moveOf 28 = .ok (.invokestatic 69, 3) := by decide +kernel
theorem dX8_moveOf_31 : decode cX8_moveOf 31 = .ok (.ifCond .ne 5, 3) := by decide +kernel
theorem dX8_moveOf_34 : decode cX8_moveOf 34 = .ok (.iconst 0, 1) := by decide +kernel
theorem dX8_moveOf_35 : decode cX8_moveOf 35 = .ok (.ireturn, 1) := by decide +kernel
theorem dX8_moveOf_36 : decode cX8_moveOf 36 = .ok (.iconst 0, 1) := by decide +kernel
theorem dX8_moveOf_37 : decode cX8_moveOf 37 = .ok (.aload_n 0, 1) := by decide +kernel
theorem dX8_moveOf_38 : decode cX8_moveOf 38 = .ok (.getfield 24, 3) := by decide +kernel
theorem dX8_moveOf_41 : decode cX8_moveOf 41 = .ok (.aload_n 1, 1) := by decide +kernel
theorem dX8_moveOf_42 : decode cX8_moveOf 42 = .ok (.iload_n 3, 1) := by decide +kernel
theorem dX8_moveOf_43 : decode cX8_moveOf 43 = .ok (.invokevirtual 73, 3) := by decide +kernel
theorem dX8_moveOf_46 : decode cX8_moveOf 46 = .ok (.isub, 1) := by decide +kernel
theorem dX8_moveOf_47 : decode cX8_moveOf 47 = .ok (.invokestatic 77, 3) := by decide +kernel
theorem dX8_moveOf_50 : decode cX8_moveOf 50 = .ok (.ireturn, 1) := by decide +kernel
theorem dX8_travelBy_0 : decode cX8_travelBy 0 = .ok (.iload_n 2, 1) := by decide +kernel
theorem dX8_travelBy_1 : decode cX8_travelBy 1 = .ok (.iconst (-1), 1) := by decide +kernel
theorem dX8_travelBy_2 : decode cX8_travelBy 2 = .ok (.if_icmp .eq 11, 3) := by decide +kernel
theorem dX8_travelBy_5 : decode cX8_travelBy 5 = .ok (.iload_n 1, 1) := by decide +kernel
theorem dX8_travelBy_6 : decode cX8_travelBy 6 = .ok (.iload_n 2, 1) := by decide +kernel
theorem dX8_travelBy_7 : decode cX8_travelBy 7 = .ok (.invokestatic 69, 3) := by decide +kernel
theorem dX8_travelBy_10 : decode cX8_travelBy 10 = .ok (.ifCond .ne 5, 3) := by decide +kernel
theorem dX8_travelBy_13 : decode cX8_travelBy 13 = .ok (.iconst 0, 1) := by decide +kernel
theorem dX8_travelBy_14 : decode cX8_travelBy 14 = .ok (.ireturn, 1) := by decide +kernel
theorem dX8_travelBy_15 : decode cX8_travelBy 15 = .ok (.iconst 0, 1) := by decide +kernel
theorem dX8_travelBy_16 : decode cX8_travelBy 16 = .ok (.iload_n 3, 1) := by decide +kernel
theorem dX8_travelBy_17 : decode cX8_travelBy 17 = .ok (.aload_n 0, 1) := by decide +kernel
theorem dX8_travelBy_18 : decode cX8_travelBy 18 = .ok (.iload_n 2, 1) := by decide +kernel
theorem dX8_travelBy_19 : decode cX8_travelBy 19 = .ok (.invokevirtual 73, 3) := by decide +kernel
theorem dX8_travelBy_22 : decode cX8_travelBy 22 = .ok (.isub, 1) := by decide +kernel
theorem dX8_travelBy_23 : decode cX8_travelBy 23 = .ok (.invokestatic 77, 3) := by decide +kernel
theorem dX8_travelBy_26 : decode cX8_travelBy 26 = .ok (.ireturn, 1) := by decide +kernel
theorem dX9_init_0 : decode cX9_init 0 = .ok (.aload_n 0, 1) := by decide +kernel
theorem dX9_init_1 : decode cX9_init 1 = .ok (.invokespecial 3, 3) := by decide +kernel
theorem dX9_init_4 : decode cX9_init 4 = .ok (.aload_n 0, 1) := by decide +kernel
theorem dX9_init_5 : decode cX9_init 5 = .ok (.iconst 0, 1) := by decide +kernel
theorem dX9_init_6 : decode cX9_init 6 = .ok (.putfield 9, 3) := by decide +kernel
theorem dX9_init_9 : decode cX9_init 9 = .ok (.aload_n 0, 1) := by decide +kernel
theorem dX9_init_10 : decode cX9_init 10 = .ok (.iconst 5, 1) := by decide +kernel
theorem dX9_init_11 : decode cX9_init 11 = .ok (.newarray .int, 2) := by decide +kernel
theorem dX9_init_13 : decode cX9_init 13 = .ok (.putfield 15, 3) := by decide +kernel
theorem dX9_init_16 : decode cX9_init 16 = .ok (.aload_n 0, 1) := by decide +kernel
theorem dX9_init_17 : decode cX9_init 17 = .ok (.iconst 5, 1) := by decide +kernel
theorem dX9_init_18 : decode cX9_init 18 = .ok (.newarray .int, 2) := by decide +kernel
theorem dX9_init_20 : decode cX9_init 20 = .ok (.putfield 19, 3) := by decide +kernel
theorem dX9_init_23 : decode cX9_init 23 = .ok (.aload_n 0, 1) := by decide +kernel
theorem dX9_init_24 : decode cX9_init 24 = .ok (.iconst 5, 1) := by decide +kernel
theorem dX9_init_25 : decode cX9_init 25 = .ok (.newarray .int, 2) := by decide +kernel
theorem dX9_init_27 : decode cX9_init 27 = .ok (.putfield 22, 3) := by decide +kernel
theorem dX9_init_30 : decode cX9_init 30 = .ok (.aload_n 0, 1) := by decide +kernel
theorem dX9_init_31 : decode cX9_init 31 = .ok (.iconst 5, 1) := by decide +kernel
theorem dX9_init_32 : decode cX9_init 32 = .ok (.newarray .int, 2) := by decide +kernel
theorem dX9_init_34 : decode cX9_init 34 = .ok (.putfield 25, 3) := by decide +kernel
theorem dX9_init_37 : decode cX9_init 37 = .ok (.aload_n 0, 1) := by decide +kernel
theorem dX9_init_38 : decode cX9_init 38 = .ok (.iconst 0, 1) := by decide +kernel
theorem dX9_init_39 : decode cX9_init 39 = .ok (.putfield 28, 3) := by decide +kernel
theorem dX9_init_42 : decode cX9_init 42 = .ok (.aload_n 0, 1) := by decide +kernel
theorem dX9_init_43 : decode cX9_init 43 = .ok (.iconst 0, 1) := by decide +kernel
theorem dX9_init_44 : decode cX9_init 44 = .ok (.putfield 31, 3) := by decide +kernel
theorem dX9_init_47 : decode cX9_init 47 = .ok (.aload_n 0, 1) := by decide +kernel
theorem dX9_init_48 : decode cX9_init 48 = .ok (.iconst 0, 1) := by decide +kernel
theorem dX9_init_49 : decode cX9_init 49 = .ok (.putfield 34, 3) := by decide +kernel
theorem dX9_init_52 : decode cX9_init 52 = .ok (.aload_n 0, 1) := by decide +kernel
theorem dX9_init_53 : decode cX9_init 53 = .ok (.iconst 0, 1) := by decide +kernel
theorem dX9_init_54 : decode cX9_init 54 = .ok (.putfield 37, 3) := by decide +kernel
theorem dX9_init_57 : decode cX9_init 57 = .ok (.aload_n 0, 1) := by decide +kernel
theorem dX9_init_58 : decode cX9_init 58 = .ok (.iconst 5, 1) := by decide +kernel
theorem dX9_init_59 : decode cX9_init 59 = .ok (.newarray .int, 2) := by decide +kernel
theorem dX9_init_61 : decode cX9_init 61 = .ok (.putfield 40, 3) := by decide +kernel
theorem dX9_init_64 : decode cX9_init 64 = .ok (.aload_n 0, 1) := by decide +kernel
theorem dX9_init_65 : decode cX9_init 65 = .ok (.iconst 5, 1) := by decide +kernel
theorem dX9_init_66 : decode cX9_init 66 = .ok (.newarray .int, 2) := by decide +kernel
theorem dX9_init_68 : decode cX9_init 68 = .ok (.putfield 43, 3) := by decide +kernel
theorem dX9_init_71 : decode cX9_init 71 = .ok (.aload_n 0, 1) := by decide +kernel
theorem dX9_init_72 : decode cX9_init 72 = .ok (.iconst 0, 1) := by decide +kernel
theorem dX9_init_73 : decode cX9_init 73 = .ok (.putfield 46, 3) := by decide +kernel
theorem dX9_init_76 : decode cX9_init 76 = .ok (.aload_n 0, 1) := by decide +kernel
theorem dX9_init_77 : decode cX9_init 77 = .ok (.iconst 4, 1) := by decide +kernel
theorem dX9_init_78 : decode cX9_init 78 = .ok (.newarray .int, 2) := by decide +kernel
theorem dX9_init_80 : decode cX9_init 80 = .ok (.putfield 49, 3) := by decide +kernel
theorem dX9_init_83 : decode cX9_init 83 = .ok (.aload_n 0, 1) := by decide +kernel
theorem dX9_init_84 : decode cX9_init 84 = .ok (.iconst 4, 1) := by decide +kernel
theorem dX9_init_85 : decode cX9_init 85 = .ok (.newarray .int, 2) := by decide +kernel
theorem dX9_init_87 : decode cX9_init 87 = .ok (.putfield 52, 3) := by decide +kernel
theorem dX9_init_90 : decode cX9_init 90 = .ok (.aload_n 0, 1) := by decide +kernel
theorem dX9_init_91 : decode cX9_init 91 = .ok (.iconst 4, 1) := by decide +kernel
theorem dX9_init_92 : decode cX9_init 92 = .ok (.newarray .int, 2) := by decide +kernel
theorem dX9_init_94 : decode cX9_init 94 = .ok (.putfield 55, 3) := by decide +kernel
theorem dX9_init_97 : decode cX9_init 97 = .ok (.aload_n 0, 1) := by decide +kernel
theorem dX9_init_98 : decode cX9_init 98 = .ok (.iconst 0, 1) := by decide +kernel
theorem dX9_init_99 : decode cX9_init 99 = .ok (.putfield 58, 3) := by decide +kernel
theorem dX9_init_102 : decode cX9_init 102 = .ok (.aload_n 0, 1) := by decide +kernel
theorem dX9_init_103 : decode cX9_init 103 = .ok (.bipush 10, 2) := by decide +kernel
theorem dX9_init_105 : decode cX9_init 105 = .ok (.newarray .int, 2) := by decide +kernel
theorem dX9_init_107 : decode cX9_init 107 = .ok (.putfield 61, 3) := by decide +kernel
theorem dX9_init_110 : decode cX9_init 110 = .ok (.return_, 1) := by decide +kernel
theorem dX9_becomeEmpty_0 : decode cX9_becomeEmpty 0 = .ok (.aload_n 0, 1) := by decide +kernel
theorem dX9_becomeEmpty_1 : decode cX9_becomeEmpty 1 = .ok (.iconst 0, 1) := by decide +kernel
theorem dX9_becomeEmpty_2 : decode cX9_becomeEmpty 2 = .ok (.putfield 9, 3) := by decide +kernel
theorem dX9_becomeEmpty_5 : decode cX9_becomeEmpty 5 = .ok (.aload_n 0, 1) := by decide +kernel
theorem dX9_becomeEmpty_6 : decode cX9_becomeEmpty 6 = .ok (.iconst 0, 1) := by decide +kernel
theorem dX9_becomeEmpty_7 : decode cX9_becomeEmpty 7 = .ok (.putfield 28, 3) := by decide +kernel
theorem dX9_becomeEmpty_10 : decode cX9_becomeEmpty 10 = .ok (.aload_n 0, 1) := by decide +kernel
theorem dX9_becomeEmpty_11 : decode cX9_becomeEmpty 11 = .ok (.iconst 0, 1) := by decide +kernel
theorem dX9_becomeEmpty_12 : decode cX9_becomeEmpty 12 = .ok (.putfield 31, 3) := by decide +kernel
theorem dX9_becomeEmpty_15 : decode cX9_becomeEmpty 15 = .ok (.aload_n 0, 1) := by decide +kernel
theorem dX9_becomeEmpty_16 : decode cX9_becomeEmpty 16 = .ok (.iconst 0, 1) := by decide +kernel
theorem dX9_becomeEmpty_17 : decode cX9_becomeEmpty 17 = .ok (.putfield 34, 3) := by decide +kernel
theorem dX9_becomeEmpty_20 : decode cX9_becomeEmpty 20 = .ok (.aload_n 0, 1) := by decide +kernel
theorem dX9_becomeEmpty_21 : decode cX9_becomeEmpty 21 = .ok (.iconst 0, 1) := by decide +kernel
theorem dX9_becomeEmpty_22 : decode cX9_becomeEmpty 22 = .ok (.putfield 37, 3) := by decide +kernel
theorem dX9_becomeEmpty_25 : decode cX9_becomeEmpty 25 = .ok (.aload_n 0, 1) := by decide +kernel
theorem dX9_becomeEmpty_26 : decode cX9_becomeEmpty 26 = .ok (.iconst 0, 1) := by decide +kernel
theorem dX9_becomeEmpty_27 : decode cX9_becomeEmpty 27 = .ok (.putfield 46, 3) := by decide +kernel
theorem dX9_becomeEmpty_30 : decode cX9_becomeEmpty 30 = .ok (.aload_n 0, 1) := by decide +kernel
theorem dX9_becomeEmpty_31 : decode cX9_becomeEmpty 31 = .ok (.iconst 0, 1) := by decide +kernel
theorem dX9_becomeEmpty_32 : decode cX9_becomeEmpty 32 = .ok (.putfield 58, 3) := by decide +kernel
theorem dX9_becomeEmpty_35 : decode cX9_becomeEmpty 35 = .ok (.return_, 1) := by decide +kernel
theorem dX9_becomeLike_0 : decode cX9_becomeLike 0 = .ok (.aload_n 0, 1) := by decide +kernel
theorem dX9_becomeLike_1 : decode cX9_becomeLike 1 = .ok (.aload_n 1, 1) := by decide +kernel
theorem dX9_becomeLike_2 : decode cX9_becomeLike 2 = .ok (.getfield 9, 3) := by decide +kernel
theorem dX9_becomeLike_5 : decode cX9_becomeLike 5 = .ok (.putfield 9, 3) := by decide +kernel
theorem dX9_becomeLike_8 : decode cX9_becomeLike 8 = .ok (.aload_n 1, 1) := by decide +kernel
theorem dX9_becomeLike_9 : decode cX9_becomeLike 9 = .ok (.getfield 15, 3) := by decide +kernel
theorem dX9_becomeLike_12 : decode cX9_becomeLike 12 = .ok (.iconst 0, 1) := by decide +kernel
theorem dX9_becomeLike_13 : decode cX9_becomeLike 13 = .ok (.aload_n 0, 1) := by decide +kernel
theorem dX9_becomeLike_14 : decode cX9_becomeLike 14 = .ok (.getfield 15, 3) := by decide +kernel
theorem dX9_becomeLike_17 : decode cX9_becomeLike 17 = .ok (.iconst 0, 1) := by decide +kernel
theorem dX9_becomeLike_18 : decode cX9_becomeLike 18 = .ok (.iconst 5, 1) := by decide +kernel
theorem dX9_becomeLike_19 : decode cX9_becomeLike 19 = .ok (.invokestatic 64, 3) := by decide +kernel
theorem dX9_becomeLike_22 : decode cX9_becomeLike 22 = .ok (.aload_n 1, 1) := by decide +kernel
theorem dX9_becomeLike_23 : decode cX9_becomeLike 23 = .ok (.getfield 19, 3) := by decide +kernel
theorem dX9_becomeLike_26 : decode cX9_becomeLike 26 = .ok (.iconst 0, 1) := by decide +kernel
theorem dX9_becomeLike_27 : decode cX9_becomeLike 27 = .ok (.aload_n 0, 1) := by decide +kernel
theorem dX9_becomeLike_28 : decode cX9_becomeLike 28 = .ok (.getfield 19, 3) := by decide +kernel
theorem dX9_becomeLike_31 : decode cX9_becomeLike 31 = .ok (.iconst 0, 1) := by decide +kernel
theorem dX9_becomeLike_32 : decode cX9_becomeLike 32 = .ok (.iconst 5, 1) := by decide +kernel
theorem dX9_becomeLike_33 : decode cX9_becomeLike 33 = .ok (.invokestatic 64, 3) := by decide +kernel
theorem dX9_becomeLike_36 : decode cX9_becomeLike 36 = .ok (.aload_n 1, 1) := by decide +kernel
theorem dX9_becomeLike_37 : decode cX9_becomeLike 37 = .ok (.getfield 22, 3) := by decide +kernel
theorem dX9_becomeLike_40 : decode cX9_becomeLike 40 = .ok (.iconst 0, 1) := by decide +kernel
theorem dX9_becomeLike_41 : decode cX9_becomeLike 41 = .ok (.aload_n 0, 1) := by decide +kernel
theorem dX9_becomeLike_42 : decode cX9_becomeLike 42 = .ok (.getfield 22, 3) := by decide +kernel
theorem dX9_becomeLike_45 : decode cX9_becomeLike 45 = .ok (.iconst 0, 1) := by decide +kernel
theorem dX9_becomeLike_46 : decode cX9_becomeLike 46 = .ok (.iconst 5, 1) := by decide +kernel
theorem dX9_becomeLike_47 : decode cX9_becomeLike 47 = .ok (.invokestatic 64, 3) := by decide +kernel
theorem dX9_becomeLike_50 : decode cX9_becomeLike 50 = .ok (.aload_n 1, 1) := by decide +kernel
theorem dX9_becomeLike_51 : decode cX9_becomeLike 51 = .ok (.getfield 25, 3) := by decide +kernel
theorem dX9_becomeLike_54 : decode cX9_becomeLike 54 = .ok (.iconst 0, 1) := by decide +kernel
theorem dX9_becomeLike_55 : decode cX9_becomeLike 55 = .ok (.aload_n 0, 1) := by decide +kernel
theorem dX9_becomeLike_56 : decode cX9_becomeLike 56 = .ok (.getfield 25, 3) := by decide +kernel
theorem dX9_becomeLike_59 : decode cX9_becomeLike 59 = .ok (.iconst 0, 1) := by decide +kernel
theorem dX9_becomeLike_60 : decode cX9_becomeLike 60 = .ok (.iconst 5, 1) := by decide +kernel
theorem dX9_becomeLike_61 : decode cX9_becomeLike 61 = .ok (.invokestatic 64, 3) := by decide +kernel
theorem dX9_becomeLike_64 : decode cX9_becomeLike 64 = .ok (.aload_n 0, 1) := by decide +kernel
theorem dX9_becomeLike_65 : decode cX9_becomeLike 65 = .ok (.aload_n 1, 1) := by decide +kernel
theorem dX9_becomeLike_66 : decode cX9_becomeLike 66 = .ok (.getfield 28, 3) := by decide +kernel
theorem dX9_becomeLike_69 : decode cX9_becomeLike 69 = .ok (.putfield 28, 3) := by decide +kernel
theorem dX9_becomeLike_72 : decode cX9_becomeLike 72 = .ok (.aload_n 0, 1) := by decide +kernel
theorem dX9_becomeLike_73 : decode cX9_becomeLike 73 = .ok (.aload_n 1, 1) := by decide +kernel
theorem dX9_becomeLike_74 : decode cX9_becomeLike 74 = .ok (.getfield 31, 3) := by decide +kernel
theorem dX9_becomeLike_77 : decode cX9_becomeLike 77 = .ok (.putfield 31, 3) := by decide +kernel
theorem dX9_becomeLike_80 : decode cX9_becomeLike 80 = .ok (.aload_n 0, 1) := by decide +kernel
theorem dX9_becomeLike_81 : decode cX9_becomeLike 81 = .ok (.aload_n 1, 1) := by decide +kernel
theorem dX9_becomeLike_82 : decode cX9_becomeLike 82 = .ok (.getfield 34, 3) := by decide +kernel
theorem dX9_becomeLike_85 : decode cX9_becomeLike 85 = .ok (.putfield 34, 3) := by decide +kernel
theorem dX9_becomeLike_88 : decode cX9_becomeLike 88 = .ok (.aload_n 0, 1) := by decide +kernel
theorem dX9_becomeLike_89 : decode cX9_becomeLike 89 = .ok (.aload_n 1, 1) := by decide +kernel
theorem dX9_becomeLike_90 : decode cX9_becomeLike 90 = .ok (.getfield 37, 3) := by decide +kernel
theorem dX9_becomeLike_93 : decode cX9_becomeLike 93 = .ok (.putfield 37, 3) := by decide +kernel
theorem dX9_becomeLike_96 : decode cX9_becomeLike 96 = .ok (.aload_n 1, 1) := by decide +kernel
theorem dX9_becomeLike_97 : decode cX9_becomeLike 97 = .ok (.getfield 40, 3) := by decide +kernel
theorem dX9_becomeLike_100 : decode cX9_becomeLike 100 = .ok (.iconst 0, 1) := by decide +kernel
theorem dX9_becomeLike_101 : decode cX9_becomeLike 101 = .ok (.aload_n 0, 1) := by decide +kernel
theorem dX9_becomeLike_102 : decode cX9_becomeLike 102 = .ok (.getfield 40, 3) := by decide +kernel
theorem dX9_becomeLike_105 : decode cX9_becomeLike 105 = .ok (.iconst 0, 1) := by decide +kernel
theorem dX9_becomeLike_106 : decode cX9_becomeLike 106 = .ok (.iconst 5, 1) := by decide +kernel
theorem dX9_becomeLike_107 : decode cX9_becomeLike 107 = .ok (.invokestatic 64, 3) := by decide +kernel
theorem dX9_becomeLike_110 : decode cX9_becomeLike 110 = .ok (.aload_n 1, 1) := by decide +kernel
theorem dX9_becomeLike_111 : decode cX9_becomeLike 111 = .ok (.getfield 43, 3) := by decide +kernel
theorem dX9_becomeLike_114 : decode cX9_becomeLike 114 = .ok (.iconst 0, 1) := by decide +kernel
theorem dX9_becomeLike_115 : decode cX9_becomeLike 115 = .ok (.aload_n 0, 1) := by decide +kernel
theorem dX9_becomeLike_116 : decode cX9_becomeLike 116 = .ok (.getfield 43, 3) := by decide +kernel
theorem dX9_becomeLike_119 : decode cX9_becomeLike 119 = .ok (.iconst 0, 1) := by decide +kernel
theorem dX9_becomeLike_120 : decode cX9_becomeLike 120 = .ok (.iconst 5, 1) := by decide +kernel
theorem dX9_becomeLike_121 : decode cX9_becomeLike 121 = .ok (.invokestatic 64, 3) := by decide +kernel
theorem dX9_becomeLike_124 : decode cX9_becomeLike 124 = .ok (.aload_n 0, 1) := by decide +kernel
theorem dX9_becomeLike_125 : decode cX9_becomeLike 125 = .ok (.aload_n 1, 1) := by decide +kernel
theorem dX9_becomeLike_126 : decode cX9_becomeLike 126 = .ok (.getfield 46, 3) := by decide +kernel
theorem dX9_becomeLike_129 : decode cX9_becomeLike 129 = .ok (.putfield 46, 3) := by decide +kernel
theorem dX9_becomeLike_132 : decode cX9_becomeLike 132 = .ok (.aload_n 1, 1) := by decide +kernel
theorem dX9_becomeLike_133 : decode cX9_becomeLike 133 = .ok (.getfield 49, 3) := by decide +kernel
theorem dX9_becomeLike_136 : decode cX9_becomeLike 136 = .ok (.iconst 0, 1) := by decide +kernel
theorem dX9_becomeLike_137 : decode cX9_becomeLike 137 = .ok (.aload_n 0, 1) := by decide +kernel
theorem dX9_becomeLike_138 : decode cX9_becomeLike 138 = .ok (.getfield 49, 3) := by decide +kernel
theorem dX9_becomeLike_141 : decode cX9_becomeLike 141 = .ok (.iconst 0, 1) := by decide +kernel
theorem dX9_becomeLike_142 : decode cX9_becomeLike 142 = .ok (.iconst 4, 1) := by decide +kernel
theorem dX9_becomeLike_143 : decode cX9_becomeLike 143 = .ok (.invokestatic 64, 3) := by decide +kernel
theorem dX9_becomeLike_146 : decode cX9_becomeLike 146 = .ok (.aload_n 1, 1) := by decide +kernel
theorem dX9_becomeLike_147 : decode cX9_becomeLike 147 = .ok (.getfield 52, 3) := by decide +kernel
theorem dX9_becomeLike_150 : decode cX9_becomeLike 150 = .ok (.iconst 0, 1) := by decide +kernel
theorem dX9_becomeLike_151 : decode cX9_becomeLike 151 = .ok (.aload_n 0, 1) := by decide +kernel
theorem dX9_becomeLike_152 : decode cX9_becomeLike 152 = .ok (.getfield 52, 3) := by decide +kernel
theorem dX9_becomeLike_155 : decode cX9_becomeLike 155 = .ok (.iconst 0, 1) := by decide +kernel
theorem dX9_becomeLike_156 : decode cX9_becomeLike 156 = .ok (.iconst 4, 1) := by decide +kernel
theorem dX9_becomeLike_157 : decode cX9_becomeLike 157 = .ok (.invokestatic 64, 3) := by decide +kernel
theorem dX9_becomeLike_160 : decode cX9_becomeLike 160 = .ok (.aload_n 1, 1) := by decide +kernel
theorem dX9_becomeLike_161 : decode cX9_becomeLike 161 = .ok (.getfield 55, 3) := by decide +kernel
theorem dX9_becomeLike_164 : decode cX9_becomeLike 164 = .ok (.iconst 0, 1) := by decide +kernel
theorem dX9_becomeLike_165 : decode cX9_becomeLike 165 = .ok (.aload_n 0, 1) := by decide +kernel
theorem dX9_becomeLike_166 : decode cX9_becomeLike 166 = .ok (.getfield 55, 3) := by decide +kernel
theorem dX9_becomeLike_169 : decode cX9_becomeLike 169 = .ok (.iconst 0, 1) := by decide +kernel
theorem dX9_becomeLike_170 : decode cX9_becomeLike 170 = .ok (.iconst 4, 1) := by decide +kernel
theorem dX9_becomeLike_171 : decode cX9_becomeLike 171 = .ok (.invokestatic 64, 3) := by decide +kernel
theorem dX9_becomeLike_174 : decode cX9_becomeLike 174 = .ok (.aload_n 0, 1) := by decide +kernel
theorem dX9_becomeLike_175 : decode cX9_becomeLike 175 = .ok (.aload_n 1, 1) := by decide +kernel
theorem dX9_becomeLike_176 : decode cX9_becomeLike 176 = .ok (.getfield 58, 3) := by decide +kernel
theorem dX9_becomeLike_179 : decode cX9_becomeLike 179 = .ok (.putfield 58, 3) := by decide +kernel
theorem dX9_becomeLike_182 : decode cX9_becomeLike 182 = .ok (.aload_n 1, 1) := by decide +kernel
theorem dX9_becomeLike_183 : decode cX9_becomeLike 183 = .ok (.getfield 61, 3) := by decide +kernel
theorem dX9_becomeLike_186 : decode cX9_becomeLike 186 = .ok (.iconst 0, 1) := by decide +kernel
theorem dX9_becomeLike_187 : decode cX9_becomeLike 187 = .ok (.aload_n 0, 1) := by decide +kernel
theorem dX9_becomeLike_188 : decode cX9_becomeLike 188 = .ok (.getfield 61, 3) := by decide +kernel
theorem dX9_becomeLike_191 : decode cX9_becomeLike 191 = .ok (.iconst 0, 1) := by decide +kernel
theorem dX9_becomeLike_192 : decode cX9_becomeLike 192 = .ok (.bipush 10, 2) := by decide +kernel
theorem dX9_becomeLike_194 : decode cX9_becomeLike 194 = .ok (.invokestatic 64, 3) := by decide +kernel
theorem dX9_becomeLike_197 : decode cX9_becomeLike 197 = .ok (.return_, 1) := by decide +kernel
theorem dX9_hasThing_0 : decode cX9_hasThing 0 = .ok (.iload_n 1, 1) := by decide +kernel
theorem dX9_hasThing_1 : decode cX9_hasThing 1 = .ok (.iconst 0, 1) := by decide +kernel
theorem dX9_hasThing_2 : decode cX9_hasThing 2 = .ok (.aload_n 0, 1) := by decide +kernel
theorem dX9_hasThing_3 : decode cX9_hasThing 3 = .ok (.getfield 9, 3) := by decide +kernel
theorem dX9_hasThing_6 : decode cX9_hasThing 6 = .ok (.iconst 1, 1) := by decide +kernel
theorem dX9_hasThing_7 : decode cX9_hasThing 7 = .ok (.isub, 1) := by decide +kernel
theorem dX9_hasThing_8 : decode cX9_hasThing 8 = .ok (.invokestatic 70, 3) := by decide +kernel
theorem dX9_hasThing_11 : decode cX9_hasThing 11 = .ok (.ireturn, 1) := by decide +kernel
theorem dX9_hasSet_0 : decode cX9_hasSet 0 = .ok (.iload_n 1, 1) := by decide +kernel
theorem dX9_hasSet_1 : decode cX9_hasSet 1 = .ok (.iconst 0, 1) := by decide +kernel
theorem dX9_hasSet_2 : decode cX9_hasSet 2 = .ok (.iconst 1, 1) := by decide +kernel
theorem dX9_hasSet_3 : decode cX9_hasSet 3 = .ok (.aload_n 0, 1) := by decide +kernel
theorem dX9_hasSet_4 : decode cX9_hasSet 4 = .ok (.getfield 9, 3) := by decide +kernel
theorem dX9_hasSet_7 : decode cX9_hasSet 7 = .ok (.ishl, 1) := by decide +kernel
theorem dX9_hasSet_8 : decode cX9_hasSet 8 = .ok (.iconst 1, 1) := by decide +kernel
theorem dX9_hasSet_9 : decode cX9_hasSet 9 = .ok (.isub, 1) := by decide +kernel
theorem dX9_hasSet_10 : decode cX9_hasSet 10 = .ok (.invokestatic 70, 3) := by decide +kernel
theorem dX9_hasSet_13 : decode cX9_hasSet 13 = .ok (.ireturn, 1) := by decide +kernel
theorem dX9_addThing_0 : decode cX9_addThing 0 = .ok (.aload_n 0, 1) := by decide +kernel
theorem dX9_addThing_1 : decode cX9_addThing 1 = .ok (.getfield 9, 3) := by decide +kernel
theorem dX9_addThing_4 : decode cX9_addThing 4 = .ok (.iconst 5, 1) := by decide +kernel
theorem dX9_addThing_5 : decode cX9_addThing 5 = .ok (.if_icmp .lt 4, 3) := by decide +kernel
theorem dX9_addThing_8 : decode cX9_addThing 8 = .ok (.return_, 1) := by decide +kernel
theorem dX9_addThing_9 : decode cX9_addThing 9 = .ok (.aload_n 0, 1) := by decide +kernel
theorem dX9_addThing_10 : decode cX9_addThing 10 = .ok (.getfield 15, 3) := by decide +kernel
theorem dX9_addThing_13 : decode cX9_addThing 13 = .ok (.aload_n 0, 1) := by decide +kernel
theorem dX9_addThing_14 : decode cX9_addThing 14 = .ok (.getfield 9, 3) := by decide +kernel
theorem dX9_addThing_17 : decode cX9_addThing 17 = .ok (.iload_n 1, 1) := by decide +kernel
theorem dX9_addThing_18 : decode cX9_addThing 18 = .ok (.iastore, 1) := by decide +kernel
theorem dX9_addThing_19 : decode cX9_addThing 19 = .ok (.aload_n 0, 1) := by decide +kernel
theorem dX9_addThing_20 : decode cX9_addThing 20 = .ok (.getfield 19, 3) := by decide +kernel
theorem dX9_addThing_23 : decode cX9_addThing 23 = .ok (.aload_n 0, 1) := by decide +kernel
theorem dX9_addThing_24 : decode cX9_addThing 24 = .ok (.getfield 9, 3) := by decide +kernel
theorem dX9_addThing_27 : decode cX9_addThing 27 = .ok (.iload_n 2, 1) := by decide +kernel
theorem dX9_addThing_28 : decode cX9_addThing 28 = .ok (.iastore, 1) := by decide +kernel
theorem dX9_addThing_29 : decode cX9_addThing 29 = .ok (.aload_n 0, 1) := by decide +kernel
theorem dX9_addThing_30 : decode cX9_addThing 30 = .ok (.getfield 22, 3) := by decide +kernel
theorem dX9_addThing_33 : decode cX9_addThing 33 = .ok (.aload_n 0, 1) := by decide +kernel
theorem dX9_addThing_34 : decode cX9_addThing 34 = .ok (.getfield 9, 3) := by decide +kernel
theorem dX9_addThing_37 : decode cX9_addThing 37 = .ok (.iload_n 3, 1) := by decide +kernel
theorem dX9_addThing_38 : decode cX9_addThing 38 = .ok (.iastore, 1) := by decide +kernel
theorem dX9_addThing_39 : decode cX9_addThing 39 = .ok (.aload_n 0, 1) := by decide +kernel
theorem dX9_addThing_40 : decode cX9_addThing 40 = .ok (.getfield 25, 3) := by decide +kernel
theorem dX9_addThing_43 : decode cX9_addThing 43 = .ok (.aload_n 0, 1) := by decide +kernel
theorem dX9_addThing_44 : decode cX9_addThing 44 = .ok (.getfield 9, 3) := by decide +kernel
theorem dX9_addThing_47 : decode cX9_addThing 47 = .ok (.iload 4, 2) := by decide +kernel
theorem dX9_addThing_49 : decode cX9_addThing 49 = .ok (.iastore, 1) := by decide +kernel
theorem dX9_addThing_50 : decode cX9_addThing 50 = .ok (.aload_n 0, 1) := by decide +kernel
theorem dX9_addThing_51 : decode cX9_addThing 51 = .ok (.dup, 1) := by decide +kernel
theorem dX9_addThing_52 : decode cX9_addThing 52 = .ok (.getfield 28, 3) := by decide +kernel
theorem dX9_addThing_55 : decode cX9_addThing 55 = .ok (.iconst 1, 1) := by decide +kernel
theorem dX9_addThing_56 : decode cX9_addThing 56 = .ok (.aload_n 0, 1) := by decide +kernel
theorem dX9_addThing_57 : decode cX9_addThing 57 = .ok (.getfield 9, 3) := by decide +kernel
theorem dX9_addThing_60 : decode cX9_addThing 60 = .ok (.ishl, 1) := by decide +kernel
theorem dX9_addThing_61 : decode cX9_addThing 61 = .ok (.ior, 1) := by decide +kernel
theorem dX9_addThing_62 : decode cX9_addThing 62 = .ok (.putfield 28, 3) := by decide +kernel
theorem dX9_addThing_65 : decode cX9_addThing 65 = .ok (.aload_n 0, 1) := by decide +kernel
theorem dX9_addThing_66 : decode cX9_addThing 66 = .ok (.dup, 1) := by decide +kernel
theorem dX9_addThing_67 : decode cX9_addThing 67 = .ok (.getfield 9, 3) := by decide +kernel
theorem dX9_addThing_70 : decode cX9_addThing 70 = .ok (.iconst 1, 1) := by decide +kernel
theorem dX9_addThing_71 : decode cX9_addThing 71 = .ok (.iadd, 1) := by decide +kernel
theorem dX9_addThing_72 : decode cX9_addThing 72 = .ok (.putfield 9, 3) := by decide +kernel
theorem dX9_addThing_75 : decode cX9_addThing 75 = .ok (.return_, 1) := by decide +kernel
theorem dX9_addErrand_0 : decode cX9_addErrand 0 = .ok (.aload_n 0, 1) := by decide +kernel
theorem dX9_addErrand_1 : decode cX9_addErrand 1 = .ok (.getfield 37, 3) := by decide +kernel
theorem dX9_addErrand_4 : decode cX9_addErrand 4 = .ok (.iconst 5, 1) := by decide +kernel
theorem dX9_addErrand_5 : decode cX9_addErrand 5 = .ok (.if_icmp .lt 4, 3) := by decide +kernel
theorem dX9_addErrand_8 : decode cX9_addErrand 8 = .ok (.return_, 1) := by decide +kernel
theorem dX9_addErrand_9 : decode cX9_addErrand 9 = .ok (.aload_n 0, 1) := by decide +kernel
theorem dX9_addErrand_10 : decode cX9_addErrand 10 = .ok (.getfield 40, 3) := by decide +kernel
theorem dX9_addErrand_13 : decode cX9_addErrand 13 = .ok (.aload_n 0, 1) := by decide +kernel
theorem dX9_addErrand_14 : decode cX9_addErrand 14 = .ok (.getfield 37, 3) := by decide +kernel
theorem dX9_addErrand_17 : decode cX9_addErrand 17 = .ok (.iload_n 1, 1) := by decide +kernel
theorem dX9_addErrand_18 : decode cX9_addErrand 18 = .ok (.iastore, 1) := by decide +kernel
theorem dX9_addErrand_19 : decode cX9_addErrand 19 = .ok (.aload_n 0, 1) := by decide +kernel
theorem dX9_addErrand_20 : decode cX9_addErrand 20 = .ok (.getfield 43, 3) := by decide +kernel
theorem dX9_addErrand_23 : decode cX9_addErrand 23 = .ok (.aload_n 0, 1) := by decide +kernel
theorem dX9_addErrand_24 : decode cX9_addErrand 24 = .ok (.getfield 37, 3) := by decide +kernel
theorem dX9_addErrand_27 : decode cX9_addErrand 27 = .ok (.iload_n 2, 1) := by decide +kernel
theorem dX9_addErrand_28 : decode cX9_addErrand 28 = .ok (.iastore, 1) := by decide +kernel
theorem dX9_addErrand_29 : decode cX9_addErrand 29 = .ok (.aload_n 0, 1) := by decide +kernel
theorem dX9_addErrand_30 : decode cX9_addErrand 30 = .ok (.dup, 1) := by decide +kernel
theorem dX9_addErrand_31 : decode cX9_addErrand 31 = .ok (.getfield 37, 3) := by decide +kernel
theorem dX9_addErrand_34 : decode cX9_addErrand 34 = .ok (.iconst 1, 1) := by decide +kernel
theorem dX9_addErrand_35 : decode cX9_addErrand 35 = .ok (.iadd, 1) := by decide +kernel
theorem dX9_addErrand_36 : decode cX9_addErrand 36 = .ok (.putfield 37, 3) := by decide +kernel
theorem dX9_addErrand_39 : decode cX9_addErrand 39 = .ok (.return_, 1) := by decide +kernel
theorem dX9_addRule_0 : decode cX9_addRule 0 = .ok (.aload_n 0, 1) := by decide +kernel
theorem dX9_addRule_1 : decode cX9_addRule 1 = .ok (.getfield 46, 3) := by decide +kernel
theorem dX9_addRule_4 : decode cX9_addRule 4 = .ok (.iconst 4, 1) := by decide +kernel
theorem dX9_addRule_5 : decode cX9_addRule 5 = .ok (.if_icmp .lt 4, 3) := by decide +kernel
theorem dX9_addRule_8 : decode cX9_addRule 8 = .ok (.return_, 1) := by decide +kernel
theorem dX9_addRule_9 : decode cX9_addRule 9 = .ok (.aload_n 0, 1) := by decide +kernel
theorem dX9_addRule_10 : decode cX9_addRule 10 = .ok (.getfield 49, 3) := by decide +kernel
theorem dX9_addRule_13 : decode cX9_addRule 13 = .ok (.aload_n 0, 1) := by decide +kernel
theorem dX9_addRule_14 : decode cX9_addRule 14 = .ok (.getfield 46, 3) := by decide +kernel
theorem dX9_addRule_17 : decode cX9_addRule 17 = .ok (.iload_n 1, 1) := by decide +kernel
theorem dX9_addRule_18 : decode cX9_addRule 18 = .ok (.iastore, 1) := by decide +kernel
theorem dX9_addRule_19 : decode cX9_addRule 19 = .ok (.aload_n 0, 1) := by decide +kernel
theorem dX9_addRule_20 : decode cX9_addRule 20 = .ok (.getfield 52, 3) := by decide +kernel
theorem dX9_addRule_23 : decode cX9_addRule 23 = .ok (.aload_n 0, 1) := by decide +kernel
theorem dX9_addRule_24 : decode cX9_addRule 24 = .ok (.getfield 46, 3) := by decide +kernel
theorem dX9_addRule_27 : decode cX9_addRule 27 = .ok (.iload_n 2, 1) := by decide +kernel
theorem dX9_addRule_28 : decode cX9_addRule 28 = .ok (.iastore, 1) := by decide +kernel
theorem dX9_addRule_29 : decode cX9_addRule 29 = .ok (.aload_n 0, 1) := by decide +kernel
theorem dX9_addRule_30 : decode cX9_addRule 30 = .ok (.getfield 55, 3) := by decide +kernel
theorem dX9_addRule_33 : decode cX9_addRule 33 = .ok (.aload_n 0, 1) := by decide +kernel
theorem dX9_addRule_34 : decode cX9_addRule 34 = .ok (.getfield 46, 3) := by decide +kernel
theorem dX9_addRule_37 : decode cX9_addRule 37 = .ok (.iload_n 3, 1) := by decide +kernel
theorem dX9_addRule_38 : decode cX9_addRule 38 = .ok (.iastore, 1) := by decide +kernel
theorem dX9_addRule_39 : decode cX9_addRule 39 = .ok (.aload_n 0, 1) := by decide +kernel
theorem dX9_addRule_40 : decode cX9_addRule 40 = .ok (.dup, 1) := by decide +kernel
theorem dX9_addRule_41 : decode cX9_addRule 41 = .ok (.getfield 46, 3) := by decide +kernel
theorem dX9_addRule_44 : decode cX9_addRule 44 = .ok (.iconst 1, 1) := by decide +kernel
theorem dX9_addRule_45 : decode cX9_addRule 45 = .ok (.iadd, 1) := by decide +kernel
theorem dX9_addRule_46 : decode cX9_addRule 46 = .ok (.putfield 46, 3) := by decide +kernel
theorem dX9_addRule_49 : decode cX9_addRule 49 = .ok (.return_, 1) := by decide +kernel
theorem dX9_slackInDamp_0 : decode cX9_slackInDamp 0 = .ok (.iconst 0, 1) := by decide +kernel
theorem dX9_slackInDamp_1 : decode cX9_slackInDamp 1 = .ok (.aload_n 0, 1) := by decide +kernel
theorem dX9_slackInDamp_2 : decode cX9_slackInDamp 2 = .ok (.getfield 19, 3) := by decide +kernel
theorem dX9_slackInDamp_5 : decode cX9_slackInDamp 5 = .ok (.iload_n 1, 1) := by decide +kernel
theorem dX9_slackInDamp_6 : decode cX9_slackInDamp 6 = .ok (.iaload, 1) := by decide +kernel
theorem dX9_slackInDamp_7 : decode cX9_slackInDamp 7 = .ok (.aload_n 0, 1) := by decide +kernel
theorem dX9_slackInDamp_8 : decode cX9_slackInDamp 8 = .ok (.getfield 31, 3) := by decide +kernel
theorem dX9_slackInDamp_11 : decode cX9_slackInDamp 11 = .ok (.isub, 1) := by decide +kernel
theorem dX9_slackInDamp_12 : decode cX9_slackInDamp 12 = .ok (.invokestatic 74, 3) := by decide +kernel
theorem dX9_slackInDamp_15 : decode cX9_slackInDamp 15 = .ok (.ireturn, 1) := by decide +kernel
theorem dX9_harmOf_0 : decode cX9_harmOf 0 = .ok (.iconst 0, 1) := by decide +kernel
theorem dX9_harmOf_1 : decode cX9_harmOf 1 = .ok (.istore_n 2, 1) := by decide +kernel
theorem dX9_harmOf_2 : decode cX9_harmOf 2 = .ok (.iconst 0, 1) := by decide +kernel
theorem dX9_harmOf_3 : decode cX9_harmOf 3 = .ok (.istore_n 3, 1) := by decide +kernel
theorem dX9_harmOf_4 : decode cX9_harmOf 4 = .ok (.iload_n 3, 1) := by decide +kernel
theorem dX9_harmOf_5 : decode cX9_harmOf 5 = .ok (.aload_n 0, 1) := by decide +kernel
theorem dX9_harmOf_6 : decode cX9_harmOf 6 = .ok (.getfield 9, 3) := by decide +kernel
theorem dX9_harmOf_9 : decode cX9_harmOf 9 = .ok (.if_icmp .ge 26, 3) := by decide +kernel
theorem dX9_harmOf_12 : decode cX9_harmOf 12 = .ok (.iload_n 1, 1) := by decide +kernel
theorem dX9_harmOf_13 : decode cX9_harmOf 13 = .ok (.iload_n 3, 1) := by decide +kernel
theorem dX9_harmOf_14 : decode cX9_harmOf 14 = .ok (.invokestatic 80, 3) := by decide +kernel
theorem dX9_harmOf_17 : decode cX9_harmOf 17 = .ok (.ifCond .eq 12, 3) := by decide +kernel
theorem dX9_harmOf_20 : decode cX9_harmOf 20 = .ok (.iload_n 2, 1) := by decide +kernel
theorem dX9_harmOf_21 : decode cX9_harmOf 21 = .ok (.aload_n 0, 1) := by decide +kernel
theorem dX9_harmOf_22 : decode cX9_harmOf 22 = .ok (.getfield 25, 3) := by decide +kernel
theorem dX9_harmOf_25 : decode cX9_harmOf 25 = .ok (.iload_n 3, 1) := by decide +kernel
theorem dX9_harmOf_26 : decode cX9_harmOf 26 = .ok (.iaload, 1) := by decide +kernel
theorem dX9_harmOf_27 : decode cX9_harmOf 27 = .ok (.iadd, 1) := by decide +kernel
theorem dX9_harmOf_28 : decode cX9_harmOf 28 = .ok (.istore_n 2, 1) := by decide +kernel
theorem dX9_harmOf_29 : decode cX9_harmOf 29 = .ok (.iinc 3 1, 3) := by decide +kernel
theorem dX9_harmOf_32 : decode cX9_harmOf 32 = .ok (.goto (-28), 3) := by decide +kernel
theorem dX9_harmOf_35 : decode cX9_harmOf 35 = .ok (.iload_n 2, 1) := by decide +kernel
theorem dX9_harmOf_36 : decode cX9_harmOf 36 = .ok (.ireturn, 1) := by decide +kernel
theorem dX9_remember_0 : decode cX9_remember 0 = .ok (.aload_n 0, 1) := by decide +kernel
theorem dX9_remember_1 : decode cX9_remember 1 = .ok (.getfield 58, 3) := by decide +kernel
theorem dX9_remember_4 : decode cX9_remember 4 = .ok (.bipush 10, 2) := by decide +kernel
theorem dX9_remember_6 : decode cX9_remember 6 = .ok (.if_icmp .lt 24, 3) := by decide +kernel
theorem dX9_remember_9 : decode cX9_remember 9 = .ok (.aload_n 0, 1) := by decide +kernel
theorem dX9_remember_10 : decode cX9_remember 10 = .ok (.getfield 61, 3) := by decide +kernel
theorem dX9_remember_13 : decode cX9_remember 13 = .ok (.iconst 1, 1) := by decide +kernel
theorem dX9_remember_14 : decode cX9_remember 14 = .ok (.aload_n 0, 1) := by decide +kernel
theorem dX9_remember_15 : decode cX9_remember 15 = .ok (.getfield 61, 3) := by decide +kernel
theorem dX9_remember_18 : decode cX9_remember 18 = .ok (.iconst 0, 1) := by decide +kernel
theorem dX9_remember_19 : decode cX9_remember 19 = .ok (.bipush 9, 2) := by decide +kernel
theorem dX9_remember_21 : decode cX9_remember 21 = .ok (.invokestatic 64, 3) := by decide +kernel
theorem dX9_remember_24 : decode cX9_remember 24 = .ok (.aload_n 0, 1) := by decide +kernel
theorem dX9_remember_25 : decode cX9_remember 25 = .ok (.bipush 9, 2) := by decide +kernel
theorem dX9_remember_27 : decode cX9_remember 27 = .ok (.putfield 58, 3) := by decide +kernel
theorem dX9_remember_30 : decode cX9_remember 30 = .ok (.aload_n 0, 1) := by decide +kernel
theorem dX9_remember_31 : decode cX9_remember 31 = .ok (.getfield 61, 3) := by decide +kernel
theorem dX9_remember_34 : decode cX9_remember 34 = .ok (.aload_n 0, 1) := by decide +kernel
theorem dX9_remember_35 : decode cX9_remember 35 = .ok (.getfield 58, 3) := by decide +kernel
theorem dX9_remember_38 : decode cX9_remember 38 = .ok (.aload_n 0, 1) := by decide +kernel
theorem dX9_remember_39 : decode cX9_remember 39 = .ok (.getfield 34, 3) := by decide +kernel
theorem dX9_remember_42 : decode cX9_remember 42 = .ok (.iastore, 1) := by decide +kernel
theorem dX9_remember_43 : decode cX9_remember 43 = .ok (.aload_n 0, 1) := by decide +kernel
theorem dX9_remember_44 : decode cX9_remember 44 = .ok (.dup, 1) := by decide +kernel
theorem dX9_remember_45 : decode cX9_remember 45 = .ok (.getfield 58, 3) := by decide +kernel
theorem dX9_remember_48 : decode cX9_remember 48 = .ok (.iconst 1, 1) := by decide +kernel
theorem dX9_remember_49 : decode cX9_remember 49 = .ok (.iadd, 1) := by decide +kernel
theorem dX9_remember_50 : decode cX9_remember 50 = .ok (.putfield 58, 3) := by decide +kernel
theorem dX9_remember_53 : decode cX9_remember 53 = .ok (.return_, 1) := by decide +kernel
theorem dX9_goBack_0 : decode cX9_goBack 0 = .ok (.aload_n 0, 1) := by decide +kernel
theorem dX9_goBack_1 : decode cX9_goBack 1 = .ok (.getfield 58, 3) := by decide +kernel
theorem dX9_goBack_4 : decode cX9_goBack 4 = .ok (.ifCond .gt 4, 3) := by decide +kernel
theorem dX9_goBack_7 : decode cX9_goBack 7 = .ok (.return_, 1) := by decide +kernel
theorem dX9_goBack_8 : decode cX9_goBack 8 = .ok (.aload_n 0, 1) := by decide +kernel
theorem dX9_goBack_9 : decode cX9_goBack 9 = .ok (.dup, 1) := by decide +kernel
theorem dX9_goBack_10 : decode cX9_goBack 10 = .ok (.getfield 58, 3) := by decide +kernel
theorem dX9_goBack_13 : decode cX9_goBack 13 = .ok (.iconst 1, 1) := by decide +kernel
theorem dX9_goBack_14 : decode cX9_goBack 14 = .ok (.isub, 1) := by decide +kernel
theorem dX9_goBack_15 : decode cX9_goBack 15 = .ok (.putfield 58, 3) := by decide +kernel
theorem dX9_goBack_18 : decode cX9_goBack 18 = .ok (.aload_n 0, 1) := by decide +kernel
theorem dX9_goBack_19 : decode cX9_goBack 19 = .ok (.aload_n 0, 1) := by decide +kernel
theorem dX9_goBack_20 : decode cX9_goBack 20 = .ok (.getfield 61, 3) := by decide +kernel
theorem dX9_goBack_23 : decode cX9_goBack 23 = .ok (.aload_n 0, 1) := by decide +kernel
theorem dX9_goBack_24 : decode cX9_goBack 24 = .ok (.getfield 58, 3) := by decide +kernel
theorem dX9_goBack_27 : decode cX9_goBack 27 = .ok (.iaload, 1) := by decide +kernel
theorem dX9_goBack_28 : decode cX9_goBack 28 = .ok (.putfield 34, 3) := by decide +kernel
theorem dX9_goBack_31 : decode cX9_goBack 31 = .ok (.return_, 1) := by decide +kernel
theorem dX9_mixInto_0 : decode cX9_mixInto 0 = .ok (.ldc2_w 84, 3) := by decide +kernel
theorem dX9_mixInto_3 : decode cX9_mixInto 3 = .ok (.lload_n 1, 1) := by decide +kernel
theorem dX9_mixInto_4 : decode cX9_mixInto 4 = .ok (.lmul, 1) := by decide +kernel
theorem dX9_mixInto_5 : decode cX9_mixInto 5 = .ok (.aload_n 0, 1) := by decide +kernel
theorem dX9_mixInto_6 : decode cX9_mixInto 6 = .ok (.getfield 34, 3) := by decide +kernel
theorem dX9_mixInto_9 : decode cX9_mixInto 9 = .ok (.i2l, 1) := by decide +kernel
theorem dX9_mixInto_10 : decode cX9_mixInto 10 = .ok (.ladd, 1) := by decide +kernel
theorem dX9_mixInto_11 : decode cX9_mixInto 11 = .ok (.lstore_n 3, 1) := by decide +kernel
theorem dX9_mixInto_12 : decode cX9_mixInto 12 = .ok (.iconst 0, 1) := by decide +kernel
theorem dX9_mixInto_13 : decode cX9_mixInto 13 = .ok (.istore 5, 2) := by decide +kernel
theorem dX9_mixInto_15 : decode cX9_mixInto 15 = .ok (.iload 5, 2) := by decide +kernel
theorem dX9_mixInto_17 : decode cX9_mixInto 17 = .ok (.aload_n 0, 1) := by decide +kernel
theorem dX9_mixInto_18 : decode cX9_mixInto 18 = .ok (.getfield 9, 3) := by decide +kernel
theorem dX9_mixInto_21 : decode cX9_mixInto 21 = .ok (.if_icmp .ge 86, 3) := by decide +kernel
theorem dX9_mixInto_24 : decode cX9_mixInto 24 = .ok (.ldc2_w 84, 3) := by decide +kernel
theorem dX9_mixInto_27 : decode cX9_mixInto 27 = .ok (.lload_n 3, 1) := by decide +kernel
theorem dX9_mixInto_28 : decode cX9_mixInto 28 = .ok (.lmul, 1) := by decide +kernel
theorem dX9_mixInto_29 : decode cX9_mixInto 29 = .ok (.aload_n 0, 1) := by decide +kernel
theorem dX9_mixInto_30 : decode cX9_mixInto 30 = .ok (.getfield 15, 3) := by decide +kernel
theorem dX9_mixInto_33 : decode cX9_mixInto 33 = .ok (.iload 5, 2) := by decide +kernel
theorem dX9_mixInto_35 : decode cX9_mixInto 35 = .ok (.iaload, 1) := by decide +kernel
theorem dX9_mixInto_36 : decode cX9_mixInto 36 = .ok (.i2l, 1) := by decide +kernel
theorem dX9_mixInto_37 : decode cX9_mixInto 37 = .ok (.ladd, 1) := by decide +kernel
theorem dX9_mixInto_38 : decode cX9_mixInto 38 = .ok (.lstore_n 3, 1) := by decide +kernel
theorem dX9_mixInto_39 : decode cX9_mixInto 39 = .ok (.ldc2_w 84, 3) := by decide +kernel
theorem dX9_mixInto_42 : decode cX9_mixInto 42 = .ok (.lload_n 3, 1) := by decide +kernel
theorem dX9_mixInto_43 : decode cX9_mixInto 43 = .ok (.lmul, 1) := by decide +kernel
theorem dX9_mixInto_44 : decode cX9_mixInto 44 = .ok (.aload_n 0, 1) := by decide +kernel
theorem dX9_mixInto_45 : decode cX9_mixInto 45 = .ok (.getfield 19, 3) := by decide +kernel
theorem dX9_mixInto_48 : decode cX9_mixInto 48 = .ok (.iload 5, 2) := by decide +kernel
theorem dX9_mixInto_50 : decode cX9_mixInto 50 = .ok (.iaload, 1) := by decide +kernel
theorem dX9_mixInto_51 : decode cX9_mixInto 51 = .ok (.i2l, 1) := by decide +kernel
theorem dX9_mixInto_52 : decode cX9_mixInto 52 = .ok (.ladd, 1) := by decide +kernel
theorem dX9_mixInto_53 : decode cX9_mixInto 53 = .ok (.lstore_n 3, 1) := by decide +kernel
theorem dX9_mixInto_54 : decode cX9_mixInto 54 = .ok (.ldc2_w 84, 3) := by decide +kernel
theorem dX9_mixInto_57 : decode cX9_mixInto 57 = .ok (.lload_n 3, 1) := by decide +kernel
theorem dX9_mixInto_58 : decode cX9_mixInto 58 = .ok (.lmul, 1) := by decide +kernel
theorem dX9_mixInto_59 : decode cX9_mixInto 59 = .ok (.aload_n 0, 1) := by decide +kernel
theorem dX9_mixInto_60 : decode cX9_mixInto 60 = .ok (.getfield 22, 3) := by decide +kernel
theorem dX9_mixInto_63 : decode cX9_mixInto 63 = .ok (.iload 5, 2) := by decide +kernel
theorem dX9_mixInto_65 : decode cX9_mixInto 65 = .ok (.iaload, 1) := by decide +kernel
theorem dX9_mixInto_66 : decode cX9_mixInto 66 = .ok (.i2l, 1) := by decide +kernel
theorem dX9_mixInto_67 : decode cX9_mixInto 67 = .ok (.ladd, 1) := by decide +kernel
theorem dX9_mixInto_68 : decode cX9_mixInto 68 = .ok (.lstore_n 3, 1) := by decide +kernel
theorem dX9_mixInto_69 : decode cX9_mixInto 69 = .ok (.ldc2_w 84, 3) := by decide +kernel
theorem dX9_mixInto_72 : decode cX9_mixInto 72 = .ok (.lload_n 3, 1) := by decide +kernel
theorem dX9_mixInto_73 : decode cX9_mixInto 73 = .ok (.lmul, 1) := by decide +kernel
theorem dX9_mixInto_74 : decode cX9_mixInto 74 = .ok (.aload_n 0, 1) := by decide +kernel
theorem dX9_mixInto_75 : decode cX9_mixInto 75 = .ok (.getfield 25, 3) := by decide +kernel
theorem dX9_mixInto_78 : decode cX9_mixInto 78 = .ok (.iload 5, 2) := by decide +kernel
theorem dX9_mixInto_80 : decode cX9_mixInto 80 = .ok (.iaload, 1) := by decide +kernel
theorem dX9_mixInto_81 : decode cX9_mixInto 81 = .ok (.i2l, 1) := by decide +kernel
theorem dX9_mixInto_82 : decode cX9_mixInto 82 = .ok (.ladd, 1) := by decide +kernel
theorem dX9_mixInto_83 : decode cX9_mixInto 83 = .ok (.lstore_n 3, 1) := by decide +kernel
theorem dX9_mixInto_84 : decode cX9_mixInto 84 = .ok (.ldc2_w 84, 3) := by decide +kernel
theorem dX9_mixInto_87 : decode cX9_mixInto 87 = .ok (.lload_n 3, 1) := by decide +kernel
theorem dX9_mixInto_88 : decode cX9_mixInto 88 = .ok (.lmul, 1) := by decide +kernel
theorem dX9_mixInto_89 : decode cX9_mixInto 89 = .ok (.aload_n 0, 1) := by decide +kernel
theorem dX9_mixInto_90 : decode cX9_mixInto 90 = .ok (.getfield 28, 3) := by decide +kernel
theorem dX9_mixInto_93 : decode cX9_mixInto 93 = .ok (.iload 5, 2) := by decide +kernel
theorem dX9_mixInto_95 : decode cX9_mixInto 95 = .ok (.ishr, 1) := by decide +kernel
theorem dX9_mixInto_96 : decode cX9_mixInto 96 = .ok (.iconst 1, 1) := by decide +kernel
theorem dX9_mixInto_97 : decode cX9_mixInto 97 = .ok (.iand, 1) := by decide +kernel
theorem dX9_mixInto_98 : decode cX9_mixInto 98 = .ok (.i2l, 1) := by decide +kernel
theorem dX9_mixInto_99 : decode cX9_mixInto 99 = .ok (.ladd, 1) := by decide +kernel
theorem dX9_mixInto_100 : decode cX9_mixInto 100 = .ok (.lstore_n 3, 1) := by decide +kernel
theorem dX9_mixInto_101 : decode cX9_mixInto 101 = .ok (.iinc 5 1, 3) := by decide +kernel
theorem dX9_mixInto_104 : decode cX9_mixInto 104 = .ok (.goto (-89), 3) := by decide +kernel
theorem dX9_mixInto_107 : decode cX9_mixInto 107 = .ok (.iconst 0, 1) := by decide +kernel
theorem dX9_mixInto_108 : decode cX9_mixInto 108 = .ok (.istore 5, 2) := by decide +kernel
theorem dX9_mixInto_110 : decode cX9_mixInto 110 = .ok (.iload 5, 2) := by decide +kernel
theorem dX9_mixInto_112 : decode cX9_mixInto 112 = .ok (.aload_n 0, 1) := by decide +kernel
theorem dX9_mixInto_113 : decode cX9_mixInto 113 = .ok (.getfield 37, 3) := by decide +kernel
theorem dX9_mixInto_116 : decode cX9_mixInto 116 = .ok (.if_icmp .ge 39, 3) := by decide +kernel
theorem dX9_mixInto_119 : decode cX9_mixInto 119 = .ok (.ldc2_w 84, 3) := by decide +kernel
theorem dX9_mixInto_122 : decode cX9_mixInto 122 = .ok (.lload_n 3, 1) := by decide +kernel
theorem dX9_mixInto_123 : decode cX9_mixInto 123 = .ok (.lmul, 1) := by decide +kernel
theorem dX9_mixInto_124 : decode cX9_mixInto 124 = .ok (.aload_n 0, 1) := by decide +kernel
theorem dX9_mixInto_125 : decode cX9_mixInto 125 = .ok (.getfield 40, 3) := by decide +kernel
theorem dX9_mixInto_128 : decode cX9_mixInto 128 = .ok (.iload 5, 2) := by decide +kernel
theorem dX9_mixInto_130 : decode cX9_mixInto 130 = .ok (.iaload, 1) := by decide +kernel
theorem dX9_mixInto_131 : decode cX9_mixInto 131 = .ok (.i2l, 1) := by decide +kernel
theorem dX9_mixInto_132 : decode cX9_mixInto 132 = .ok (.ladd, 1) := by decide +kernel
theorem dX9_mixInto_133 : decode cX9_mixInto 133 = .ok (.lstore_n 3, 1) := by decide +kernel
theorem dX9_mixInto_134 : decode cX9_mixInto 134 = .ok (.ldc2_w 84, 3) := by decide +kernel
theorem dX9_mixInto_137 : decode cX9_mixInto 137 = .ok (.lload_n 3, 1) := by decide +kernel
theorem dX9_mixInto_138 : decode cX9_mixInto 138 = .ok (.lmul, 1) := by decide +kernel
theorem dX9_mixInto_139 : decode cX9_mixInto 139 = .ok (.aload_n 0, 1) := by decide +kernel
theorem dX9_mixInto_140 : decode cX9_mixInto 140 = .ok (.getfield 43, 3) := by decide +kernel
theorem dX9_mixInto_143 : decode cX9_mixInto 143 = .ok (.iload 5, 2) := by decide +kernel
theorem dX9_mixInto_145 : decode cX9_mixInto 145 = .ok (.iaload, 1) := by decide +kernel
theorem dX9_mixInto_146 : decode cX9_mixInto 146 = .ok (.i2l, 1) := by decide +kernel
theorem dX9_mixInto_147 : decode cX9_mixInto 147 = .ok (.ladd, 1) := by decide +kernel
theorem dX9_mixInto_148 : decode cX9_mixInto 148 = .ok (.lstore_n 3, 1) := by decide +kernel
theorem dX9_mixInto_149 : decode cX9_mixInto 149 = .ok (.iinc 5 1, 3) := by decide +kernel
theorem dX9_mixInto_152 : decode cX9_mixInto 152 = .ok (.goto (-42), 3) := by decide +kernel
theorem dX9_mixInto_155 : decode cX9_mixInto 155 = .ok (.iconst 0, 1) := by decide +kernel
theorem dX9_mixInto_156 : decode cX9_mixInto 156 = .ok (.istore 5, 2) := by decide +kernel
theorem dX9_mixInto_158 : decode cX9_mixInto 158 = .ok (.iload 5, 2) := by decide +kernel
theorem dX9_mixInto_160 : decode cX9_mixInto 160 = .ok (.aload_n 0, 1) := by decide +kernel
theorem dX9_mixInto_161 : decode cX9_mixInto 161 = .ok (.getfield 46, 3) := by decide +kernel
theorem dX9_mixInto_164 : decode cX9_mixInto 164 = .ok (.if_icmp .ge 54, 3) := by decide +kernel
theorem dX9_mixInto_167 : decode cX9_mixInto 167 = .ok (.ldc2_w 84, 3) := by decide +kernel
theorem dX9_mixInto_170 : decode cX9_mixInto 170 = .ok (.lload_n 3, 1) := by decide +kernel
theorem dX9_mixInto_171 : decode cX9_mixInto 171 = .ok (.lmul, 1) := by decide +kernel
theorem dX9_mixInto_172 : decode cX9_mixInto 172 = .ok (.aload_n 0, 1) := by decide +kernel
theorem dX9_mixInto_173 : decode cX9_mixInto 173 = .ok (.getfield 49, 3) := by decide +kernel
theorem dX9_mixInto_176 : decode cX9_mixInto 176 = .ok (.iload 5, 2) := by decide +kernel
theorem dX9_mixInto_178 : decode cX9_mixInto 178 = .ok (.iaload, 1) := by decide +kernel
theorem dX9_mixInto_179 : decode cX9_mixInto 179 = .ok (.i2l, 1) := by decide +kernel
theorem dX9_mixInto_180 : decode cX9_mixInto 180 = .ok (.ladd, 1) := by decide +kernel
theorem dX9_mixInto_181 : decode cX9_mixInto 181 = .ok (.lstore_n 3, 1) := by decide +kernel
theorem dX9_mixInto_182 : decode cX9_mixInto 182 = .ok (.ldc2_w 84, 3) := by decide +kernel
theorem dX9_mixInto_185 : decode cX9_mixInto 185 = .ok (.lload_n 3, 1) := by decide +kernel
theorem dX9_mixInto_186 : decode cX9_mixInto 186 = .ok (.lmul, 1) := by decide +kernel
theorem dX9_mixInto_187 : decode cX9_mixInto 187 = .ok (.aload_n 0, 1) := by decide +kernel
theorem dX9_mixInto_188 : decode cX9_mixInto 188 = .ok (.getfield 52, 3) := by decide +kernel
theorem dX9_mixInto_191 : decode cX9_mixInto 191 = .ok (.iload 5, 2) := by decide +kernel
theorem dX9_mixInto_193 : decode cX9_mixInto 193 = .ok (.iaload, 1) := by decide +kernel
theorem dX9_mixInto_194 : decode cX9_mixInto 194 = .ok (.i2l, 1) := by decide +kernel
theorem dX9_mixInto_195 : decode cX9_mixInto 195 = .ok (.ladd, 1) := by decide +kernel
theorem dX9_mixInto_196 : decode cX9_mixInto 196 = .ok (.lstore_n 3, 1) := by decide +kernel
theorem dX9_mixInto_197 : decode cX9_mixInto 197 = .ok (.ldc2_w 84, 3) := by decide +kernel
theorem dX9_mixInto_200 : decode cX9_mixInto 200 = .ok (.lload_n 3, 1) := by decide +kernel
theorem dX9_mixInto_201 : decode cX9_mixInto 201 = .ok (.lmul, 1) := by decide +kernel
theorem dX9_mixInto_202 : decode cX9_mixInto 202 = .ok (.aload_n 0, 1) := by decide +kernel
theorem dX9_mixInto_203 : decode cX9_mixInto 203 = .ok (.getfield 55, 3) := by decide +kernel
theorem dX9_mixInto_206 : decode cX9_mixInto 206 = .ok (.iload 5, 2) := by decide +kernel
theorem dX9_mixInto_208 : decode cX9_mixInto 208 = .ok (.iaload, 1) := by decide +kernel
theorem dX9_mixInto_209 : decode cX9_mixInto 209 = .ok (.i2l, 1) := by decide +kernel
theorem dX9_mixInto_210 : decode cX9_mixInto 210 = .ok (.ladd, 1) := by decide +kernel
theorem dX9_mixInto_211 : decode cX9_mixInto 211 = .ok (.lstore_n 3, 1) := by decide +kernel
theorem dX9_mixInto_212 : decode cX9_mixInto 212 = .ok (.iinc 5 1, 3) := by decide +kernel
theorem dX9_mixInto_215 : decode cX9_mixInto 215 = .ok (.goto (-57), 3) := by decide +kernel
theorem dX9_mixInto_218 : decode cX9_mixInto 218 = .ok (.lload_n 3, 1) := by decide +kernel
theorem dX9_mixInto_219 : decode cX9_mixInto 219 = .ok (.lreturn, 1) := by decide +kernel
theorem dX10_init_0 : decode cX10_init 0 = .ok (.aload_n 0, 1) := by decide +kernel
theorem dX10_init_1 : decode cX10_init 1 = .ok (.invokespecial 1, 3) := by decide +kernel
theorem dX10_init_4 : decode cX10_init 4 = .ok (.return_, 1) := by decide +kernel
theorem dX10_becomes_0 : decode cX10_becomes 0 = .ok (.iload_n 1, 1) := by decide +kernel
theorem dX10_becomes_1 : decode cX10_becomes 1 = .ok (.aload_n 0, 1) := by decide +kernel
theorem dX10_becomes_2 : decode cX10_becomes 2 = .ok (.iconst 0, 1) := by decide +kernel
theorem dX10_becomes_3 : decode cX10_becomes 3 = .ok (.iload_n 2, 1) := by decide +kernel
theorem dX10_becomes_4 : decode cX10_becomes 4 = .ok (.iload_n 3, 1) := by decide +kernel
theorem dX10_becomes_5 : decode cX10_becomes 5 = .ok (.invokespecial 7, 3) := by decide +kernel
theorem dX10_becomes_8 : decode cX10_becomes 8 = .ok (.if_icmp .eq 7, 3) := by decide +kernel
theorem dX10_becomes_11 : decode cX10_becomes 11 = .ok (.iconst 1, 1) := by decide +kernel
theorem dX10_becomes_12 : decode cX10_becomes 12 = .ok (.goto 4, 3) := by decide +kernel
theorem dX10_becomes_15 : decode cX10_becomes 15 = .ok (.iconst 0, 1) := by decide +kernel
theorem dX10_becomes_16 : decode cX10_becomes 16 = .ok (.ireturn, 1) := by decide +kernel
theorem dX11_init_0 : decode cX11_init 0 = .ok (.aload_n 0, 1) := by decide +kernel
theorem dX11_init_1 : decode cX11_init 1 = .ok (.invokespecial 3, 3) := by decide +kernel
theorem dX11_init_4 : decode cX11_init 4 = .ok (.aload_n 0, 1) := by decide +kernel
theorem dX11_init_5 : decode cX11_init 5 = .ok (.new 9, 3) := by decide +kernel
theorem dX11_init_8 : decode cX11_init 8 = .ok (.dup, 1) := by decide +kernel
theorem dX11_init_9 : decode cX11_init 9 = .ok (.invokespecial 11, 3) := by decide +kernel
theorem dX11_init_12 : decode cX11_init 12 = .ok (.putfield 12, 3) := by decide +kernel
theorem dX11_init_15 : decode cX11_init 15 = .ok (.aload_n 0, 1) := by decide +kernel
theorem dX11_init_16 : decode cX11_init 16 = .ok (.iconst 2, 1) := by decide +kernel
theorem dX11_init_17 : decode cX11_init 17 = .ok (.anewarray 9, 3) := by decide +kernel
theorem dX11_init_20 : decode cX11_init 20 = .ok (.putfield 16, 3) := by decide +kernel
theorem dX11_init_23 : decode cX11_init 23 = .ok (.aload_n 0, 1) := by decide +kernel
theorem dX11_init_24 : decode cX11_init 24 = .ok (.sipush 200, 3) := by decide +kernel
theorem dX11_init_27 : decode cX11_init 27 = .ok (.newarray .int, 2) := by decide +kernel
theorem dX11_init_29 : decode cX11_init 29 = .ok (.putfield 20, 3) := by decide +kernel
theorem dX11_init_32 : decode cX11_init 32 = .ok (.aload_n 0, 1) := by decide +kernel
theorem dX11_init_33 : decode cX11_init 33 = .ok (.iconst 0, 1) := by decide +kernel
theorem dX11_init_34 : decode cX11_init 34 = .ok (.putfield 24, 3) := by decide +kernel
theorem dX11_init_37 : decode cX11_init 37 = .ok (.aload_n 0, 1) := by decide +kernel
theorem dX11_init_38 : decode cX11_init 38 = .ok (.lconst 0, 1) := by decide +kernel
theorem dX11_init_39 : decode cX11_init 39 = .ok (.putfield 28, 3) := by decide +kernel
theorem dX11_init_42 : decode cX11_init 42 = .ok (.aload_n 0, 1) := by decide +kernel
theorem dX11_init_43 : decode cX11_init 43 = .ok (.lconst 1, 1) := by decide +kernel
theorem dX11_init_44 : decode cX11_init 44 = .ok (.putfield 32, 3) := by decide +kernel
theorem dX11_init_47 : decode cX11_init 47 = .ok (.aload_n 0, 1) := by decide +kernel
theorem dX11_init_48 : decode cX11_init 48 = .ok (.iconst 0, 1) := by decide +kernel
theorem dX11_init_49 : decode cX11_init 49 = .ok (.putfield 35, 3) := by decide +kernel
theorem dX11_init_52 : decode cX11_init 52 = .ok (.aload_n 0, 1) := by decide +kernel
theorem dX11_init_53 : decode cX11_init 53 = .ok (.iconst 0, 1) := by decide +kernel
theorem dX11_init_54 : decode cX11_init 54 = .ok (.putfield 38, 3) := by decide +kernel
theorem dX11_init_57 : decode cX11_init 57 = .ok (.aload_n 0, 1) := by decide +kernel
theorem dX11_init_58 : decode cX11_init 58 = .ok (.iconst 0, 1) := by decide +kernel
theorem dX11_init_59 : decode cX11_init 59 = .ok (.putfield 41, 3) := by decide +kernel
theorem dX11_init_62 : decode cX11_init 62 = .ok (.new 44, 3) := by decide +kernel
theorem dX11_init_65 : decode cX11_init 65 = .ok (.dup, 1) := by decide +kernel
theorem dX11_init_66 : decode cX11_init 66 = .ok (.invokespecial 46, 3) := by decide +kernel
theorem dX11_init_69 : decode cX11_init 69 = .ok (.astore_n 1, 1) := by decide +kernel
theorem dX11_init_70 : decode cX11_init 70 = .ok (.aload_n 0, 1) := by decide +kernel
theorem dX11_init_71 : decode cX11_init 71 = .ok (.new 47, 3) := by decide +kernel
theorem dX11_init_74 : decode cX11_init 74 = .ok (.dup, 1) := by decide +kernel
theorem dX11_init_75 : decode cX11_init 75 = .ok (.aload_n 1, 1) := by decide +kernel
theorem dX11_init_76 : decode cX11_init 76 = .ok (.invokespecial 49, 3) := by decide +kernel
theorem dX11_init_79 : decode cX11_init 79 = .ok (.putfield 52, 3) := by decide +kernel
theorem dX11_init_82 : decode cX11_init 82 = .ok (.aload_n 0, 1) := by decide +kernel
theorem dX11_init_83 : decode cX11_init 83 = .ok (.new 56, 3) := by decide +kernel
theorem dX11_init_86 : decode cX11_init 86 = .ok (.dup, 1) := by decide +kernel
theorem dX11_init_87 : decode cX11_init 87 = .ok (.new 47, 3) := by decide +kernel
theorem dX11_init_90 : decode cX11_init 90 = .ok (.dup, 1) := by decide +kernel
theorem dX11_init_91 : decode cX11_init 91 = .ok (.aload_n 1, 1) := by decide +kernel
theorem dX11_init_92 : decode cX11_init 92 = .ok (.invokespecial 49, 3) := by decide +kernel
theorem dX11_init_95 : decode cX11_init 95 = .ok (.invokespecial 58, 3) := by decide +kernel
theorem dX11_init_98 : decode cX11_init 98 = .ok (.putfield 61, 3) := by decide +kernel
theorem dX11_init_101 : decode cX11_init 101 = .ok (.aload_n 0, 1) := by decide +kernel
theorem dX11_init_102 : decode cX11_init 102 = .ok (.new 65, 3) := by decide +kernel
theorem dX11_init_105 : decode cX11_init 105 = .ok (.dup, 1) := by decide +kernel
theorem dX11_init_106 : decode cX11_init 106 = .ok (.aload_n 1, 1) := by decide +kernel
theorem dX11_init_107 : decode cX11_init 107 = .ok (.invokespecial 67, 3) := by decide +kernel
theorem dX11_init_110 : decode cX11_init 110 = .ok (.putfield 68, 3) := by decide +kernel
theorem dX11_init_113 : decode cX11_init 113 = .ok (.aload_n 0, 1) := by decide +kernel
theorem dX11_init_114 : decode cX11_init 114 = .ok (.new 72, 3) := by decide +kernel
theorem dX11_init_117 : decode cX11_init 117 = .ok (.dup, 1) := by decide +kernel
theorem dX11_init_118 : decode cX11_init 118 = .ok (.invokespecial 74, 3) := by decide +kernel
theorem dX11_init_121 : decode cX11_init 121 = .ok (.putfield 75, 3) := by decide +kernel
theorem dX11_init_124 : decode cX11_init 124 = .ok (.return_, 1) := by decide +kernel
theorem dX11_thing_0 : decode cX11_thing 0 = .ok (.iload_n 1, 1) := by decide +kernel
theorem dX11_thing_1 : decode cX11_thing 1 = .ok (.iconst 0, 1) := by decide +kernel
theorem dX11_thing_2 : decode cX11_thing 2 = .ok (.iconst 4, 1) := by decide +kernel
theorem dX11_thing_3 : decode cX11_thing 3 = .ok (.invokestatic 79, 3) := by decide +kernel
theorem dX11_thing_6 : decode cX11_thing 6 = .ok (.ifCond .eq 38, 3) := by decide +kernel
theorem dX11_thing_9 : decode cX11_thing 9 = .ok (.iload_n 2, 1) := by decide +kernel
theorem dX11_thing_10 : decode cX11_thing 10 = .ok (.iconst 0, 1) := by decide +kernel
theorem dX11_thing_11 : decode cX11_thing 11 = .ok (.bipush 9, 2) := by decide +kernel
theorem dX11_thing_13 : decode cX11_thing 13 = .ok (.invokestatic 79, 3) := by decide +kernel
theorem dX11_thing_16 : decode cX11_thing 16 = .ok (.ifCond .eq 28, 3) := by decide +kernel
theorem dX11_thing_19 : decode cX11_thing 19 = .ok (.iload_n 3, 1) := by decide +kernel
theorem dX11_thing_20 : decode cX11_thing 20 = .ok (.iconst 1, 1) := by decide +kernel
theorem dX11_thing_21 : decode cX11_thing 21 = .ok (.bipush 9, 2) := by decide +kernel
theorem dX11_thing_23 : decode cX11_thing 23 = .ok (.invokestatic 79, 3) := by decide +kernel
theorem dX11_thing_26 : decode cX11_thing 26 = .ok (.ifCond .eq 18, 3) := by decide +kernel
theorem dX11_thing_29 : decode cX11_thing 29 = .ok (.iload 4, 2) := by decide +kernel
theorem dX11_thing_31 : decode cX11_thing 31 = .ok (.iconst 0, 1) := by decide +kernel
theorem dX11_thing_32 : decode cX11_thing 32 = .ok (.bipush 9, 2) := by decide +kernel
theorem dX11_thing_34 : decode cX11_thing 34 = .ok (.invokestatic 79, 3) := by decide +kernel
theorem dX11_thing_37 : decode cX11_thing 37 = .ok (.ifCond .eq 7, 3) := by decide +kernel
theorem dX11_thing_40 : decode cX11_thing 40 = .ok (.iconst 1, 1) := by decide +kernel
theorem dX11_thing_41 : decode cX11_thing 41 = .ok (.goto 4, 3) := by decide +kernel
theorem dX11_thing_44 : decode cX11_thing 44 = .ok (.iconst 0, 1) := by decide +kernel
theorem dX11_thing_45 : decode cX11_thing 45 = .ok (.istore 5, 2) := by decide +kernel
theorem dX11_thing_47 : decode cX11_thing 47 = .ok (.iload 5, 2) := by decide +kernel
theorem dX11_thing_49 : decode cX11_thing 49 = .ok (.ifCond .ne 10, 3) := by decide +kernel
theorem dX11_thing_52 : decode cX11_thing 52 = .ok (.aload_n 0, 1) := by decide +kernel
theorem dX11_thing_53 : decode cX11_thing 53 = .ok (.bipush (-2), 2) := by decide +kernel
theorem dX11_thing_55 : decode cX11_thing 55 = .ok (.invokevirtual 83, 3) := by decide +kernel
theorem dX11_thing_58 : decode cX11_thing 58 = .ok (.ireturn, 1) := by decide +kernel
theorem dX11_thing_59 : decode cX11_thing 59 = .ok (.aload_n 0, 1) := by decide +kernel
theorem dX11_thing_60 : decode cX11_thing 60 = .ok (.getfield 12, 3) := by decide +kernel
theorem dX11_thing_63 : decode cX11_thing 63 = .ok (.getfield 87, 3) := by decide +kernel
theorem dX11_thing_66 : decode cX11_thing 66 = .ok (.iconst 5, 1) := by decide +kernel
theorem dX11_thing_67 : decode cX11_thing 67 = .ok (.if_icmp .lt 8, 3) := by decide +kernel
theorem dX11_thing_70 : decode cX11_thing 70 = .ok (.aload_n 0, 1) := by decide +kernel
theorem dX11_thing_71 : decode cX11_thing 71 = .ok (.invokevirtual 90, 3) := by decide +kernel
theorem dX11_thing_74 : decode cX11_thing 74 = .ok (.ireturn, 1) := by decide +kernel
theorem dX11_thing_75 : decode cX11_thing 75 = .ok (.aload_n 0, 1) := by decide +kernel
theorem dX11_thing_76 : decode cX11_thing 76 = .ok (.getfield 12, 3) := by decide +kernel
theorem dX11_thing_79 : decode cX11_thing 79 = .ok (.iload_n 1, 1) := by decide +kernel
theorem dX11_thing_80 : decode cX11_thing 80 = .ok (.iload_n 2, 1) := by decide +kernel
theorem dX11_thing_81 : decode cX11_thing 81 = .ok (.iload_n 3, 1) := by decide +kernel
theorem dX11_thing_82 : decode cX11_thing 82 = .ok (.iload 4, 2) := by decide +kernel
theorem dX11_thing_84 : decode cX11_thing 84 = .ok (.invokevirtual 94, 3) := by decide +kernel
theorem dX11_thing_87 : decode cX11_thing 87 = .ok (.aload_n 0, 1) := by decide +kernel
theorem dX11_thing_88 : decode cX11_thing 88 = .ok (.getfield 12, 3) := by decide +kernel
theorem dX11_thing_91 : decode cX11_thing 91 = .ok (.getfield 87, 3) := by decide +kernel
theorem dX11_thing_94 : decode cX11_thing 94 = .ok (.iconst 1, 1) := by decide +kernel
theorem dX11_thing_95 : decode cX11_thing 95 = .ok (.isub, 1) := by decide +kernel
theorem dX11_thing_96 : decode cX11_thing 96 = .ok (.ireturn, 1) := by decide +kernel
theorem dX11_rope_0 : decode cX11_rope 0 = .ok (.aload_n 0, 1) := by decide +kernel
theorem dX11_rope_1 : decode cX11_rope 1 = .ok (.getfield 12, 3) := by decide +kernel
theorem dX11_rope_4 : decode cX11_rope 4 = .ok (.iload_n 1, 1) := by decide +kernel
theorem dX11_rope_5 : decode cX11_rope 5 = .ok (.invokevirtual 98, 3) := by decide +kernel
theorem dX11_rope_8 : decode cX11_rope 8 = .ok (.ifCond .ne 10, 3) := by decide +kernel
theorem dX11_rope_11 : decode cX11_rope 11 = .ok (.aload_n 0, 1) := by decide +kernel
theorem dX11_rope_12 : decode cX11_rope 12 = .ok (.bipush (-2), 2) := by decide +kernel
theorem dX11_rope_14 : decode cX11_rope 14 = .ok (.invokevirtual 83, 3) := by decide +kernel
theorem dX11_rope_17 : decode cX11_rope 17 = .ok (.ireturn, 1) := by decide +kernel
theorem dX11_rope_18 : decode cX11_rope 18 = .ok (.aload_n 0, 1) := by decide +kernel
theorem dX11_rope_19 : decode cX11_rope 19 = .ok (.getfield 12, 3) := by decide +kernel
theorem dX11_rope_22 : decode cX11_rope 22 = .ok (.getfield 102, 3) := by decide +kernel
theorem dX11_rope_25 : decode cX11_rope 25 = .ok (.iload_n 1, 1) := by decide +kernel
theorem dX11_rope_26 : decode cX11_rope 26 = .ok (.invokestatic 105, 3) := by decide +kernel
theorem dX11_rope_29 : decode cX11_rope 29 = .ok (.iload_n 2, 1) := by decide +kernel
theorem dX11_rope_30 : decode cX11_rope 30 = .ok (.if_icmp .ne 8, 3) := by decide +kernel
theorem dX11_rope_33 : decode cX11_rope 33 = .ok (.aload_n 0, 1) := by decide +kernel
theorem dX11_rope_34 : decode cX11_rope 34 = .ok (.invokevirtual 109, 3) := by decide +kernel
theorem dX11_rope_37 : decode cX11_rope 37 = .ok (.ireturn, 1) := by decide +kernel
theorem dX11_rope_38 : decode cX11_rope 38 = .ok (.aload_n 0, 1) := by decide +kernel
theorem dX11_rope_39 : decode cX11_rope 39 = .ok (.getfield 12, 3) := by decide +kernel
theorem dX11_rope_42 : decode cX11_rope 42 = .ok (.dup, 1) := by decide +kernel
theorem dX11_rope_43 : decode cX11_rope 43 = .ok (.getfield 102, 3) := by decide +kernel
theorem dX11_rope_46 : decode cX11_rope 46 = .ok (.iconst 1, 1) := by decide +kernel
theorem dX11_rope_47 : decode cX11_rope 47 = .ok (.iload_n 1, 1) := by decide +kernel
theorem dX11_rope_48 : decode cX11_rope 48 = .ok (.ishl, 1) := by decide +kernel
theorem dX11_rope_49 : decode cX11_rope 49 = .ok (.ixor, 1) := by decide +kernel
theorem dX11_rope_50 : decode cX11_rope 50 = .ok (.putfield 102, 3) := by decide +kernel
theorem dX11_rope_53 : decode cX11_rope 53 = .ok (.iconst 1, 1) := by decide +kernel
theorem dX11_rope_54 : decode cX11_rope 54 = .ok (.ireturn, 1) := by decide +kernel
theorem dX11_damp_0 : decode cX11_damp 0 = .ok (.iload_n 1, 1) := by decide +kernel
theorem dX11_damp_1 : decode cX11_damp 1 = .ok (.iconst 0, 1) := by decide +kernel
theorem dX11_damp_2 : decode cX11_damp 2 = .ok (.bipush 9, 2) := by decide +kernel
theorem dX11_damp_4 : decode cX11_damp 4 = .ok (.invokestatic 79, 3) := by decide +kernel
theorem dX11_damp_7 : decode cX11_damp 7 = .ok (.ifCond .ne 10, 3) := by decide +kernel
theorem dX11_damp_10 : decode cX11_damp 10 = .ok (.aload_n 0, 1) := by decide +kernel
theorem dX11_damp_11 : decode cX11_damp 11 = .ok (.bipush (-2), 2) := by decide +kernel
theorem dX11_damp_13 : decode cX11_damp 13 = .ok (.invokevirtual 83, 3) := by decide +kernel
theorem dX11_damp_16 : decode cX11_damp 16 = .ok (.ireturn, 1) := by decide +kernel
theorem dX11_damp_17 : decode cX11_damp 17 = .ok (.aload_n 0, 1) := by decide +kernel
theorem dX11_damp_18 : decode cX11_damp 18 = .ok (.getfield 12, 3) := by decide +kernel
theorem dX11_damp_21 : decode cX11_damp 21 = .ok (.getfield 112, 3) := by decide +kernel
theorem dX11_damp_24 : decode cX11_damp 24 = .ok (.istore_n 2, 1) := by decide +kernel
theorem dX11_damp_25 : decode cX11_damp 25 = .ok (.aload_n 0, 1) := by decide +kernel
theorem dX11_damp_26 : decode cX11_damp 26 = .ok (.getfield 12, 3) := by decide +kernel
theorem dX11_damp_29 : decode cX11_damp 29 = .ok (.iload_n 1, 1) := by decide +kernel
theorem dX11_damp_30 : decode cX11_damp 30 = .ok (.putfield 112, 3) := by decide +kernel
theorem dX11_damp_33 : decode cX11_damp 33 = .ok (.iload_n 2, 1) := by decide +kernel
theorem dX11_damp_34 : decode cX11_damp 34 = .ok (.ireturn, 1) := by decide +kernel
theorem dX11_type_0 : decode cX11_type 0 = .ok (.iload_n 3, 1) := by decide +kernel
theorem dX11_type_1 : decode cX11_type 1 = .ok (.iconst 1, 1) := by decide +kernel
theorem dX11_type_2 : decode cX11_type 2 = .ok (.bipush 8, 2) := by decide +kernel
theorem dX11_type_4 : decode cX11_type 4 = .ok (.invokestatic 79, 3) := by decide +kernel
theorem dX11_type_7 : decode cX11_type 7 = .ok (.ifCond .ne 10, 3) := by decide +kernel
theorem dX11_type_10 : decode cX11_type 10 = .ok (.aload_n 0, 1) := by decide +kernel
theorem dX11_type_11 : decode cX11_type 11 = .ok (.bipush (-2), 2) := by decide +kernel
theorem dX11_type_13 : decode cX11_type 13 = .ok (.invokevirtual 83, 3) := by decide +kernel
theorem dX11_type_16 : decode cX11_type 16 = .ok (.ireturn, 1) := by decide +kernel
theorem dX11_type_17 : decode cX11_type 17 = .ok (.aload_n 0, 1) := by decide +kernel
theorem dX11_type_18 : decode cX11_type 18 = .ok (.getfield 24, 3) := by decide +kernel
theorem dX11_type_21 : decode cX11_type 21 = .ok (.iload_n 3, 1) := by decide +kernel
theorem dX11_type_22 : decode cX11_type 22 = .ok (.iadd, 1) := by decide +kernel
theorem dX11_type_23 : decode cX11_type 23 = .ok (.sipush 200, 3) := by decide +kernel
theorem dX11_type_26 : decode cX11_type 26 = .ok (.if_icmp .le 8, 3) := by decide +kernel
theorem dX11_type_29 : decode cX11_type 29 = .ok (.aload_n 0, 1) := by decide +kernel
theorem dX11_type_30 : decode cX11_type 30 = .ok (.invokevirtual 90, 3) := by decide +kernel
theorem dX11_type_33 : decode cX11_type 33 = .ok (.ireturn, 1) := by decide +kernel
theorem dX11_type_34 : decode cX11_type 34 = .ok (.bipush 8, 2) := by decide +kernel
theorem dX11_type_36 : decode cX11_type 36 = .ok (.iload_n 3, 1) := by decide +kernel
theorem dX11_type_37 : decode cX11_type 37 = .ok (.iconst 1, 1) := by decide +kernel
theorem dX11_type_38 : decode cX11_type 38 = .ok (.isub, 1) := by decide +kernel
theorem dX11_type_39 : decode cX11_type 39 = .ok (.imul, 1) := by decide +kernel
theorem dX11_type_40 : decode cX11_type 40 = .ok (.istore 4, 2) := by decide +kernel
theorem dX11_type_42 : decode cX11_type 42 = .ok (.iload 4, 2) := by decide +kernel
theorem dX11_type_44 : decode cX11_type 44 = .ok (.ifCond .lt 37, 3) := by decide +kernel
theorem dX11_type_47 : decode cX11_type 47 = .ok (.aload_n 0, 1) := by decide +kernel
theorem dX11_type_48 : decode cX11_type 48 = .ok (.getfield 20, 3) := by decide +kernel
theorem dX11_type_51 : decode cX11_type 51 = .ok (.aload_n 0, 1) := by decide +kernel
theorem dX11_type_52 : decode cX11_type 52 = .ok (.getfield 24, 3) := by decide +kernel
theorem dX11_type_55 : decode cX11_type 55 = .ok (.lload_n 1, 1) := by decide +kernel
theorem dX11_type_56 : decode cX11_type 56 = .ok (.iload 4, 2) := by decide +kernel
theorem dX11_type_58 : decode cX11_type 58 = .ok (.lushr, 1) := by decide +kernel
theorem dX11_type_59 : decode cX11_type 59 = .ok (.l2i, 1) := by decide +kernel
theorem dX11_type_60 : decode cX11_type 60 = .ok (.sipush 255, 3) := by decide +kernel
theorem dX11_type_63 : decode cX11_type 63 = .ok (.iand, 1) := by decide +kernel
theorem dX11_type_64 : decode cX11_type 64 = .ok (.iastore, 1) := by decide +kernel
theorem dX11_type_65 : decode cX11_type 65 = .ok (.aload_n 0, 1) := by decide +kernel
theorem dX11_type_66 : decode cX11_type 66 = .ok (.dup, 1) := by decide +kernel
theorem dX11_type_67 : decode cX11_type 67 = .ok (.getfield 24, 3) := by decide +kernel
theorem dX11_type_70 : decode cX11_type 70 = .ok (.iconst 1, 1) := by decide +kernel
theorem dX11_type_71 : decode cX11_type 71 = .ok (.iadd, 1) := by decide +kernel
theorem dX11_type_72 : decode cX11_type 72 = .ok (.putfield 24, 3) := by decide +kernel
theorem dX11_type_75 : decode cX11_type 75 = .ok (.iinc 4 (-8), 3) := by decide +kernel
theorem dX11_type_78 : decode cX11_type 78 = .ok (.goto (-36), 3) := by decide +kernel
theorem dX11_type_81 : decode cX11_type 81 = .ok (.aload_n 0, 1) := by decide +kernel
theorem dX11_type_82 : decode cX11_type 82 = .ok (.getfield 24, 3) := by decide +kernel
theorem dX11_type_85 : decode cX11_type 85 = .ok (.ireturn, 1) := by decide +kernel
theorem dX11_clear_0 : decode cX11_clear 0 = .ok (.aload_n 0, 1) := by decide +kernel
theorem dX11_clear_1 : decode cX11_clear 1 = .ok (.getfield 24, 3) := by decide +kernel
theorem dX11_clear_4 : decode cX11_clear 4 = .ok (.istore_n 1, 1) := by decide +kernel
theorem dX11_clear_5 : decode cX11_clear 5 = .ok (.aload_n 0, 1) := by decide +kernel
theorem dX11_clear_6 : decode cX11_clear 6 = .ok (.iconst 0, 1) := by decide +kernel
theorem dX11_clear_7 : decode cX11_clear 7 = .ok (.putfield 24, 3) := by decide +kernel
theorem dX11_clear_10 : decode cX11_clear 10 = .ok (.iload_n 1, 1) := by decide +kernel
theorem dX11_clear_11 : decode cX11_clear 11 = .ok (.ireturn, 1) := by decide +kernel
theorem dX11_read_0 : decode cX11_read 0 = .ok (.aload_n 0, 1) := by decide +kernel
theorem dX11_read_1 : decode cX11_read 1 = .ok (.getfield 75, 3) := by decide +kernel
theorem dX11_read_4 : decode cX11_read 4 = .ok (.aload_n 0, 1) := by decide +kernel
theorem dX11_read_5 : decode cX11_read 5 = .ok (.getfield 20, 3) := by decide +kernel
theorem dX11_read_8 : decode cX11_read 8 = .ok (.aload_n 0, 1) := by decide +kernel
theorem dX11_read_9 : decode cX11_read 9 = .ok (.getfield 24, 3) := by decide +kernel
theorem dX11_read_12 : decode cX11_read 12 = .ok (.invokevirtual 115, 3) := by decide +kernel
theorem dX11_read_15 : decode cX11_read 15 = .ok (.istore_n 1, 1) := by decide +kernel
theorem dX11_read_16 : decode cX11_read 16 = .ok (.iload_n 1, 1) := by decide +kernel
theorem dX11_read_17 : decode cX11_read 17 = .ok (.ifCond .ne 14, 3) := by decide +kernel
theorem dX11_read_20 : decode cX11_read 20 = .ok (.bipush (-10), 2) := by decide +kernel
theorem dX11_read_22 : decode cX11_read 22 = .ok (.aload_n 0, 1) := by decide +kernel
theorem dX11_read_23 : decode cX11_read 23 = .ok (.getfield 75, 3) := by decide +kernel
theorem dX11_read_26 : decode cX11_read 26 = .ok (.getfield 119, 3) := by decide +kernel
theorem dX11_read_29 : decode cX11_read 29 = .ok (.isub, 1) := by decide +kernel
theorem dX11_read_30 : decode cX11_read 30 = .ok (.ireturn, 1) := by decide +kernel
theorem dX11_read_31 : decode cX11_read 31 = .ok (.aload_n 0, 1) := by decide +kernel
theorem dX11_read_32 : decode cX11_read 32 = .ok (.getfield 12, 3) := by decide +kernel
theorem dX11_read_35 : decode cX11_read 35 = .ok (.aload_n 0, 1) := by decide +kernel
theorem dX11_read_36 : decode cX11_read 36 = .ok (.getfield 75, 3) := by decide +kernel
theorem dX11_read_39 : decode cX11_read 39 = .ok (.getfield 122, 3) := by decide +kernel
theorem dX11_read_42 : decode cX11_read 42 = .ok (.invokevirtual 125, 3) := by decide +kernel
theorem dX11_read_45 : decode cX11_read 45 = .ok (.aload_n 0, 1) := by decide +kernel
theorem dX11_read_46 : decode cX11_read 46 = .ok (.getfield 75, 3) := by decide +kernel
theorem dX11_read_49 : decode cX11_read 49 = .ok (.getfield 129, 3) := by decide +kernel
theorem dX11_read_52 : decode cX11_read 52 = .ok (.ireturn, 1) := by decide +kernel
theorem dX11_pull_0 : decode cX11_pull 0 = .ok (.aload_n 0, 1) := by decide +kernel
theorem dX11_pull_1 : decode cX11_pull 1 = .ok (.iload_n 1, 1) := by decide +kernel
theorem dX11_pull_2 : decode cX11_pull 2 = .ok (.iload_n 2, 1) := by decide +kernel
theorem dX11_pull_3 : decode cX11_pull 3 = .ok (.invokevirtual 132, 3) := by decide +kernel
theorem dX11_pull_6 : decode cX11_pull 6 = .ok (.ifCond .ne 10, 3) := by decide +kernel
theorem dX11_pull_9 : decode cX11_pull 9 = .ok (.aload_n 0, 1) := by decide +kernel
theorem dX11_pull_10 : decode cX11_pull 10 = .ok (.bipush (-2), 2) := by decide +kernel
theorem dX11_pull_12 : decode cX11_pull 12 = .ok (.invokevirtual 83, 3) := by decide +kernel
theorem dX11_pull_15 : decode cX11_pull 15 = .ok (.ireturn, 1) := by decide +kernel
theorem dX11_pull_16 : decode cX11_pull 16 = .ok (.aload_n 0, 1) := by decide +kernel
theorem dX11_pull_17 : decode cX11_pull 17 = .ok (.getfield 52, 3) := by decide +kernel
theorem dX11_pull_20 : decode cX11_pull 20 = .ok (.aload_n 0, 1) := by decide +kernel
theorem dX11_pull_21 : decode cX11_pull 21 = .ok (.getfield 12, 3) := by decide +kernel
theorem dX11_pull_24 : decode cX11_pull 24 = .ok (.aload_n 0, 1) := by decide +kernel
theorem dX11_pull_25 : decode cX11_pull 25 = .ok (.getfield 12, 3) := by decide +kernel
theorem dX11_pull_28 : decode cX11_pull 28 = .ok (.getfield 102, 3) := by decide +kernel
theorem dX11_pull_31 : decode cX11_pull 31 = .ok (.iload_n 1, 1) := by decide +kernel
theorem dX11_pull_32 : decode cX11_pull 32 = .ok (.iload_n 2, 1) := by decide +kernel
theorem dX11_pull_33 : decode cX11_pull 33 = .ok (.iconst (-1), 1) := by decide +kernel
theorem dX11_pull_34 : decode cX11_pull 34 = .ok (.iconst 0, 1) := by decide +kernel
theorem dX11_pull_35 : decode cX11_pull 35 = .ok (.invokevirtual 135, 3) := by decide +kernel
theorem dX11_pull_38 : decode cX11_pull 38 = .ok (.aload_n 0, 1) := by decide +kernel
theorem dX11_pull_39 : decode cX11_pull 39 = .ok (.invokevirtual 139, 3) := by decide +kernel
theorem dX11_pull_42 : decode cX11_pull 42 = .ok (.ireturn, 1) := by decide +kernel
theorem dX11_both_0 : decode cX11_both 0 = .ok (.aload_n 0, 1) := by decide +kernel
theorem dX11_both_1 : decode cX11_both 1 = .ok (.iload_n 1, 1) := by decide +kernel
theorem dX11_both_2 : decode cX11_both 2 = .ok (.iload_n 2, 1) := by decide +kernel
theorem dX11_both_3 : decode cX11_both 3 = .ok (.invokevirtual 132, 3) := by decide +kernel
theorem dX11_both_6 : decode cX11_both 6 = .ok (.ifCond .eq 18, 3) := by decide +kernel
theorem dX11_both_9 : decode cX11_both 9 = .ok (.aload_n 0, 1) := by decide +kernel
theorem dX11_both_10 : decode cX11_both 10 = .ok (.iload_n 3, 1) := by decide +kernel
theorem dX11_both_11 : decode cX11_both 11 = .ok (.iload 4, 2) := by decide +kernel
theorem dX11_both_13 : decode cX11_both 13 = .ok (.invokevirtual 132, 3) := by decide +kernel
theorem dX11_both_16 : decode cX11_both 16 = .ok (.ifCond .eq 8, 3) := by decide +kernel
theorem dX11_both_19 : decode cX11_both 19 = .ok (.iload_n 1, 1) := by decide +kernel
theorem dX11_both_20 : decode cX11_both 20 = .ok (.iload_n 3, 1) := by decide +kernel
theorem dX11_both_21 : decode cX11_both 21 = .ok (.if_icmp .ne 10, 3) := by decide +kernel
theorem dX11_both_24 : decode cX11_both 24 = .ok (.aload_n 0, 1) := by decide +kernel
theorem dX11_both_25 : decode cX11_both 25 = .ok (.bipush (-2), 2) := by decide +kernel
theorem dX11_both_27 : decode cX11_both 27 = .ok (.invokevirtual 83, 3) := by decide +kernel
theorem dX11_both_30 : decode cX11_both 30 = .ok (.ireturn, 1) := by decide +kernel
theorem dX11_both_31 : decode cX11_both 31 = .ok (.aload_n 0, 1) := by decide +kernel
theorem dX11_both_32 : decode cX11_both 32 = .ok (.getfield 52, 3) := by decide +kernel
theorem dX11_both_35 : decode cX11_both 35 = .ok (.aload_n 0, 1) := by decide +kernel
theorem dX11_both_36 : decode cX11_both 36 = .ok (.getfield 12, 3) := by decide +kernel
theorem dX11_both_39 : decode cX11_both 39 = .ok (.aload_n 0, 1) := by decide +kernel
theorem dX11_both_40 : decode cX11_both 40 = .ok (.getfield 12, 3) := by decide +kernel
theorem dX11_both_43 : decode cX11_both 43 = .ok (.getfield 102, 3) := by decide +kernel
theorem dX11_both_46 : decode cX11_both 46 = .ok (.iload_n 1, 1) := by decide +kernel
theorem dX11_both_47 : decode cX11_both 47 = .ok (.iload_n 2, 1) := by decide +kernel
theorem dX11_both_48 : decode cX11_both 48 = .ok (.iload_n 3, 1) := by decide +kernel
theorem dX11_both_49 : decode cX11_both 49 = .ok (.iload 4, 2) := by decide +kernel
theorem dX11_both_51 : decode cX11_both 51 = .ok (.invokevirtual 135, 3) := by decide +kernel
theorem dX11_both_54 : decode cX11_both 54 = .ok (.aload_n 0, 1) := by decide +kernel
theorem dX11_both_55 : decode cX11_both 55 = .ok (.invokevirtual 139, 3) := by decide +kernel
theorem dX11_both_58 : decode cX11_both 58 = .ok (.ireturn, 1) := by decide +kernel
theorem dX11_would_0 : decode cX11_would 0 = .ok (.aload_n 0, 1) := by decide +kernel
theorem dX11_would_1 : decode cX11_would 1 = .ok (.iload_n 1, 1) := by decide +kernel
theorem dX11_would_2 : decode cX11_would 2 = .ok (.iload_n 2, 1) := by decide +kernel
theorem dX11_would_3 : decode cX11_would 3 = .ok (.invokevirtual 132, 3) := by decide +kernel
theorem dX11_would_6 : decode cX11_would 6 = .ok (.ifCond .ne 10, 3) := by decide +kernel
theorem dX11_would_9 : decode cX11_would 9 = .ok (.aload_n 0, 1) := by decide +kernel
theorem dX11_would_10 : decode cX11_would 10 = .ok (.bipush (-2), 2) := by decide +kernel
theorem dX11_would_12 : decode cX11_would 12 = .ok (.invokevirtual 83, 3) := by decide +kernel
theorem dX11_would_15 : decode cX11_would 15 = .ok (.ireturn, 1) := by decide +kernel
theorem dX11_would_16 : decode cX11_would 16 = .ok (.aload_n 0, 1) := by decide +kernel
theorem dX11_would_17 : decode cX11_would 17 = .ok (.getfield 52, 3) := by decide +kernel
theorem dX11_would_20 : decode cX11_would 20 = .ok (.aload_n 0, 1) := by decide +kernel
theorem dX11_would_21 : decode cX11_would 21 = .ok (.getfield 12, 3) := by decide +kernel
theorem dX11_would_24 : decode cX11_would 24 = .ok (.aload_n 0, 1) := by decide +kernel
theorem dX11_would_25 : decode cX11_would 25 = .ok (.getfield 12, 3) := by decide +kernel
theorem dX11_would_28 : decode cX11_would 28 = .ok (.getfield 102, 3) := by decide +kernel
theorem dX11_would_31 : decode cX11_would 31 = .ok (.iload_n 1, 1) := by decide +kernel
theorem dX11_would_32 : decode cX11_would 32 = .ok (.iload_n 2, 1) := by decide +kernel
theorem dX11_would_33 : decode cX11_would 33 = .ok (.iconst (-1), 1) := by decide +kernel
theorem dX11_would_34 : decode cX11_would 34 = .ok (.iconst 0, 1) := by decide +kernel
theorem dX11_would_35 : decode cX11_would 35 = .ok (.invokevirtual 135, 3) := by decide +kernel
theorem dX11_would_38 : decode cX11_would 38 = .ok (.aload_n 0, 1) := by decide +kernel
theorem dX11_would_39 : decode cX11_would 39 = .ok (.getfield 52, 3) := by decide +kernel
theorem dX11_would_42 : decode cX11_would 42 = .ok (.aload_n 0, 1) := by decide +kernel
theorem dX11_would_43 : decode cX11_would 43 = .ok (.getfield 12, 3) := by decide +kernel
theorem dX11_would_46 : decode cX11_would 46 = .ok (.getfield 142, 3) := by decide +kernel
theorem dX11_would_49 : decode cX11_would 49 = .ok (.invokevirtual 145, 3) := by decide +kernel
theorem dX11_would_52 : decode cX11_would 52 = .ok (.ireturn, 1) := by decide +kernel
theorem dX11_open_0 : decode cX11_open 0 = .ok (.aload_n 0, 1) := by decide +kernel
theorem dX11_open_1 : decode cX11_open 1 = .ok (.getfield 12, 3) := by decide +kernel
theorem dX11_open_4 : decode cX11_open 4 = .ok (.getfield 142, 3) := by decide +kernel
theorem dX11_open_7 : decode cX11_open 7 = .ok (.ireturn, 1) := by decide +kernel
theorem dX11_moves_0 : decode cX11_moves 0 = .ok (.aload_n 0, 1) := by decide +kernel
theorem dX11_moves_1 : decode cX11_moves 1 = .ok (.iload_n 1, 1) := by decide +kernel
theorem dX11_moves_2 : decode cX11_moves 2 = .ok (.iload_n 2, 1) := by decide +kernel
theorem dX11_moves_3 : decode cX11_moves 3 = .ok (.invokevirtual 132, 3) := by decide +kernel
theorem dX11_moves_6 : decode cX11_moves 6 = .ok (.ifCond .eq 14, 3) := by decide +kernel
theorem dX11_moves_9 : decode cX11_moves 9 = .ok (.aload_n 0, 1) := by decide +kernel
theorem dX11_moves_10 : decode cX11_moves 10 = .ok (.getfield 12, 3) := by decide +kernel
theorem dX11_moves_13 : decode cX11_moves 13 = .ok (.iload_n 3, 1) := by decide +kernel
theorem dX11_moves_14 : decode cX11_moves 14 = .ok (.invokevirtual 98, 3) := by decide +kernel
theorem dX11_moves_17 : decode cX11_moves 17 = .ok (.ifCond .ne 10, 3) := by decide +kernel
theorem dX11_moves_20 : decode cX11_moves 20 = .ok (.aload_n 0, 1) := by decide +kernel
theorem dX11_moves_21 : decode cX11_moves 21 = .ok (.bipush (-2), 2) := by decide +kernel
theorem dX11_moves_23 : decode cX11_moves 23 = .ok (.invokevirtual 83, 3) := by decide +kernel
theorem dX11_moves_26 : decode cX11_moves 26 = .ok (.ireturn, 1) := by decide +kernel
theorem dX11_moves_27 : decode cX11_moves 27 = .ok (.aload_n 0, 1) := by decide +kernel
theorem dX11_moves_28 : decode cX11_moves 28 = .ok (.getfield 52, 3) := by decide +kernel
theorem dX11_moves_31 : decode cX11_moves 31 = .ok (.aload_n 0, 1) := by decide +kernel
theorem dX11_moves_32 : decode cX11_moves 32 = .ok (.getfield 12, 3) := by decide +kernel
theorem dX11_moves_35 : decode cX11_moves 35 = .ok (.aload_n 0, 1) := by decide +kernel
theorem dX11_moves_36 : decode cX11_moves 36 = .ok (.getfield 12, 3) := by decide +kernel
theorem dX11_moves_39 : decode cX11_moves 39 = .ok (.getfield 102, 3) := by decide +kernel
theorem dX11_moves_42 : decode cX11_moves 42 = .ok (.iload_n 1, 1) := by decide +kernel
theorem dX11_moves_43 : decode cX11_moves 43 = .ok (.iload_n 2, 1) := by decide +kernel
theorem dX11_moves_44 : decode cX11_moves 44 = .ok (.iconst (-1), 1) := by decide +kernel
theorem dX11_moves_45 : decode cX11_moves 45 = .ok (.iconst 0, 1) := by decide +kernel
theorem dX11_moves_46 : decode cX11_moves 46 = .ok (.invokevirtual 135, 3) := by decide +kernel
theorem dX11_moves_49 : decode cX11_moves 49 = .ok (.aload_n 0, 1) := by decide +kernel
theorem dX11_moves_50 : decode cX11_moves 50 = .ok (.getfield 52, 3) := by decide +kernel
theorem dX11_moves_53 : decode cX11_moves 53 = .ok (.aload_n 0, 1) := by decide +kernel
theorem dX11_moves_54 : decode cX11_moves 54 = .ok (.getfield 12, 3) := by decide +kernel
theorem dX11_moves_57 : decode cX11_moves 57 = .ok (.aload_n 0, 1) := by decide +kernel
theorem dX11_moves_58 : decode cX11_moves 58 = .ok (.getfield 12, 3) := by decide +kernel
theorem dX11_moves_61 : decode cX11_moves 61 = .ok (.getfield 102, 3) := by decide +kernel
theorem dX11_moves_64 : decode cX11_moves 64 = .ok (.iload_n 3, 1) := by decide +kernel
theorem dX11_moves_65 : decode cX11_moves 65 = .ok (.invokevirtual 148, 3) := by decide +kernel
theorem dX11_moves_68 : decode cX11_moves 68 = .ok (.ireturn, 1) := by decide +kernel
theorem dX11_undo_0 : decode cX11_undo 0 = .ok (.aload_n 0, 1) := by decide +kernel
theorem dX11_undo_1 : decode cX11_undo 1 = .ok (.getfield 12, 3) := by decide +kernel
theorem dX11_undo_4 : decode cX11_undo 4 = .ok (.getfield 152, 3) := by decide +kernel
theorem dX11_undo_7 : decode cX11_undo 7 = .ok (.ifCond .gt 8, 3) := by decide +kernel
theorem dX11_undo_10 : decode cX11_undo 10 = .ok (.aload_n 0, 1) := by decide +kernel
theorem dX11_undo_11 : decode cX11_undo 11 = .ok (.invokevirtual 109, 3) := by decide +kernel
theorem dX11_undo_14 : decode cX11_undo 14 = .ok (.ireturn, 1) := by decide +kernel
theorem dX11_undo_15 : decode cX11_undo 15 = .ok (.aload_n 0, 1) := by decide +kernel
theorem dX11_undo_16 : decode cX11_undo 16 = .ok (.getfield 12, 3) := by decide +kernel
theorem dX11_undo_19 : decode cX11_undo 19 = .ok (.invokevirtual 155, 3) := by decide +kernel
theorem dX11_undo_22 : decode cX11_undo 22 = .ok (.iconst 1, 1) := by decide +kernel
theorem dX11_undo_23 : decode cX11_undo 23 = .ok (.ireturn, 1) := by decide +kernel
theorem dX11_errand_0 : decode cX11_errand 0 = .ok (.aload_n 0, 1) := by decide +kernel
theorem dX11_errand_1 : decode cX11_errand 1 = .ok (.iload_n 1, 1) := by decide +kernel
theorem dX11_errand_2 : decode cX11_errand 2 = .ok (.iload_n 2, 1) := by decide +kernel
theorem dX11_errand_3 : decode cX11_errand 3 = .ok (.invokevirtual 132, 3) := by decide +kernel
theorem dX11_errand_6 : decode cX11_errand 6 = .ok (.ifCond .ne 10, 3) := by decide +kernel
theorem dX11_errand_9 : decode cX11_errand 9 = .ok (.aload_n 0, 1) := by decide +kernel
theorem dX11_errand_10 : decode cX11_errand 10 = .ok (.bipush (-2), 2) := by decide +kernel
theorem dX11_errand_12 : decode cX11_errand 12 = .ok (.invokevirtual 83, 3) := by decide +kernel
theorem dX11_errand_15 : decode cX11_errand 15 = .ok (.ireturn, 1) := by decide +kernel
theorem dX11_errand_16 : decode cX11_errand 16 = .ok (.aload_n 0, 1) := by decide +kernel
theorem dX11_errand_17 : decode cX11_errand 17 = .ok (.getfield 12, 3) := by decide +kernel
theorem dX11_errand_20 : decode cX11_errand 20 = .ok (.getfield 158, 3) := by decide +kernel
theorem dX11_errand_23 : decode cX11_errand 23 = .ok (.iconst 5, 1) := by decide +kernel
theorem dX11_errand_24 : decode cX11_errand 24 = .ok (.if_icmp .lt 8, 3) := by decide +kernel
theorem dX11_errand_27 : decode cX11_errand 27 = .ok (.aload_n 0, 1) := by decide +kernel
theorem dX11_errand_28 : decode cX11_errand 28 = .ok (.invokevirtual 90, 3) := by decide +kernel
theorem dX11_errand_31 : decode cX11_errand 31 = .ok (.ireturn, 1) := by decide +kernel
theorem dX11_errand_32 : decode cX11_errand 32 = .ok (.aload_n 0, 1) := by decide +kernel
theorem dX11_errand_33 : decode cX11_errand 33 = .ok (.getfield 12, 3) := by decide +kernel
theorem dX11_errand_36 : decode cX11_errand 36 = .ok (.iload_n 1, 1) := by decide +kernel
theorem dX11_errand_37 : decode cX11_errand 37 = .ok (.iload_n 2, 1) := by decide +kernel
theorem dX11_errand_38 : decode cX11_errand 38 = .ok (.invokevirtual 161, 3) := by decide +kernel
theorem dX11_errand_41 : decode cX11_errand 41 = .ok (.aload_n 0, 1) := by decide +kernel
theorem dX11_errand_42 : decode cX11_errand 42 = .ok (.getfield 12, 3) := by decide +kernel
theorem dX11_errand_45 : decode cX11_errand 45 = .ok (.getfield 158, 3) := by decide +kernel
theorem dX11_errand_48 : decode cX11_errand 48 = .ok (.iconst 1, 1) := by decide +kernel
theorem dX11_errand_49 : decode cX11_errand 49 = .ok (.isub, 1) := by decide +kernel
theorem dX11_errand_50 : decode cX11_errand 50 = .ok (.ireturn, 1) := by decide +kernel
theorem dX11_drop_0 : decode cX11_drop 0 = .ok (.aload_n 0, 1) := by decide +kernel
theorem dX11_drop_1 : decode cX11_drop 1 = .ok (.getfield 12, 3) := by decide +kernel
theorem dX11_drop_4 : decode cX11_drop 4 = .ok (.getfield 158, 3) := by decide +kernel
theorem dX11_drop_7 : decode cX11_drop 7 = .ok (.ifCond .gt 8, 3) := by decide +kernel
theorem dX11_drop_10 : decode cX11_drop 10 = .ok (.aload_n 0, 1) := by decide +kernel
theorem dX11_drop_11 : decode cX11_drop 11 = .ok (.invokevirtual 109, 3) := by decide +kernel
theorem dX11_drop_14 : decode cX11_drop 14 = .ok (.ireturn, 1) := by decide +kernel
theorem dX11_drop_15 : decode cX11_drop 15 = .ok (.aload_n 0, 1) := by decide +kernel
theorem dX11_drop_16 : decode cX11_drop 16 = .ok (.getfield 12, 3) := by decide +kernel
theorem dX11_drop_19 : decode cX11_drop 19 = .ok (.dup, 1) := by decide +kernel
theorem dX11_drop_20 : decode cX11_drop 20 = .ok (.getfield 158, 3) := by decide +kernel
theorem dX11_drop_23 : decode cX11_drop 23 = .ok (.iconst 1, 1) := by decide +kernel
theorem dX11_drop_24 : decode cX11_drop 24 = .ok (.isub, 1) := by decide +kernel
theorem dX11_drop_25 : decode cX11_drop 25 = .ok (.putfield 158, 3) := by decide +kernel
theorem dX11_drop_28 : decode cX11_drop 28 = .ok (.aload_n 0, 1) := by decide +kernel
theorem dX11_drop_29 : decode cX11_drop 29 = .ok (.getfield 12, 3) := by decide +kernel
theorem dX11_drop_32 : decode cX11_drop 32 = .ok (.getfield 158, 3) := by decide +kernel
theorem dX11_drop_35 : decode cX11_drop 35 = .ok (.ireturn, 1) := by decide +kernel
theorem dX11_order_0 : decode cX11_order 0 = .ok (.iload_n 1, 1) := by decide +kernel
theorem dX11_order_1 : decode cX11_order 1 = .ok (.iconst (-1), 1) := by decide +kernel
theorem dX11_order_2 : decode cX11_order 2 = .ok (.if_icmp .ge 10, 3) := by decide +kernel
theorem dX11_order_5 : decode cX11_order 5 = .ok (.aload_n 0, 1) := by decide +kernel
theorem dX11_order_6 : decode cX11_order 6 = .ok (.bipush (-10), 2) := by decide +kernel
theorem dX11_order_8 : decode cX11_order 8 = .ok (.invokevirtual 83, 3) := by decide +kernel
theorem dX11_order_11 : decode cX11_order 11 = .ok (.ireturn, 1) := by decide +kernel
theorem dX11_order_12 : decode cX11_order 12 = .ok (.iload_n 1, 1) := by decide +kernel
theorem dX11_order_13 : decode cX11_order 13 = .ok (.aload_n 0, 1) := by decide +kernel
theorem dX11_order_14 : decode cX11_order 14 = .ok (.getfield 12, 3) := by decide +kernel
theorem dX11_order_17 : decode cX11_order 17 = .ok (.getfield 158, 3) := by decide +kernel
theorem dX11_order_20 : decode cX11_order 20 = .ok (.if_icmp .lt 6, 3) := by decide +kernel
theorem dX11_order_23 : decode cX11_order 23 = .ok (.bipush (-5), 2) := by decide +kernel
theorem dX11_order_25 : decode cX11_order 25 = .ok (.ireturn, 1) := by decide +kernel
theorem dX11_order_26 : decode cX11_order 26 = .ok (.aload_n 0, 1) := by decide +kernel
theorem dX11_order_27 : decode cX11_order 27 = .ok (.getfield 61, 3) := by decide +kernel
theorem dX11_order_30 : decode cX11_order 30 = .ok (.aload_n 0, 1) := by decide +kernel
theorem dX11_order_31 : decode cX11_order 31 = .ok (.getfield 12, 3) := by decide +kernel
theorem dX11_order_34 : decode cX11_order 34 = .ok (.invokevirtual 165, 3) := by decide +kernel
theorem dX11_order_37 : decode cX11_order 37 = .ok (.iload_n 1, 1) := by decide +kernel
theorem dX11_order_38 : decode cX11_order 38 = .ok (.iconst (-1), 1) := by decide +kernel
theorem dX11_order_39 : decode cX11_order 39 = .ok (.if_icmp .ne 13, 3) := by decide +kernel
theorem dX11_order_42 : decode cX11_order 42 = .ok (.aload_n 0, 1) := by decide +kernel
theorem dX11_order_43 : decode cX11_order 43 = .ok (.getfield 61, 3) := by decide +kernel
theorem dX11_order_46 : decode cX11_order 46 = .ok (.getfield 168, 3) := by decide +kernel
theorem dX11_order_49 : decode cX11_order 49 = .ok (.goto 12, 3) := by decide +kernel
theorem dX11_order_52 : decode cX11_order 52 = .ok (.aload_n 0, 1) := by decide +kernel
theorem dX11_order_53 : decode cX11_order 53 = .ok (.getfield 61, 3) := by decide +kernel
theorem dX11_order_56 : decode cX11_order 56 = .ok (.getfield 171, 3) := by decide +kernel
theorem dX11_order_59 : decode cX11_order 59 = .ok (.iload_n 1, 1) := by decide +kernel
theorem dX11_order_60 : decode cX11_order 60 = .ok (.iaload, 1) := by decide +kernel
theorem dX11_order_61 : decode cX11_order 61 = .ok (.ireturn, 1) := by decide +kernel
theorem dX11_code_0 : decode cX11_code 0 = .ok (.aload_n 0, 1) := by decide +kernel
theorem dX11_code_1 : decode cX11_code 1 = .ok (.getfield 12, 3) := by decide +kernel
theorem dX11_code_4 : decode cX11_code 4 = .ok (.iload_n 1, 1) := by decide +kernel
theorem dX11_code_5 : decode cX11_code 5 = .ok (.invokevirtual 174, 3) := by decide +kernel
theorem dX11_code_8 : decode cX11_code 8 = .ok (.ifCond .eq 8, 3) := by decide +kernel
theorem dX11_code_11 : decode cX11_code 11 = .ok (.iload_n 2, 1) := by decide +kernel
theorem dX11_code_12 : decode cX11_code 12 = .ok (.iconst (-1), 1) := by decide +kernel
theorem dX11_code_13 : decode cX11_code 13 = .ok (.if_icmp .ge 10, 3) := by decide +kernel
theorem dX11_code_16 : decode cX11_code 16 = .ok (.aload_n 0, 1) := by decide +kernel
theorem dX11_code_17 : decode cX11_code 17 = .ok (.bipush (-10), 2) := by decide +kernel
theorem dX11_code_19 : decode cX11_code 19 = .ok (.invokevirtual 83, 3) := by decide +kernel
theorem dX11_code_22 : decode cX11_code 22 = .ok (.ireturn, 1) := by decide +kernel
theorem dX11_code_23 : decode cX11_code 23 = .ok (.aload_n 0, 1) := by decide +kernel
theorem dX11_code_24 : decode cX11_code 24 = .ok (.getfield 61, 3) := by decide +kernel
theorem dX11_code_27 : decode cX11_code 27 = .ok (.aload_n 0, 1) := by decide +kernel
theorem dX11_code_28 : decode cX11_code 28 = .ok (.getfield 12, 3) := by decide +kernel
theorem dX11_code_31 : decode cX11_code 31 = .ok (.invokevirtual 177, 3) := by decide +kernel
theorem dX11_code_34 : decode cX11_code 34 = .ok (.aload_n 0, 1) := by decide +kernel
theorem dX11_code_35 : decode cX11_code 35 = .ok (.getfield 61, 3) := by decide +kernel
theorem dX11_code_38 : decode cX11_code 38 = .ok (.getfield 180, 3) := by decide +kernel
theorem dX11_code_41 : decode cX11_code 41 = .ok (.iload_n 1, 1) := by decide +kernel
theorem dX11_code_42 : decode cX11_code 42 = .ok (.iaload, 1) := by decide +kernel
theorem dX11_code_43 : decode cX11_code 43 = .ok (.istore_n 3, 1) := by decide +kernel
theorem dX11_code_44 : decode cX11_code 44 = .ok (.iload_n 2, 1) := by decide +kernel
theorem dX11_code_45 : decode cX11_code 45 = .ok (.iconst (-1), 1) := by decide +kernel
theorem dX11_code_46 : decode cX11_code 46 = .ok (.if_icmp .eq 8, 3) := by decide +kernel
theorem dX11_code_49 : decode cX11_code 49 = .ok (.iload_n 3, 1) := by decide +kernel
theorem dX11_code_50 : decode cX11_code 50 = .ok (.iconst (-1), 1) := by decide +kernel
theorem dX11_code_51 : decode cX11_code 51 = .ok (.if_icmp .ne 5, 3) := by decide +kernel
theorem dX11_code_54 : decode cX11_code 54 = .ok (.iload_n 3, 1) := by decide +kernel
theorem dX11_code_55 : decode cX11_code 55 = .ok (.ireturn, 1) := by decide +kernel
theorem dX11_code_56 : decode cX11_code 56 = .ok (.iload_n 2, 1) := by decide +kernel
theorem dX11_code_57 : decode cX11_code 57 = .ok (.iload_n 3, 1) := by decide +kernel
theorem dX11_code_58 : decode cX11_code 58 = .ok (.if_icmp .lt 8, 3) := by decide +kernel
theorem dX11_code_61 : decode cX11_code 61 = .ok (.bipush (-5), 2) := by decide +kernel
theorem dX11_code_63 : decode cX11_code 63 = .ok (.goto 12, 3) := by decide +kernel
theorem dX11_code_66 : decode cX11_code 66 = .ok (.aload_n 0, 1) := by decide +kernel
theorem dX11_code_67 : decode cX11_code 67 = .ok (.getfield 61, 3) := by decide +kernel
theorem dX11_code_70 : decode cX11_code 70 = .ok (.iload_n 1, 1) := by decide +kernel
theorem dX11_code_71 : decode cX11_code 71 = .ok (.iload_n 2, 1) := by decide +kernel
theorem dX11_code_72 : decode cX11_code 72 = .ok (.invokevirtual 183, 3) := by decide +kernel
theorem dX11_code_75 : decode cX11_code 75 = .ok (.ireturn, 1) := by decide +kernel
theorem dX11_who_0 : decode cX11_who 0 = .ok (.aload_n 0, 1) := by decide +kernel
theorem dX11_who_1 : decode cX11_who 1 = .ok (.getfield 12, 3) := by decide +kernel
theorem dX11_who_4 : decode cX11_who 4 = .ok (.iload_n 1, 1) := by decide +kernel
theorem dX11_who_5 : decode cX11_who 5 = .ok (.invokevirtual 174, 3) := by decide +kernel
theorem dX11_who_8 : decode cX11_who 8 = .ok (.ifCond .eq 12, 3) := by decide +kernel
theorem dX11_who_11 : decode cX11_who 11 = .ok (.iload_n 2, 1) := by decide +kernel
theorem dX11_who_12 : decode cX11_who 12 = .ok (.iconst 0, 1) := by decide +kernel
theorem dX11_who_13 : decode cX11_who 13 = .ok (.iconst 1, 1) := by decide +kernel
theorem dX11_who_14 : decode cX11_who 14 = .ok (.invokestatic 79, 3) := by decide +kernel
theorem dX11_who_17 : decode cX11_who 17 = .ok (.ifCond .ne 10, 3) := by decide +kernel
theorem dX11_who_20 : decode cX11_who 20 = .ok (.aload_n 0, 1) := by decide +kernel
theorem dX11_who_21 : decode cX11_who 21 = .ok (.bipush (-10), 2) := by decide +kernel
theorem dX11_who_23 : decode cX11_who 23 = .ok (.invokevirtual 83, 3) := by decide +kernel
theorem dX11_who_26 : decode cX11_who 26 = .ok (.ireturn, 1) := by decide +kernel
theorem dX11_who_27 : decode cX11_who 27 = .ok (.aload_n 0, 1) := by decide +kernel
theorem dX11_who_28 : decode cX11_who 28 = .ok (.getfield 61, 3) := by decide +kernel
theorem dX11_who_31 : decode cX11_who 31 = .ok (.aload_n 0, 1) := by decide +kernel
theorem dX11_who_32 : decode cX11_who 32 = .ok (.getfield 12, 3) := by decide +kernel
theorem dX11_who_35 : decode cX11_who 35 = .ok (.invokevirtual 187, 3) := by decide +kernel
theorem dX11_who_38 : decode cX11_who 38 = .ok (.iload_n 2, 1) := by decide +kernel
theorem dX11_who_39 : decode cX11_who 39 = .ok (.ifCond .ne 14, 3) := by decide +kernel
theorem dX11_who_42 : decode cX11_who 42 = .ok (.aload_n 0, 1) := by decide +kernel
theorem dX11_who_43 : decode cX11_who 43 = .ok (.getfield 61, 3) := by decide +kernel
theorem dX11_who_46 : decode cX11_who 46 = .ok (.iload_n 1, 1) := by decide +kernel
theorem dX11_who_47 : decode cX11_who 47 = .ok (.invokevirtual 190, 3) := by decide +kernel
theorem dX11_who_50 : decode cX11_who 50 = .ok (.goto 11, 3) := by decide +kernel
theorem dX11_who_53 : decode cX11_who 53 = .ok (.aload_n 0, 1) := by decide +kernel
theorem dX11_who_54 : decode cX11_who 54 = .ok (.getfield 61, 3) := by decide +kernel
theorem dX11_who_57 : decode cX11_who 57 = .ok (.iload_n 1, 1) := by decide +kernel
theorem dX11_who_58 : decode cX11_who 58 = .ok (.invokevirtual 193, 3) := by decide +kernel
theorem dX11_who_61 : decode cX11_who 61 = .ok (.ireturn, 1) := by decide +kernel
theorem dX11_heard_0 : decode cX11_heard 0 = .ok (.iload_n 1, 1) := by decide +kernel
theorem dX11_heard_1 : decode cX11_heard 1 = .ok (.ifCond .ge 10, 3) := by decide +kernel
theorem dX11_heard_4 : decode cX11_heard 4 = .ok (.aload_n 0, 1) := by decide +kernel
theorem dX11_heard_5 : decode cX11_heard 5 = .ok (.bipush (-2), 2) := by decide +kernel
theorem dX11_heard_7 : decode cX11_heard 7 = .ok (.invokevirtual 83, 3) := by decide +kernel
theorem dX11_heard_10 : decode cX11_heard 10 = .ok (.ireturn, 1) := by decide +kernel
theorem dX11_heard_11 : decode cX11_heard 11 = .ok (.aload_n 0, 1) := by decide +kernel
theorem dX11_heard_12 : decode cX11_heard 12 = .ok (.getfield 61, 3) := by decide +kernel
theorem dX11_heard_15 : decode cX11_heard 15 = .ok (.aload_n 0, 1) := by decide +kernel
theorem dX11_heard_16 : decode cX11_heard 16 = .ok (.getfield 12, 3) := by decide +kernel
theorem dX11_heard_19 : decode cX11_heard 19 = .ok (.aload_n 0, 1) := by decide +kernel
theorem dX11_heard_20 : decode cX11_heard 20 = .ok (.getfield 12, 3) := by decide +kernel
theorem dX11_heard_23 : decode cX11_heard 23 = .ok (.getfield 102, 3) := by decide +kernel
theorem dX11_heard_26 : decode cX11_heard 26 = .ok (.invokevirtual 196, 3) := by decide +kernel
theorem dX11_heard_29 : decode cX11_heard 29 = .ok (.aload_n 0, 1) := by decide +kernel
theorem dX11_heard_30 : decode cX11_heard 30 = .ok (.getfield 61, 3) := by decide +kernel
theorem dX11_heard_33 : decode cX11_heard 33 = .ok (.iload_n 1, 1) := by decide +kernel
theorem dX11_heard_34 : decode cX11_heard 34 = .ok (.invokevirtual 200, 3) := by decide +kernel
theorem dX11_heard_37 : decode cX11_heard 37 = .ok (.ireturn, 1) := by decide +kernel
theorem dX11_cuts_0 : decode cX11_cuts 0 = .ok (.aload_n 0, 1) := by decide +kernel
theorem dX11_cuts_1 : decode cX11_cuts 1 = .ok (.getfield 12, 3) := by decide +kernel
theorem dX11_cuts_4 : decode cX11_cuts 4 = .ok (.iload_n 1, 1) := by decide +kernel
theorem dX11_cuts_5 : decode cX11_cuts 5 = .ok (.invokevirtual 174, 3) := by decide +kernel
theorem dX11_cuts_8 : decode cX11_cuts 8 = .ok (.ifCond .ne 10, 3) := by decide +kernel
theorem dX11_cuts_11 : decode cX11_cuts 11 = .ok (.aload_n 0, 1) := by decide +kernel
theorem dX11_cuts_12 : decode cX11_cuts 12 = .ok (.bipush (-10), 2) := by decide +kernel
theorem dX11_cuts_14 : decode cX11_cuts 14 = .ok (.invokevirtual 83, 3) := by decide +kernel
theorem dX11_cuts_17 : decode cX11_cuts 17 = .ok (.ireturn, 1) := by decide +kernel
theorem dX11_cuts_18 : decode cX11_cuts 18 = .ok (.aload_n 0, 1) := by decide +kernel
theorem dX11_cuts_19 : decode cX11_cuts 19 = .ok (.getfield 61, 3) := by decide +kernel
theorem dX11_cuts_22 : decode cX11_cuts 22 = .ok (.aload_n 0, 1) := by decide +kernel
theorem dX11_cuts_23 : decode cX11_cuts 23 = .ok (.getfield 12, 3) := by decide +kernel
theorem dX11_cuts_26 : decode cX11_cuts 26 = .ok (.iload_n 1, 1) := by decide +kernel
theorem dX11_cuts_27 : decode cX11_cuts 27 = .ok (.invokevirtual 203, 3) := by decide +kernel
theorem dX11_cuts_30 : decode cX11_cuts 30 = .ok (.ireturn, 1) := by decide +kernel
theorem dX11_rule_0 : decode cX11_rule 0 = .ok (.aload_n 0, 1) := by decide +kernel
theorem dX11_rule_1 : decode cX11_rule 1 = .ok (.iload_n 1, 1) := by decide +kernel
theorem dX11_rule_2 : decode cX11_rule 2 = .ok (.iload_n 2, 1) := by decide +kernel
theorem dX11_rule_3 : decode cX11_rule 3 = .ok (.invokevirtual 132, 3) := by decide +kernel
theorem dX11_rule_6 : decode cX11_rule 6 = .ok (.ifCond .eq 14, 3) := by decide +kernel
theorem dX11_rule_9 : decode cX11_rule 9 = .ok (.aload_n 0, 1) := by decide +kernel
theorem dX11_rule_10 : decode cX11_rule 10 = .ok (.getfield 12, 3) := by decide +kernel
theorem dX11_rule_13 : decode cX11_rule 13 = .ok (.iload_n 3, 1) := by decide +kernel
theorem dX11_rule_14 : decode cX11_rule 14 = .ok (.invokevirtual 174, 3) := by decide +kernel
theorem dX11_rule_17 : decode cX11_rule 17 = .ok (.ifCond .ne 10, 3) := by decide +kernel
theorem dX11_rule_20 : decode cX11_rule 20 = .ok (.aload_n 0, 1) := by decide +kernel
theorem dX11_rule_21 : decode cX11_rule 21 = .ok (.bipush (-2), 2) := by decide +kernel
theorem dX11_rule_23 : decode cX11_rule 23 = .ok (.invokevirtual 83, 3) := by decide +kernel
theorem dX11_rule_26 : decode cX11_rule 26 = .ok (.ireturn, 1) := by decide +kernel
theorem dX11_rule_27 : decode cX11_rule 27 = .ok (.aload_n 0, 1) := by decide +kernel
theorem dX11_rule_28 : decode cX11_rule 28 = .ok (.getfield 12, 3) := by decide +kernel
theorem dX11_rule_31 : decode cX11_rule 31 = .ok (.getfield 207, 3) := by decide +kernel
theorem dX11_rule_34 : decode cX11_rule 34 = .ok (.iconst 4, 1) := by decide +kernel
theorem dX11_rule_35 : decode cX11_rule 35 = .ok (.if_icmp .lt 8, 3) := by decide +kernel
theorem dX11_rule_38 : decode cX11_rule 38 = .ok (.aload_n 0, 1) := by decide +kernel
theorem dX11_rule_39 : decode cX11_rule 39 = .ok (.invokevirtual 90, 3) := by decide +kernel
theorem dX11_rule_42 : decode cX11_rule 42 = .ok (.ireturn, 1) := by decide +kernel
theorem dX11_rule_43 : decode cX11_rule 43 = .ok (.aload_n 0, 1) := by decide +kernel
theorem dX11_rule_44 : decode cX11_rule 44 = .ok (.getfield 12, 3) := by decide +kernel
theorem dX11_rule_47 : decode cX11_rule 47 = .ok (.iload_n 1, 1) := by decide +kernel
theorem dX11_rule_48 : decode cX11_rule 48 = .ok (.iload_n 2, 1) := by decide +kernel
theorem dX11_rule_49 : decode cX11_rule 49 = .ok (.iload_n 3, 1) := by decide +kernel
theorem dX11_rule_50 : decode cX11_rule 50 = .ok (.invokevirtual 210, 3) := by decide +kernel
theorem dX11_rule_53 : decode cX11_rule 53 = .ok (.aload_n 0, 1) := by decide +kernel
theorem dX11_rule_54 : decode cX11_rule 54 = .ok (.getfield 12, 3) := by decide +kernel
theorem dX11_rule_57 : decode cX11_rule 57 = .ok (.getfield 207, 3) := by decide +kernel
theorem dX11_rule_60 : decode cX11_rule 60 = .ok (.iconst 1, 1) := by decide +kernel
theorem dX11_rule_61 : decode cX11_rule 61 = .ok (.isub, 1) := by decide +kernel
theorem dX11_rule_62 : decode cX11_rule 62 = .ok (.ireturn, 1) := by decide +kernel
theorem dX11_free_0 : decode cX11_free 0 = .ok (.aload_n 0, 1) := by decide +kernel
theorem dX11_free_1 : decode cX11_free 1 = .ok (.getfield 12, 3) := by decide +kernel
theorem dX11_free_4 : decode cX11_free 4 = .ok (.getfield 207, 3) := by decide +kernel
theorem dX11_free_7 : decode cX11_free 7 = .ok (.istore_n 1, 1) := by decide +kernel
theorem dX11_free_8 : decode cX11_free 8 = .ok (.aload_n 0, 1) := by decide +kernel
theorem dX11_free_9 : decode cX11_free 9 = .ok (.getfield 12, 3) := by decide +kernel
theorem dX11_free_12 : decode cX11_free 12 = .ok (.iconst 0, 1) := by decide +kernel
theorem dX11_free_13 : decode cX11_free 13 = .ok (.putfield 207, 3) := by decide +kernel
theorem dX11_free_16 : decode cX11_free 16 = .ok (.iload_n 1, 1) := by decide +kernel
theorem dX11_free_17 : decode cX11_free 17 = .ok (.ireturn, 1) := by decide +kernel
theorem dX11_slack_0 : decode cX11_slack 0 = .ok (.aload_n 0, 1) := by decide +kernel
theorem dX11_slack_1 : decode cX11_slack 1 = .ok (.getfield 12, 3) := by decide +kernel
theorem dX11_slack_4 : decode cX11_slack 4 = .ok (.iload_n 1, 1) := by decide +kernel
theorem dX11_slack_5 : decode cX11_slack 5 = .ok (.invokevirtual 98, 3) := by decide +kernel
theorem dX11_slack_8 : decode cX11_slack 8 = .ok (.ifCond .ne 10, 3) := by decide +kernel
theorem dX11_slack_11 : decode cX11_slack 11 = .ok (.aload_n 0, 1) := by decide +kernel
theorem dX11_slack_12 : decode cX11_slack 12 = .ok (.bipush (-10), 2) := by decide +kernel
theorem dX11_slack_14 : decode cX11_slack 14 = .ok (.invokevirtual 83, 3) := by decide +kernel
theorem dX11_slack_17 : decode cX11_slack 17 = .ok (.ireturn, 1) := by decide +kernel
theorem dX11_slack_18 : decode cX11_slack 18 = .ok (.aload_n 0, 1) := by decide +kernel
theorem dX11_slack_19 : decode cX11_slack 19 = .ok (.getfield 68, 3) := by decide +kernel
theorem dX11_slack_22 : decode cX11_slack 22 = .ok (.aload_n 0, 1) := by decide +kernel
theorem dX11_slack_23 : decode cX11_slack 23 = .ok (.getfield 12, 3) := by decide +kernel
theorem dX11_slack_26 : decode cX11_slack 26 = .ok (.invokevirtual 214, 3) := by decide +kernel
theorem dX11_slack_29 : decode cX11_slack 29 = .ok (.aload_n 0, 1) := by decide +kernel
theorem dX11_slack_30 : decode cX11_slack 30 = .ok (.getfield 68, 3) := by decide +kernel
theorem dX11_slack_33 : decode cX11_slack 33 = .ok (.iconst 0, 1) := by decide +kernel
theorem dX11_slack_34 : decode cX11_slack 34 = .ok (.invokevirtual 217, 3) := by decide +kernel
theorem dX11_slack_37 : decode cX11_slack 37 = .ok (.ifCond .eq 15, 3) := by decide +kernel
theorem dX11_slack_40 : decode cX11_slack 40 = .ok (.aload_n 0, 1) := by decide +kernel
theorem dX11_slack_41 : decode cX11_slack 41 = .ok (.getfield 68, 3) := by decide +kernel
theorem dX11_slack_44 : decode cX11_slack 44 = .ok (.getfield 220, 3) := by decide +kernel
theorem dX11_slack_47 : decode cX11_slack 47 = .ok (.iload_n 1, 1) := by decide +kernel
theorem dX11_slack_48 : decode cX11_slack 48 = .ok (.iaload, 1) := by decide +kernel
theorem dX11_slack_49 : decode cX11_slack 49 = .ok (.goto 4, 3) := by decide +kernel
theorem dX11_slack_52 : decode cX11_slack 52 = .ok (.iconst (-1), 1) := by decide +kernel
theorem dX11_slack_53 : decode cX11_slack 53 = .ok (.ireturn, 1) := by decide +kernel
theorem dX11_giveUp_0 : decode cX11_giveUp 0 = .ok (.aload_n 0, 1) := by decide +kernel
theorem dX11_giveUp_1 : decode cX11_giveUp 1 = .ok (.getfield 68, 3) := by decide +kernel
theorem dX11_giveUp_4 : decode cX11_giveUp 4 = .ok (.aload_n 0, 1) := by decide +kernel
theorem dX11_giveUp_5 : decode cX11_giveUp 5 = .ok (.getfield 12, 3) := by decide +kernel
theorem dX11_giveUp_8 : decode cX11_giveUp 8 = .ok (.invokevirtual 214, 3) := by decide +kernel
theorem dX11_giveUp_11 : decode cX11_giveUp 11 = .ok (.aload_n 0, 1) := by decide +kernel
theorem dX11_giveUp_12 : decode cX11_giveUp 12 = .ok (.getfield 68, 3) := by decide +kernel
theorem dX11_giveUp_15 : decode cX11_giveUp 15 = .ok (.invokevirtual 223, 3) := by decide +kernel
theorem dX11_giveUp_18 : decode cX11_giveUp 18 = .ok (.ireturn, 1) := by decide +kernel
theorem dX11_share_0 : decode cX11_share 0 = .ok (.aload_n 0, 1) := by decide +kernel
theorem dX11_share_1 : decode cX11_share 1 = .ok (.getfield 12, 3) := by decide +kernel
theorem dX11_share_4 : decode cX11_share 4 = .ok (.iload_n 1, 1) := by decide +kernel
theorem dX11_share_5 : decode cX11_share 5 = .ok (.invokevirtual 98, 3) := by decide +kernel
theorem dX11_share_8 : decode cX11_share 8 = .ok (.ifCond .ne 10, 3) := by decide +kernel
theorem dX11_share_11 : decode cX11_share 11 = .ok (.aload_n 0, 1) := by decide +kernel
theorem dX11_share_12 : decode cX11_share 12 = .ok (.bipush (-2), 2) := by decide +kernel
theorem dX11_share_14 : decode cX11_share 14 = .ok (.invokevirtual 83, 3) := by decide +kernel
theorem dX11_share_17 : decode cX11_share 17 = .ok (.ireturn, 1) := by decide +kernel
theorem dX11_share_18 : decode cX11_share 18 = .ok (.aload_n 0, 1) := by decide +kernel
theorem dX11_share_19 : decode cX11_share 19 = .ok (.getfield 61, 3) := by decide +kernel
theorem dX11_share_22 : decode cX11_share 22 = .ok (.aload_n 0, 1) := by decide +kernel
theorem dX11_share_23 : decode cX11_share 23 = .ok (.getfield 12, 3) := by decide +kernel
theorem dX11_share_26 : decode cX11_share 26 = .ok (.invokevirtual 226, 3) := by decide +kernel
theorem dX11_share_29 : decode cX11_share 29 = .ok (.aload_n 0, 1) := by decide +kernel
theorem dX11_share_30 : decode cX11_share 30 = .ok (.getfield 61, 3) := by decide +kernel
theorem dX11_share_33 : decode cX11_share 33 = .ok (.aload_n 0, 1) := by decide +kernel
theorem dX11_share_34 : decode cX11_share 34 = .ok (.getfield 12, 3) := by decide +kernel
theorem dX11_share_37 : decode cX11_share 37 = .ok (.getfield 87, 3) := by decide +kernel
theorem dX11_share_40 : decode cX11_share 40 = .ok (.iload_n 1, 1) := by decide +kernel
theorem dX11_share_41 : decode cX11_share 41 = .ok (.invokevirtual 229, 3) := by decide +kernel
theorem dX11_share_44 : decode cX11_share 44 = .ok (.aload_n 0, 1) := by decide +kernel
theorem dX11_share_45 : decode cX11_share 45 = .ok (.aload_n 0, 1) := by decide +kernel
theorem dX11_share_46 : decode cX11_share 46 = .ok (.getfield 61, 3) := by decide +kernel
theorem dX11_share_49 : decode cX11_share 49 = .ok (.getfield 232, 3) := by decide +kernel
theorem dX11_share_52 : decode cX11_share 52 = .ok (.aload_n 0, 1) := by decide +kernel
theorem dX11_share_53 : decode cX11_share 53 = .ok (.getfield 61, 3) := by decide +kernel
theorem dX11_share_56 : decode cX11_share 56 = .ok (.getfield 235, 3) := by decide +kernel
theorem dX11_share_59 : decode cX11_share 59 = .ok (.invokevirtual 238, 3) := by decide +kernel
theorem dX11_share_62 : decode cX11_share 62 = .ok (.iconst 1, 1) := by decide +kernel
theorem dX11_share_63 : decode cX11_share 63 = .ok (.ireturn, 1) := by decide +kernel
theorem dX11_part_0 : decode cX11_part 0 = .ok (.iload_n 1, 1) := by decide +kernel
theorem dX11_part_1 : decode cX11_part 1 = .ok (.iconst 0, 1) := by decide +kernel
theorem dX11_part_2 : decode cX11_part 2 = .ok (.iconst 1, 1) := by decide +kernel
theorem dX11_part_3 : decode cX11_part 3 = .ok (.invokestatic 79, 3) := by decide +kernel
theorem dX11_part_6 : decode cX11_part 6 = .ok (.ifCond .ne 12, 3) := by decide +kernel
theorem dX11_part_9 : decode cX11_part 9 = .ok (.aload_n 0, 1) := by decide +kernel
theorem dX11_part_10 : decode cX11_part 10 = .ok (.sipush (-1000), 3) := by decide +kernel
theorem dX11_part_13 : decode cX11_part 13 = .ok (.invokevirtual 83, 3) := by decide +kernel
theorem dX11_part_16 : decode cX11_part 16 = .ok (.i2l, 1) := by decide +kernel
theorem dX11_part_17 : decode cX11_part 17 = .ok (.lreturn, 1) := by decide +kernel
theorem dX11_part_18 : decode cX11_part 18 = .ok (.iload_n 1, 1) := by decide +kernel
theorem dX11_part_19 : decode cX11_part 19 = .ok (.ifCond .ne 10, 3) := by decide +kernel
theorem dX11_part_22 : decode cX11_part 22 = .ok (.aload_n 0, 1) := by decide +kernel
theorem dX11_part_23 : decode cX11_part 23 = .ok (.getfield 28, 3) := by decide +kernel
theorem dX11_part_26 : decode cX11_part 26 = .ok (.goto 7, 3) := by decide +kernel
theorem dX11_part_29 : decode cX11_part 29 = .ok (.aload_n 0, 1) := by decide +kernel
theorem dX11_part_30 : decode cX11_part 30 = .ok (.getfield 32, 3) := by decide +kernel
theorem dX11_part_33 : decode cX11_part 33 = .ok (.lreturn, 1) := by decide +kernel
theorem dX11_image_0 : decode cX11_image 0 = .ok (.iload_n 1, 1) := by decide +kernel
theorem dX11_image_1 : decode cX11_image 1 = .ok (.iconst 0, 1) := by decide +kernel
theorem dX11_image_2 : decode cX11_image 2 = .ok (.iconst 1, 1) := by decide +kernel
theorem dX11_image_3 : decode cX11_image 3 = .ok (.invokestatic 79, 3) := by decide +kernel
theorem dX11_image_6 : decode cX11_image 6 = .ok (.ifCond .ne 10, 3) := by decide +kernel
theorem dX11_image_9 : decode cX11_image 9 = .ok (.aload_n 0, 1) := by decide +kernel
theorem dX11_image_10 : decode cX11_image 10 = .ok (.bipush (-2), 2) := by decide +kernel
theorem dX11_image_12 : decode cX11_image 12 = .ok (.invokevirtual 83, 3) := by decide +kernel
theorem dX11_image_15 : decode cX11_image 15 = .ok (.ireturn, 1) := by decide +kernel
theorem dX11_image_16 : decode cX11_image 16 = .ok (.aload_n 0, 1) := by decide +kernel
theorem dX11_image_17 : decode cX11_image 17 = .ok (.getfield 16, 3) := by decide +kernel
theorem dX11_image_20 : decode cX11_image 20 = .ok (.iload_n 1, 1) := by decide +kernel
theorem dX11_image_21 : decode cX11_image 21 = .ok (.aaload, 1) := by decide +kernel
theorem dX11_image_22 : decode cX11_image 22 = .ok (.ifnonnull 16, 3) := by decide +kernel
theorem dX11_image_25 : decode cX11_image 25 = .ok (.aload_n 0, 1) := by decide +kernel
theorem dX11_image_26 : decode cX11_image 26 = .ok (.getfield 16, 3) := by decide +kernel
theorem dX11_image_29 : decode cX11_image 29 = .ok (.iload_n 1, 1) := by decide +kernel
theorem dX11_image_30 : decode cX11_image 30 = .ok (.new 9, 3) := by decide +kernel
theorem dX11_image_33 : decode cX11_image 33 = .ok (.dup, 1) := by decide +kernel
theorem dX11_image_34 : decode cX11_image 34 = .ok (.invokespecial 11, 3) := by decide +kernel
theorem dX11_image_37 : decode cX11_image 37 = .ok (.aastore, 1) := by decide +kernel
theorem dX11_image_38 : decode cX11_image 38 = .ok (.aload_n 0, 1) := by decide +kernel
theorem dX11_image_39 : decode cX11_image 39 = .ok (.getfield 16, 3) := by decide +kernel
theorem dX11_image_42 : decode cX11_image 42 = .ok (.iload_n 1, 1) := by decide +kernel
theorem dX11_image_43 : decode cX11_image 43 = .ok (.aaload, 1) := by decide +kernel
theorem dX11_image_44 : decode cX11_image 44 = .ok (.aload_n 0, 1) := by decide +kernel
theorem dX11_image_45 : decode cX11_image 45 = .ok (.getfield 12, 3) := by decide +kernel
theorem dX11_image_48 : decode cX11_image 48 = .ok (.invokevirtual 125, 3) := by decide +kernel
theorem dX11_image_51 : decode cX11_image 51 = .ok (.iconst 1, 1) := by decide +kernel
theorem dX11_image_52 : decode cX11_image 52 = .ok (.ireturn, 1) := by decide +kernel
theorem dX11_from_0 : decode cX11_from 0 = .ok (.iload_n 1, 1) := by decide +kernel
theorem dX11_from_1 : decode cX11_from 1 = .ok (.iconst 0, 1) := by decide +kernel
theorem dX11_from_2 : decode cX11_from 2 = .ok (.iconst 1, 1) := by decide +kernel
theorem dX11_from_3 : decode cX11_from 3 = .ok (.invokestatic 79, 3) := by decide +kernel
theorem dX11_from_6 : decode cX11_from 6 = .ok (.ifCond .ne 10, 3) := by decide +kernel
theorem dX11_from_9 : decode cX11_from 9 = .ok (.aload_n 0, 1) := by decide +kernel
theorem dX11_from_10 : decode cX11_from 10 = .ok (.bipush (-2), 2) := by decide +kernel
theorem dX11_from_12 : decode cX11_from 12 = .ok (.invokevirtual 83, 3) := by decide +kernel
theorem dX11_from_15 : decode cX11_from 15 = .ok (.ireturn, 1) := by decide +kernel
theorem dX11_from_16 : decode cX11_from 16 = .ok (.aload_n 0, 1) := by decide +kernel
theorem dX11_from_17 : decode cX11_from 17 = .ok (.getfield 16, 3) := by decide +kernel
theorem dX11_from_20 : decode cX11_from 20 = .ok (.iload_n 1, 1) := by decide +kernel
theorem dX11_from_21 : decode cX11_from 21 = .ok (.aaload, 1) := by decide +kernel
theorem dX11_from_22 : decode cX11_from 22 = .ok (.astore_n 2, 1) := by decide +kernel
theorem dX11_from_23 : decode cX11_from 23 = .ok (.aload_n 2, 1) := by decide +kernel
theorem dX11_from_24 : decode cX11_from 24 = .ok (.ifnonnull 8, 3) := by decide +kernel
theorem dX11_from_27 : decode cX11_from 27 = .ok (.aload_n 0, 1) := by decide +kernel
theorem dX11_from_28 : decode cX11_from 28 = .ok (.invokevirtual 109, 3) := by decide +kernel
theorem dX11_from_31 : decode cX11_from 31 = .ok (.ireturn, 1) := by decide +kernel
theorem dX11_from_32 : decode cX11_from 32 = .ok (.aload_n 0, 1) := by decide +kernel
theorem dX11_from_33 : decode cX11_from 33 = .ok (.getfield 12, 3) := by decide +kernel
theorem dX11_from_36 : decode cX11_from 36 = .ok (.aload_n 2, 1) := by decide +kernel
theorem dX11_from_37 : decode cX11_from 37 = .ok (.invokevirtual 125, 3) := by decide +kernel
theorem dX11_from_40 : decode cX11_from 40 = .ok (.iconst 1, 1) := by decide +kernel
theorem dX11_from_41 : decode cX11_from 41 = .ok (.ireturn, 1) := by decide +kernel
theorem dX11_status_0 : decode cX11_status 0 = .ok (.iload_n 1, 1) := by decide +kernel
theorem dX11_status_1 : decode cX11_status 1 = .ok (.tableswitch 42 0 2 #[27, 32, 37], 27) := by decide +kernel
theorem dX11_status_28 : decode cX11_status 28 = .ok (.aload_n 0, 1) := by decide +kernel
theorem dX11_status_29 : decode cX11_status 29 = .ok (.getfield 35, 3) := by decide +kernel
theorem dX11_status_32 : decode cX11_status 32 = .ok (.ireturn, 1) := by decide +kernel
theorem dX11_status_33 : decode cX11_status 33 = .ok (.aload_n 0, 1) := by decide +kernel
theorem dX11_status_34 : decode cX11_status 34 = .ok (.getfield 38, 3) := by decide +kernel
theorem dX11_status_37 : decode cX11_status 37 = .ok (.ireturn, 1) := by decide +kernel
theorem dX11_status_38 : decode cX11_status 38 = .ok (.aload_n 0, 1) := by decide +kernel
theorem dX11_status_39 : decode cX11_status 39 = .ok (.getfield 41, 3) := by decide +kernel
theorem dX11_status_42 : decode cX11_status 42 = .ok (.ireturn, 1) := by decide +kernel
theorem dX11_status_43 : decode cX11_status 43 = .ok (.aload_n 0, 1) := by decide +kernel
theorem dX11_status_44 : decode cX11_status 44 = .ok (.iconst (-1), 1) := by decide +kernel
theorem dX11_status_45 : decode cX11_status 45 = .ok (.invokevirtual 83, 3) := by decide +kernel
theorem dX11_status_48 : decode cX11_status 48 = .ok (.ireturn, 1) := by decide +kernel
theorem dX11_count_0 : decode cX11_count 0 = .ok (.iload_n 1, 1) := by decide +kernel
theorem dX11_count_1 : decode cX11_count 1 = .ok (.iconst 0, 1) := by decide +kernel
theorem dX11_count_2 : decode cX11_count 2 = .ok (.bipush 6, 2) := by decide +kernel
theorem dX11_count_4 : decode cX11_count 4 = .ok (.invokestatic 79, 3) := by decide +kernel
theorem dX11_count_7 : decode cX11_count 7 = .ok (.ifCond .ne 10, 3) := by decide +kernel
theorem dX11_count_10 : decode cX11_count 10 = .ok (.aload_n 0, 1) := by decide +kernel
theorem dX11_count_11 : decode cX11_count 11 = .ok (.bipush (-2), 2) := by decide +kernel
theorem dX11_count_13 : decode cX11_count 13 = .ok (.invokevirtual 83, 3) := by decide +kernel
theorem dX11_count_16 : decode cX11_count 16 = .ok (.ireturn, 1) := by decide +kernel
theorem dX11_count_17 : decode cX11_count 17 = .ok (.aload_n 0, 1) := by decide +kernel
theorem dX11_count_18 : decode cX11_count 18 = .ok (.iload_n 1, 1) := by decide +kernel
theorem dX11_count_19 : decode cX11_count 19 = .ok (.invokevirtual 241, 3) := by decide +kernel
theorem dX11_count_22 : decode cX11_count 22 = .ok (.ireturn, 1) := by decide +kernel
theorem dX11_digest_0 : decode cX11_digest 0 = .ok (.ldc2_w 244, 3) := by decide +kernel
theorem dX11_digest_3 : decode cX11_digest 3 = .ok (.lstore_n 1, 1) := by decide +kernel
theorem dX11_digest_4 : decode cX11_digest 4 = .ok (.iconst 0, 1) := by decide +kernel
theorem dX11_digest_5 : decode cX11_digest 5 = .ok (.istore_n 3, 1) := by decide +kernel
theorem dX11_digest_6 : decode cX11_digest 6 = .ok (.iload_n 3, 1) := by decide +kernel
theorem dX11_digest_7 : decode cX11_digest 7 = .ok (.bipush 6, 2) := by decide +kernel
theorem dX11_digest_9 : decode cX11_digest 9 = .ok (.if_icmp .gt 22, 3) := by decide +kernel
theorem dX11_digest_12 : decode cX11_digest 12 = .ok (.ldc2_w 246, 3) := by decide +kernel
theorem dX11_digest_15 : decode cX11_digest 15 = .ok (.lload_n 1, 1) := by decide +kernel
theorem dX11_digest_16 : decode cX11_digest 16 = .ok (.lmul, 1) := by decide +kernel
theorem dX11_digest_17 : decode cX11_digest 17 = .ok (.aload_n 0, 1) := by decide +kernel
theorem dX11_digest_18 : decode cX11_digest 18 = .ok (.iload_n 3, 1) := by decide +kernel
theorem dX11_digest_19 : decode cX11_digest 19 = .ok (.invokevirtual 241, 3) := by decide +kernel
theorem dX11_digest_22 : decode cX11_digest 22 = .ok (.i2l, 1) := by decide +kernel
theorem dX11_digest_23 : decode cX11_digest 23 = .ok (.ladd, 1) := by decide +kernel
theorem dX11_digest_24 : decode cX11_digest 24 = .ok (.lstore_n 1, 1) := by decide +kernel
theorem dX11_digest_25 : decode cX11_digest 25 = .ok (.iinc 3 1, 3) := by decide +kernel
theorem dX11_digest_28 : decode cX11_digest 28 = .ok (.goto (-22), 3) := by decide +kernel
theorem dX11_digest_31 : decode cX11_digest 31 = .ok (.aload_n 0, 1) := by decide +kernel
theorem dX11_digest_32 : decode cX11_digest 32 = .ok (.getfield 12, 3) := by decide +kernel
theorem dX11_digest_35 : decode cX11_digest 35 = .ok (.lload_n 1, 1) := by decide +kernel
theorem dX11_digest_36 : decode cX11_digest 36 = .ok (.invokevirtual 248, 3) := by decide +kernel
theorem dX11_digest_39 : decode cX11_digest 39 = .ok (.lstore_n 1, 1) := by decide +kernel
theorem dX11_digest_40 : decode cX11_digest 40 = .ok (.ldc2_w 246, 3) := by decide +kernel
theorem dX11_digest_43 : decode cX11_digest 43 = .ok (.lload_n 1, 1) := by decide +kernel
theorem dX11_digest_44 : decode cX11_digest 44 = .ok (.lmul, 1) := by decide +kernel
theorem dX11_digest_45 : decode cX11_digest 45 = .ok (.aload_n 0, 1) := by decide +kernel
theorem dX11_digest_46 : decode cX11_digest 46 = .ok (.getfield 28, 3) := by decide +kernel
theorem dX11_digest_49 : decode cX11_digest 49 = .ok (.ladd, 1) := by decide +kernel
theorem dX11_digest_50 : decode cX11_digest 50 = .ok (.lstore_n 1, 1) := by decide +kernel
theorem dX11_digest_51 : decode cX11_digest 51 = .ok (.ldc2_w 246, 3) := by decide +kernel
theorem dX11_digest_54 : decode cX11_digest 54 = .ok (.lload_n 1, 1) := by decide +kernel
theorem dX11_digest_55 : decode cX11_digest 55 = .ok (.lmul, 1) := by decide +kernel
theorem dX11_digest_56 : decode cX11_digest 56 = .ok (.aload_n 0, 1) := by decide +kernel
theorem dX11_digest_57 : decode cX11_digest 57 = .ok (.getfield 32, 3) := by decide +kernel
theorem dX11_digest_60 : decode cX11_digest 60 = .ok (.ladd, 1) := by decide +kernel
theorem dX11_digest_61 : decode cX11_digest 61 = .ok (.lreturn, 1) := by decide +kernel
theorem dX11_within_0 : decode cX11_within 0 = .ok (.iload_n 0, 1) := by decide +kernel
theorem dX11_within_1 : decode cX11_within 1 = .ok (.iload_n 1, 1) := by decide +kernel
theorem dX11_within_2 : decode cX11_within 2 = .ok (.if_icmp .lt 12, 3) := by decide +kernel
theorem dX11_within_5 : decode cX11_within 5 = .ok (.iload_n 0, 1) := by decide +kernel
theorem dX11_within_6 : decode cX11_within 6 = .ok (.iload_n 2, 1) := by decide +kernel
theorem dX11_within_7 : decode cX11_within 7 = .ok (.if_icmp .gt 7, 3) := by decide +kernel
theorem dX11_within_10 : decode cX11_within 10 = .ok (.iconst 1, 1) := by decide +kernel
theorem dX11_within_11 : decode cX11_within 11 = .ok (.goto 4, 3) := by decide +kernel
theorem dX11_within_14 : decode cX11_within 14 = .ok (.iconst 0, 1) := by decide +kernel
theorem dX11_within_15 : decode cX11_within 15 = .ok (.ireturn, 1) := by decide +kernel
theorem dX11_has_0 : decode cX11_has 0 = .ok (.iload_n 0, 1) := by decide +kernel
theorem dX11_has_1 : decode cX11_has 1 = .ok (.iload_n 1, 1) := by decide +kernel
theorem dX11_has_2 : decode cX11_has 2 = .ok (.ishr, 1) := by decide +kernel
theorem dX11_has_3 : decode cX11_has 3 = .ok (.iconst 1, 1) := by decide +kernel
theorem dX11_has_4 : decode cX11_has 4 = .ok (.iand, 1) := by decide +kernel
theorem dX11_has_5 : decode cX11_has 5 = .ok (.ifCond .eq 7, 3) := by decide +kernel
theorem dX11_has_8 : decode cX11_has 8 = .ok (.iconst 1, 1) := by decide +kernel
theorem dX11_has_9 : decode cX11_has 9 = .ok (.goto 4, 3) := by decide +kernel
theorem dX11_has_12 : decode cX11_has 12 = .ok (.iconst 0, 1) := by decide +kernel
theorem dX11_has_13 : decode cX11_has 13 = .ok (.ireturn, 1) := by decide +kernel
theorem dX11_isPull_0 : decode cX11_isPull 0 = .ok (.aload_n 0, 1) := by decide +kernel
theorem dX11_isPull_1 : decode cX11_isPull 1 = .ok (.getfield 12, 3) := by decide +kernel
theorem dX11_isPull_4 : decode cX11_isPull 4 = .ok (.iload_n 1, 1) := by decide +kernel
theorem dX11_isPull_5 : decode cX11_isPull 5 = .ok (.invokevirtual 98, 3) := by decide +kernel
theorem dX11_isPull_8 : decode cX11_isPull 8 = .ok (.ifCond .eq 17, 3) := by decide +kernel
theorem dX11_isPull_11 : decode cX11_isPull 11 = .ok (.iload_n 2, 1) := by decide +kernel
theorem dX11_isPull_12 : decode cX11_isPull 12 = .ok (.iconst 0, 1) := by decide +kernel
theorem dX11_isPull_13 : decode cX11_isPull 13 = .ok (.bipush 20, 2) := by decide +kernel
theorem dX11_isPull_15 : decode cX11_isPull 15 = .ok (.invokestatic 79, 3) := by decide +kernel
theorem dX11_isPull_18 : decode cX11_isPull 18 = .ok (.ifCond .eq 7, 3) := by decide +kernel
theorem dX11_isPull_21 : decode cX11_isPull 21 = .ok (.iconst 1, 1) := by decide +kernel
theorem dX11_isPull_22 : decode cX11_isPull 22 = .ok (.goto 4, 3) := by decide +kernel
theorem dX11_isPull_25 : decode cX11_isPull 25 = .ok (.iconst 0, 1) := by decide +kernel
theorem dX11_isPull_26 : decode cX11_isPull 26 = .ok (.ireturn, 1) := by decide +kernel
theorem dX11_bad_0 : decode cX11_bad 0 = .ok (.aload_n 0, 1) := by decide +kernel
theorem dX11_bad_1 : decode cX11_bad 1 = .ok (.dup, 1) := by decide +kernel
theorem dX11_bad_2 : decode cX11_bad 2 = .ok (.getfield 35, 3) := by decide +kernel
theorem dX11_bad_5 : decode cX11_bad 5 = .ok (.iconst 1, 1) := by decide +kernel
theorem dX11_bad_6 : decode cX11_bad 6 = .ok (.iadd, 1) := by decide +kernel
theorem dX11_bad_7 : decode cX11_bad 7 = .ok (.putfield 35, 3) := by decide +kernel
theorem dX11_bad_10 : decode cX11_bad 10 = .ok (.iload_n 1, 1) := by decide +kernel
theorem dX11_bad_11 : decode cX11_bad 11 = .ok (.ireturn, 1) := by decide +kernel
theorem dX11_refusedNow_0 : decode cX11_refusedNow 0 = .ok (.aload_n 0, 1) := by decide +kernel
theorem dX11_refusedNow_1 : decode cX11_refusedNow 1 = .ok (.dup, 1) := by decide +kernel
theorem dX11_refusedNow_2 : decode cX11_refusedNow 2 = .ok (.getfield 38, 3) := by decide +kernel
theorem dX11_refusedNow_5 : decode cX11_refusedNow 5 = .ok (.iconst 1, 1) := by decide +kernel
theorem dX11_refusedNow_6 : decode cX11_refusedNow 6 = .ok (.iadd, 1) := by decide +kernel
theorem dX11_refusedNow_7 : decode cX11_refusedNow 7 = .ok (.putfield 38, 3) := by decide +kernel
theorem dX11_refusedNow_10 : decode cX11_refusedNow 10 = .ok (.bipush (-3), 2) := by decide +kernel
theorem dX11_refusedNow_12 : decode cX11_refusedNow 12 = .ok (.ireturn, 1) := by decide +kernel
theorem dX11_tooMany_0 : decode cX11_tooMany 0 = .ok (.aload_n 0, 1) := by decide +kernel
theorem dX11_tooMany_1 : decode cX11_tooMany 1 = .ok (.dup, 1) := by decide +kernel
theorem dX11_tooMany_2 : decode cX11_tooMany 2 = .ok (.getfield 41, 3) := by decide +kernel
theorem dX11_tooMany_5 : decode cX11_tooMany 5 = .ok (.iconst 1, 1) := by decide +kernel
theorem dX11_tooMany_6 : decode cX11_tooMany 6 = .ok (.iadd, 1) := by decide +kernel
theorem dX11_tooMany_7 : decode cX11_tooMany 7 = .ok (.putfield 41, 3) := by decide +kernel
theorem dX11_tooMany_10 : decode cX11_tooMany 10 = .ok (.bipush (-4), 2) := by decide +kernel
theorem dX11_tooMany_12 : decode cX11_tooMany 12 = .ok (.ireturn, 1) := by decide +kernel
theorem dX11_doSwing_0 : decode cX11_doSwing 0 = .ok (.aload_n 0, 1) := by decide +kernel
theorem dX11_doSwing_1 : decode cX11_doSwing 1 = .ok (.getfield 12, 3) := by decide +kernel
theorem dX11_doSwing_4 : decode cX11_doSwing 4 = .ok (.invokevirtual 252, 3) := by decide +kernel
theorem dX11_doSwing_7 : decode cX11_doSwing 7 = .ok (.aload_n 0, 1) := by decide +kernel
theorem dX11_doSwing_8 : decode cX11_doSwing 8 = .ok (.getfield 12, 3) := by decide +kernel
theorem dX11_doSwing_11 : decode cX11_doSwing 11 = .ok (.aload_n 0, 1) := by decide +kernel
theorem dX11_doSwing_12 : decode cX11_doSwing 12 = .ok (.getfield 52, 3) := by decide +kernel
theorem dX11_doSwing_15 : decode cX11_doSwing 15 = .ok (.aload_n 0, 1) := by decide +kernel
theorem dX11_doSwing_16 : decode cX11_doSwing 16 = .ok (.getfield 12, 3) := by decide +kernel
theorem dX11_doSwing_19 : decode cX11_doSwing 19 = .ok (.getfield 142, 3) := by decide +kernel
theorem dX11_doSwing_22 : decode cX11_doSwing 22 = .ok (.invokevirtual 145, 3) := by decide +kernel
theorem dX11_doSwing_25 : decode cX11_doSwing 25 = .ok (.putfield 142, 3) := by decide +kernel
theorem dX11_doSwing_28 : decode cX11_doSwing 28 = .ok (.aload_n 0, 1) := by decide +kernel
theorem dX11_doSwing_29 : decode cX11_doSwing 29 = .ok (.getfield 52, 3) := by decide +kernel
theorem dX11_doSwing_32 : decode cX11_doSwing 32 = .ok (.invokevirtual 255, 3) := by decide +kernel
theorem dX11_doSwing_35 : decode cX11_doSwing 35 = .ok (.ireturn, 1) := by decide +kernel
theorem dX11_howMany_0 : decode cX11_howMany 0 = .ok (.iload_n 1, 1) := by decide +kernel
theorem dX11_howMany_1 : decode cX11_howMany 1 = .ok (.tableswitch 87 0 5 #[39, 47, 58, 66, 74, 82], 39) := by decide +kernel
theorem dX11_howMany_40 : decode cX11_howMany 40 = .ok (.aload_n 0, 1) := by decide +kernel
theorem dX11_howMany_41 : decode cX11_howMany 41 = .ok (.getfield 12, 3) := by decide +kernel
theorem dX11_howMany_44 : decode cX11_howMany 44 = .ok (.getfield 87, 3) := by decide +kernel
theorem dX11_howMany_47 : decode cX11_howMany 47 = .ok (.ireturn, 1) := by decide +kernel
theorem dX11_howMany_48 : decode cX11_howMany 48 = .ok (.aload_n 0, 1) := by decide +kernel
theorem dX11_howMany_49 : decode cX11_howMany 49 = .ok (.getfield 12, 3) := by decide +kernel
theorem dX11_howMany_52 : decode cX11_howMany 52 = .ok (.getfield 102, 3) := by decide +kernel
theorem dX11_howMany_55 : decode cX11_howMany 55 = .ok (.invokestatic 258, 3) := by decide +kernel
theorem dX11_howMany_58 : decode cX11_howMany 58 = .ok (.ireturn, 1) := by decide +kernel
theorem dX11_howMany_59 : decode cX11_howMany 59 = .ok (.aload_n 0, 1) := by decide +kernel
theorem dX11_howMany_60 : decode cX11_howMany 60 = .ok (.getfield 12, 3) := by decide +kernel
theorem dX11_howMany_63 : decode cX11_howMany 63 = .ok (.getfield 158, 3) := by decide +kernel
theorem dX11_howMany_66 : decode cX11_howMany 66 = .ok (.ireturn, 1) := by decide +kernel
theorem dX11_howMany_67 : decode cX11_howMany 67 = .ok (.aload_n 0, 1) := by decide +kernel
theorem dX11_howMany_68 : decode cX11_howMany 68 = .ok (.getfield 12, 3) := by decide +kernel
theorem dX11_howMany_71 : decode cX11_howMany 71 = .ok (.getfield 207, 3) := by decide +kernel
theorem dX11_howMany_74 : decode cX11_howMany 74 = .ok (.ireturn, 1) := by decide +kernel
theorem dX11_howMany_75 : decode cX11_howMany 75 = .ok (.aload_n 0, 1) := by decide +kernel
theorem dX11_howMany_76 : decode cX11_howMany 76 = .ok (.getfield 12, 3) := by decide +kernel
theorem dX11_howMany_79 : decode cX11_howMany 79 = .ok (.getfield 152, 3) := by decide +kernel
theorem dX11_howMany_82 : decode cX11_howMany 82 = .ok (.ireturn, 1) := by decide +kernel
theorem dX11_howMany_83 : decode cX11_howMany 83 = .ok (.aload_n 0, 1) := by decide +kernel
theorem dX11_howMany_84 : decode cX11_howMany 84 = .ok (.getfield 24, 3) := by decide +kernel
theorem dX11_howMany_87 : decode cX11_howMany 87 = .ok (.ireturn, 1) := by decide +kernel
theorem dX11_howMany_88 : decode cX11_howMany 88 = .ok (.aload_n 0, 1) := by decide +kernel
theorem dX11_howMany_89 : decode cX11_howMany 89 = .ok (.getfield 12, 3) := by decide +kernel
theorem dX11_howMany_92 : decode cX11_howMany 92 = .ok (.getfield 112, 3) := by decide +kernel
theorem dX11_howMany_95 : decode cX11_howMany 95 = .ok (.ireturn, 1) := by decide +kernel
theorem dX11_keepFraction_0 : decode cX11_keepFraction 0 = .ok (.iload_n 1, 1) := by decide +kernel
theorem dX11_keepFraction_1 : decode cX11_keepFraction 1 = .ok (.invokestatic 263, 3) := by decide +kernel
theorem dX11_keepFraction_4 : decode cX11_keepFraction 4 = .ok (.istore_n 3, 1) := by decide +kernel
theorem dX11_keepFraction_5 : decode cX11_keepFraction 5 = .ok (.iload_n 2, 1) := by decide +kernel
theorem dX11_keepFraction_6 : decode cX11_keepFraction 6 = .ok (.istore 4, 2) := by decide +kernel
theorem dX11_keepFraction_8 : decode cX11_keepFraction 8 = .ok (.iconst 0, 1) := by decide +kernel
theorem dX11_keepFraction_9 : decode cX11_keepFraction 9 = .ok (.istore 5, 2) := by decide +kernel
theorem dX11_keepFraction_11 : decode cX11_keepFraction 11 = .ok (.iload 5, 2) := by decide +kernel
theorem dX11_keepFraction_13 : decode cX11_keepFraction 13 = .ok (.bipush 64, 2) := by decide +kernel
theorem dX11_keepFraction_15 : decode cX11_keepFraction 15 = .ok (.if_icmp .ge 27, 3) := by decide +kernel
theorem dX11_keepFraction_18 : decode cX11_keepFraction 18 = .ok (.iload 4, 2) := by decide +kernel
theorem dX11_keepFraction_20 : decode cX11_keepFraction 20 = .ok (.ifCond .eq 22, 3) := by decide +kernel
theorem dX11_keepFraction_23 : decode cX11_keepFraction 23 = .ok (.iload_n 3, 1) := by decide +kernel
theorem dX11_keepFraction_24 : decode cX11_keepFraction 24 = .ok (.iload 4, 2) := by decide +kernel
theorem dX11_keepFraction_26 : decode cX11_keepFraction 26 = .ok (.irem, 1) := by decide +kernel
theorem dX11_keepFraction_27 : decode cX11_keepFraction 27 = .ok (.istore 6, 2) := by decide +kernel
theorem dX11_keepFraction_29 : decode cX11_keepFraction 29 = .ok (.iload 4, 2) := by decide +kernel
theorem dX11_keepFraction_31 : decode cX11_keepFraction 31 = .ok (.istore_n 3, 1) := by decide +kernel
theorem dX11_keepFraction_32 : decode cX11_keepFraction 32 = .ok (.iload 6, 2) := by decide +kernel
theorem dX11_keepFraction_34 : decode cX11_keepFraction 34 = .ok (.istore 4, 2) := by decide +kernel
theorem dX11_keepFraction_36 : decode cX11_keepFraction 36 = .ok (.iinc 5 1, 3) := by decide +kernel
theorem dX11_keepFraction_39 : decode cX11_keepFraction 39 = .ok (.goto (-28), 3) := by decide +kernel
theorem dX11_keepFraction_42 : decode cX11_keepFraction 42 = .ok (.iload_n 3, 1) := by decide +kernel
theorem dX11_keepFraction_43 : decode cX11_keepFraction 43 = .ok (.ifCond .ne 4, 3) := by decide +kernel
theorem dX11_keepFraction_46 : decode cX11_keepFraction 46 = .ok (.return_, 1) := by decide +kernel
theorem dX11_keepFraction_47 : decode cX11_keepFraction 47 = .ok (.aload_n 0, 1) := by decide +kernel
theorem dX11_keepFraction_48 : decode cX11_keepFraction 48 = .ok (.iload_n 1, 1) := by decide +kernel
theorem dX11_keepFraction_49 : decode cX11_keepFraction 49 = .ok (.iload_n 3, 1) := by decide +kernel
theorem dX11_keepFraction_50 : decode cX11_keepFraction 50 = .ok (.idiv, 1) := by decide +kernel
theorem dX11_keepFraction_51 : decode cX11_keepFraction 51 = .ok (.i2l, 1) := by decide +kernel
theorem dX11_keepFraction_52 : decode cX11_keepFraction 52 = .ok (.putfield 28, 3) := by decide +kernel
theorem dX11_keepFraction_55 : decode cX11_keepFraction 55 = .ok (.aload_n 0, 1) := by decide +kernel
theorem dX11_keepFraction_56 : decode cX11_keepFraction 56 = .ok (.iload_n 2, 1) := by decide +kernel
theorem dX11_keepFraction_57 : decode cX11_keepFraction 57 = .ok (.iload_n 3, 1) := by decide +kernel
theorem dX11_keepFraction_58 : decode cX11_keepFraction 58 = .ok (.idiv, 1) := by decide +kernel
theorem dX11_keepFraction_59 : decode cX11_keepFraction 59 = .ok (.i2l, 1) := by decide +kernel
theorem dX11_keepFraction_60 : decode cX11_keepFraction 60 = .ok (.putfield 32, 3) := by decide +kernel
theorem dX11_keepFraction_63 : decode cX11_keepFraction 63 = .ok (.return_, 1) := by decide +kernel
theorem dJ0_length_8abf5_0 : decode cJ0_length_8abf5 0 = .ok (.aload_n 0, 1) := by decide +kernel
theorem dJ0_length_8abf5_1 : decode cJ0_length_8abf5 1 = .ok (.getfield 9, 3) := by decide +kernel
theorem dJ0_length_8abf5_4 : decode cJ0_length_8abf5 4 = .ok (.arraylength, 1) := by decide +kernel
theorem dJ0_length_8abf5_5 : decode cJ0_length_8abf5 5 = .ok (.aload_n 0, 1) := by decide +kernel
theorem dJ0_length_8abf5_6 : decode cJ0_length_8abf5 6 = .ok (.invokevirtual 335, 3) := by decide +kernel
theorem dJ0_length_8abf5_9 : decode cJ0_length_8abf5 9 = .ok (.ishr, 1) := by decide +kernel
theorem dJ0_length_8abf5_10 : decode cJ0_length_8abf5 10 = .ok (.ireturn, 1) := by decide +kernel
theorem dJ0_charAt_5068e_0 : decode cJ0_charAt_5068e 0 = .ok (.aload_n 0, 1) := by decide +kernel
theorem dJ0_charAt_5068e_1 : decode cJ0_charAt_5068e 1 = .ok (.invokevirtual 492, 3) := by decide +kernel
theorem dJ0_charAt_5068e_4 : decode cJ0_charAt_5068e 4 = .ok (.ifCond .eq 12, 3) := by decide +kernel
theorem dJ0_charAt_5068e_7 : decode cJ0_charAt_5068e 7 = .ok (.aload_n 0, 1) := by decide +kernel
theorem dJ0_charAt_5068e_8 : decode cJ0_charAt_5068e 8 = .ok (.getfield 9, 3) := by decide +kernel
theorem dJ0_charAt_5068e_11 : decode cJ0_charAt_5068e 11 = .ok (.iload_n 1, 1) := by decide +kernel
theorem dJ0_charAt_5068e_12 : decode cJ0_charAt_5068e 12 = .ok (.invokestatic 495, 3) := by decide +kernel
theorem dJ0_charAt_5068e_15 : decode cJ0_charAt_5068e 15 = .ok (.ireturn, 1) := by decide +kernel
theorem dJ0_charAt_5068e_16 : decode cJ0_charAt_5068e 16 = .ok (.aload_n 0, 1) := by decide +kernel
theorem dJ0_charAt_5068e_17 : decode cJ0_charAt_5068e 17 = .ok (.getfield 9, 3) := by decide +kernel
theorem dJ0_charAt_5068e_20 : decode cJ0_charAt_5068e 20 = .ok (.iload_n 1, 1) := by decide +kernel
theorem dJ0_charAt_5068e_21 : decode cJ0_charAt_5068e 21 = .ok (.invokestatic 498, 3) := by decide +kernel
theorem dJ0_charAt_5068e_24 : decode cJ0_charAt_5068e 24 = .ok (.ireturn, 1) := by decide +kernel
theorem dJ0_coder_7d493_0 : decode cJ0_coder_7d493 0 = .ok (.getstatic 38, 3) := by decide +kernel
theorem dJ0_coder_7d493_3 : decode cJ0_coder_7d493 3 = .ok (.ifCond .eq 10, 3) := by decide +kernel
theorem dJ0_coder_7d493_6 : decode cJ0_coder_7d493 6 = .ok (.aload_n 0, 1) := by decide +kernel
theorem dJ0_coder_7d493_7 : decode cJ0_coder_7d493 7 = .ok (.getfield 15, 3) := by decide +kernel
theorem dJ0_coder_7d493_10 : decode cJ0_coder_7d493 10 = .ok (.goto 4, 3) := by decide +kernel
theorem dJ0_coder_7d493_13 : decode cJ0_coder_7d493 13 = .ok (.iconst 1, 1) := by decide +kernel
theorem dJ0_coder_7d493_14 : decode cJ0_coder_7d493 14 = .ok (.ireturn, 1) := by decide +kernel
theorem dJ0_isLatin1_aae02_0 : decode cJ0_isLatin1_aae02 0 = .ok (.getstatic 38, 3) := by decide +kernel
theorem dJ0_isLatin1_aae02_3 : decode cJ0_isLatin1_aae02 3 = .ok (.ifCond .eq 14, 3) := by decide +kernel
theorem dJ0_isLatin1_aae02_6 : decode cJ0_isLatin1_aae02 6 = .ok (.aload_n 0, 1) := by decide +kernel
theorem dJ0_isLatin1_aae02_7 : decode cJ0_isLatin1_aae02 7 = .ok (.getfield 15, 3) := by decide +kernel
theorem dJ0_isLatin1_aae02_10 : decode cJ0_isLatin1_aae02 10 = .ok (.ifCond .ne 7, 3) := by decide +kernel
theorem dJ0_isLatin1_aae02_13 : decode cJ0_isLatin1_aae02 13 = .ok (.iconst 1, 1) := by decide +kernel
theorem dJ0_isLatin1_aae02_14 : decode cJ0_isLatin1_aae02 14 = .ok (.goto 4, 3) := by decide +kernel
theorem dJ0_isLatin1_aae02_17 : decode cJ0_isLatin1_aae02 17 = .ok (.iconst 0, 1) := by decide +kernel
theorem dJ0_isLatin1_aae02_18 : decode cJ0_isLatin1_aae02 18 = .ok (.ireturn, 1) := by decide +kernel
theorem dJ0_checkIndex_df160_0 : decode cJ0_checkIndex_df160 0 = .ok (.iload_n 0, 1) := by decide +kernel
theorem dJ0_checkIndex_df160_1 : decode cJ0_checkIndex_df160 1 = .ok (.iload_n 1, 1) := by decide +kernel
theorem dJ0_checkIndex_df160_2 : decode cJ0_checkIndex_df160 2 = .ok (.getstatic 1053, 3) := by decide +kernel
theorem dJ0_checkIndex_df160_5 : decode cJ0_checkIndex_df160 5 = .ok (.invokestatic 1059, 3) := by decide +kernel
theorem dJ0_checkIndex_df160_8 : decode cJ0_checkIndex_df160 8 = .ok (.pop, 1) := by decide +kernel
theorem dJ0_checkIndex_df160_9 : decode cJ0_checkIndex_df160 9 = .ok (.return_, 1) := by decide +kernel
theorem dJ1_charAt_3b067_0 : decode cJ1_charAt_3b067 0 = .ok (.iload_n 1, 1) := by decide +kernel
theorem dJ1_charAt_3b067_1 : decode cJ1_charAt_3b067 1 = .ok (.aload_n 0, 1) := by decide +kernel
theorem dJ1_charAt_3b067_2 : decode cJ1_charAt_3b067 2 = .ok (.arraylength, 1) := by decide +kernel
theorem dJ1_charAt_3b067_3 : decode cJ1_charAt_3b067 3 = .ok (.invokestatic 9, 3) := by decide +kernel
theorem dJ1_charAt_3b067_6 : decode cJ1_charAt_3b067 6 = .ok (.aload_n 0, 1) := by decide +kernel
theorem dJ1_charAt_3b067_7 : decode cJ1_charAt_3b067 7 = .ok (.iload_n 1, 1) := by decide +kernel
theorem dJ1_charAt_3b067_8 : decode cJ1_charAt_3b067 8 = .ok (.baload, 1) := by decide +kernel
theorem dJ1_charAt_3b067_9 : decode cJ1_charAt_3b067 9 = .ok (.sipush 255, 3) := by decide +kernel
theorem dJ1_charAt_3b067_12 : decode cJ1_charAt_3b067 12 = .ok (.iand, 1) := by decide +kernel
theorem dJ1_charAt_3b067_13 : decode cJ1_charAt_3b067 13 = .ok (.i2c, 1) := by decide +kernel
theorem dJ1_charAt_3b067_14 : decode cJ1_charAt_3b067 14 = .ok (.ireturn, 1) := by decide +kernel
theorem dJ2_getChar_3b067_0 : decode cJ2_getChar_3b067 0 = .ok (.getstatic 44, 3) := by decide +kernel
theorem dJ2_getChar_3b067_3 : decode cJ2_getChar_3b067 3 = .ok (.ifCond .ne 25, 3) := by decide +kernel
theorem dJ2_getChar_3b067_6 : decode cJ2_getChar_3b067 6 = .ok (.iload_n 1, 1) := by decide +kernel
theorem dJ2_getChar_3b067_7 : decode cJ2_getChar_3b067 7 = .ok (.ifCond .lt 11, 3) := by decide +kernel
theorem dJ2_getChar_3b067_10 : decode cJ2_getChar_3b067 10 = .ok (.iload_n 1, 1) := by decide +kernel
theorem dJ2_getChar_3b067_11 : decode cJ2_getChar_3b067 11 = .ok (.aload_n 0, 1) := by decide +kernel
theorem dJ2_getChar_3b067_12 : decode cJ2_getChar_3b067 12 = .ok (.invokestatic 48, 3) := by decide +kernel
theorem dJ2_getChar_3b067_15 : decode cJ2_getChar_3b067 15 = .ok (.if_icmp .lt 13, 3) := by decide +kernel
theorem dJ2_getChar_3b067_18 : decode cJ2_getChar_3b067 18 = .ok (.new 52, 3) := by decide +kernel
theorem dJ2_getChar_3b067_21 : decode cJ2_getChar_3b067 21 = .ok (.dup, 1) := by decide +kernel
theorem dJ2_getChar_3b067_22 : decode cJ2_getChar_3b067 22 = .ok (.ldc 54, 2) := by decide +kernel
theorem dJ2_getChar_3b067_24 : decode cJ2_getChar_3b067 24 = .ok (.invokespecial 56, 3) := by decide +kernel
theorem dJ2_getChar_3b067_27 : decode cJ2_getChar_3b067 27 = .ok (.athrow, 1) := by decide +kernel
theorem dJ2_getChar_3b067_28 : decode cJ2_getChar_3b067 28 = .ok (.iload_n 1, 1) := by decide +kernel
theorem dJ2_getChar_3b067_29 : decode cJ2_getChar_3b067 29 = .ok (.iconst 1, 1) := by decide +kernel
theorem dJ2_getChar_3b067_30 : decode cJ2_getChar_3b067 30 = .ok (.ishl, 1) := by decide +kernel
theorem dJ2_getChar_3b067_31 : decode cJ2_getChar_3b067 31 = .ok (.istore_n 1, 1) := by decide +kernel
theorem dJ2_getChar_3b067_32 : decode cJ2_getChar_3b067 32 = .ok (.aload_n 0, 1) := by decide +kernel
theorem dJ2_getChar_3b067_33 : decode cJ2_getChar_3b067 33 = .ok (.iload_n 1, 1) := by decide +kernel
theorem dJ2_getChar_3b067_34 : decode cJ2_getChar_3b067 34 = .ok (.iinc 1 1, 3) := by decide +kernel
theorem dJ2_getChar_3b067_37 : decode cJ2_getChar_3b067 37 = .ok (.baload, 1) := by decide +kernel
theorem dJ2_getChar_3b067_38 : decode cJ2_getChar_3b067 38 = .ok (.sipush 255, 3) := by decide +kernel
theorem dJ2_getChar_3b067_41 : decode cJ2_getChar_3b067 41 = .ok (.iand, 1) := by decide +kernel
theorem dJ2_getChar_3b067_42 : decode cJ2_getChar_3b067 42 = .ok (.getstatic 59, 3) := by decide +kernel
theorem dJ2_getChar_3b067_45 : decode cJ2_getChar_3b067 45 = .ok (.ishl, 1) := by decide +kernel
theorem dJ2_getChar_3b067_46 : decode cJ2_getChar_3b067 46 = .ok (.aload_n 0, 1) := by decide +kernel
theorem dJ2_getChar_3b067_47 : decode cJ2_getChar_3b067 47 = .ok (.iload_n 1, 1) := by decide +kernel
theorem dJ2_getChar_3b067_48 : decode cJ2_getChar_3b067 48 = .ok (.baload, 1) := by decide +kernel
theorem dJ2_getChar_3b067_49 : decode cJ2_getChar_3b067 49 = .ok (.sipush 255, 3) := by decide +kernel
theorem dJ2_getChar_3b067_52 : decode cJ2_getChar_3b067 52 = .ok (.iand, 1) := by decide +kernel
theorem dJ2_getChar_3b067_53 : decode cJ2_getChar_3b067 53 = .ok (.getstatic 63, 3) := by decide +kernel
theorem dJ2_getChar_3b067_56 : decode cJ2_getChar_3b067 56 = .ok (.ishl, 1) := by decide +kernel
theorem dJ2_getChar_3b067_57 : decode cJ2_getChar_3b067 57 = .ok (.ior, 1) := by decide +kernel
theorem dJ2_getChar_3b067_58 : decode cJ2_getChar_3b067 58 = .ok (.i2c, 1) := by decide +kernel
theorem dJ2_getChar_3b067_59 : decode cJ2_getChar_3b067 59 = .ok (.ireturn, 1) := by decide +kernel
theorem dJ2_length_9d52b_0 : decode cJ2_length_9d52b 0 = .ok (.aload_n 0, 1) := by decide +kernel
theorem dJ2_length_9d52b_1 : decode cJ2_length_9d52b 1 = .ok (.arraylength, 1) := by decide +kernel
theorem dJ2_length_9d52b_2 : decode cJ2_length_9d52b 2 = .ok (.iconst 1, 1) := by decide +kernel
theorem dJ2_length_9d52b_3 : decode cJ2_length_9d52b 3 = .ok (.ishr, 1) := by decide +kernel
theorem dJ2_length_9d52b_4 : decode cJ2_length_9d52b 4 = .ok (.ireturn, 1) := by decide +kernel
theorem dJ2_charAt_3b067_0 : decode cJ2_charAt_3b067 0 = .ok (.iload_n 1, 1) := by decide +kernel
theorem dJ2_charAt_3b067_1 : decode cJ2_charAt_3b067 1 = .ok (.aload_n 0, 1) := by decide +kernel
theorem dJ2_charAt_3b067_2 : decode cJ2_charAt_3b067 2 = .ok (.invokestatic 67, 3) := by decide +kernel
theorem dJ2_charAt_3b067_5 : decode cJ2_charAt_3b067 5 = .ok (.aload_n 0, 1) := by decide +kernel
theorem dJ2_charAt_3b067_6 : decode cJ2_charAt_3b067 6 = .ok (.iload_n 1, 1) := by decide +kernel
theorem dJ2_charAt_3b067_7 : decode cJ2_charAt_3b067 7 = .ok (.invokestatic 71, 3) := by decide +kernel
theorem dJ2_charAt_3b067_10 : decode cJ2_charAt_3b067 10 = .ok (.ireturn, 1) := by decide +kernel
theorem dJ2_checkIndex_2214a_0 : decode cJ2_checkIndex_2214a 0 = .ok (.iload_n 0, 1) := by decide +kernel
theorem dJ2_checkIndex_2214a_1 : decode cJ2_checkIndex_2214a 1 = .ok (.aload_n 1, 1) := by decide +kernel
theorem dJ2_checkIndex_2214a_2 : decode cJ2_checkIndex_2214a 2 = .ok (.invokestatic 48, 3) := by decide +kernel
theorem dJ2_checkIndex_2214a_5 : decode cJ2_checkIndex_2214a 5 = .ok (.invokestatic 414, 3) := by decide +kernel
theorem dJ2_checkIndex_2214a_8 : decode cJ2_checkIndex_2214a 8 = .ok (.return_, 1) := by decide +kernel
theorem dJ3_checkIndex_8e157_0 : decode cJ3_checkIndex_8e157 0 = .ok (.iload_n 0, 1) := by decide +kernel
theorem dJ3_checkIndex_8e157_1 : decode cJ3_checkIndex_8e157 1 = .ok (.ifCond .lt 8, 3) := by decide +kernel
theorem dJ3_checkIndex_8e157_4 : decode cJ3_checkIndex_8e157 4 = .ok (.iload_n 0, 1) := by decide +kernel
theorem dJ3_checkIndex_8e157_5 : decode cJ3_checkIndex_8e157 5 = .ok (.iload_n 1, 1) := by decide +kernel
theorem dJ3_checkIndex_8e157_6 : decode cJ3_checkIndex_8e157 6 = .ok (.if_icmp .lt 10, 3) := by decide +kernel
theorem dJ3_checkIndex_8e157_9 : decode cJ3_checkIndex_8e157 9 = .ok (.aload_n 2, 1) := by decide +kernel
theorem dJ3_checkIndex_8e157_10 : decode cJ3_checkIndex_8e157 10 = .ok (.iload_n 0, 1) := by decide +kernel
theorem dJ3_checkIndex_8e157_11 : decode cJ3_checkIndex_8e157 11 = .ok (.iload_n 1, 1) := by decide +kernel
theorem dJ3_checkIndex_8e157_12 : decode cJ3_checkIndex_8e157 12 = .ok (.invokestatic 95, 3) := by decide +kernel
theorem dJ3_checkIndex_8e157_15 : decode cJ3_checkIndex_8e157 15 = .ok (.athrow, 1) := by decide +kernel
theorem dJ3_checkIndex_8e157_16 : decode cJ3_checkIndex_8e157 16 = .ok (.iload_n 0, 1) := by decide +kernel
theorem dJ3_checkIndex_8e157_17 : decode cJ3_checkIndex_8e157 17 = .ok (.ireturn, 1) := by decide +kernel
