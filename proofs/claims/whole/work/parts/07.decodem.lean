theorem dX12_init_0 : decode cX12_init 0 = .ok (.aload_n 0, 1) := by decide +kernel
theorem dX12_init_1 : decode cX12_init 1 = .ok (.invokespecial 1, 3) := by decide +kernel
theorem dX12_init_4 : decode cX12_init 4 = .ok (.aload_n 0, 1) := by decide +kernel
theorem dX12_init_5 : decode cX12_init 5 = .ok (.bipush 63, 2) := by decide +kernel
theorem dX12_init_7 : decode cX12_init 7 = .ok (.newarray .int, 2) := by decide +kernel
theorem dX12_init_9 : decode cX12_init 9 = .ok (.putfield 7, 3) := by decide +kernel
theorem dX12_init_12 : decode cX12_init 12 = .ok (.aload_n 0, 1) := by decide +kernel
theorem dX12_init_13 : decode cX12_init 13 = .ok (.bipush 126, 2) := by decide +kernel
theorem dX12_init_15 : decode cX12_init 15 = .ok (.newarray .int, 2) := by decide +kernel
theorem dX12_init_17 : decode cX12_init 17 = .ok (.putfield 13, 3) := by decide +kernel
theorem dX12_init_20 : decode cX12_init 20 = .ok (.aload_n 0, 1) := by decide +kernel
theorem dX12_init_21 : decode cX12_init 21 = .ok (.iconst 2, 1) := by decide +kernel
theorem dX12_init_22 : decode cX12_init 22 = .ok (.newarray .boolean, 2) := by decide +kernel
theorem dX12_init_24 : decode cX12_init 24 = .ok (.putfield 16, 3) := by decide +kernel
theorem dX12_init_27 : decode cX12_init 27 = .ok (.aload_n 0, 1) := by decide +kernel
theorem dX12_init_28 : decode cX12_init 28 = .ok (.iconst 3, 1) := by decide +kernel
theorem dX12_init_29 : decode cX12_init 29 = .ok (.newarray .int, 2) := by decide +kernel
theorem dX12_init_31 : decode cX12_init 31 = .ok (.putfield 20, 3) := by decide +kernel
theorem dX12_init_34 : decode cX12_init 34 = .ok (.aload_n 0, 1) := by decide +kernel
theorem dX12_init_35 : decode cX12_init 35 = .ok (.lconst 1, 1) := by decide +kernel
theorem dX12_init_36 : decode cX12_init 36 = .ok (.putfield 23, 3) := by decide +kernel
theorem dX12_init_39 : decode cX12_init 39 = .ok (.aload_n 0, 1) := by decide +kernel
theorem dX12_init_40 : decode cX12_init 40 = .ok (.iconst 5, 1) := by decide +kernel
theorem dX12_init_41 : decode cX12_init 41 = .ok (.newarray .int, 2) := by decide +kernel
theorem dX12_init_43 : decode cX12_init 43 = .ok (.putfield 27, 3) := by decide +kernel
theorem dX12_init_46 : decode cX12_init 46 = .ok (.aload_n 0, 1) := by decide +kernel
theorem dX12_init_47 : decode cX12_init 47 = .ok (.iconst 5, 1) := by decide +kernel
theorem dX12_init_48 : decode cX12_init 48 = .ok (.newarray .int, 2) := by decide +kernel
theorem dX12_init_50 : decode cX12_init 50 = .ok (.putfield 30, 3) := by decide +kernel
theorem dX12_init_53 : decode cX12_init 53 = .ok (.aload_n 0, 1) := by decide +kernel
theorem dX12_init_54 : decode cX12_init 54 = .ok (.iconst 5, 1) := by decide +kernel
theorem dX12_init_55 : decode cX12_init 55 = .ok (.newarray .int, 2) := by decide +kernel
theorem dX12_init_57 : decode cX12_init 57 = .ok (.putfield 33, 3) := by decide +kernel
theorem dX12_init_60 : decode cX12_init 60 = .ok (.aload_n 0, 1) := by decide +kernel
theorem dX12_init_61 : decode cX12_init 61 = .ok (.bipush 32, 2) := by decide +kernel
theorem dX12_init_63 : decode cX12_init 63 = .ok (.newarray .int, 2) := by decide +kernel
theorem dX12_init_65 : decode cX12_init 65 = .ok (.putfield 36, 3) := by decide +kernel
theorem dX12_init_68 : decode cX12_init 68 = .ok (.aload_n 0, 1) := by decide +kernel
theorem dX12_init_69 : decode cX12_init 69 = .ok (.sipush 200, 3) := by decide +kernel
theorem dX12_init_72 : decode cX12_init 72 = .ok (.newarray .int, 2) := by decide +kernel
theorem dX12_init_74 : decode cX12_init 74 = .ok (.putfield 39, 3) := by decide +kernel
theorem dX12_init_77 : decode cX12_init 77 = .ok (.aload_n 0, 1) := by decide +kernel
theorem dX12_init_78 : decode cX12_init 78 = .ok (.bipush 52, 2) := by decide +kernel
theorem dX12_init_80 : decode cX12_init 80 = .ok (.newarray .int, 2) := by decide +kernel
theorem dX12_init_82 : decode cX12_init 82 = .ok (.putfield 42, 3) := by decide +kernel
theorem dX12_init_85 : decode cX12_init 85 = .ok (.aload_n 0, 1) := by decide +kernel
theorem dX12_init_86 : decode cX12_init 86 = .ok (.iconst 4, 1) := by decide +kernel
theorem dX12_init_87 : decode cX12_init 87 = .ok (.newarray .int, 2) := by decide +kernel
theorem dX12_init_89 : decode cX12_init 89 = .ok (.putfield 45, 3) := by decide +kernel
theorem dX12_init_92 : decode cX12_init 92 = .ok (.return_, 1) := by decide +kernel
theorem dX12_in_0 : decode cX12_in 0 = .ok (.lload_n 0, 1) := by decide +kernel
theorem dX12_in_1 : decode cX12_in 1 = .ok (.lload_n 2, 1) := by decide +kernel
theorem dX12_in_2 : decode cX12_in 2 = .ok (.lcmp, 1) := by decide +kernel
theorem dX12_in_3 : decode cX12_in 3 = .ok (.ifCond .lt 14, 3) := by decide +kernel
theorem dX12_in_6 : decode cX12_in 6 = .ok (.lload_n 0, 1) := by decide +kernel
theorem dX12_in_7 : decode cX12_in 7 = .ok (.lload 4, 2) := by decide +kernel
theorem dX12_in_9 : decode cX12_in 9 = .ok (.lcmp, 1) := by decide +kernel
theorem dX12_in_10 : decode cX12_in 10 = .ok (.ifCond .gt 7, 3) := by decide +kernel
theorem dX12_in_13 : decode cX12_in 13 = .ok (.iconst 1, 1) := by decide +kernel
theorem dX12_in_14 : decode cX12_in 14 = .ok (.goto 4, 3) := by decide +kernel
theorem dX12_in_17 : decode cX12_in 17 = .ok (.iconst 0, 1) := by decide +kernel
theorem dX12_in_18 : decode cX12_in 18 = .ok (.ireturn, 1) := by decide +kernel
theorem dX12_bad_0 : decode cX12_bad 0 = .ok (.aload_n 0, 1) := by decide +kernel
theorem dX12_bad_1 : decode cX12_bad 1 = .ok (.getfield 20, 3) := by decide +kernel
theorem dX12_bad_4 : decode cX12_bad 4 = .ok (.iconst 0, 1) := by decide +kernel
theorem dX12_bad_5 : decode cX12_bad 5 = .ok (.dup2, 1) := by decide +kernel
theorem dX12_bad_6 : decode cX12_bad 6 = .ok (.iaload, 1) := by decide +kernel
theorem dX12_bad_7 : decode cX12_bad 7 = .ok (.iconst 1, 1) := by decide +kernel
theorem dX12_bad_8 : decode cX12_bad 8 = .ok (.iadd, 1) := by decide +kernel
theorem dX12_bad_9 : decode cX12_bad 9 = .ok (.iastore, 1) := by decide +kernel
theorem dX12_bad_10 : decode cX12_bad 10 = .ok (.iload_n 1, 1) := by decide +kernel
theorem dX12_bad_11 : decode cX12_bad 11 = .ok (.ireturn, 1) := by decide +kernel
theorem dX12_no_0 : decode cX12_no 0 = .ok (.aload_n 0, 1) := by decide +kernel
theorem dX12_no_1 : decode cX12_no 1 = .ok (.getfield 20, 3) := by decide +kernel
theorem dX12_no_4 : decode cX12_no 4 = .ok (.iconst 1, 1) := by decide +kernel
theorem dX12_no_5 : decode cX12_no 5 = .ok (.dup2, 1) := by decide +kernel
theorem dX12_no_6 : decode cX12_no 6 = .ok (.iaload, 1) := by decide +kernel
theorem dX12_no_7 : decode cX12_no 7 = .ok (.iconst 1, 1) := by decide +kernel
theorem dX12_no_8 : decode cX12_no 8 = .ok (.iadd, 1) := by decide +kernel
theorem dX12_no_9 : decode cX12_no 9 = .ok (.iastore, 1) := by decide +kernel
theorem dX12_no_10 : decode cX12_no 10 = .ok (.iload_n 1, 1) := by decide +kernel
theorem dX12_no_11 : decode cX12_no 11 = .ok (.ireturn, 1) := by decide +kernel
theorem dX12_full_0 : decode cX12_full 0 = .ok (.aload_n 0, 1) := by decide +kernel
theorem dX12_full_1 : decode cX12_full 1 = .ok (.getfield 20, 3) := by decide +kernel
theorem dX12_full_4 : decode cX12_full 4 = .ok (.iconst 2, 1) := by decide +kernel
theorem dX12_full_5 : decode cX12_full 5 = .ok (.dup2, 1) := by decide +kernel
theorem dX12_full_6 : decode cX12_full 6 = .ok (.iaload, 1) := by decide +kernel
theorem dX12_full_7 : decode cX12_full 7 = .ok (.iconst 1, 1) := by decide +kernel
theorem dX12_full_8 : decode cX12_full 8 = .ok (.iadd, 1) := by decide +kernel
theorem dX12_full_9 : decode cX12_full 9 = .ok (.iastore, 1) := by decide +kernel
theorem dX12_full_10 : decode cX12_full 10 = .ok (.bipush (-4), 2) := by decide +kernel
theorem dX12_full_12 : decode cX12_full 12 = .ok (.ireturn, 1) := by decide +kernel
theorem dX12_bits_0 : decode cX12_bits 0 = .ok (.iconst 0, 1) := by decide +kernel
theorem dX12_bits_1 : decode cX12_bits 1 = .ok (.istore_n 1, 1) := by decide +kernel
theorem dX12_bits_2 : decode cX12_bits 2 = .ok (.iload_n 0, 1) := by decide +kernel
theorem dX12_bits_3 : decode cX12_bits 3 = .ok (.istore_n 2, 1) := by decide +kernel
theorem dX12_bits_4 : decode cX12_bits 4 = .ok (.iload_n 2, 1) := by decide +kernel
theorem dX12_bits_5 : decode cX12_bits 5 = .ok (.ifCond .le 16, 3) := by decide +kernel
theorem dX12_bits_8 : decode cX12_bits 8 = .ok (.iload_n 1, 1) := by decide +kernel
theorem dX12_bits_9 : decode cX12_bits 9 = .ok (.iload_n 2, 1) := by decide +kernel
theorem dX12_bits_10 : decode cX12_bits 10 = .ok (.iconst 1, 1) := by decide +kernel
theorem dX12_bits_11 : decode cX12_bits 11 = .ok (.iand, 1) := by decide +kernel
theorem dX12_bits_12 : decode cX12_bits 12 = .ok (.iadd, 1) := by decide +kernel
theorem dX12_bits_13 : decode cX12_bits 13 = .ok (.istore_n 1, 1) := by decide +kernel
theorem dX12_bits_14 : decode cX12_bits 14 = .ok (.iload_n 2, 1) := by decide +kernel
theorem dX12_bits_15 : decode cX12_bits 15 = .ok (.iconst 1, 1) := by decide +kernel
theorem dX12_bits_16 : decode cX12_bits 16 = .ok (.ishr, 1) := by decide +kernel
theorem dX12_bits_17 : decode cX12_bits 17 = .ok (.istore_n 2, 1) := by decide +kernel
theorem dX12_bits_18 : decode cX12_bits 18 = .ok (.goto (-14), 3) := by decide +kernel
theorem dX12_bits_21 : decode cX12_bits 21 = .ok (.iload_n 1, 1) := by decide +kernel
theorem dX12_bits_22 : decode cX12_bits 22 = .ok (.ireturn, 1) := by decide +kernel
theorem dX12_things_0 : decode cX12_things 0 = .ok (.aload_n 0, 1) := by decide +kernel
theorem dX12_things_1 : decode cX12_things 1 = .ok (.getfield 7, 3) := by decide +kernel
theorem dX12_things_4 : decode cX12_things 4 = .ok (.iconst 0, 1) := by decide +kernel
theorem dX12_things_5 : decode cX12_things 5 = .ok (.iaload, 1) := by decide +kernel
theorem dX12_things_6 : decode cX12_things 6 = .ok (.ireturn, 1) := by decide +kernel
theorem dX12_isThing_0 : decode cX12_isThing 0 = .ok (.iload_n 1, 1) := by decide +kernel
theorem dX12_isThing_1 : decode cX12_isThing 1 = .ok (.i2l, 1) := by decide +kernel
theorem dX12_isThing_2 : decode cX12_isThing 2 = .ok (.lconst 0, 1) := by decide +kernel
theorem dX12_isThing_3 : decode cX12_isThing 3 = .ok (.aload_n 0, 1) := by decide +kernel
theorem dX12_isThing_4 : decode cX12_isThing 4 = .ok (.invokevirtual 48, 3) := by decide +kernel
theorem dX12_isThing_7 : decode cX12_isThing 7 = .ok (.iconst 1, 1) := by decide +kernel
theorem dX12_isThing_8 : decode cX12_isThing 8 = .ok (.isub, 1) := by decide +kernel
theorem dX12_isThing_9 : decode cX12_isThing 9 = .ok (.i2l, 1) := by decide +kernel
theorem dX12_isThing_10 : decode cX12_isThing 10 = .ok (.invokestatic 52, 3) := by decide +kernel
theorem dX12_isThing_13 : decode cX12_isThing 13 = .ok (.ireturn, 1) := by decide +kernel
theorem dX12_all_0 : decode cX12_all 0 = .ok (.iconst 1, 1) := by decide +kernel
theorem dX12_all_1 : decode cX12_all 1 = .ok (.aload_n 0, 1) := by decide +kernel
theorem dX12_all_2 : decode cX12_all 2 = .ok (.invokevirtual 48, 3) := by decide +kernel
theorem dX12_all_5 : decode cX12_all 5 = .ok (.ishl, 1) := by decide +kernel
theorem dX12_all_6 : decode cX12_all 6 = .ok (.iconst 1, 1) := by decide +kernel
theorem dX12_all_7 : decode cX12_all 7 = .ok (.isub, 1) := by decide +kernel
theorem dX12_all_8 : decode cX12_all 8 = .ok (.ireturn, 1) := by decide +kernel
theorem dX12_of_0 : decode cX12_of 0 = .ok (.aload_n 0, 1) := by decide +kernel
theorem dX12_of_1 : decode cX12_of 1 = .ok (.getfield 7, 3) := by decide +kernel
theorem dX12_of_4 : decode cX12_of 4 = .ok (.iconst 1, 1) := by decide +kernel
theorem dX12_of_5 : decode cX12_of 5 = .ok (.iconst 5, 1) := by decide +kernel
theorem dX12_of_6 : decode cX12_of 6 = .ok (.iload_n 1, 1) := by decide +kernel
theorem dX12_of_7 : decode cX12_of 7 = .ok (.imul, 1) := by decide +kernel
theorem dX12_of_8 : decode cX12_of 8 = .ok (.iadd, 1) := by decide +kernel
theorem dX12_of_9 : decode cX12_of 9 = .ok (.iload_n 2, 1) := by decide +kernel
theorem dX12_of_10 : decode cX12_of 10 = .ok (.iadd, 1) := by decide +kernel
theorem dX12_of_11 : decode cX12_of 11 = .ok (.iaload, 1) := by decide +kernel
theorem dX12_of_12 : decode cX12_of 12 = .ok (.ireturn, 1) := by decide +kernel
theorem dX12_layThing_0 : decode cX12_layThing 0 = .ok (.iconst 1, 1) := by decide +kernel
theorem dX12_layThing_1 : decode cX12_layThing 1 = .ok (.iconst 5, 1) := by decide +kernel
theorem dX12_layThing_2 : decode cX12_layThing 2 = .ok (.aload_n 0, 1) := by decide +kernel
theorem dX12_layThing_3 : decode cX12_layThing 3 = .ok (.iconst 0, 1) := by decide +kernel
theorem dX12_layThing_4 : decode cX12_layThing 4 = .ok (.iaload, 1) := by decide +kernel
theorem dX12_layThing_5 : decode cX12_layThing 5 = .ok (.imul, 1) := by decide +kernel
theorem dX12_layThing_6 : decode cX12_layThing 6 = .ok (.iadd, 1) := by decide +kernel
theorem dX12_layThing_7 : decode cX12_layThing 7 = .ok (.istore 5, 2) := by decide +kernel
theorem dX12_layThing_9 : decode cX12_layThing 9 = .ok (.aload_n 0, 1) := by decide +kernel
theorem dX12_layThing_10 : decode cX12_layThing 10 = .ok (.iload 5, 2) := by decide +kernel
theorem dX12_layThing_12 : decode cX12_layThing 12 = .ok (.iconst 0, 1) := by decide +kernel
theorem dX12_layThing_13 : decode cX12_layThing 13 = .ok (.iadd, 1) := by decide +kernel
theorem dX12_layThing_14 : decode cX12_layThing 14 = .ok (.iload_n 1, 1) := by decide +kernel
theorem dX12_layThing_15 : decode cX12_layThing 15 = .ok (.iastore, 1) := by decide +kernel
theorem dX12_layThing_16 : decode cX12_layThing 16 = .ok (.aload_n 0, 1) := by decide +kernel
theorem dX12_layThing_17 : decode cX12_layThing 17 = .ok (.iload 5, 2) := by decide +kernel
theorem dX12_layThing_19 : decode cX12_layThing 19 = .ok (.iconst 1, 1) := by decide +kernel
theorem dX12_layThing_20 : decode cX12_layThing 20 = .ok (.iadd, 1) := by decide +kernel
theorem dX12_layThing_21 : decode cX12_layThing 21 = .ok (.iload_n 2, 1) := by decide +kernel
theorem dX12_layThing_22 : decode cX12_layThing 22 = .ok (.iastore, 1) := by decide +kernel
theorem dX12_layThing_23 : decode cX12_layThing 23 = .ok (.aload_n 0, 1) := by decide +kernel
theorem dX12_layThing_24 : decode cX12_layThing 24 = .ok (.iload 5, 2) := by decide +kernel
theorem dX12_layThing_26 : decode cX12_layThing 26 = .ok (.iconst 2, 1) := by decide +kernel
theorem dX12_layThing_27 : decode cX12_layThing 27 = .ok (.iadd, 1) := by decide +kernel
theorem dX12_layThing_28 : decode cX12_layThing 28 = .ok (.iload_n 3, 1) := by decide +kernel
theorem dX12_layThing_29 : decode cX12_layThing 29 = .ok (.iastore, 1) := by decide +kernel
theorem dX12_layThing_30 : decode cX12_layThing 30 = .ok (.aload_n 0, 1) := by decide +kernel
theorem dX12_layThing_31 : decode cX12_layThing 31 = .ok (.iload 5, 2) := by decide +kernel
theorem dX12_layThing_33 : decode cX12_layThing 33 = .ok (.iconst 3, 1) := by decide +kernel
theorem dX12_layThing_34 : decode cX12_layThing 34 = .ok (.iadd, 1) := by decide +kernel
theorem dX12_layThing_35 : decode cX12_layThing 35 = .ok (.iload 4, 2) := by decide +kernel
theorem dX12_layThing_37 : decode cX12_layThing 37 = .ok (.iastore, 1) := by decide +kernel
theorem dX12_layThing_38 : decode cX12_layThing 38 = .ok (.aload_n 0, 1) := by decide +kernel
theorem dX12_layThing_39 : decode cX12_layThing 39 = .ok (.iload 5, 2) := by decide +kernel
theorem dX12_layThing_41 : decode cX12_layThing 41 = .ok (.iconst 4, 1) := by decide +kernel
theorem dX12_layThing_42 : decode cX12_layThing 42 = .ok (.iadd, 1) := by decide +kernel
theorem dX12_layThing_43 : decode cX12_layThing 43 = .ok (.iconst 1, 1) := by decide +kernel
theorem dX12_layThing_44 : decode cX12_layThing 44 = .ok (.iastore, 1) := by decide +kernel
theorem dX12_layThing_45 : decode cX12_layThing 45 = .ok (.aload_n 0, 1) := by decide +kernel
theorem dX12_layThing_46 : decode cX12_layThing 46 = .ok (.iconst 0, 1) := by decide +kernel
theorem dX12_layThing_47 : decode cX12_layThing 47 = .ok (.dup2, 1) := by decide +kernel
theorem dX12_layThing_48 : decode cX12_layThing 48 = .ok (.iaload, 1) := by decide +kernel
theorem dX12_layThing_49 : decode cX12_layThing 49 = .ok (.iconst 1, 1) := by decide +kernel
theorem dX12_layThing_50 : decode cX12_layThing 50 = .ok (.iadd, 1) := by decide +kernel
theorem dX12_layThing_51 : decode cX12_layThing 51 = .ok (.iastore, 1) := by decide +kernel
theorem dX12_layThing_52 : decode cX12_layThing 52 = .ok (.return_, 1) := by decide +kernel
theorem dX12_thing_0 : decode cX12_thing 0 = .ok (.iload_n 1, 1) := by decide +kernel
theorem dX12_thing_1 : decode cX12_thing 1 = .ok (.i2l, 1) := by decide +kernel
theorem dX12_thing_2 : decode cX12_thing 2 = .ok (.lconst 0, 1) := by decide +kernel
theorem dX12_thing_3 : decode cX12_thing 3 = .ok (.ldc2_w 56, 3) := by decide +kernel
theorem dX12_thing_6 : decode cX12_thing 6 = .ok (.invokestatic 52, 3) := by decide +kernel
theorem dX12_thing_9 : decode cX12_thing 9 = .ok (.ifCond .eq 40, 3) := by decide +kernel
theorem dX12_thing_12 : decode cX12_thing 12 = .ok (.iload_n 2, 1) := by decide +kernel
theorem dX12_thing_13 : decode cX12_thing 13 = .ok (.i2l, 1) := by decide +kernel
theorem dX12_thing_14 : decode cX12_thing 14 = .ok (.lconst 0, 1) := by decide +kernel
theorem dX12_thing_15 : decode cX12_thing 15 = .ok (.ldc2_w 58, 3) := by decide +kernel
theorem dX12_thing_18 : decode cX12_thing 18 = .ok (.invokestatic 52, 3) := by decide +kernel
theorem dX12_thing_21 : decode cX12_thing 21 = .ok (.ifCond .eq 28, 3) := by decide +kernel
theorem dX12_thing_24 : decode cX12_thing 24 = .ok (.iload_n 3, 1) := by decide +kernel
theorem dX12_thing_25 : decode cX12_thing 25 = .ok (.i2l, 1) := by decide +kernel
theorem dX12_thing_26 : decode cX12_thing 26 = .ok (.lconst 1, 1) := by decide +kernel
theorem dX12_thing_27 : decode cX12_thing 27 = .ok (.ldc2_w 58, 3) := by decide +kernel
theorem dX12_thing_30 : decode cX12_thing 30 = .ok (.invokestatic 52, 3) := by decide +kernel
theorem dX12_thing_33 : decode cX12_thing 33 = .ok (.ifCond .eq 16, 3) := by decide +kernel
theorem dX12_thing_36 : decode cX12_thing 36 = .ok (.iload 4, 2) := by decide +kernel
theorem dX12_thing_38 : decode cX12_thing 38 = .ok (.i2l, 1) := by decide +kernel
theorem dX12_thing_39 : decode cX12_thing 39 = .ok (.lconst 0, 1) := by decide +kernel
theorem dX12_thing_40 : decode cX12_thing 40 = .ok (.ldc2_w 58, 3) := by decide +kernel
theorem dX12_thing_43 : decode cX12_thing 43 = .ok (.invokestatic 52, 3) := by decide +kernel
theorem dX12_thing_46 : decode cX12_thing 46 = .ok (.ifCond .ne 10, 3) := by decide +kernel
theorem dX12_thing_49 : decode cX12_thing 49 = .ok (.aload_n 0, 1) := by decide +kernel
theorem dX12_thing_50 : decode cX12_thing 50 = .ok (.bipush (-2), 2) := by decide +kernel
theorem dX12_thing_52 : decode cX12_thing 52 = .ok (.invokevirtual 60, 3) := by decide +kernel
theorem dX12_thing_55 : decode cX12_thing 55 = .ok (.ireturn, 1) := by decide +kernel
theorem dX12_thing_56 : decode cX12_thing 56 = .ok (.aload_n 0, 1) := by decide +kernel
theorem dX12_thing_57 : decode cX12_thing 57 = .ok (.invokevirtual 48, 3) := by decide +kernel
theorem dX12_thing_60 : decode cX12_thing 60 = .ok (.iconst 5, 1) := by decide +kernel
theorem dX12_thing_61 : decode cX12_thing 61 = .ok (.if_icmp .ne 8, 3) := by decide +kernel
theorem dX12_thing_64 : decode cX12_thing 64 = .ok (.aload_n 0, 1) := by decide +kernel
theorem dX12_thing_65 : decode cX12_thing 65 = .ok (.invokevirtual 64, 3) := by decide +kernel
theorem dX12_thing_68 : decode cX12_thing 68 = .ok (.ireturn, 1) := by decide +kernel
theorem dX12_thing_69 : decode cX12_thing 69 = .ok (.aload_n 0, 1) := by decide +kernel
theorem dX12_thing_70 : decode cX12_thing 70 = .ok (.getfield 7, 3) := by decide +kernel
theorem dX12_thing_73 : decode cX12_thing 73 = .ok (.iload_n 1, 1) := by decide +kernel
theorem dX12_thing_74 : decode cX12_thing 74 = .ok (.iload_n 2, 1) := by decide +kernel
theorem dX12_thing_75 : decode cX12_thing 75 = .ok (.iload_n 3, 1) := by decide +kernel
theorem dX12_thing_76 : decode cX12_thing 76 = .ok (.iload 4, 2) := by decide +kernel
theorem dX12_thing_78 : decode cX12_thing 78 = .ok (.invokestatic 67, 3) := by decide +kernel
theorem dX12_thing_81 : decode cX12_thing 81 = .ok (.aload_n 0, 1) := by decide +kernel
theorem dX12_thing_82 : decode cX12_thing 82 = .ok (.invokevirtual 48, 3) := by decide +kernel
theorem dX12_thing_85 : decode cX12_thing 85 = .ok (.iconst 1, 1) := by decide +kernel
theorem dX12_thing_86 : decode cX12_thing 86 = .ok (.isub, 1) := by decide +kernel
theorem dX12_thing_87 : decode cX12_thing 87 = .ok (.ireturn, 1) := by decide +kernel
theorem dX12_rope_0 : decode cX12_rope 0 = .ok (.aload_n 0, 1) := by decide +kernel
theorem dX12_rope_1 : decode cX12_rope 1 = .ok (.iload_n 1, 1) := by decide +kernel
theorem dX12_rope_2 : decode cX12_rope 2 = .ok (.invokevirtual 71, 3) := by decide +kernel
theorem dX12_rope_5 : decode cX12_rope 5 = .ok (.ifCond .ne 10, 3) := by decide +kernel
theorem dX12_rope_8 : decode cX12_rope 8 = .ok (.aload_n 0, 1) := by decide +kernel
theorem dX12_rope_9 : decode cX12_rope 9 = .ok (.bipush (-2), 2) := by decide +kernel
theorem dX12_rope_11 : decode cX12_rope 11 = .ok (.invokevirtual 60, 3) := by decide +kernel
theorem dX12_rope_14 : decode cX12_rope 14 = .ok (.ireturn, 1) := by decide +kernel
theorem dX12_rope_15 : decode cX12_rope 15 = .ok (.iload_n 2, 1) := by decide +kernel
theorem dX12_rope_16 : decode cX12_rope 16 = .ok (.ifCond .eq 7, 3) := by decide +kernel
theorem dX12_rope_19 : decode cX12_rope 19 = .ok (.iconst 1, 1) := by decide +kernel
theorem dX12_rope_20 : decode cX12_rope 20 = .ok (.goto 4, 3) := by decide +kernel
theorem dX12_rope_23 : decode cX12_rope 23 = .ok (.iconst 0, 1) := by decide +kernel
theorem dX12_rope_24 : decode cX12_rope 24 = .ok (.istore_n 3, 1) := by decide +kernel
theorem dX12_rope_25 : decode cX12_rope 25 = .ok (.aload_n 0, 1) := by decide +kernel
theorem dX12_rope_26 : decode cX12_rope 26 = .ok (.iload_n 1, 1) := by decide +kernel
theorem dX12_rope_27 : decode cX12_rope 27 = .ok (.iconst 4, 1) := by decide +kernel
theorem dX12_rope_28 : decode cX12_rope 28 = .ok (.invokevirtual 75, 3) := by decide +kernel
theorem dX12_rope_31 : decode cX12_rope 31 = .ok (.iload_n 3, 1) := by decide +kernel
theorem dX12_rope_32 : decode cX12_rope 32 = .ok (.if_icmp .ne 10, 3) := by decide +kernel
theorem dX12_rope_35 : decode cX12_rope 35 = .ok (.aload_n 0, 1) := by decide +kernel
theorem dX12_rope_36 : decode cX12_rope 36 = .ok (.bipush (-3), 2) := by decide +kernel
theorem dX12_rope_38 : decode cX12_rope 38 = .ok (.invokevirtual 79, 3) := by decide +kernel
theorem dX12_rope_41 : decode cX12_rope 41 = .ok (.ireturn, 1) := by decide +kernel
theorem dX12_rope_42 : decode cX12_rope 42 = .ok (.aload_n 0, 1) := by decide +kernel
theorem dX12_rope_43 : decode cX12_rope 43 = .ok (.getfield 7, 3) := by decide +kernel
theorem dX12_rope_46 : decode cX12_rope 46 = .ok (.iconst 1, 1) := by decide +kernel
theorem dX12_rope_47 : decode cX12_rope 47 = .ok (.iconst 5, 1) := by decide +kernel
theorem dX12_rope_48 : decode cX12_rope 48 = .ok (.iload_n 1, 1) := by decide +kernel
theorem dX12_rope_49 : decode cX12_rope 49 = .ok (.imul, 1) := by decide +kernel
theorem dX12_rope_50 : decode cX12_rope 50 = .ok (.iadd, 1) := by decide +kernel
theorem dX12_rope_51 : decode cX12_rope 51 = .ok (.iconst 4, 1) := by decide +kernel
theorem dX12_rope_52 : decode cX12_rope 52 = .ok (.iadd, 1) := by decide +kernel
theorem dX12_rope_53 : decode cX12_rope 53 = .ok (.iload_n 3, 1) := by decide +kernel
theorem dX12_rope_54 : decode cX12_rope 54 = .ok (.iastore, 1) := by decide +kernel
theorem dX12_rope_55 : decode cX12_rope 55 = .ok (.iconst 1, 1) := by decide +kernel
theorem dX12_rope_56 : decode cX12_rope 56 = .ok (.ireturn, 1) := by decide +kernel
theorem dX12_damp_0 : decode cX12_damp 0 = .ok (.iload_n 1, 1) := by decide +kernel
theorem dX12_damp_1 : decode cX12_damp 1 = .ok (.i2l, 1) := by decide +kernel
theorem dX12_damp_2 : decode cX12_damp 2 = .ok (.lconst 0, 1) := by decide +kernel
theorem dX12_damp_3 : decode cX12_damp 3 = .ok (.ldc2_w 58, 3) := by decide +kernel
theorem dX12_damp_6 : decode cX12_damp 6 = .ok (.invokestatic 52, 3) := by decide +kernel
theorem dX12_damp_9 : decode cX12_damp 9 = .ok (.ifCond .ne 10, 3) := by decide +kernel
theorem dX12_damp_12 : decode cX12_damp 12 = .ok (.aload_n 0, 1) := by decide +kernel
theorem dX12_damp_13 : decode cX12_damp 13 = .ok (.bipush (-2), 2) := by decide +kernel
theorem dX12_damp_15 : decode cX12_damp 15 = .ok (.invokevirtual 60, 3) := by decide +kernel
theorem dX12_damp_18 : decode cX12_damp 18 = .ok (.ireturn, 1) := by decide +kernel
theorem dX12_damp_19 : decode cX12_damp 19 = .ok (.aload_n 0, 1) := by decide +kernel
theorem dX12_damp_20 : decode cX12_damp 20 = .ok (.getfield 7, 3) := by decide +kernel
theorem dX12_damp_23 : decode cX12_damp 23 = .ok (.bipush 26, 2) := by decide +kernel
theorem dX12_damp_25 : decode cX12_damp 25 = .ok (.iaload, 1) := by decide +kernel
theorem dX12_damp_26 : decode cX12_damp 26 = .ok (.istore_n 2, 1) := by decide +kernel
theorem dX12_damp_27 : decode cX12_damp 27 = .ok (.aload_n 0, 1) := by decide +kernel
theorem dX12_damp_28 : decode cX12_damp 28 = .ok (.getfield 7, 3) := by decide +kernel
theorem dX12_damp_31 : decode cX12_damp 31 = .ok (.bipush 26, 2) := by decide +kernel
theorem dX12_damp_33 : decode cX12_damp 33 = .ok (.iload_n 1, 1) := by decide +kernel
theorem dX12_damp_34 : decode cX12_damp 34 = .ok (.iastore, 1) := by decide +kernel
theorem dX12_damp_35 : decode cX12_damp 35 = .ok (.iload_n 2, 1) := by decide +kernel
theorem dX12_damp_36 : decode cX12_damp 36 = .ok (.ireturn, 1) := by decide +kernel
theorem dX12_wholeNow_0 : decode cX12_wholeNow 0 = .ok (.iconst 0, 1) := by decide +kernel
theorem dX12_wholeNow_1 : decode cX12_wholeNow 1 = .ok (.istore_n 1, 1) := by decide +kernel
theorem dX12_wholeNow_2 : decode cX12_wholeNow 2 = .ok (.iconst 0, 1) := by decide +kernel
theorem dX12_wholeNow_3 : decode cX12_wholeNow 3 = .ok (.istore_n 2, 1) := by decide +kernel
theorem dX12_wholeNow_4 : decode cX12_wholeNow 4 = .ok (.iload_n 2, 1) := by decide +kernel
theorem dX12_wholeNow_5 : decode cX12_wholeNow 5 = .ok (.aload_n 0, 1) := by decide +kernel
theorem dX12_wholeNow_6 : decode cX12_wholeNow 6 = .ok (.invokevirtual 48, 3) := by decide +kernel
theorem dX12_wholeNow_9 : decode cX12_wholeNow 9 = .ok (.if_icmp .ge 20, 3) := by decide +kernel
theorem dX12_wholeNow_12 : decode cX12_wholeNow 12 = .ok (.iload_n 1, 1) := by decide +kernel
theorem dX12_wholeNow_13 : decode cX12_wholeNow 13 = .ok (.aload_n 0, 1) := by decide +kernel
theorem dX12_wholeNow_14 : decode cX12_wholeNow 14 = .ok (.iload_n 2, 1) := by decide +kernel
theorem dX12_wholeNow_15 : decode cX12_wholeNow 15 = .ok (.iconst 4, 1) := by decide +kernel
theorem dX12_wholeNow_16 : decode cX12_wholeNow 16 = .ok (.invokevirtual 75, 3) := by decide +kernel
theorem dX12_wholeNow_19 : decode cX12_wholeNow 19 = .ok (.iload_n 2, 1) := by decide +kernel
theorem dX12_wholeNow_20 : decode cX12_wholeNow 20 = .ok (.ishl, 1) := by decide +kernel
theorem dX12_wholeNow_21 : decode cX12_wholeNow 21 = .ok (.ior, 1) := by decide +kernel
theorem dX12_wholeNow_22 : decode cX12_wholeNow 22 = .ok (.istore_n 1, 1) := by decide +kernel
theorem dX12_wholeNow_23 : decode cX12_wholeNow 23 = .ok (.iinc 2 1, 3) := by decide +kernel
theorem dX12_wholeNow_26 : decode cX12_wholeNow 26 = .ok (.goto (-22), 3) := by decide +kernel
theorem dX12_wholeNow_29 : decode cX12_wholeNow 29 = .ok (.iload_n 1, 1) := by decide +kernel
theorem dX12_wholeNow_30 : decode cX12_wholeNow 30 = .ok (.ireturn, 1) := by decide +kernel
theorem dX12_takeSlacks_0 : decode cX12_takeSlacks 0 = .ok (.iconst 0, 1) := by decide +kernel
theorem dX12_takeSlacks_1 : decode cX12_takeSlacks 1 = .ok (.istore_n 2, 1) := by decide +kernel
theorem dX12_takeSlacks_2 : decode cX12_takeSlacks 2 = .ok (.iload_n 2, 1) := by decide +kernel
theorem dX12_takeSlacks_3 : decode cX12_takeSlacks 3 = .ok (.aload_n 0, 1) := by decide +kernel
theorem dX12_takeSlacks_4 : decode cX12_takeSlacks 4 = .ok (.invokevirtual 48, 3) := by decide +kernel
theorem dX12_takeSlacks_7 : decode cX12_takeSlacks 7 = .ok (.if_icmp .ge 33, 3) := by decide +kernel
theorem dX12_takeSlacks_10 : decode cX12_takeSlacks 10 = .ok (.aload_n 0, 1) := by decide +kernel
theorem dX12_takeSlacks_11 : decode cX12_takeSlacks 11 = .ok (.iload_n 2, 1) := by decide +kernel
theorem dX12_takeSlacks_12 : decode cX12_takeSlacks 12 = .ok (.iconst 1, 1) := by decide +kernel
theorem dX12_takeSlacks_13 : decode cX12_takeSlacks 13 = .ok (.invokevirtual 75, 3) := by decide +kernel
theorem dX12_takeSlacks_16 : decode cX12_takeSlacks 16 = .ok (.iload_n 1, 1) := by decide +kernel
theorem dX12_takeSlacks_17 : decode cX12_takeSlacks 17 = .ok (.isub, 1) := by decide +kernel
theorem dX12_takeSlacks_18 : decode cX12_takeSlacks 18 = .ok (.istore_n 3, 1) := by decide +kernel
theorem dX12_takeSlacks_19 : decode cX12_takeSlacks 19 = .ok (.aload_n 0, 1) := by decide +kernel
theorem dX12_takeSlacks_20 : decode cX12_takeSlacks 20 = .ok (.getfield 27, 3) := by decide +kernel
theorem dX12_takeSlacks_23 : decode cX12_takeSlacks 23 = .ok (.iload_n 2, 1) := by decide +kernel
theorem dX12_takeSlacks_24 : decode cX12_takeSlacks 24 = .ok (.iload_n 3, 1) := by decide +kernel
theorem dX12_takeSlacks_25 : decode cX12_takeSlacks 25 = .ok (.ifCond .ge 7, 3) := by decide +kernel
theorem dX12_takeSlacks_28 : decode cX12_takeSlacks 28 = .ok (.iconst 0, 1) := by decide +kernel
theorem dX12_takeSlacks_29 : decode cX12_takeSlacks 29 = .ok (.goto 4, 3) := by decide +kernel
theorem dX12_takeSlacks_32 : decode cX12_takeSlacks 32 = .ok (.iload_n 3, 1) := by decide +kernel
theorem dX12_takeSlacks_33 : decode cX12_takeSlacks 33 = .ok (.iastore, 1) := by decide +kernel
theorem dX12_takeSlacks_34 : decode cX12_takeSlacks 34 = .ok (.iinc 2 1, 3) := by decide +kernel
theorem dX12_takeSlacks_37 : decode cX12_takeSlacks 37 = .ok (.goto (-35), 3) := by decide +kernel
theorem dX12_takeSlacks_40 : decode cX12_takeSlacks 40 = .ok (.return_, 1) := by decide +kernel
theorem dX12_takeNow_0 : decode cX12_takeNow 0 = .ok (.aload_n 0, 1) := by decide +kernel
theorem dX12_takeNow_1 : decode cX12_takeNow 1 = .ok (.aload_n 0, 1) := by decide +kernel
theorem dX12_takeNow_2 : decode cX12_takeNow 2 = .ok (.getfield 7, 3) := by decide +kernel
theorem dX12_takeNow_5 : decode cX12_takeNow 5 = .ok (.bipush 26, 2) := by decide +kernel
theorem dX12_takeNow_7 : decode cX12_takeNow 7 = .ok (.iaload, 1) := by decide +kernel
theorem dX12_takeNow_8 : decode cX12_takeNow 8 = .ok (.invokevirtual 82, 3) := by decide +kernel
theorem dX12_takeNow_11 : decode cX12_takeNow 11 = .ok (.aload_n 0, 1) := by decide +kernel
theorem dX12_takeNow_12 : decode cX12_takeNow 12 = .ok (.aload_n 0, 1) := by decide +kernel
theorem dX12_takeNow_13 : decode cX12_takeNow 13 = .ok (.invokevirtual 86, 3) := by decide +kernel
theorem dX12_takeNow_16 : decode cX12_takeNow 16 = .ok (.putfield 89, 3) := by decide +kernel
theorem dX12_takeNow_19 : decode cX12_takeNow 19 = .ok (.return_, 1) := by decide +kernel
theorem dX12_onePull_0 : decode cX12_onePull 0 = .ok (.aload_n 0, 1) := by decide +kernel
theorem dX12_onePull_1 : decode cX12_onePull 1 = .ok (.iload_n 1, 1) := by decide +kernel
theorem dX12_onePull_2 : decode cX12_onePull 2 = .ok (.putfield 93, 3) := by decide +kernel
theorem dX12_onePull_5 : decode cX12_onePull 5 = .ok (.aload_n 0, 1) := by decide +kernel
theorem dX12_onePull_6 : decode cX12_onePull 6 = .ok (.iload_n 2, 1) := by decide +kernel
theorem dX12_onePull_7 : decode cX12_onePull 7 = .ok (.putfield 96, 3) := by decide +kernel
theorem dX12_onePull_10 : decode cX12_onePull 10 = .ok (.aload_n 0, 1) := by decide +kernel
theorem dX12_onePull_11 : decode cX12_onePull 11 = .ok (.iconst (-1), 1) := by decide +kernel
theorem dX12_onePull_12 : decode cX12_onePull 12 = .ok (.putfield 99, 3) := by decide +kernel
theorem dX12_onePull_15 : decode cX12_onePull 15 = .ok (.aload_n 0, 1) := by decide +kernel
theorem dX12_onePull_16 : decode cX12_onePull 16 = .ok (.iconst 0, 1) := by decide +kernel
theorem dX12_onePull_17 : decode cX12_onePull 17 = .ok (.putfield 102, 3) := by decide +kernel
theorem dX12_onePull_20 : decode cX12_onePull 20 = .ok (.return_, 1) := by decide +kernel
theorem dX12_travelOf_0 : decode cX12_travelOf 0 = .ok (.iload_n 1, 1) := by decide +kernel
theorem dX12_travelOf_1 : decode cX12_travelOf 1 = .ok (.iconst (-1), 1) := by decide +kernel
theorem dX12_travelOf_2 : decode cX12_travelOf 2 = .ok (.if_icmp .eq 24, 3) := by decide +kernel
theorem dX12_travelOf_5 : decode cX12_travelOf 5 = .ok (.aload_n 0, 1) := by decide +kernel
theorem dX12_travelOf_6 : decode cX12_travelOf 6 = .ok (.getfield 89, 3) := by decide +kernel
theorem dX12_travelOf_9 : decode cX12_travelOf 9 = .ok (.iload_n 1, 1) := by decide +kernel
theorem dX12_travelOf_10 : decode cX12_travelOf 10 = .ok (.ishr, 1) := by decide +kernel
theorem dX12_travelOf_11 : decode cX12_travelOf 11 = .ok (.iconst 1, 1) := by decide +kernel
theorem dX12_travelOf_12 : decode cX12_travelOf 12 = .ok (.iand, 1) := by decide +kernel
theorem dX12_travelOf_13 : decode cX12_travelOf 13 = .ok (.ifCond .eq 13, 3) := by decide +kernel
theorem dX12_travelOf_16 : decode cX12_travelOf 16 = .ok (.iload_n 2, 1) := by decide +kernel
theorem dX12_travelOf_17 : decode cX12_travelOf 17 = .ok (.aload_n 0, 1) := by decide +kernel
theorem dX12_travelOf_18 : decode cX12_travelOf 18 = .ok (.getfield 27, 3) := by decide +kernel
theorem dX12_travelOf_21 : decode cX12_travelOf 21 = .ok (.iload_n 1, 1) := by decide +kernel
theorem dX12_travelOf_22 : decode cX12_travelOf 22 = .ok (.iaload, 1) := by decide +kernel
theorem dX12_travelOf_23 : decode cX12_travelOf 23 = .ok (.if_icmp .ge 7, 3) := by decide +kernel
theorem dX12_travelOf_26 : decode cX12_travelOf 26 = .ok (.iconst 0, 1) := by decide +kernel
theorem dX12_travelOf_27 : decode cX12_travelOf 27 = .ok (.goto 11, 3) := by decide +kernel
theorem dX12_travelOf_30 : decode cX12_travelOf 30 = .ok (.iload_n 2, 1) := by decide +kernel
theorem dX12_travelOf_31 : decode cX12_travelOf 31 = .ok (.aload_n 0, 1) := by decide +kernel
theorem dX12_travelOf_32 : decode cX12_travelOf 32 = .ok (.getfield 27, 3) := by decide +kernel
theorem dX12_travelOf_35 : decode cX12_travelOf 35 = .ok (.iload_n 1, 1) := by decide +kernel
theorem dX12_travelOf_36 : decode cX12_travelOf 36 = .ok (.iaload, 1) := by decide +kernel
theorem dX12_travelOf_37 : decode cX12_travelOf 37 = .ok (.isub, 1) := by decide +kernel
theorem dX12_travelOf_38 : decode cX12_travelOf 38 = .ok (.ireturn, 1) := by decide +kernel
theorem dX12_travel_0 : decode cX12_travel 0 = .ok (.aload_n 0, 1) := by decide +kernel
theorem dX12_travel_1 : decode cX12_travel 1 = .ok (.aload_n 0, 1) := by decide +kernel
theorem dX12_travel_2 : decode cX12_travel 2 = .ok (.getfield 93, 3) := by decide +kernel
theorem dX12_travel_5 : decode cX12_travel 5 = .ok (.aload_n 0, 1) := by decide +kernel
theorem dX12_travel_6 : decode cX12_travel 6 = .ok (.getfield 96, 3) := by decide +kernel
theorem dX12_travel_9 : decode cX12_travel 9 = .ok (.invokevirtual 105, 3) := by decide +kernel
theorem dX12_travel_12 : decode cX12_travel 12 = .ok (.aload_n 0, 1) := by decide +kernel
theorem dX12_travel_13 : decode cX12_travel 13 = .ok (.aload_n 0, 1) := by decide +kernel
theorem dX12_travel_14 : decode cX12_travel 14 = .ok (.getfield 99, 3) := by decide +kernel
theorem dX12_travel_17 : decode cX12_travel 17 = .ok (.aload_n 0, 1) := by decide +kernel
theorem dX12_travel_18 : decode cX12_travel 18 = .ok (.getfield 102, 3) := by decide +kernel
theorem dX12_travel_21 : decode cX12_travel 21 = .ok (.invokevirtual 105, 3) := by decide +kernel
theorem dX12_travel_24 : decode cX12_travel 24 = .ok (.iadd, 1) := by decide +kernel
theorem dX12_travel_25 : decode cX12_travel 25 = .ok (.ireturn, 1) := by decide +kernel
theorem dX12_moveOf_0 : decode cX12_moveOf 0 = .ok (.iload_n 1, 1) := by decide +kernel
theorem dX12_moveOf_1 : decode cX12_moveOf 1 = .ok (.aload_n 0, 1) := by decide +kernel
theorem dX12_moveOf_2 : decode cX12_moveOf 2 = .ok (.getfield 93, 3) := by decide +kernel
theorem dX12_moveOf_5 : decode cX12_moveOf 5 = .ok (.if_icmp .ne 8, 3) := by decide +kernel
theorem dX12_moveOf_8 : decode cX12_moveOf 8 = .ok (.aload_n 0, 1) := by decide +kernel
theorem dX12_moveOf_9 : decode cX12_moveOf 9 = .ok (.getfield 96, 3) := by decide +kernel
theorem dX12_moveOf_12 : decode cX12_moveOf 12 = .ok (.ireturn, 1) := by decide +kernel
theorem dX12_moveOf_13 : decode cX12_moveOf 13 = .ok (.iload_n 1, 1) := by decide +kernel
theorem dX12_moveOf_14 : decode cX12_moveOf 14 = .ok (.aload_n 0, 1) := by decide +kernel
theorem dX12_moveOf_15 : decode cX12_moveOf 15 = .ok (.getfield 99, 3) := by decide +kernel
theorem dX12_moveOf_18 : decode cX12_moveOf 18 = .ok (.if_icmp .ne 8, 3) := by decide +kernel
theorem dX12_moveOf_21 : decode cX12_moveOf 21 = .ok (.aload_n 0, 1) := by decide +kernel
theorem dX12_moveOf_22 : decode cX12_moveOf 22 = .ok (.getfield 102, 3) := by decide +kernel
theorem dX12_moveOf_25 : decode cX12_moveOf 25 = .ok (.ireturn, 1) := by decide +kernel
theorem dX12_moveOf_26 : decode cX12_moveOf 26 = .ok (.aload_n 0, 1) := by decide +kernel
theorem dX12_moveOf_27 : decode cX12_moveOf 27 = .ok (.invokevirtual 108, 3) := by decide +kernel
theorem dX12_moveOf_30 : decode cX12_moveOf 30 = .ok (.aload_n 0, 1) := by decide +kernel
theorem dX12_moveOf_31 : decode cX12_moveOf 31 = .ok (.getfield 27, 3) := by decide +kernel
theorem dX12_moveOf_34 : decode cX12_moveOf 34 = .ok (.iload_n 1, 1) := by decide +kernel
theorem dX12_moveOf_35 : decode cX12_moveOf 35 = .ok (.iaload, 1) := by decide +kernel
theorem dX12_moveOf_36 : decode cX12_moveOf 36 = .ok (.isub, 1) := by decide +kernel
theorem dX12_moveOf_37 : decode cX12_moveOf 37 = .ok (.istore_n 2, 1) := by decide +kernel
theorem dX12_moveOf_38 : decode cX12_moveOf 38 = .ok (.iload_n 2, 1) := by decide +kernel
theorem dX12_moveOf_39 : decode cX12_moveOf 39 = .ok (.ifCond .lt 14, 3) := by decide +kernel
theorem dX12_moveOf_42 : decode cX12_moveOf 42 = .ok (.aload_n 0, 1) := by decide +kernel
theorem dX12_moveOf_43 : decode cX12_moveOf 43 = .ok (.getfield 89, 3) := by decide +kernel
theorem dX12_moveOf_46 : decode cX12_moveOf 46 = .ok (.iload_n 1, 1) := by decide +kernel
theorem dX12_moveOf_47 : decode cX12_moveOf 47 = .ok (.ishr, 1) := by decide +kernel
theorem dX12_moveOf_48 : decode cX12_moveOf 48 = .ok (.iconst 1, 1) := by decide +kernel
theorem dX12_moveOf_49 : decode cX12_moveOf 49 = .ok (.iand, 1) := by decide +kernel
theorem dX12_moveOf_50 : decode cX12_moveOf 50 = .ok (.ifCond .ne 7, 3) := by decide +kernel
theorem dX12_moveOf_53 : decode cX12_moveOf 53 = .ok (.iconst 0, 1) := by decide +kernel
theorem dX12_moveOf_54 : decode cX12_moveOf 54 = .ok (.goto 4, 3) := by decide +kernel
theorem dX12_moveOf_57 : decode cX12_moveOf 57 = .ok (.iload_n 2, 1) := by decide +kernel
theorem dX12_moveOf_58 : decode cX12_moveOf 58 = .ok (.ireturn, 1) := by decide +kernel
theorem dX12_behind_0 : decode cX12_behind 0 = .ok (.iconst 0, 1) := by decide +kernel
theorem dX12_behind_1 : decode cX12_behind 1 = .ok (.istore_n 2, 1) := by decide +kernel
theorem dX12_behind_2 : decode cX12_behind 2 = .ok (.iconst 0, 1) := by decide +kernel
theorem dX12_behind_3 : decode cX12_behind 3 = .ok (.istore_n 3, 1) := by decide +kernel
theorem dX12_behind_4 : decode cX12_behind 4 = .ok (.iload_n 3, 1) := by decide +kernel
theorem dX12_behind_5 : decode cX12_behind 5 = .ok (.aload_n 0, 1) := by decide +kernel
theorem dX12_behind_6 : decode cX12_behind 6 = .ok (.invokevirtual 48, 3) := by decide +kernel
theorem dX12_behind_9 : decode cX12_behind 9 = .ok (.if_icmp .ge 194, 3) := by decide +kernel
theorem dX12_behind_12 : decode cX12_behind 12 = .ok (.iload_n 1, 1) := by decide +kernel
theorem dX12_behind_13 : decode cX12_behind 13 = .ok (.iload_n 3, 1) := by decide +kernel
theorem dX12_behind_14 : decode cX12_behind 14 = .ok (.ishr, 1) := by decide +kernel
theorem dX12_behind_15 : decode cX12_behind 15 = .ok (.iconst 1, 1) := by decide +kernel
theorem dX12_behind_16 : decode cX12_behind 16 = .ok (.iand, 1) := by decide +kernel
theorem dX12_behind_17 : decode cX12_behind 17 = .ok (.iconst 1, 1) := by decide +kernel
theorem dX12_behind_18 : decode cX12_behind 18 = .ok (.if_icmp .ne 7, 3) := by decide +kernel
theorem dX12_behind_21 : decode cX12_behind 21 = .ok (.iconst 1, 1) := by decide +kernel
theorem dX12_behind_22 : decode cX12_behind 22 = .ok (.goto 4, 3) := by decide +kernel
theorem dX12_behind_25 : decode cX12_behind 25 = .ok (.iconst 0, 1) := by decide +kernel
theorem dX12_behind_26 : decode cX12_behind 26 = .ok (.istore 4, 2) := by decide +kernel
theorem dX12_behind_28 : decode cX12_behind 28 = .ok (.aload_n 0, 1) := by decide +kernel
theorem dX12_behind_29 : decode cX12_behind 29 = .ok (.iload_n 3, 1) := by decide +kernel
theorem dX12_behind_30 : decode cX12_behind 30 = .ok (.invokevirtual 111, 3) := by decide +kernel
theorem dX12_behind_33 : decode cX12_behind 33 = .ok (.istore 5, 2) := by decide +kernel
theorem dX12_behind_35 : decode cX12_behind 35 = .ok (.iload 5, 2) := by decide +kernel
theorem dX12_behind_37 : decode cX12_behind 37 = .ok (.aload_n 0, 1) := by decide +kernel
theorem dX12_behind_38 : decode cX12_behind 38 = .ok (.iload_n 3, 1) := by decide +kernel
theorem dX12_behind_39 : decode cX12_behind 39 = .ok (.iconst 2, 1) := by decide +kernel
theorem dX12_behind_40 : decode cX12_behind 40 = .ok (.invokevirtual 75, 3) := by decide +kernel
theorem dX12_behind_43 : decode cX12_behind 43 = .ok (.if_icmp .lt 7, 3) := by decide +kernel
theorem dX12_behind_46 : decode cX12_behind 46 = .ok (.iconst 1, 1) := by decide +kernel
theorem dX12_behind_47 : decode cX12_behind 47 = .ok (.goto 4, 3) := by decide +kernel
theorem dX12_behind_50 : decode cX12_behind 50 = .ok (.iconst 0, 1) := by decide +kernel
theorem dX12_behind_51 : decode cX12_behind 51 = .ok (.istore 6, 2) := by decide +kernel
theorem dX12_behind_53 : decode cX12_behind 53 = .ok (.iload 6, 2) := by decide +kernel
theorem dX12_behind_55 : decode cX12_behind 55 = .ok (.istore 7, 2) := by decide +kernel
theorem dX12_behind_57 : decode cX12_behind 57 = .ok (.aload_n 0, 1) := by decide +kernel
theorem dX12_behind_58 : decode cX12_behind 58 = .ok (.iload_n 3, 1) := by decide +kernel
theorem dX12_behind_59 : decode cX12_behind 59 = .ok (.iconst 0, 1) := by decide +kernel
theorem dX12_behind_60 : decode cX12_behind 60 = .ok (.invokevirtual 75, 3) := by decide +kernel
theorem dX12_behind_63 : decode cX12_behind 63 = .ok (.tableswitch 119 1 4 #[29, 49, 69, 86], 29) := by decide +kernel
theorem dX12_behind_92 : decode cX12_behind 92 = .ok (.iload 4, 2) := by decide +kernel
theorem dX12_behind_94 : decode cX12_behind 94 = .ok (.ifCond .ne 8, 3) := by decide +kernel
theorem dX12_behind_97 : decode cX12_behind 97 = .ok (.iload 6, 2) := by decide +kernel
theorem dX12_behind_99 : decode cX12_behind 99 = .ok (.ifCond .eq 7, 3) := by decide +kernel
theorem dX12_behind_102 : decode cX12_behind 102 = .ok (.iconst 1, 1) := by decide +kernel
theorem dX12_behind_103 : decode cX12_behind 103 = .ok (.goto 4, 3) := by decide +kernel
theorem dX12_behind_106 : decode cX12_behind 106 = .ok (.iconst 0, 1) := by decide +kernel
theorem dX12_behind_107 : decode cX12_behind 107 = .ok (.istore 7, 2) := by decide +kernel
theorem dX12_behind_109 : decode cX12_behind 109 = .ok (.goto 73, 3) := by decide +kernel
theorem dX12_behind_112 : decode cX12_behind 112 = .ok (.iload 4, 2) := by decide +kernel
theorem dX12_behind_114 : decode cX12_behind 114 = .ok (.ifCond .eq 12, 3) := by decide +kernel
theorem dX12_behind_117 : decode cX12_behind 117 = .ok (.iload 6, 2) := by decide +kernel
theorem dX12_behind_119 : decode cX12_behind 119 = .ok (.ifCond .ne 7, 3) := by decide +kernel
theorem dX12_behind_122 : decode cX12_behind 122 = .ok (.iconst 1, 1) := by decide +kernel
theorem dX12_behind_123 : decode cX12_behind 123 = .ok (.goto 4, 3) := by decide +kernel
theorem dX12_behind_126 : decode cX12_behind 126 = .ok (.iconst 0, 1) := by decide +kernel
theorem dX12_behind_127 : decode cX12_behind 127 = .ok (.istore 7, 2) := by decide +kernel
theorem dX12_behind_129 : decode cX12_behind 129 = .ok (.goto 53, 3) := by decide +kernel
theorem dX12_behind_132 : decode cX12_behind 132 = .ok (.iload 6, 2) := by decide +kernel
theorem dX12_behind_134 : decode cX12_behind 134 = .ok (.iload 4, 2) := by decide +kernel
theorem dX12_behind_136 : decode cX12_behind 136 = .ok (.if_icmp .eq 7, 3) := by decide +kernel
theorem dX12_behind_139 : decode cX12_behind 139 = .ok (.iconst 1, 1) := by decide +kernel
theorem dX12_behind_140 : decode cX12_behind 140 = .ok (.goto 4, 3) := by decide +kernel
theorem dX12_behind_143 : decode cX12_behind 143 = .ok (.iconst 0, 1) := by decide +kernel
theorem dX12_behind_144 : decode cX12_behind 144 = .ok (.istore 7, 2) := by decide +kernel
theorem dX12_behind_146 : decode cX12_behind 146 = .ok (.goto 36, 3) := by decide +kernel
theorem dX12_behind_149 : decode cX12_behind 149 = .ok (.iload 4, 2) := by decide +kernel
theorem dX12_behind_151 : decode cX12_behind 151 = .ok (.ifCond .ne 8, 3) := by decide +kernel
theorem dX12_behind_154 : decode cX12_behind 154 = .ok (.iload 6, 2) := by decide +kernel
theorem dX12_behind_156 : decode cX12_behind 156 = .ok (.ifCond .eq 20, 3) := by decide +kernel
theorem dX12_behind_159 : decode cX12_behind 159 = .ok (.iload 5, 2) := by decide +kernel
theorem dX12_behind_161 : decode cX12_behind 161 = .ok (.aload_n 0, 1) := by decide +kernel
theorem dX12_behind_162 : decode cX12_behind 162 = .ok (.iload_n 3, 1) := by decide +kernel
theorem dX12_behind_163 : decode cX12_behind 163 = .ok (.iconst 2, 1) := by decide +kernel
theorem dX12_behind_164 : decode cX12_behind 164 = .ok (.invokevirtual 75, 3) := by decide +kernel
theorem dX12_behind_167 : decode cX12_behind 167 = .ok (.iconst 3, 1) := by decide +kernel
theorem dX12_behind_168 : decode cX12_behind 168 = .ok (.iadd, 1) := by decide +kernel
theorem dX12_behind_169 : decode cX12_behind 169 = .ok (.if_icmp .ge 7, 3) := by decide +kernel
theorem dX12_behind_172 : decode cX12_behind 172 = .ok (.iconst 1, 1) := by decide +kernel
theorem dX12_behind_173 : decode cX12_behind 173 = .ok (.goto 4, 3) := by decide +kernel
theorem dX12_behind_176 : decode cX12_behind 176 = .ok (.iconst 0, 1) := by decide +kernel
theorem dX12_behind_177 : decode cX12_behind 177 = .ok (.istore 7, 2) := by decide +kernel
theorem dX12_behind_179 : decode cX12_behind 179 = .ok (.goto 3, 3) := by decide +kernel
theorem dX12_behind_182 : decode cX12_behind 182 = .ok (.iload_n 2, 1) := by decide +kernel
theorem dX12_behind_183 : decode cX12_behind 183 = .ok (.iload 7, 2) := by decide +kernel
theorem dX12_behind_185 : decode cX12_behind 185 = .ok (.ifCond .eq 9, 3) := by decide +kernel
theorem dX12_behind_188 : decode cX12_behind 188 = .ok (.iconst 1, 1) := by decide +kernel
theorem dX12_behind_189 : decode cX12_behind 189 = .ok (.iload_n 3, 1) := by decide +kernel
theorem dX12_behind_190 : decode cX12_behind 190 = .ok (.ishl, 1) := by decide +kernel
theorem dX12_behind_191 : decode cX12_behind 191 = .ok (.goto 4, 3) := by decide +kernel
theorem dX12_behind_194 : decode cX12_behind 194 = .ok (.iconst 0, 1) := by decide +kernel
theorem dX12_behind_195 : decode cX12_behind 195 = .ok (.ior, 1) := by decide +kernel
theorem dX12_behind_196 : decode cX12_behind 196 = .ok (.istore_n 2, 1) := by decide +kernel
theorem dX12_behind_197 : decode cX12_behind 197 = .ok (.iinc 3 1, 3) := by decide +kernel
theorem dX12_behind_200 : decode cX12_behind 200 = .ok (.goto (-196), 3) := by decide +kernel
theorem dX12_behind_203 : decode cX12_behind 203 = .ok (.iload_n 2, 1) := by decide +kernel
theorem dX12_behind_204 : decode cX12_behind 204 = .ok (.ireturn, 1) := by decide +kernel
theorem dX12_harmOf_0 : decode cX12_harmOf 0 = .ok (.iconst 0, 1) := by decide +kernel
theorem dX12_harmOf_1 : decode cX12_harmOf 1 = .ok (.istore_n 2, 1) := by decide +kernel
theorem dX12_harmOf_2 : decode cX12_harmOf 2 = .ok (.iconst 0, 1) := by decide +kernel
theorem dX12_harmOf_3 : decode cX12_harmOf 3 = .ok (.istore_n 3, 1) := by decide +kernel
theorem dX12_harmOf_4 : decode cX12_harmOf 4 = .ok (.iload_n 3, 1) := by decide +kernel
theorem dX12_harmOf_5 : decode cX12_harmOf 5 = .ok (.aload_n 0, 1) := by decide +kernel
theorem dX12_harmOf_6 : decode cX12_harmOf 6 = .ok (.invokevirtual 48, 3) := by decide +kernel
theorem dX12_harmOf_9 : decode cX12_harmOf 9 = .ok (.if_icmp .ge 24, 3) := by decide +kernel
theorem dX12_harmOf_12 : decode cX12_harmOf 12 = .ok (.iload_n 2, 1) := by decide +kernel
theorem dX12_harmOf_13 : decode cX12_harmOf 13 = .ok (.iload_n 1, 1) := by decide +kernel
theorem dX12_harmOf_14 : decode cX12_harmOf 14 = .ok (.iload_n 3, 1) := by decide +kernel
theorem dX12_harmOf_15 : decode cX12_harmOf 15 = .ok (.ishr, 1) := by decide +kernel
theorem dX12_harmOf_16 : decode cX12_harmOf 16 = .ok (.iconst 1, 1) := by decide +kernel
theorem dX12_harmOf_17 : decode cX12_harmOf 17 = .ok (.iand, 1) := by decide +kernel
theorem dX12_harmOf_18 : decode cX12_harmOf 18 = .ok (.aload_n 0, 1) := by decide +kernel
theorem dX12_harmOf_19 : decode cX12_harmOf 19 = .ok (.iload_n 3, 1) := by decide +kernel
theorem dX12_harmOf_20 : decode cX12_harmOf 20 = .ok (.iconst 3, 1) := by decide +kernel
theorem dX12_harmOf_21 : decode cX12_harmOf 21 = .ok (.invokevirtual 75, 3) := by decide +kernel
theorem dX12_harmOf_24 : decode cX12_harmOf 24 = .ok (.imul, 1) := by decide +kernel
theorem dX12_harmOf_25 : decode cX12_harmOf 25 = .ok (.iadd, 1) := by decide +kernel
theorem dX12_harmOf_26 : decode cX12_harmOf 26 = .ok (.istore_n 2, 1) := by decide +kernel
theorem dX12_harmOf_27 : decode cX12_harmOf 27 = .ok (.iinc 3 1, 3) := by decide +kernel
theorem dX12_harmOf_30 : decode cX12_harmOf 30 = .ok (.goto (-26), 3) := by decide +kernel
theorem dX12_harmOf_33 : decode cX12_harmOf 33 = .ok (.iload_n 2, 1) := by decide +kernel
theorem dX12_harmOf_34 : decode cX12_harmOf 34 = .ok (.ireturn, 1) := by decide +kernel
theorem dX12_goPull_0 : decode cX12_goPull 0 = .ok (.aload_n 0, 1) := by decide +kernel
theorem dX12_goPull_1 : decode cX12_goPull 1 = .ok (.getfield 7, 3) := by decide +kernel
theorem dX12_goPull_4 : decode cX12_goPull 4 = .ok (.bipush 52, 2) := by decide +kernel
theorem dX12_goPull_6 : decode cX12_goPull 6 = .ok (.iaload, 1) := by decide +kernel
theorem dX12_goPull_7 : decode cX12_goPull 7 = .ok (.bipush 10, 2) := by decide +kernel
theorem dX12_goPull_9 : decode cX12_goPull 9 = .ok (.if_icmp .ne 46, 3) := by decide +kernel
theorem dX12_goPull_12 : decode cX12_goPull 12 = .ok (.iconst 0, 1) := by decide +kernel
theorem dX12_goPull_13 : decode cX12_goPull 13 = .ok (.istore_n 1, 1) := by decide +kernel
theorem dX12_goPull_14 : decode cX12_goPull 14 = .ok (.iload_n 1, 1) := by decide +kernel
theorem dX12_goPull_15 : decode cX12_goPull 15 = .ok (.bipush 9, 2) := by decide +kernel
theorem dX12_goPull_17 : decode cX12_goPull 17 = .ok (.if_icmp .ge 29, 3) := by decide +kernel
theorem dX12_goPull_20 : decode cX12_goPull 20 = .ok (.aload_n 0, 1) := by decide +kernel
theorem dX12_goPull_21 : decode cX12_goPull 21 = .ok (.getfield 7, 3) := by decide +kernel
theorem dX12_goPull_24 : decode cX12_goPull 24 = .ok (.bipush 53, 2) := by decide +kernel
theorem dX12_goPull_26 : decode cX12_goPull 26 = .ok (.iload_n 1, 1) := by decide +kernel
theorem dX12_goPull_27 : decode cX12_goPull 27 = .ok (.iadd, 1) := by decide +kernel
theorem dX12_goPull_28 : decode cX12_goPull 28 = .ok (.aload_n 0, 1) := by decide +kernel
theorem dX12_goPull_29 : decode cX12_goPull 29 = .ok (.getfield 7, 3) := by decide +kernel
theorem dX12_goPull_32 : decode cX12_goPull 32 = .ok (.bipush 53, 2) := by decide +kernel
theorem dX12_goPull_34 : decode cX12_goPull 34 = .ok (.iload_n 1, 1) := by decide +kernel
theorem dX12_goPull_35 : decode cX12_goPull 35 = .ok (.iadd, 1) := by decide +kernel
theorem dX12_goPull_36 : decode cX12_goPull 36 = .ok (.iconst 1, 1) := by decide +kernel
theorem dX12_goPull_37 : decode cX12_goPull 37 = .ok (.iadd, 1) := by decide +kernel
theorem dX12_goPull_38 : decode cX12_goPull 38 = .ok (.iaload, 1) := by decide +kernel
theorem dX12_goPull_39 : decode cX12_goPull 39 = .ok (.iastore, 1) := by decide +kernel
theorem dX12_goPull_40 : decode cX12_goPull 40 = .ok (.iinc 1 1, 3) := by decide +kernel
theorem dX12_goPull_43 : decode cX12_goPull 43 = .ok (.goto (-29), 3) := by decide +kernel
theorem dX12_goPull_46 : decode cX12_goPull 46 = .ok (.aload_n 0, 1) := by decide +kernel
theorem dX12_goPull_47 : decode cX12_goPull 47 = .ok (.getfield 7, 3) := by decide +kernel
theorem dX12_goPull_50 : decode cX12_goPull 50 = .ok (.bipush 52, 2) := by decide +kernel
theorem dX12_goPull_52 : decode cX12_goPull 52 = .ok (.bipush 9, 2) := by decide +kernel
theorem dX12_goPull_54 : decode cX12_goPull 54 = .ok (.iastore, 1) := by decide +kernel
theorem dX12_goPull_55 : decode cX12_goPull 55 = .ok (.aload_n 0, 1) := by decide +kernel
theorem dX12_goPull_56 : decode cX12_goPull 56 = .ok (.getfield 7, 3) := by decide +kernel
theorem dX12_goPull_59 : decode cX12_goPull 59 = .ok (.bipush 53, 2) := by decide +kernel
theorem dX12_goPull_61 : decode cX12_goPull 61 = .ok (.aload_n 0, 1) := by decide +kernel
theorem dX12_goPull_62 : decode cX12_goPull 62 = .ok (.getfield 7, 3) := by decide +kernel
theorem dX12_goPull_65 : decode cX12_goPull 65 = .ok (.bipush 52, 2) := by decide +kernel
theorem dX12_goPull_67 : decode cX12_goPull 67 = .ok (.iaload, 1) := by decide +kernel
theorem dX12_goPull_68 : decode cX12_goPull 68 = .ok (.iadd, 1) := by decide +kernel
theorem dX12_goPull_69 : decode cX12_goPull 69 = .ok (.aload_n 0, 1) := by decide +kernel
theorem dX12_goPull_70 : decode cX12_goPull 70 = .ok (.getfield 7, 3) := by decide +kernel
theorem dX12_goPull_73 : decode cX12_goPull 73 = .ok (.bipush 27, 2) := by decide +kernel
theorem dX12_goPull_75 : decode cX12_goPull 75 = .ok (.iaload, 1) := by decide +kernel
theorem dX12_goPull_76 : decode cX12_goPull 76 = .ok (.iastore, 1) := by decide +kernel
theorem dX12_goPull_77 : decode cX12_goPull 77 = .ok (.aload_n 0, 1) := by decide +kernel
theorem dX12_goPull_78 : decode cX12_goPull 78 = .ok (.getfield 7, 3) := by decide +kernel
theorem dX12_goPull_81 : decode cX12_goPull 81 = .ok (.bipush 52, 2) := by decide +kernel
theorem dX12_goPull_83 : decode cX12_goPull 83 = .ok (.dup2, 1) := by decide +kernel
theorem dX12_goPull_84 : decode cX12_goPull 84 = .ok (.iaload, 1) := by decide +kernel
theorem dX12_goPull_85 : decode cX12_goPull 85 = .ok (.iconst 1, 1) := by decide +kernel
theorem dX12_goPull_86 : decode cX12_goPull 86 = .ok (.iadd, 1) := by decide +kernel
theorem dX12_goPull_87 : decode cX12_goPull 87 = .ok (.iastore, 1) := by decide +kernel
theorem dX12_goPull_88 : decode cX12_goPull 88 = .ok (.aload_n 0, 1) := by decide +kernel
theorem dX12_goPull_89 : decode cX12_goPull 89 = .ok (.getfield 7, 3) := by decide +kernel
theorem dX12_goPull_92 : decode cX12_goPull 92 = .ok (.bipush 27, 2) := by decide +kernel
theorem dX12_goPull_94 : decode cX12_goPull 94 = .ok (.aload_n 0, 1) := by decide +kernel
theorem dX12_goPull_95 : decode cX12_goPull 95 = .ok (.aload_n 0, 1) := by decide +kernel
theorem dX12_goPull_96 : decode cX12_goPull 96 = .ok (.getfield 7, 3) := by decide +kernel
theorem dX12_goPull_99 : decode cX12_goPull 99 = .ok (.bipush 27, 2) := by decide +kernel
theorem dX12_goPull_101 : decode cX12_goPull 101 = .ok (.iaload, 1) := by decide +kernel
theorem dX12_goPull_102 : decode cX12_goPull 102 = .ok (.invokevirtual 114, 3) := by decide +kernel
theorem dX12_goPull_105 : decode cX12_goPull 105 = .ok (.iastore, 1) := by decide +kernel
theorem dX12_goPull_106 : decode cX12_goPull 106 = .ok (.aload_n 0, 1) := by decide +kernel
theorem dX12_goPull_107 : decode cX12_goPull 107 = .ok (.invokevirtual 108, 3) := by decide +kernel
theorem dX12_goPull_110 : decode cX12_goPull 110 = .ok (.iconst 3, 1) := by decide +kernel
theorem dX12_goPull_111 : decode cX12_goPull 111 = .ok (.idiv, 1) := by decide +kernel
theorem dX12_goPull_112 : decode cX12_goPull 112 = .ok (.ireturn, 1) := by decide +kernel
theorem dX12_isPull_0 : decode cX12_isPull 0 = .ok (.aload_n 0, 1) := by decide +kernel
theorem dX12_isPull_1 : decode cX12_isPull 1 = .ok (.iload_n 1, 1) := by decide +kernel
theorem dX12_isPull_2 : decode cX12_isPull 2 = .ok (.invokevirtual 71, 3) := by decide +kernel
theorem dX12_isPull_5 : decode cX12_isPull 5 = .ok (.ifCond .eq 19, 3) := by decide +kernel
theorem dX12_isPull_8 : decode cX12_isPull 8 = .ok (.iload_n 2, 1) := by decide +kernel
theorem dX12_isPull_9 : decode cX12_isPull 9 = .ok (.i2l, 1) := by decide +kernel
theorem dX12_isPull_10 : decode cX12_isPull 10 = .ok (.lconst 0, 1) := by decide +kernel
theorem dX12_isPull_11 : decode cX12_isPull 11 = .ok (.ldc2_w 117, 3) := by decide +kernel
theorem dX12_isPull_14 : decode cX12_isPull 14 = .ok (.invokestatic 52, 3) := by decide +kernel
theorem dX12_isPull_17 : decode cX12_isPull 17 = .ok (.ifCond .eq 7, 3) := by decide +kernel
theorem dX12_isPull_20 : decode cX12_isPull 20 = .ok (.iconst 1, 1) := by decide +kernel
theorem dX12_isPull_21 : decode cX12_isPull 21 = .ok (.goto 4, 3) := by decide +kernel
theorem dX12_isPull_24 : decode cX12_isPull 24 = .ok (.iconst 0, 1) := by decide +kernel
theorem dX12_isPull_25 : decode cX12_isPull 25 = .ok (.ireturn, 1) := by decide +kernel
theorem dX12_pull_0 : decode cX12_pull 0 = .ok (.aload_n 0, 1) := by decide +kernel
theorem dX12_pull_1 : decode cX12_pull 1 = .ok (.iload_n 1, 1) := by decide +kernel
theorem dX12_pull_2 : decode cX12_pull 2 = .ok (.iload_n 2, 1) := by decide +kernel
theorem dX12_pull_3 : decode cX12_pull 3 = .ok (.invokevirtual 119, 3) := by decide +kernel
theorem dX12_pull_6 : decode cX12_pull 6 = .ok (.ifCond .ne 10, 3) := by decide +kernel
theorem dX12_pull_9 : decode cX12_pull 9 = .ok (.aload_n 0, 1) := by decide +kernel
theorem dX12_pull_10 : decode cX12_pull 10 = .ok (.bipush (-2), 2) := by decide +kernel
theorem dX12_pull_12 : decode cX12_pull 12 = .ok (.invokevirtual 60, 3) := by decide +kernel
theorem dX12_pull_15 : decode cX12_pull 15 = .ok (.ireturn, 1) := by decide +kernel
theorem dX12_pull_16 : decode cX12_pull 16 = .ok (.aload_n 0, 1) := by decide +kernel
theorem dX12_pull_17 : decode cX12_pull 17 = .ok (.invokevirtual 123, 3) := by decide +kernel
theorem dX12_pull_20 : decode cX12_pull 20 = .ok (.aload_n 0, 1) := by decide +kernel
theorem dX12_pull_21 : decode cX12_pull 21 = .ok (.iload_n 1, 1) := by decide +kernel
theorem dX12_pull_22 : decode cX12_pull 22 = .ok (.iload_n 2, 1) := by decide +kernel
theorem dX12_pull_23 : decode cX12_pull 23 = .ok (.invokevirtual 126, 3) := by decide +kernel
theorem dX12_pull_26 : decode cX12_pull 26 = .ok (.aload_n 0, 1) := by decide +kernel
theorem dX12_pull_27 : decode cX12_pull 27 = .ok (.invokevirtual 130, 3) := by decide +kernel
theorem dX12_pull_30 : decode cX12_pull 30 = .ok (.ireturn, 1) := by decide +kernel
theorem dX12_both_0 : decode cX12_both 0 = .ok (.aload_n 0, 1) := by decide +kernel
theorem dX12_both_1 : decode cX12_both 1 = .ok (.iload_n 1, 1) := by decide +kernel
theorem dX12_both_2 : decode cX12_both 2 = .ok (.iload_n 2, 1) := by decide +kernel
theorem dX12_both_3 : decode cX12_both 3 = .ok (.invokevirtual 119, 3) := by decide +kernel
theorem dX12_both_6 : decode cX12_both 6 = .ok (.ifCond .eq 18, 3) := by decide +kernel
theorem dX12_both_9 : decode cX12_both 9 = .ok (.aload_n 0, 1) := by decide +kernel
theorem dX12_both_10 : decode cX12_both 10 = .ok (.iload_n 3, 1) := by decide +kernel
theorem dX12_both_11 : decode cX12_both 11 = .ok (.iload 4, 2) := by decide +kernel
theorem dX12_both_13 : decode cX12_both 13 = .ok (.invokevirtual 119, 3) := by decide +kernel
theorem dX12_both_16 : decode cX12_both 16 = .ok (.ifCond .eq 8, 3) := by decide +kernel
theorem dX12_both_19 : decode cX12_both 19 = .ok (.iload_n 1, 1) := by decide +kernel
theorem dX12_both_20 : decode cX12_both 20 = .ok (.iload_n 3, 1) := by decide +kernel
theorem dX12_both_21 : decode cX12_both 21 = .ok (.if_icmp .ne 10, 3) := by decide +kernel
theorem dX12_both_24 : decode cX12_both 24 = .ok (.aload_n 0, 1) := by decide +kernel
theorem dX12_both_25 : decode cX12_both 25 = .ok (.bipush (-2), 2) := by decide +kernel
theorem dX12_both_27 : decode cX12_both 27 = .ok (.invokevirtual 60, 3) := by decide +kernel
theorem dX12_both_30 : decode cX12_both 30 = .ok (.ireturn, 1) := by decide +kernel
theorem dX12_both_31 : decode cX12_both 31 = .ok (.aload_n 0, 1) := by decide +kernel
theorem dX12_both_32 : decode cX12_both 32 = .ok (.invokevirtual 123, 3) := by decide +kernel
theorem dX12_both_35 : decode cX12_both 35 = .ok (.aload_n 0, 1) := by decide +kernel
theorem dX12_both_36 : decode cX12_both 36 = .ok (.iload_n 1, 1) := by decide +kernel
theorem dX12_both_37 : decode cX12_both 37 = .ok (.iload_n 2, 1) := by decide +kernel
theorem dX12_both_38 : decode cX12_both 38 = .ok (.invokevirtual 126, 3) := by decide +kernel
theorem dX12_both_41 : decode cX12_both 41 = .ok (.aload_n 0, 1) := by decide +kernel
theorem dX12_both_42 : decode cX12_both 42 = .ok (.iload_n 3, 1) := by decide +kernel
theorem dX12_both_43 : decode cX12_both 43 = .ok (.putfield 99, 3) := by decide +kernel
theorem dX12_both_46 : decode cX12_both 46 = .ok (.aload_n 0, 1) := by decide +kernel
theorem dX12_both_47 : decode cX12_both 47 = .ok (.iload 4, 2) := by decide +kernel
theorem dX12_both_49 : decode cX12_both 49 = .ok (.putfield 102, 3) := by decide +kernel
theorem dX12_both_52 : decode cX12_both 52 = .ok (.aload_n 0, 1) := by decide +kernel
theorem dX12_both_53 : decode cX12_both 53 = .ok (.invokevirtual 130, 3) := by decide +kernel
theorem dX12_both_56 : decode cX12_both 56 = .ok (.ireturn, 1) := by decide +kernel
theorem dX12_would_0 : decode cX12_would 0 = .ok (.aload_n 0, 1) := by decide +kernel
theorem dX12_would_1 : decode cX12_would 1 = .ok (.iload_n 1, 1) := by decide +kernel
theorem dX12_would_2 : decode cX12_would 2 = .ok (.iload_n 2, 1) := by decide +kernel
theorem dX12_would_3 : decode cX12_would 3 = .ok (.invokevirtual 119, 3) := by decide +kernel
theorem dX12_would_6 : decode cX12_would 6 = .ok (.ifCond .ne 10, 3) := by decide +kernel
theorem dX12_would_9 : decode cX12_would 9 = .ok (.aload_n 0, 1) := by decide +kernel
theorem dX12_would_10 : decode cX12_would 10 = .ok (.bipush (-2), 2) := by decide +kernel
theorem dX12_would_12 : decode cX12_would 12 = .ok (.invokevirtual 60, 3) := by decide +kernel
theorem dX12_would_15 : decode cX12_would 15 = .ok (.ireturn, 1) := by decide +kernel
theorem dX12_would_16 : decode cX12_would 16 = .ok (.aload_n 0, 1) := by decide +kernel
theorem dX12_would_17 : decode cX12_would 17 = .ok (.invokevirtual 123, 3) := by decide +kernel
theorem dX12_would_20 : decode cX12_would 20 = .ok (.aload_n 0, 1) := by decide +kernel
theorem dX12_would_21 : decode cX12_would 21 = .ok (.iload_n 1, 1) := by decide +kernel
theorem dX12_would_22 : decode cX12_would 22 = .ok (.iload_n 2, 1) := by decide +kernel
theorem dX12_would_23 : decode cX12_would 23 = .ok (.invokevirtual 126, 3) := by decide +kernel
theorem dX12_would_26 : decode cX12_would 26 = .ok (.aload_n 0, 1) := by decide +kernel
theorem dX12_would_27 : decode cX12_would 27 = .ok (.aload_n 0, 1) := by decide +kernel
theorem dX12_would_28 : decode cX12_would 28 = .ok (.getfield 7, 3) := by decide +kernel
theorem dX12_would_31 : decode cX12_would 31 = .ok (.bipush 27, 2) := by decide +kernel
theorem dX12_would_33 : decode cX12_would 33 = .ok (.iaload, 1) := by decide +kernel
theorem dX12_would_34 : decode cX12_would 34 = .ok (.invokevirtual 114, 3) := by decide +kernel
theorem dX12_would_37 : decode cX12_would 37 = .ok (.ireturn, 1) := by decide +kernel
theorem dX12_open_0 : decode cX12_open 0 = .ok (.aload_n 0, 1) := by decide +kernel
theorem dX12_open_1 : decode cX12_open 1 = .ok (.getfield 7, 3) := by decide +kernel
theorem dX12_open_4 : decode cX12_open 4 = .ok (.bipush 27, 2) := by decide +kernel
theorem dX12_open_6 : decode cX12_open 6 = .ok (.iaload, 1) := by decide +kernel
theorem dX12_open_7 : decode cX12_open 7 = .ok (.ireturn, 1) := by decide +kernel
theorem dX12_moves_0 : decode cX12_moves 0 = .ok (.aload_n 0, 1) := by decide +kernel
theorem dX12_moves_1 : decode cX12_moves 1 = .ok (.iload_n 1, 1) := by decide +kernel
theorem dX12_moves_2 : decode cX12_moves 2 = .ok (.iload_n 2, 1) := by decide +kernel
theorem dX12_moves_3 : decode cX12_moves 3 = .ok (.invokevirtual 119, 3) := by decide +kernel
theorem dX12_moves_6 : decode cX12_moves 6 = .ok (.ifCond .eq 11, 3) := by decide +kernel
theorem dX12_moves_9 : decode cX12_moves 9 = .ok (.aload_n 0, 1) := by decide +kernel
theorem dX12_moves_10 : decode cX12_moves 10 = .ok (.iload_n 3, 1) := by decide +kernel
theorem dX12_moves_11 : decode cX12_moves 11 = .ok (.invokevirtual 71, 3) := by decide +kernel
theorem dX12_moves_14 : decode cX12_moves 14 = .ok (.ifCond .ne 10, 3) := by decide +kernel
theorem dX12_moves_17 : decode cX12_moves 17 = .ok (.aload_n 0, 1) := by decide +kernel
theorem dX12_moves_18 : decode cX12_moves 18 = .ok (.bipush (-2), 2) := by decide +kernel
theorem dX12_moves_20 : decode cX12_moves 20 = .ok (.invokevirtual 60, 3) := by decide +kernel
theorem dX12_moves_23 : decode cX12_moves 23 = .ok (.ireturn, 1) := by decide +kernel
theorem dX12_moves_24 : decode cX12_moves 24 = .ok (.aload_n 0, 1) := by decide +kernel
theorem dX12_moves_25 : decode cX12_moves 25 = .ok (.invokevirtual 123, 3) := by decide +kernel
theorem dX12_moves_28 : decode cX12_moves 28 = .ok (.aload_n 0, 1) := by decide +kernel
theorem dX12_moves_29 : decode cX12_moves 29 = .ok (.iload_n 1, 1) := by decide +kernel
theorem dX12_moves_30 : decode cX12_moves 30 = .ok (.iload_n 2, 1) := by decide +kernel
theorem dX12_moves_31 : decode cX12_moves 31 = .ok (.invokevirtual 126, 3) := by decide +kernel
theorem dX12_moves_34 : decode cX12_moves 34 = .ok (.aload_n 0, 1) := by decide +kernel
theorem dX12_moves_35 : decode cX12_moves 35 = .ok (.iload_n 3, 1) := by decide +kernel
theorem dX12_moves_36 : decode cX12_moves 36 = .ok (.invokevirtual 111, 3) := by decide +kernel
theorem dX12_moves_39 : decode cX12_moves 39 = .ok (.ireturn, 1) := by decide +kernel
theorem dX12_undo_0 : decode cX12_undo 0 = .ok (.aload_n 0, 1) := by decide +kernel
theorem dX12_undo_1 : decode cX12_undo 1 = .ok (.getfield 7, 3) := by decide +kernel
theorem dX12_undo_4 : decode cX12_undo 4 = .ok (.bipush 52, 2) := by decide +kernel
theorem dX12_undo_6 : decode cX12_undo 6 = .ok (.iaload, 1) := by decide +kernel
theorem dX12_undo_7 : decode cX12_undo 7 = .ok (.ifCond .ne 10, 3) := by decide +kernel
theorem dX12_undo_10 : decode cX12_undo 10 = .ok (.aload_n 0, 1) := by decide +kernel
theorem dX12_undo_11 : decode cX12_undo 11 = .ok (.bipush (-3), 2) := by decide +kernel
theorem dX12_undo_13 : decode cX12_undo 13 = .ok (.invokevirtual 79, 3) := by decide +kernel
theorem dX12_undo_16 : decode cX12_undo 16 = .ok (.ireturn, 1) := by decide +kernel
theorem dX12_undo_17 : decode cX12_undo 17 = .ok (.aload_n 0, 1) := by decide +kernel
theorem dX12_undo_18 : decode cX12_undo 18 = .ok (.getfield 7, 3) := by decide +kernel
theorem dX12_undo_21 : decode cX12_undo 21 = .ok (.bipush 52, 2) := by decide +kernel
theorem dX12_undo_23 : decode cX12_undo 23 = .ok (.dup2, 1) := by decide +kernel
theorem dX12_undo_24 : decode cX12_undo 24 = .ok (.iaload, 1) := by decide +kernel
theorem dX12_undo_25 : decode cX12_undo 25 = .ok (.iconst 1, 1) := by decide +kernel
theorem dX12_undo_26 : decode cX12_undo 26 = .ok (.isub, 1) := by decide +kernel
theorem dX12_undo_27 : decode cX12_undo 27 = .ok (.iastore, 1) := by decide +kernel
theorem dX12_undo_28 : decode cX12_undo 28 = .ok (.aload_n 0, 1) := by decide +kernel
theorem dX12_undo_29 : decode cX12_undo 29 = .ok (.getfield 7, 3) := by decide +kernel
theorem dX12_undo_32 : decode cX12_undo 32 = .ok (.bipush 27, 2) := by decide +kernel
theorem dX12_undo_34 : decode cX12_undo 34 = .ok (.aload_n 0, 1) := by decide +kernel
theorem dX12_undo_35 : decode cX12_undo 35 = .ok (.getfield 7, 3) := by decide +kernel
theorem dX12_undo_38 : decode cX12_undo 38 = .ok (.bipush 53, 2) := by decide +kernel
theorem dX12_undo_40 : decode cX12_undo 40 = .ok (.aload_n 0, 1) := by decide +kernel
theorem dX12_undo_41 : decode cX12_undo 41 = .ok (.getfield 7, 3) := by decide +kernel
theorem dX12_undo_44 : decode cX12_undo 44 = .ok (.bipush 52, 2) := by decide +kernel
theorem dX12_undo_46 : decode cX12_undo 46 = .ok (.iaload, 1) := by decide +kernel
theorem dX12_undo_47 : decode cX12_undo 47 = .ok (.iadd, 1) := by decide +kernel
theorem dX12_undo_48 : decode cX12_undo 48 = .ok (.iaload, 1) := by decide +kernel
theorem dX12_undo_49 : decode cX12_undo 49 = .ok (.iastore, 1) := by decide +kernel
theorem dX12_undo_50 : decode cX12_undo 50 = .ok (.iconst 1, 1) := by decide +kernel
theorem dX12_undo_51 : decode cX12_undo 51 = .ok (.ireturn, 1) := by decide +kernel
theorem dX12_errands_0 : decode cX12_errands 0 = .ok (.aload_n 0, 1) := by decide +kernel
theorem dX12_errands_1 : decode cX12_errands 1 = .ok (.getfield 7, 3) := by decide +kernel
theorem dX12_errands_4 : decode cX12_errands 4 = .ok (.bipush 28, 2) := by decide +kernel
theorem dX12_errands_6 : decode cX12_errands 6 = .ok (.iaload, 1) := by decide +kernel
theorem dX12_errands_7 : decode cX12_errands 7 = .ok (.ireturn, 1) := by decide +kernel
theorem dX12_errand_0 : decode cX12_errand 0 = .ok (.aload_n 0, 1) := by decide +kernel
theorem dX12_errand_1 : decode cX12_errand 1 = .ok (.iload_n 1, 1) := by decide +kernel
theorem dX12_errand_2 : decode cX12_errand 2 = .ok (.iload_n 2, 1) := by decide +kernel
theorem dX12_errand_3 : decode cX12_errand 3 = .ok (.invokevirtual 119, 3) := by decide +kernel
theorem dX12_errand_6 : decode cX12_errand 6 = .ok (.ifCond .ne 10, 3) := by decide +kernel
theorem dX12_errand_9 : decode cX12_errand 9 = .ok (.aload_n 0, 1) := by decide +kernel
theorem dX12_errand_10 : decode cX12_errand 10 = .ok (.bipush (-2), 2) := by decide +kernel
theorem dX12_errand_12 : decode cX12_errand 12 = .ok (.invokevirtual 60, 3) := by decide +kernel
theorem dX12_errand_15 : decode cX12_errand 15 = .ok (.ireturn, 1) := by decide +kernel
theorem dX12_errand_16 : decode cX12_errand 16 = .ok (.aload_n 0, 1) := by decide +kernel
theorem dX12_errand_17 : decode cX12_errand 17 = .ok (.invokevirtual 133, 3) := by decide +kernel
theorem dX12_errand_20 : decode cX12_errand 20 = .ok (.istore_n 3, 1) := by decide +kernel
theorem dX12_errand_21 : decode cX12_errand 21 = .ok (.iload_n 3, 1) := by decide +kernel
theorem dX12_errand_22 : decode cX12_errand 22 = .ok (.iconst 5, 1) := by decide +kernel
theorem dX12_errand_23 : decode cX12_errand 23 = .ok (.if_icmp .ne 8, 3) := by decide +kernel
theorem dX12_errand_26 : decode cX12_errand 26 = .ok (.aload_n 0, 1) := by decide +kernel
theorem dX12_errand_27 : decode cX12_errand 27 = .ok (.invokevirtual 64, 3) := by decide +kernel
theorem dX12_errand_30 : decode cX12_errand 30 = .ok (.ireturn, 1) := by decide +kernel
theorem dX12_errand_31 : decode cX12_errand 31 = .ok (.aload_n 0, 1) := by decide +kernel
theorem dX12_errand_32 : decode cX12_errand 32 = .ok (.getfield 7, 3) := by decide +kernel
theorem dX12_errand_35 : decode cX12_errand 35 = .ok (.bipush 29, 2) := by decide +kernel
theorem dX12_errand_37 : decode cX12_errand 37 = .ok (.iconst 2, 1) := by decide +kernel
theorem dX12_errand_38 : decode cX12_errand 38 = .ok (.iload_n 3, 1) := by decide +kernel
theorem dX12_errand_39 : decode cX12_errand 39 = .ok (.imul, 1) := by decide +kernel
theorem dX12_errand_40 : decode cX12_errand 40 = .ok (.iadd, 1) := by decide +kernel
theorem dX12_errand_41 : decode cX12_errand 41 = .ok (.iload_n 1, 1) := by decide +kernel
theorem dX12_errand_42 : decode cX12_errand 42 = .ok (.iastore, 1) := by decide +kernel
theorem dX12_errand_43 : decode cX12_errand 43 = .ok (.aload_n 0, 1) := by decide +kernel
theorem dX12_errand_44 : decode cX12_errand 44 = .ok (.getfield 7, 3) := by decide +kernel
theorem dX12_errand_47 : decode cX12_errand 47 = .ok (.bipush 29, 2) := by decide +kernel
theorem dX12_errand_49 : decode cX12_errand 49 = .ok (.iconst 2, 1) := by decide +kernel
theorem dX12_errand_50 : decode cX12_errand 50 = .ok (.iload_n 3, 1) := by decide +kernel
theorem dX12_errand_51 : decode cX12_errand 51 = .ok (.imul, 1) := by decide +kernel
theorem dX12_errand_52 : decode cX12_errand 52 = .ok (.iadd, 1) := by decide +kernel
theorem dX12_errand_53 : decode cX12_errand 53 = .ok (.iconst 1, 1) := by decide +kernel
theorem dX12_errand_54 : decode cX12_errand 54 = .ok (.iadd, 1) := by decide +kernel
theorem dX12_errand_55 : decode cX12_errand 55 = .ok (.iload_n 2, 1) := by decide +kernel
theorem dX12_errand_56 : decode cX12_errand 56 = .ok (.iastore, 1) := by decide +kernel
theorem dX12_errand_57 : decode cX12_errand 57 = .ok (.aload_n 0, 1) := by decide +kernel
theorem dX12_errand_58 : decode cX12_errand 58 = .ok (.getfield 7, 3) := by decide +kernel
theorem dX12_errand_61 : decode cX12_errand 61 = .ok (.bipush 28, 2) := by decide +kernel
theorem dX12_errand_63 : decode cX12_errand 63 = .ok (.dup2, 1) := by decide +kernel
theorem dX12_errand_64 : decode cX12_errand 64 = .ok (.iaload, 1) := by decide +kernel
theorem dX12_errand_65 : decode cX12_errand 65 = .ok (.iconst 1, 1) := by decide +kernel
theorem dX12_errand_66 : decode cX12_errand 66 = .ok (.iadd, 1) := by decide +kernel
theorem dX12_errand_67 : decode cX12_errand 67 = .ok (.iastore, 1) := by decide +kernel
theorem dX12_errand_68 : decode cX12_errand 68 = .ok (.iload_n 3, 1) := by decide +kernel
theorem dX12_errand_69 : decode cX12_errand 69 = .ok (.ireturn, 1) := by decide +kernel
theorem dX12_drop_0 : decode cX12_drop 0 = .ok (.aload_n 0, 1) := by decide +kernel
theorem dX12_drop_1 : decode cX12_drop 1 = .ok (.invokevirtual 133, 3) := by decide +kernel
theorem dX12_drop_4 : decode cX12_drop 4 = .ok (.ifCond .ne 10, 3) := by decide +kernel
theorem dX12_drop_7 : decode cX12_drop 7 = .ok (.aload_n 0, 1) := by decide +kernel
theorem dX12_drop_8 : decode cX12_drop 8 = .ok (.bipush (-3), 2) := by decide +kernel
theorem dX12_drop_10 : decode cX12_drop 10 = .ok (.invokevirtual 79, 3) := by decide +kernel
theorem dX12_drop_13 : decode cX12_drop 13 = .ok (.ireturn, 1) := by decide +kernel
theorem dX12_drop_14 : decode cX12_drop 14 = .ok (.aload_n 0, 1) := by decide +kernel
theorem dX12_drop_15 : decode cX12_drop 15 = .ok (.getfield 7, 3) := by decide +kernel
theorem dX12_drop_18 : decode cX12_drop 18 = .ok (.bipush 28, 2) := by decide +kernel
theorem dX12_drop_20 : decode cX12_drop 20 = .ok (.dup2, 1) := by decide +kernel
theorem dX12_drop_21 : decode cX12_drop 21 = .ok (.iaload, 1) := by decide +kernel
theorem dX12_drop_22 : decode cX12_drop 22 = .ok (.iconst 1, 1) := by decide +kernel
theorem dX12_drop_23 : decode cX12_drop 23 = .ok (.isub, 1) := by decide +kernel
theorem dX12_drop_24 : decode cX12_drop 24 = .ok (.iastore, 1) := by decide +kernel
theorem dX12_drop_25 : decode cX12_drop 25 = .ok (.aload_n 0, 1) := by decide +kernel
theorem dX12_drop_26 : decode cX12_drop 26 = .ok (.invokevirtual 133, 3) := by decide +kernel
theorem dX12_drop_29 : decode cX12_drop 29 = .ok (.ireturn, 1) := by decide +kernel
theorem dX12_doErrand_0 : decode cX12_doErrand 0 = .ok (.aload_n 0, 1) := by decide +kernel
theorem dX12_doErrand_1 : decode cX12_doErrand 1 = .ok (.aload_n 0, 1) := by decide +kernel
theorem dX12_doErrand_2 : decode cX12_doErrand 2 = .ok (.getfield 7, 3) := by decide +kernel
theorem dX12_doErrand_5 : decode cX12_doErrand 5 = .ok (.bipush 29, 2) := by decide +kernel
theorem dX12_doErrand_7 : decode cX12_doErrand 7 = .ok (.iconst 2, 1) := by decide +kernel
theorem dX12_doErrand_8 : decode cX12_doErrand 8 = .ok (.iload_n 1, 1) := by decide +kernel
theorem dX12_doErrand_9 : decode cX12_doErrand 9 = .ok (.imul, 1) := by decide +kernel
theorem dX12_doErrand_10 : decode cX12_doErrand 10 = .ok (.iadd, 1) := by decide +kernel
theorem dX12_doErrand_11 : decode cX12_doErrand 11 = .ok (.iaload, 1) := by decide +kernel
theorem dX12_doErrand_12 : decode cX12_doErrand 12 = .ok (.aload_n 0, 1) := by decide +kernel
theorem dX12_doErrand_13 : decode cX12_doErrand 13 = .ok (.getfield 7, 3) := by decide +kernel
theorem dX12_doErrand_16 : decode cX12_doErrand 16 = .ok (.bipush 29, 2) := by decide +kernel
theorem dX12_doErrand_18 : decode cX12_doErrand 18 = .ok (.iconst 2, 1) := by decide +kernel
theorem dX12_doErrand_19 : decode cX12_doErrand 19 = .ok (.iload_n 1, 1) := by decide +kernel
theorem dX12_doErrand_20 : decode cX12_doErrand 20 = .ok (.imul, 1) := by decide +kernel
theorem dX12_doErrand_21 : decode cX12_doErrand 21 = .ok (.iadd, 1) := by decide +kernel
theorem dX12_doErrand_22 : decode cX12_doErrand 22 = .ok (.iconst 1, 1) := by decide +kernel
theorem dX12_doErrand_23 : decode cX12_doErrand 23 = .ok (.iadd, 1) := by decide +kernel
theorem dX12_doErrand_24 : decode cX12_doErrand 24 = .ok (.iaload, 1) := by decide +kernel
theorem dX12_doErrand_25 : decode cX12_doErrand 25 = .ok (.invokevirtual 126, 3) := by decide +kernel
theorem dX12_doErrand_28 : decode cX12_doErrand 28 = .ok (.aload_n 0, 1) := by decide +kernel
theorem dX12_doErrand_29 : decode cX12_doErrand 29 = .ok (.iload_n 2, 1) := by decide +kernel
theorem dX12_doErrand_30 : decode cX12_doErrand 30 = .ok (.invokevirtual 114, 3) := by decide +kernel
theorem dX12_doErrand_33 : decode cX12_doErrand 33 = .ok (.ireturn, 1) := by decide +kernel
theorem dX12_layOrder_0 : decode cX12_layOrder 0 = .ok (.iload_n 1, 1) := by decide +kernel
theorem dX12_layOrder_1 : decode cX12_layOrder 1 = .ok (.istore_n 2, 1) := by decide +kernel
theorem dX12_layOrder_2 : decode cX12_layOrder 2 = .ok (.iconst 0, 1) := by decide +kernel
theorem dX12_layOrder_3 : decode cX12_layOrder 3 = .ok (.istore_n 3, 1) := by decide +kernel
theorem dX12_layOrder_4 : decode cX12_layOrder 4 = .ok (.aload_n 0, 1) := by decide +kernel
theorem dX12_layOrder_5 : decode cX12_layOrder 5 = .ok (.invokevirtual 133, 3) := by decide +kernel
theorem dX12_layOrder_8 : decode cX12_layOrder 8 = .ok (.iconst 1, 1) := by decide +kernel
theorem dX12_layOrder_9 : decode cX12_layOrder 9 = .ok (.isub, 1) := by decide +kernel
theorem dX12_layOrder_10 : decode cX12_layOrder 10 = .ok (.istore 4, 2) := by decide +kernel
theorem dX12_layOrder_12 : decode cX12_layOrder 12 = .ok (.iload 4, 2) := by decide +kernel
theorem dX12_layOrder_14 : decode cX12_layOrder 14 = .ok (.ifCond .lt 41, 3) := by decide +kernel
theorem dX12_layOrder_17 : decode cX12_layOrder 17 = .ok (.aload_n 0, 1) := by decide +kernel
theorem dX12_layOrder_18 : decode cX12_layOrder 18 = .ok (.getfield 30, 3) := by decide +kernel
theorem dX12_layOrder_21 : decode cX12_layOrder 21 = .ok (.iload 4, 2) := by decide +kernel
theorem dX12_layOrder_23 : decode cX12_layOrder 23 = .ok (.iload_n 2, 1) := by decide +kernel
theorem dX12_layOrder_24 : decode cX12_layOrder 24 = .ok (.aload_n 0, 1) := by decide +kernel
theorem dX12_layOrder_25 : decode cX12_layOrder 25 = .ok (.invokevirtual 133, 3) := by decide +kernel
theorem dX12_layOrder_28 : decode cX12_layOrder 28 = .ok (.irem, 1) := by decide +kernel
theorem dX12_layOrder_29 : decode cX12_layOrder 29 = .ok (.iastore, 1) := by decide +kernel
theorem dX12_layOrder_30 : decode cX12_layOrder 30 = .ok (.iload_n 3, 1) := by decide +kernel
theorem dX12_layOrder_31 : decode cX12_layOrder 31 = .ok (.iconst 1, 1) := by decide +kernel
theorem dX12_layOrder_32 : decode cX12_layOrder 32 = .ok (.aload_n 0, 1) := by decide +kernel
theorem dX12_layOrder_33 : decode cX12_layOrder 33 = .ok (.getfield 30, 3) := by decide +kernel
theorem dX12_layOrder_36 : decode cX12_layOrder 36 = .ok (.iload 4, 2) := by decide +kernel
theorem dX12_layOrder_38 : decode cX12_layOrder 38 = .ok (.iaload, 1) := by decide +kernel
theorem dX12_layOrder_39 : decode cX12_layOrder 39 = .ok (.ishl, 1) := by decide +kernel
theorem dX12_layOrder_40 : decode cX12_layOrder 40 = .ok (.ior, 1) := by decide +kernel
theorem dX12_layOrder_41 : decode cX12_layOrder 41 = .ok (.istore_n 3, 1) := by decide +kernel
theorem dX12_layOrder_42 : decode cX12_layOrder 42 = .ok (.iload_n 2, 1) := by decide +kernel
theorem dX12_layOrder_43 : decode cX12_layOrder 43 = .ok (.aload_n 0, 1) := by decide +kernel
theorem dX12_layOrder_44 : decode cX12_layOrder 44 = .ok (.invokevirtual 133, 3) := by decide +kernel
theorem dX12_layOrder_47 : decode cX12_layOrder 47 = .ok (.idiv, 1) := by decide +kernel
theorem dX12_layOrder_48 : decode cX12_layOrder 48 = .ok (.istore_n 2, 1) := by decide +kernel
theorem dX12_layOrder_49 : decode cX12_layOrder 49 = .ok (.iinc 4 (-1), 3) := by decide +kernel
theorem dX12_layOrder_52 : decode cX12_layOrder 52 = .ok (.goto (-40), 3) := by decide +kernel
theorem dX12_layOrder_55 : decode cX12_layOrder 55 = .ok (.iload_n 3, 1) := by decide +kernel
theorem dX12_layOrder_56 : decode cX12_layOrder 56 = .ok (.invokestatic 136, 3) := by decide +kernel
theorem dX12_layOrder_59 : decode cX12_layOrder 59 = .ok (.aload_n 0, 1) := by decide +kernel
theorem dX12_layOrder_60 : decode cX12_layOrder 60 = .ok (.invokevirtual 133, 3) := by decide +kernel
theorem dX12_layOrder_63 : decode cX12_layOrder 63 = .ok (.if_icmp .ne 7, 3) := by decide +kernel
theorem dX12_layOrder_66 : decode cX12_layOrder 66 = .ok (.iconst 1, 1) := by decide +kernel
theorem dX12_layOrder_67 : decode cX12_layOrder 67 = .ok (.goto 4, 3) := by decide +kernel
theorem dX12_layOrder_70 : decode cX12_layOrder 70 = .ok (.iconst 0, 1) := by decide +kernel
theorem dX12_layOrder_71 : decode cX12_layOrder 71 = .ok (.ireturn, 1) := by decide +kernel
theorem dX12_harmOfRow_0 : decode cX12_harmOfRow 0 = .ok (.aload_n 0, 1) := by decide +kernel
theorem dX12_harmOfRow_1 : decode cX12_harmOfRow 1 = .ok (.getfield 7, 3) := by decide +kernel
theorem dX12_harmOfRow_4 : decode cX12_harmOfRow 4 = .ok (.bipush 27, 2) := by decide +kernel
theorem dX12_harmOfRow_6 : decode cX12_harmOfRow 6 = .ok (.iaload, 1) := by decide +kernel
theorem dX12_harmOfRow_7 : decode cX12_harmOfRow 7 = .ok (.istore_n 1, 1) := by decide +kernel
theorem dX12_harmOfRow_8 : decode cX12_harmOfRow 8 = .ok (.iconst 0, 1) := by decide +kernel
theorem dX12_harmOfRow_9 : decode cX12_harmOfRow 9 = .ok (.istore_n 2, 1) := by decide +kernel
theorem dX12_harmOfRow_10 : decode cX12_harmOfRow 10 = .ok (.iconst 0, 1) := by decide +kernel
theorem dX12_harmOfRow_11 : decode cX12_harmOfRow 11 = .ok (.istore_n 3, 1) := by decide +kernel
theorem dX12_harmOfRow_12 : decode cX12_harmOfRow 12 = .ok (.iload_n 3, 1) := by decide +kernel
theorem dX12_harmOfRow_13 : decode cX12_harmOfRow 13 = .ok (.aload_n 0, 1) := by decide +kernel
theorem dX12_harmOfRow_14 : decode cX12_harmOfRow 14 = .ok (.invokevirtual 133, 3) := by decide +kernel
theorem dX12_harmOfRow_17 : decode cX12_harmOfRow 17 = .ok (.if_icmp .ge 38, 3) := by decide +kernel
theorem dX12_harmOfRow_20 : decode cX12_harmOfRow 20 = .ok (.aload_n 0, 1) := by decide +kernel
theorem dX12_harmOfRow_21 : decode cX12_harmOfRow 21 = .ok (.aload_n 0, 1) := by decide +kernel
theorem dX12_harmOfRow_22 : decode cX12_harmOfRow 22 = .ok (.getfield 30, 3) := by decide +kernel
theorem dX12_harmOfRow_25 : decode cX12_harmOfRow 25 = .ok (.iload_n 3, 1) := by decide +kernel
theorem dX12_harmOfRow_26 : decode cX12_harmOfRow 26 = .ok (.iaload, 1) := by decide +kernel
theorem dX12_harmOfRow_27 : decode cX12_harmOfRow 27 = .ok (.iload_n 1, 1) := by decide +kernel
theorem dX12_harmOfRow_28 : decode cX12_harmOfRow 28 = .ok (.invokevirtual 139, 3) := by decide +kernel
theorem dX12_harmOfRow_31 : decode cX12_harmOfRow 31 = .ok (.istore 4, 2) := by decide +kernel
theorem dX12_harmOfRow_33 : decode cX12_harmOfRow 33 = .ok (.iload_n 2, 1) := by decide +kernel
theorem dX12_harmOfRow_34 : decode cX12_harmOfRow 34 = .ok (.aload_n 0, 1) := by decide +kernel
theorem dX12_harmOfRow_35 : decode cX12_harmOfRow 35 = .ok (.iload 4, 2) := by decide +kernel
theorem dX12_harmOfRow_37 : decode cX12_harmOfRow 37 = .ok (.iload_n 1, 1) := by decide +kernel
theorem dX12_harmOfRow_38 : decode cX12_harmOfRow 38 = .ok (.iconst (-1), 1) := by decide +kernel
theorem dX12_harmOfRow_39 : decode cX12_harmOfRow 39 = .ok (.ixor, 1) := by decide +kernel
theorem dX12_harmOfRow_40 : decode cX12_harmOfRow 40 = .ok (.iand, 1) := by decide +kernel
theorem dX12_harmOfRow_41 : decode cX12_harmOfRow 41 = .ok (.invokevirtual 142, 3) := by decide +kernel
theorem dX12_harmOfRow_44 : decode cX12_harmOfRow 44 = .ok (.iadd, 1) := by decide +kernel
theorem dX12_harmOfRow_45 : decode cX12_harmOfRow 45 = .ok (.istore_n 2, 1) := by decide +kernel
theorem dX12_harmOfRow_46 : decode cX12_harmOfRow 46 = .ok (.iload 4, 2) := by decide +kernel
theorem dX12_harmOfRow_48 : decode cX12_harmOfRow 48 = .ok (.istore_n 1, 1) := by decide +kernel
theorem dX12_harmOfRow_49 : decode cX12_harmOfRow 49 = .ok (.iinc 3 1, 3) := by decide +kernel
theorem dX12_harmOfRow_52 : decode cX12_harmOfRow 52 = .ok (.goto (-40), 3) := by decide +kernel
theorem dX12_harmOfRow_55 : decode cX12_harmOfRow 55 = .ok (.iload_n 2, 1) := by decide +kernel
theorem dX12_harmOfRow_56 : decode cX12_harmOfRow 56 = .ok (.ireturn, 1) := by decide +kernel
theorem dX12_order_0 : decode cX12_order 0 = .ok (.iload_n 1, 1) := by decide +kernel
theorem dX12_order_1 : decode cX12_order 1 = .ok (.iconst (-1), 1) := by decide +kernel
theorem dX12_order_2 : decode cX12_order 2 = .ok (.if_icmp .ge 10, 3) := by decide +kernel
theorem dX12_order_5 : decode cX12_order 5 = .ok (.aload_n 0, 1) := by decide +kernel
theorem dX12_order_6 : decode cX12_order 6 = .ok (.bipush (-10), 2) := by decide +kernel
theorem dX12_order_8 : decode cX12_order 8 = .ok (.invokevirtual 60, 3) := by decide +kernel
theorem dX12_order_11 : decode cX12_order 11 = .ok (.ireturn, 1) := by decide +kernel
theorem dX12_order_12 : decode cX12_order 12 = .ok (.aload_n 0, 1) := by decide +kernel
theorem dX12_order_13 : decode cX12_order 13 = .ok (.invokevirtual 123, 3) := by decide +kernel
theorem dX12_order_16 : decode cX12_order 16 = .ok (.iconst 1, 1) := by decide +kernel
theorem dX12_order_17 : decode cX12_order 17 = .ok (.istore_n 2, 1) := by decide +kernel
theorem dX12_order_18 : decode cX12_order 18 = .ok (.iconst 0, 1) := by decide +kernel
theorem dX12_order_19 : decode cX12_order 19 = .ok (.istore_n 3, 1) := by decide +kernel
theorem dX12_order_20 : decode cX12_order 20 = .ok (.iload_n 3, 1) := by decide +kernel
theorem dX12_order_21 : decode cX12_order 21 = .ok (.aload_n 0, 1) := by decide +kernel
theorem dX12_order_22 : decode cX12_order 22 = .ok (.invokevirtual 133, 3) := by decide +kernel
theorem dX12_order_25 : decode cX12_order 25 = .ok (.if_icmp .ge 16, 3) := by decide +kernel
theorem dX12_order_28 : decode cX12_order 28 = .ok (.iload_n 2, 1) := by decide +kernel
theorem dX12_order_29 : decode cX12_order 29 = .ok (.aload_n 0, 1) := by decide +kernel
theorem dX12_order_30 : decode cX12_order 30 = .ok (.invokevirtual 133, 3) := by decide +kernel
theorem dX12_order_33 : decode cX12_order 33 = .ok (.imul, 1) := by decide +kernel
theorem dX12_order_34 : decode cX12_order 34 = .ok (.istore_n 2, 1) := by decide +kernel
theorem dX12_order_35 : decode cX12_order 35 = .ok (.iinc 3 1, 3) := by decide +kernel
theorem dX12_order_38 : decode cX12_order 38 = .ok (.goto (-18), 3) := by decide +kernel
theorem dX12_order_41 : decode cX12_order 41 = .ok (.aload_n 0, 1) := by decide +kernel
theorem dX12_order_42 : decode cX12_order 42 = .ok (.ldc 145, 2) := by decide +kernel
theorem dX12_order_44 : decode cX12_order 44 = .ok (.putfield 146, 3) := by decide +kernel
theorem dX12_order_47 : decode cX12_order 47 = .ok (.iconst 0, 1) := by decide +kernel
theorem dX12_order_48 : decode cX12_order 48 = .ok (.istore_n 3, 1) := by decide +kernel
theorem dX12_order_49 : decode cX12_order 49 = .ok (.iload_n 3, 1) := by decide +kernel
theorem dX12_order_50 : decode cX12_order 50 = .ok (.iload_n 2, 1) := by decide +kernel
theorem dX12_order_51 : decode cX12_order 51 = .ok (.if_icmp .ge 86, 3) := by decide +kernel
theorem dX12_order_54 : decode cX12_order 54 = .ok (.aload_n 0, 1) := by decide +kernel
theorem dX12_order_55 : decode cX12_order 55 = .ok (.iload_n 3, 1) := by decide +kernel
theorem dX12_order_56 : decode cX12_order 56 = .ok (.invokevirtual 149, 3) := by decide +kernel
theorem dX12_order_59 : decode cX12_order 59 = .ok (.ifCond .eq 72, 3) := by decide +kernel
theorem dX12_order_62 : decode cX12_order 62 = .ok (.aload_n 0, 1) := by decide +kernel
theorem dX12_order_63 : decode cX12_order 63 = .ok (.invokevirtual 152, 3) := by decide +kernel
theorem dX12_order_66 : decode cX12_order 66 = .ok (.istore 4, 2) := by decide +kernel
theorem dX12_order_68 : decode cX12_order 68 = .ok (.iconst 0, 1) := by decide +kernel
theorem dX12_order_69 : decode cX12_order 69 = .ok (.istore 5, 2) := by decide +kernel
theorem dX12_order_71 : decode cX12_order 71 = .ok (.iload 5, 2) := by decide +kernel
theorem dX12_order_73 : decode cX12_order 73 = .ok (.aload_n 0, 1) := by decide +kernel
theorem dX12_order_74 : decode cX12_order 74 = .ok (.invokevirtual 133, 3) := by decide +kernel
theorem dX12_order_77 : decode cX12_order 77 = .ok (.if_icmp .ge 32, 3) := by decide +kernel
theorem dX12_order_80 : decode cX12_order 80 = .ok (.iload 4, 2) := by decide +kernel
theorem dX12_order_82 : decode cX12_order 82 = .ok (.aload_n 0, 1) := by decide +kernel
theorem dX12_order_83 : decode cX12_order 83 = .ok (.getfield 146, 3) := by decide +kernel
theorem dX12_order_86 : decode cX12_order 86 = .ok (.if_icmp .ge 23, 3) := by decide +kernel
theorem dX12_order_89 : decode cX12_order 89 = .ok (.aload_n 0, 1) := by decide +kernel
theorem dX12_order_90 : decode cX12_order 90 = .ok (.getfield 33, 3) := by decide +kernel
theorem dX12_order_93 : decode cX12_order 93 = .ok (.iload 5, 2) := by decide +kernel
theorem dX12_order_95 : decode cX12_order 95 = .ok (.aload_n 0, 1) := by decide +kernel
theorem dX12_order_96 : decode cX12_order 96 = .ok (.getfield 30, 3) := by decide +kernel
theorem dX12_order_99 : decode cX12_order 99 = .ok (.iload 5, 2) := by decide +kernel
theorem dX12_order_101 : decode cX12_order 101 = .ok (.iaload, 1) := by decide +kernel
theorem dX12_order_102 : decode cX12_order 102 = .ok (.iastore, 1) := by decide +kernel
theorem dX12_order_103 : decode cX12_order 103 = .ok (.iinc 5 1, 3) := by decide +kernel
theorem dX12_order_106 : decode cX12_order 106 = .ok (.goto (-35), 3) := by decide +kernel
theorem dX12_order_109 : decode cX12_order 109 = .ok (.aload_n 0, 1) := by decide +kernel
theorem dX12_order_110 : decode cX12_order 110 = .ok (.iload 4, 2) := by decide +kernel
theorem dX12_order_112 : decode cX12_order 112 = .ok (.aload_n 0, 1) := by decide +kernel
theorem dX12_order_113 : decode cX12_order 113 = .ok (.getfield 146, 3) := by decide +kernel
theorem dX12_order_116 : decode cX12_order 116 = .ok (.if_icmp .ge 8, 3) := by decide +kernel
theorem dX12_order_119 : decode cX12_order 119 = .ok (.iload 4, 2) := by decide +kernel
theorem dX12_order_121 : decode cX12_order 121 = .ok (.goto 7, 3) := by decide +kernel
theorem dX12_order_124 : decode cX12_order 124 = .ok (.aload_n 0, 1) := by decide +kernel
theorem dX12_order_125 : decode cX12_order 125 = .ok (.getfield 146, 3) := by decide +kernel
theorem dX12_order_128 : decode cX12_order 128 = .ok (.putfield 146, 3) := by decide +kernel
theorem dX12_order_131 : decode cX12_order 131 = .ok (.iinc 3 1, 3) := by decide +kernel
theorem dX12_order_134 : decode cX12_order 134 = .ok (.goto (-85), 3) := by decide +kernel
theorem dX12_order_137 : decode cX12_order 137 = .ok (.iload_n 1, 1) := by decide +kernel
theorem dX12_order_138 : decode cX12_order 138 = .ok (.iconst (-1), 1) := by decide +kernel
theorem dX12_order_139 : decode cX12_order 139 = .ok (.if_icmp .ne 10, 3) := by decide +kernel
theorem dX12_order_142 : decode cX12_order 142 = .ok (.aload_n 0, 1) := by decide +kernel
theorem dX12_order_143 : decode cX12_order 143 = .ok (.getfield 146, 3) := by decide +kernel
theorem dX12_order_146 : decode cX12_order 146 = .ok (.goto 22, 3) := by decide +kernel
theorem dX12_order_149 : decode cX12_order 149 = .ok (.iload_n 1, 1) := by decide +kernel
theorem dX12_order_150 : decode cX12_order 150 = .ok (.aload_n 0, 1) := by decide +kernel
theorem dX12_order_151 : decode cX12_order 151 = .ok (.invokevirtual 133, 3) := by decide +kernel
theorem dX12_order_154 : decode cX12_order 154 = .ok (.if_icmp .ge 12, 3) := by decide +kernel
theorem dX12_order_157 : decode cX12_order 157 = .ok (.aload_n 0, 1) := by decide +kernel
theorem dX12_order_158 : decode cX12_order 158 = .ok (.getfield 33, 3) := by decide +kernel
theorem dX12_order_161 : decode cX12_order 161 = .ok (.iload_n 1, 1) := by decide +kernel
theorem dX12_order_162 : decode cX12_order 162 = .ok (.iaload, 1) := by decide +kernel
theorem dX12_order_163 : decode cX12_order 163 = .ok (.goto 5, 3) := by decide +kernel
theorem dX12_order_166 : decode cX12_order 166 = .ok (.bipush (-5), 2) := by decide +kernel
theorem dX12_order_168 : decode cX12_order 168 = .ok (.ireturn, 1) := by decide +kernel
theorem dX12_findFar_0 : decode cX12_findFar 0 = .ok (.iconst 0, 1) := by decide +kernel
theorem dX12_findFar_1 : decode cX12_findFar 1 = .ok (.istore_n 2, 1) := by decide +kernel
theorem dX12_findFar_2 : decode cX12_findFar 2 = .ok (.iload_n 2, 1) := by decide +kernel
theorem dX12_findFar_3 : decode cX12_findFar 3 = .ok (.bipush 32, 2) := by decide +kernel
theorem dX12_findFar_5 : decode cX12_findFar 5 = .ok (.if_icmp .ge 26, 3) := by decide +kernel
theorem dX12_findFar_8 : decode cX12_findFar 8 = .ok (.aload_n 0, 1) := by decide +kernel
theorem dX12_findFar_9 : decode cX12_findFar 9 = .ok (.getfield 36, 3) := by decide +kernel
theorem dX12_findFar_12 : decode cX12_findFar 12 = .ok (.iload_n 2, 1) := by decide +kernel
theorem dX12_findFar_13 : decode cX12_findFar 13 = .ok (.iload_n 2, 1) := by decide +kernel
theorem dX12_findFar_14 : decode cX12_findFar 14 = .ok (.iload_n 1, 1) := by decide +kernel
theorem dX12_findFar_15 : decode cX12_findFar 15 = .ok (.if_icmp .ne 7, 3) := by decide +kernel
theorem dX12_findFar_18 : decode cX12_findFar 18 = .ok (.iconst 0, 1) := by decide +kernel
theorem dX12_findFar_19 : decode cX12_findFar 19 = .ok (.goto 5, 3) := by decide +kernel
theorem dX12_findFar_22 : decode cX12_findFar 22 = .ok (.ldc 145, 2) := by decide +kernel
theorem dX12_findFar_24 : decode cX12_findFar 24 = .ok (.iastore, 1) := by decide +kernel
theorem dX12_findFar_25 : decode cX12_findFar 25 = .ok (.iinc 2 1, 3) := by decide +kernel
theorem dX12_findFar_28 : decode cX12_findFar 28 = .ok (.goto (-26), 3) := by decide +kernel
theorem dX12_findFar_31 : decode cX12_findFar 31 = .ok (.iconst 1, 1) := by decide +kernel
theorem dX12_findFar_32 : decode cX12_findFar 32 = .ok (.istore_n 2, 1) := by decide +kernel
theorem dX12_findFar_33 : decode cX12_findFar 33 = .ok (.iload_n 2, 1) := by decide +kernel
theorem dX12_findFar_34 : decode cX12_findFar 34 = .ok (.ifCond .eq 79, 3) := by decide +kernel
theorem dX12_findFar_37 : decode cX12_findFar 37 = .ok (.iconst 0, 1) := by decide +kernel
theorem dX12_findFar_38 : decode cX12_findFar 38 = .ok (.istore_n 2, 1) := by decide +kernel
theorem dX12_findFar_39 : decode cX12_findFar 39 = .ok (.iconst 0, 1) := by decide +kernel
theorem dX12_findFar_40 : decode cX12_findFar 40 = .ok (.istore_n 3, 1) := by decide +kernel
theorem dX12_findFar_41 : decode cX12_findFar 41 = .ok (.iload_n 3, 1) := by decide +kernel
theorem dX12_findFar_42 : decode cX12_findFar 42 = .ok (.aload_n 0, 1) := by decide +kernel
theorem dX12_findFar_43 : decode cX12_findFar 43 = .ok (.invokevirtual 155, 3) := by decide +kernel
theorem dX12_findFar_46 : decode cX12_findFar 46 = .ok (.if_icmp .gt 64, 3) := by decide +kernel
theorem dX12_findFar_49 : decode cX12_findFar 49 = .ok (.iconst 0, 1) := by decide +kernel
theorem dX12_findFar_50 : decode cX12_findFar 50 = .ok (.istore 4, 2) := by decide +kernel
theorem dX12_findFar_52 : decode cX12_findFar 52 = .ok (.iload 4, 2) := by decide +kernel
theorem dX12_findFar_54 : decode cX12_findFar 54 = .ok (.aload_n 0, 1) := by decide +kernel
theorem dX12_findFar_55 : decode cX12_findFar 55 = .ok (.invokevirtual 133, 3) := by decide +kernel
theorem dX12_findFar_58 : decode cX12_findFar 58 = .ok (.if_icmp .ge 46, 3) := by decide +kernel
theorem dX12_findFar_61 : decode cX12_findFar 61 = .ok (.aload_n 0, 1) := by decide +kernel
theorem dX12_findFar_62 : decode cX12_findFar 62 = .ok (.getfield 36, 3) := by decide +kernel
theorem dX12_findFar_65 : decode cX12_findFar 65 = .ok (.aload_n 0, 1) := by decide +kernel
theorem dX12_findFar_66 : decode cX12_findFar 66 = .ok (.iload 4, 2) := by decide +kernel
theorem dX12_findFar_68 : decode cX12_findFar 68 = .ok (.iload_n 3, 1) := by decide +kernel
theorem dX12_findFar_69 : decode cX12_findFar 69 = .ok (.invokevirtual 139, 3) := by decide +kernel
theorem dX12_findFar_72 : decode cX12_findFar 72 = .ok (.iaload, 1) := by decide +kernel
theorem dX12_findFar_73 : decode cX12_findFar 73 = .ok (.iconst 1, 1) := by decide +kernel
theorem dX12_findFar_74 : decode cX12_findFar 74 = .ok (.iadd, 1) := by decide +kernel
theorem dX12_findFar_75 : decode cX12_findFar 75 = .ok (.istore 5, 2) := by decide +kernel
theorem dX12_findFar_77 : decode cX12_findFar 77 = .ok (.iload 5, 2) := by decide +kernel
theorem dX12_findFar_79 : decode cX12_findFar 79 = .ok (.aload_n 0, 1) := by decide +kernel
theorem dX12_findFar_80 : decode cX12_findFar 80 = .ok (.getfield 36, 3) := by decide +kernel
theorem dX12_findFar_83 : decode cX12_findFar 83 = .ok (.iload_n 3, 1) := by decide +kernel
theorem dX12_findFar_84 : decode cX12_findFar 84 = .ok (.iaload, 1) := by decide +kernel
theorem dX12_findFar_85 : decode cX12_findFar 85 = .ok (.if_icmp .ge 13, 3) := by decide +kernel
theorem dX12_findFar_88 : decode cX12_findFar 88 = .ok (.aload_n 0, 1) := by decide +kernel
theorem dX12_findFar_89 : decode cX12_findFar 89 = .ok (.getfield 36, 3) := by decide +kernel
theorem dX12_findFar_92 : decode cX12_findFar 92 = .ok (.iload_n 3, 1) := by decide +kernel
theorem dX12_findFar_93 : decode cX12_findFar 93 = .ok (.iload 5, 2) := by decide +kernel
theorem dX12_findFar_95 : decode cX12_findFar 95 = .ok (.iastore, 1) := by decide +kernel
theorem dX12_findFar_96 : decode cX12_findFar 96 = .ok (.iconst 1, 1) := by decide +kernel
theorem dX12_findFar_97 : decode cX12_findFar 97 = .ok (.istore_n 2, 1) := by decide +kernel
theorem dX12_findFar_98 : decode cX12_findFar 98 = .ok (.iinc 4 1, 3) := by decide +kernel
theorem dX12_findFar_101 : decode cX12_findFar 101 = .ok (.goto (-49), 3) := by decide +kernel
theorem dX12_findFar_104 : decode cX12_findFar 104 = .ok (.iinc 3 1, 3) := by decide +kernel
theorem dX12_findFar_107 : decode cX12_findFar 107 = .ok (.goto (-66), 3) := by decide +kernel
theorem dX12_findFar_110 : decode cX12_findFar 110 = .ok (.goto (-77), 3) := by decide +kernel
theorem dX12_findFar_113 : decode cX12_findFar 113 = .ok (.return_, 1) := by decide +kernel
theorem dX12_isSet_0 : decode cX12_isSet 0 = .ok (.iload_n 1, 1) := by decide +kernel
theorem dX12_isSet_1 : decode cX12_isSet 1 = .ok (.i2l, 1) := by decide +kernel
theorem dX12_isSet_2 : decode cX12_isSet 2 = .ok (.lconst 0, 1) := by decide +kernel
theorem dX12_isSet_3 : decode cX12_isSet 3 = .ok (.aload_n 0, 1) := by decide +kernel
theorem dX12_isSet_4 : decode cX12_isSet 4 = .ok (.invokevirtual 155, 3) := by decide +kernel
theorem dX12_isSet_7 : decode cX12_isSet 7 = .ok (.i2l, 1) := by decide +kernel
theorem dX12_isSet_8 : decode cX12_isSet 8 = .ok (.invokestatic 52, 3) := by decide +kernel
theorem dX12_isSet_11 : decode cX12_isSet 11 = .ok (.ireturn, 1) := by decide +kernel
theorem dX12_code_0 : decode cX12_code 0 = .ok (.aload_n 0, 1) := by decide +kernel
theorem dX12_code_1 : decode cX12_code 1 = .ok (.iload_n 1, 1) := by decide +kernel
theorem dX12_code_2 : decode cX12_code 2 = .ok (.invokevirtual 158, 3) := by decide +kernel
theorem dX12_code_5 : decode cX12_code 5 = .ok (.ifCond .eq 8, 3) := by decide +kernel
theorem dX12_code_8 : decode cX12_code 8 = .ok (.iload_n 2, 1) := by decide +kernel
theorem dX12_code_9 : decode cX12_code 9 = .ok (.iconst (-1), 1) := by decide +kernel
theorem dX12_code_10 : decode cX12_code 10 = .ok (.if_icmp .ge 10, 3) := by decide +kernel
theorem dX12_code_13 : decode cX12_code 13 = .ok (.aload_n 0, 1) := by decide +kernel
theorem dX12_code_14 : decode cX12_code 14 = .ok (.bipush (-10), 2) := by decide +kernel
theorem dX12_code_16 : decode cX12_code 16 = .ok (.invokevirtual 60, 3) := by decide +kernel
theorem dX12_code_19 : decode cX12_code 19 = .ok (.ireturn, 1) := by decide +kernel
theorem dX12_code_20 : decode cX12_code 20 = .ok (.aload_n 0, 1) := by decide +kernel
theorem dX12_code_21 : decode cX12_code 21 = .ok (.invokevirtual 123, 3) := by decide +kernel
theorem dX12_code_24 : decode cX12_code 24 = .ok (.aload_n 0, 1) := by decide +kernel
theorem dX12_code_25 : decode cX12_code 25 = .ok (.iload_n 1, 1) := by decide +kernel
theorem dX12_code_26 : decode cX12_code 26 = .ok (.invokevirtual 161, 3) := by decide +kernel
theorem dX12_code_29 : decode cX12_code 29 = .ok (.aload_n 0, 1) := by decide +kernel
theorem dX12_code_30 : decode cX12_code 30 = .ok (.getfield 7, 3) := by decide +kernel
theorem dX12_code_33 : decode cX12_code 33 = .ok (.bipush 27, 2) := by decide +kernel
theorem dX12_code_35 : decode cX12_code 35 = .ok (.iaload, 1) := by decide +kernel
theorem dX12_code_36 : decode cX12_code 36 = .ok (.istore_n 3, 1) := by decide +kernel
theorem dX12_code_37 : decode cX12_code 37 = .ok (.aload_n 0, 1) := by decide +kernel
theorem dX12_code_38 : decode cX12_code 38 = .ok (.getfield 36, 3) := by decide +kernel
theorem dX12_code_41 : decode cX12_code 41 = .ok (.iload_n 3, 1) := by decide +kernel
theorem dX12_code_42 : decode cX12_code 42 = .ok (.iaload, 1) := by decide +kernel
theorem dX12_code_43 : decode cX12_code 43 = .ok (.istore 4, 2) := by decide +kernel
theorem dX12_code_45 : decode cX12_code 45 = .ok (.iload 4, 2) := by decide +kernel
theorem dX12_code_47 : decode cX12_code 47 = .ok (.ldc 145, 2) := by decide +kernel
theorem dX12_code_49 : decode cX12_code 49 = .ok (.if_icmp .lt 5, 3) := by decide +kernel
theorem dX12_code_52 : decode cX12_code 52 = .ok (.iconst (-1), 1) := by decide +kernel
theorem dX12_code_53 : decode cX12_code 53 = .ok (.ireturn, 1) := by decide +kernel
theorem dX12_code_54 : decode cX12_code 54 = .ok (.iload_n 2, 1) := by decide +kernel
theorem dX12_code_55 : decode cX12_code 55 = .ok (.iconst (-1), 1) := by decide +kernel
theorem dX12_code_56 : decode cX12_code 56 = .ok (.if_icmp .ne 6, 3) := by decide +kernel
theorem dX12_code_59 : decode cX12_code 59 = .ok (.iload 4, 2) := by decide +kernel
theorem dX12_code_61 : decode cX12_code 61 = .ok (.ireturn, 1) := by decide +kernel
theorem dX12_code_62 : decode cX12_code 62 = .ok (.iload_n 2, 1) := by decide +kernel
theorem dX12_code_63 : decode cX12_code 63 = .ok (.iload 4, 2) := by decide +kernel
theorem dX12_code_65 : decode cX12_code 65 = .ok (.if_icmp .lt 6, 3) := by decide +kernel
theorem dX12_code_68 : decode cX12_code 68 = .ok (.bipush (-5), 2) := by decide +kernel
theorem dX12_code_70 : decode cX12_code 70 = .ok (.ireturn, 1) := by decide +kernel
theorem dX12_code_71 : decode cX12_code 71 = .ok (.iconst 0, 1) := by decide +kernel
theorem dX12_code_72 : decode cX12_code 72 = .ok (.istore 5, 2) := by decide +kernel
theorem dX12_code_74 : decode cX12_code 74 = .ok (.iconst 0, 1) := by decide +kernel
theorem dX12_code_75 : decode cX12_code 75 = .ok (.istore 6, 2) := by decide +kernel
theorem dX12_code_77 : decode cX12_code 77 = .ok (.iload 6, 2) := by decide +kernel
theorem dX12_code_79 : decode cX12_code 79 = .ok (.iload_n 2, 1) := by decide +kernel
theorem dX12_code_80 : decode cX12_code 80 = .ok (.if_icmp .gt 49, 3) := by decide +kernel
theorem dX12_code_83 : decode cX12_code 83 = .ok (.iconst 0, 1) := by decide +kernel
theorem dX12_code_84 : decode cX12_code 84 = .ok (.istore 5, 2) := by decide +kernel
theorem dX12_code_86 : decode cX12_code 86 = .ok (.aload_n 0, 1) := by decide +kernel
theorem dX12_code_87 : decode cX12_code 87 = .ok (.getfield 36, 3) := by decide +kernel
theorem dX12_code_90 : decode cX12_code 90 = .ok (.aload_n 0, 1) := by decide +kernel
theorem dX12_code_91 : decode cX12_code 91 = .ok (.iload 5, 2) := by decide +kernel
theorem dX12_code_93 : decode cX12_code 93 = .ok (.iload_n 3, 1) := by decide +kernel
theorem dX12_code_94 : decode cX12_code 94 = .ok (.invokevirtual 139, 3) := by decide +kernel
theorem dX12_code_97 : decode cX12_code 97 = .ok (.iaload, 1) := by decide +kernel
theorem dX12_code_98 : decode cX12_code 98 = .ok (.aload_n 0, 1) := by decide +kernel
theorem dX12_code_99 : decode cX12_code 99 = .ok (.getfield 36, 3) := by decide +kernel
theorem dX12_code_102 : decode cX12_code 102 = .ok (.iload_n 3, 1) := by decide +kernel
theorem dX12_code_103 : decode cX12_code 103 = .ok (.iaload, 1) := by decide +kernel
theorem dX12_code_104 : decode cX12_code 104 = .ok (.iconst 1, 1) := by decide +kernel
theorem dX12_code_105 : decode cX12_code 105 = .ok (.isub, 1) := by decide +kernel
theorem dX12_code_106 : decode cX12_code 106 = .ok (.if_icmp .eq 9, 3) := by decide +kernel
theorem dX12_code_109 : decode cX12_code 109 = .ok (.iinc 5 1, 3) := by decide +kernel
theorem dX12_code_112 : decode cX12_code 112 = .ok (.goto (-26), 3) := by decide +kernel
theorem dX12_code_115 : decode cX12_code 115 = .ok (.aload_n 0, 1) := by decide +kernel
theorem dX12_code_116 : decode cX12_code 116 = .ok (.iload 5, 2) := by decide +kernel
theorem dX12_code_118 : decode cX12_code 118 = .ok (.iload_n 3, 1) := by decide +kernel
theorem dX12_code_119 : decode cX12_code 119 = .ok (.invokevirtual 139, 3) := by decide +kernel
theorem dX12_code_122 : decode cX12_code 122 = .ok (.istore_n 3, 1) := by decide +kernel
theorem dX12_code_123 : decode cX12_code 123 = .ok (.iinc 6 1, 3) := by decide +kernel
theorem dX12_code_126 : decode cX12_code 126 = .ok (.goto (-49), 3) := by decide +kernel
theorem dX12_code_129 : decode cX12_code 129 = .ok (.iload 5, 2) := by decide +kernel
theorem dX12_code_131 : decode cX12_code 131 = .ok (.ireturn, 1) := by decide +kernel
theorem dX12_who_0 : decode cX12_who 0 = .ok (.aload_n 0, 1) := by decide +kernel
theorem dX12_who_1 : decode cX12_who 1 = .ok (.iload_n 1, 1) := by decide +kernel
theorem dX12_who_2 : decode cX12_who 2 = .ok (.invokevirtual 158, 3) := by decide +kernel
theorem dX12_who_5 : decode cX12_who 5 = .ok (.ifCond .eq 13, 3) := by decide +kernel
theorem dX12_who_8 : decode cX12_who 8 = .ok (.iload_n 2, 1) := by decide +kernel
theorem dX12_who_9 : decode cX12_who 9 = .ok (.i2l, 1) := by decide +kernel
theorem dX12_who_10 : decode cX12_who 10 = .ok (.lconst 0, 1) := by decide +kernel
theorem dX12_who_11 : decode cX12_who 11 = .ok (.lconst 1, 1) := by decide +kernel
theorem dX12_who_12 : decode cX12_who 12 = .ok (.invokestatic 52, 3) := by decide +kernel
theorem dX12_who_15 : decode cX12_who 15 = .ok (.ifCond .ne 10, 3) := by decide +kernel
theorem dX12_who_18 : decode cX12_who 18 = .ok (.aload_n 0, 1) := by decide +kernel
theorem dX12_who_19 : decode cX12_who 19 = .ok (.bipush (-10), 2) := by decide +kernel
theorem dX12_who_21 : decode cX12_who 21 = .ok (.invokevirtual 60, 3) := by decide +kernel
theorem dX12_who_24 : decode cX12_who 24 = .ok (.ireturn, 1) := by decide +kernel
theorem dX12_who_25 : decode cX12_who 25 = .ok (.aload_n 0, 1) := by decide +kernel
theorem dX12_who_26 : decode cX12_who 26 = .ok (.invokevirtual 123, 3) := by decide +kernel
theorem dX12_who_29 : decode cX12_who 29 = .ok (.iconst 0, 1) := by decide +kernel
theorem dX12_who_30 : decode cX12_who 30 = .ok (.istore_n 3, 1) := by decide +kernel
theorem dX12_who_31 : decode cX12_who 31 = .ok (.iconst (-1), 1) := by decide +kernel
theorem dX12_who_32 : decode cX12_who 32 = .ok (.istore 4, 2) := by decide +kernel
theorem dX12_who_34 : decode cX12_who 34 = .ok (.iconst 0, 1) := by decide +kernel
theorem dX12_who_35 : decode cX12_who 35 = .ok (.istore 5, 2) := by decide +kernel
theorem dX12_who_37 : decode cX12_who 37 = .ok (.iload 5, 2) := by decide +kernel
theorem dX12_who_39 : decode cX12_who 39 = .ok (.iconst 1, 1) := by decide +kernel
theorem dX12_who_40 : decode cX12_who 40 = .ok (.aload_n 0, 1) := by decide +kernel
theorem dX12_who_41 : decode cX12_who 41 = .ok (.invokevirtual 133, 3) := by decide +kernel
theorem dX12_who_44 : decode cX12_who 44 = .ok (.ishl, 1) := by decide +kernel
theorem dX12_who_45 : decode cX12_who 45 = .ok (.if_icmp .ge 84, 3) := by decide +kernel
theorem dX12_who_48 : decode cX12_who 48 = .ok (.aload_n 0, 1) := by decide +kernel
theorem dX12_who_49 : decode cX12_who 49 = .ok (.getfield 7, 3) := by decide +kernel
theorem dX12_who_52 : decode cX12_who 52 = .ok (.bipush 27, 2) := by decide +kernel
theorem dX12_who_54 : decode cX12_who 54 = .ok (.iaload, 1) := by decide +kernel
theorem dX12_who_55 : decode cX12_who 55 = .ok (.istore 6, 2) := by decide +kernel
theorem dX12_who_57 : decode cX12_who 57 = .ok (.iconst 0, 1) := by decide +kernel
theorem dX12_who_58 : decode cX12_who 58 = .ok (.istore 7, 2) := by decide +kernel
theorem dX12_who_60 : decode cX12_who 60 = .ok (.iload 7, 2) := by decide +kernel
theorem dX12_who_62 : decode cX12_who 62 = .ok (.aload_n 0, 1) := by decide +kernel
theorem dX12_who_63 : decode cX12_who 63 = .ok (.invokevirtual 133, 3) := by decide +kernel
theorem dX12_who_66 : decode cX12_who 66 = .ok (.if_icmp .ge 35, 3) := by decide +kernel
theorem dX12_who_69 : decode cX12_who 69 = .ok (.iload 5, 2) := by decide +kernel
theorem dX12_who_71 : decode cX12_who 71 = .ok (.iload 7, 2) := by decide +kernel
theorem dX12_who_73 : decode cX12_who 73 = .ok (.ishr, 1) := by decide +kernel
theorem dX12_who_74 : decode cX12_who 74 = .ok (.iconst 1, 1) := by decide +kernel
theorem dX12_who_75 : decode cX12_who 75 = .ok (.iand, 1) := by decide +kernel
theorem dX12_who_76 : decode cX12_who 76 = .ok (.iconst 1, 1) := by decide +kernel
theorem dX12_who_77 : decode cX12_who 77 = .ok (.if_icmp .ne 14, 3) := by decide +kernel
theorem dX12_who_80 : decode cX12_who 80 = .ok (.aload_n 0, 1) := by decide +kernel
theorem dX12_who_81 : decode cX12_who 81 = .ok (.iload 7, 2) := by decide +kernel
theorem dX12_who_83 : decode cX12_who 83 = .ok (.iload 6, 2) := by decide +kernel
theorem dX12_who_85 : decode cX12_who 85 = .ok (.invokevirtual 139, 3) := by decide +kernel
theorem dX12_who_88 : decode cX12_who 88 = .ok (.goto 5, 3) := by decide +kernel
theorem dX12_who_91 : decode cX12_who 91 = .ok (.iload 6, 2) := by decide +kernel
theorem dX12_who_93 : decode cX12_who 93 = .ok (.istore 6, 2) := by decide +kernel
theorem dX12_who_95 : decode cX12_who 95 = .ok (.iinc 7 1, 3) := by decide +kernel
theorem dX12_who_98 : decode cX12_who 98 = .ok (.goto (-38), 3) := by decide +kernel
theorem dX12_who_101 : decode cX12_who 101 = .ok (.iload 6, 2) := by decide +kernel
theorem dX12_who_103 : decode cX12_who 103 = .ok (.iload_n 1, 1) := by decide +kernel
theorem dX12_who_104 : decode cX12_who 104 = .ok (.if_icmp .ne 19, 3) := by decide +kernel
theorem dX12_who_107 : decode cX12_who 107 = .ok (.iload_n 3, 1) := by decide +kernel
theorem dX12_who_108 : decode cX12_who 108 = .ok (.ifCond .ne 8, 3) := by decide +kernel
theorem dX12_who_111 : decode cX12_who 111 = .ok (.iload 5, 2) := by decide +kernel
theorem dX12_who_113 : decode cX12_who 113 = .ok (.goto 5, 3) := by decide +kernel
theorem dX12_who_116 : decode cX12_who 116 = .ok (.iload 4, 2) := by decide +kernel
theorem dX12_who_118 : decode cX12_who 118 = .ok (.istore 4, 2) := by decide +kernel
theorem dX12_who_120 : decode cX12_who 120 = .ok (.iinc 3 1, 3) := by decide +kernel
theorem dX12_who_123 : decode cX12_who 123 = .ok (.iinc 5 1, 3) := by decide +kernel
theorem dX12_who_126 : decode cX12_who 126 = .ok (.goto (-89), 3) := by decide +kernel
theorem dX12_who_129 : decode cX12_who 129 = .ok (.iload_n 2, 1) := by decide +kernel
theorem dX12_who_130 : decode cX12_who 130 = .ok (.ifCond .ne 7, 3) := by decide +kernel
theorem dX12_who_133 : decode cX12_who 133 = .ok (.iload_n 3, 1) := by decide +kernel
theorem dX12_who_134 : decode cX12_who 134 = .ok (.goto 5, 3) := by decide +kernel
theorem dX12_who_137 : decode cX12_who 137 = .ok (.iload 4, 2) := by decide +kernel
theorem dX12_who_139 : decode cX12_who 139 = .ok (.ireturn, 1) := by decide +kernel
theorem dX12_heard_0 : decode cX12_heard 0 = .ok (.iload_n 1, 1) := by decide +kernel
theorem dX12_heard_1 : decode cX12_heard 1 = .ok (.ifCond .ge 10, 3) := by decide +kernel
theorem dX12_heard_4 : decode cX12_heard 4 = .ok (.aload_n 0, 1) := by decide +kernel
theorem dX12_heard_5 : decode cX12_heard 5 = .ok (.bipush (-2), 2) := by decide +kernel
theorem dX12_heard_7 : decode cX12_heard 7 = .ok (.invokevirtual 60, 3) := by decide +kernel
theorem dX12_heard_10 : decode cX12_heard 10 = .ok (.ireturn, 1) := by decide +kernel
theorem dX12_heard_11 : decode cX12_heard 11 = .ok (.aload_n 0, 1) := by decide +kernel
theorem dX12_heard_12 : decode cX12_heard 12 = .ok (.invokevirtual 123, 3) := by decide +kernel
theorem dX12_heard_15 : decode cX12_heard 15 = .ok (.iconst 0, 1) := by decide +kernel
theorem dX12_heard_16 : decode cX12_heard 16 = .ok (.istore_n 2, 1) := by decide +kernel
theorem dX12_heard_17 : decode cX12_heard 17 = .ok (.iconst 0, 1) := by decide +kernel
theorem dX12_heard_18 : decode cX12_heard 18 = .ok (.istore_n 3, 1) := by decide +kernel
theorem dX12_heard_19 : decode cX12_heard 19 = .ok (.iload_n 3, 1) := by decide +kernel
theorem dX12_heard_20 : decode cX12_heard 20 = .ok (.aload_n 0, 1) := by decide +kernel
theorem dX12_heard_21 : decode cX12_heard 21 = .ok (.invokevirtual 133, 3) := by decide +kernel
theorem dX12_heard_24 : decode cX12_heard 24 = .ok (.if_icmp .ge 57, 3) := by decide +kernel
theorem dX12_heard_27 : decode cX12_heard 27 = .ok (.aload_n 0, 1) := by decide +kernel
theorem dX12_heard_28 : decode cX12_heard 28 = .ok (.aload_n 0, 1) := by decide +kernel
theorem dX12_heard_29 : decode cX12_heard 29 = .ok (.getfield 7, 3) := by decide +kernel
theorem dX12_heard_32 : decode cX12_heard 32 = .ok (.bipush 29, 2) := by decide +kernel
theorem dX12_heard_34 : decode cX12_heard 34 = .ok (.iconst 2, 1) := by decide +kernel
theorem dX12_heard_35 : decode cX12_heard 35 = .ok (.iload_n 3, 1) := by decide +kernel
theorem dX12_heard_36 : decode cX12_heard 36 = .ok (.imul, 1) := by decide +kernel
theorem dX12_heard_37 : decode cX12_heard 37 = .ok (.iadd, 1) := by decide +kernel
theorem dX12_heard_38 : decode cX12_heard 38 = .ok (.iaload, 1) := by decide +kernel
theorem dX12_heard_39 : decode cX12_heard 39 = .ok (.aload_n 0, 1) := by decide +kernel
theorem dX12_heard_40 : decode cX12_heard 40 = .ok (.getfield 7, 3) := by decide +kernel
theorem dX12_heard_43 : decode cX12_heard 43 = .ok (.bipush 29, 2) := by decide +kernel
theorem dX12_heard_45 : decode cX12_heard 45 = .ok (.iconst 2, 1) := by decide +kernel
theorem dX12_heard_46 : decode cX12_heard 46 = .ok (.iload_n 3, 1) := by decide +kernel
theorem dX12_heard_47 : decode cX12_heard 47 = .ok (.imul, 1) := by decide +kernel
theorem dX12_heard_48 : decode cX12_heard 48 = .ok (.iadd, 1) := by decide +kernel
theorem dX12_heard_49 : decode cX12_heard 49 = .ok (.iconst 1, 1) := by decide +kernel
theorem dX12_heard_50 : decode cX12_heard 50 = .ok (.iadd, 1) := by decide +kernel
theorem dX12_heard_51 : decode cX12_heard 51 = .ok (.iaload, 1) := by decide +kernel
theorem dX12_heard_52 : decode cX12_heard 52 = .ok (.invokevirtual 126, 3) := by decide +kernel
theorem dX12_heard_55 : decode cX12_heard 55 = .ok (.iload_n 2, 1) := by decide +kernel
theorem dX12_heard_56 : decode cX12_heard 56 = .ok (.aload_n 0, 1) := by decide +kernel
theorem dX12_heard_57 : decode cX12_heard 57 = .ok (.invokevirtual 108, 3) := by decide +kernel
theorem dX12_heard_60 : decode cX12_heard 60 = .ok (.iconst 3, 1) := by decide +kernel
theorem dX12_heard_61 : decode cX12_heard 61 = .ok (.idiv, 1) := by decide +kernel
theorem dX12_heard_62 : decode cX12_heard 62 = .ok (.iload_n 1, 1) := by decide +kernel
theorem dX12_heard_63 : decode cX12_heard 63 = .ok (.if_icmp .ne 9, 3) := by decide +kernel
theorem dX12_heard_66 : decode cX12_heard 66 = .ok (.iconst 1, 1) := by decide +kernel
theorem dX12_heard_67 : decode cX12_heard 67 = .ok (.iload_n 3, 1) := by decide +kernel
theorem dX12_heard_68 : decode cX12_heard 68 = .ok (.ishl, 1) := by decide +kernel
theorem dX12_heard_69 : decode cX12_heard 69 = .ok (.goto 4, 3) := by decide +kernel
theorem dX12_heard_72 : decode cX12_heard 72 = .ok (.iconst 0, 1) := by decide +kernel
theorem dX12_heard_73 : decode cX12_heard 73 = .ok (.ior, 1) := by decide +kernel
theorem dX12_heard_74 : decode cX12_heard 74 = .ok (.istore_n 2, 1) := by decide +kernel
theorem dX12_heard_75 : decode cX12_heard 75 = .ok (.iinc 3 1, 3) := by decide +kernel
theorem dX12_heard_78 : decode cX12_heard 78 = .ok (.goto (-59), 3) := by decide +kernel
theorem dX12_heard_81 : decode cX12_heard 81 = .ok (.iload_n 2, 1) := by decide +kernel
theorem dX12_heard_82 : decode cX12_heard 82 = .ok (.ireturn, 1) := by decide +kernel
theorem dX12_cuts_0 : decode cX12_cuts 0 = .ok (.aload_n 0, 1) := by decide +kernel
theorem dX12_cuts_1 : decode cX12_cuts 1 = .ok (.iload_n 1, 1) := by decide +kernel
theorem dX12_cuts_2 : decode cX12_cuts 2 = .ok (.invokevirtual 158, 3) := by decide +kernel
theorem dX12_cuts_5 : decode cX12_cuts 5 = .ok (.ifCond .ne 10, 3) := by decide +kernel
theorem dX12_cuts_8 : decode cX12_cuts 8 = .ok (.aload_n 0, 1) := by decide +kernel
theorem dX12_cuts_9 : decode cX12_cuts 9 = .ok (.bipush (-10), 2) := by decide +kernel
theorem dX12_cuts_11 : decode cX12_cuts 11 = .ok (.invokevirtual 60, 3) := by decide +kernel
theorem dX12_cuts_14 : decode cX12_cuts 14 = .ok (.ireturn, 1) := by decide +kernel
theorem dX12_cuts_15 : decode cX12_cuts 15 = .ok (.aload_n 0, 1) := by decide +kernel
theorem dX12_cuts_16 : decode cX12_cuts 16 = .ok (.invokevirtual 123, 3) := by decide +kernel
theorem dX12_cuts_19 : decode cX12_cuts 19 = .ok (.iconst (-1), 1) := by decide +kernel
theorem dX12_cuts_20 : decode cX12_cuts 20 = .ok (.istore_n 2, 1) := by decide +kernel
theorem dX12_cuts_21 : decode cX12_cuts 21 = .ok (.aload_n 0, 1) := by decide +kernel
theorem dX12_cuts_22 : decode cX12_cuts 22 = .ok (.getfield 89, 3) := by decide +kernel
theorem dX12_cuts_25 : decode cX12_cuts 25 = .ok (.istore_n 3, 1) := by decide +kernel
theorem dX12_cuts_26 : decode cX12_cuts 26 = .ok (.iconst 0, 1) := by decide +kernel
theorem dX12_cuts_27 : decode cX12_cuts 27 = .ok (.istore 4, 2) := by decide +kernel
theorem dX12_cuts_29 : decode cX12_cuts 29 = .ok (.iload 4, 2) := by decide +kernel
theorem dX12_cuts_31 : decode cX12_cuts 31 = .ok (.bipush 32, 2) := by decide +kernel
theorem dX12_cuts_33 : decode cX12_cuts 33 = .ok (.if_icmp .ge 122, 3) := by decide +kernel
theorem dX12_cuts_36 : decode cX12_cuts 36 = .ok (.iload 4, 2) := by decide +kernel
theorem dX12_cuts_38 : decode cX12_cuts 38 = .ok (.iload_n 3, 1) := by decide +kernel
theorem dX12_cuts_39 : decode cX12_cuts 39 = .ok (.iconst (-1), 1) := by decide +kernel
theorem dX12_cuts_40 : decode cX12_cuts 40 = .ok (.ixor, 1) := by decide +kernel
theorem dX12_cuts_41 : decode cX12_cuts 41 = .ok (.iand, 1) := by decide +kernel
theorem dX12_cuts_42 : decode cX12_cuts 42 = .ok (.ifCond .ne 24, 3) := by decide +kernel
theorem dX12_cuts_45 : decode cX12_cuts 45 = .ok (.iload_n 2, 1) := by decide +kernel
theorem dX12_cuts_46 : decode cX12_cuts 46 = .ok (.iconst (-1), 1) := by decide +kernel
theorem dX12_cuts_47 : decode cX12_cuts 47 = .ok (.if_icmp .eq 15, 3) := by decide +kernel
theorem dX12_cuts_50 : decode cX12_cuts 50 = .ok (.iload 4, 2) := by decide +kernel
theorem dX12_cuts_52 : decode cX12_cuts 52 = .ok (.invokestatic 136, 3) := by decide +kernel
theorem dX12_cuts_55 : decode cX12_cuts 55 = .ok (.iload_n 2, 1) := by decide +kernel
theorem dX12_cuts_56 : decode cX12_cuts 56 = .ok (.invokestatic 136, 3) := by decide +kernel
theorem dX12_cuts_59 : decode cX12_cuts 59 = .ok (.if_icmp .ge 7, 3) := by decide +kernel
theorem dX12_cuts_62 : decode cX12_cuts 62 = .ok (.iconst 1, 1) := by decide +kernel
theorem dX12_cuts_63 : decode cX12_cuts 63 = .ok (.goto 4, 3) := by decide +kernel
theorem dX12_cuts_66 : decode cX12_cuts 66 = .ok (.iconst 0, 1) := by decide +kernel
theorem dX12_cuts_67 : decode cX12_cuts 67 = .ok (.istore 5, 2) := by decide +kernel
theorem dX12_cuts_69 : decode cX12_cuts 69 = .ok (.aload_n 0, 1) := by decide +kernel
theorem dX12_cuts_70 : decode cX12_cuts 70 = .ok (.iload_n 3, 1) := by decide +kernel
theorem dX12_cuts_71 : decode cX12_cuts 71 = .ok (.iload 4, 2) := by decide +kernel
theorem dX12_cuts_73 : decode cX12_cuts 73 = .ok (.iconst (-1), 1) := by decide +kernel
theorem dX12_cuts_74 : decode cX12_cuts 74 = .ok (.ixor, 1) := by decide +kernel
theorem dX12_cuts_75 : decode cX12_cuts 75 = .ok (.iand, 1) := by decide +kernel
theorem dX12_cuts_76 : decode cX12_cuts 76 = .ok (.putfield 89, 3) := by decide +kernel
theorem dX12_cuts_79 : decode cX12_cuts 79 = .ok (.iconst 0, 1) := by decide +kernel
theorem dX12_cuts_80 : decode cX12_cuts 80 = .ok (.istore 6, 2) := by decide +kernel
theorem dX12_cuts_82 : decode cX12_cuts 82 = .ok (.iload 6, 2) := by decide +kernel
theorem dX12_cuts_84 : decode cX12_cuts 84 = .ok (.aload_n 0, 1) := by decide +kernel
theorem dX12_cuts_85 : decode cX12_cuts 85 = .ok (.invokevirtual 133, 3) := by decide +kernel
theorem dX12_cuts_88 : decode cX12_cuts 88 = .ok (.if_icmp .ge 49, 3) := by decide +kernel
theorem dX12_cuts_91 : decode cX12_cuts 91 = .ok (.iload 5, 2) := by decide +kernel
theorem dX12_cuts_93 : decode cX12_cuts 93 = .ok (.ifCond .eq 44, 3) := by decide +kernel
theorem dX12_cuts_96 : decode cX12_cuts 96 = .ok (.aload_n 0, 1) := by decide +kernel
theorem dX12_cuts_97 : decode cX12_cuts 97 = .ok (.iload 6, 2) := by decide +kernel
theorem dX12_cuts_99 : decode cX12_cuts 99 = .ok (.aload_n 0, 1) := by decide +kernel
theorem dX12_cuts_100 : decode cX12_cuts 100 = .ok (.getfield 7, 3) := by decide +kernel
theorem dX12_cuts_103 : decode cX12_cuts 103 = .ok (.bipush 27, 2) := by decide +kernel
theorem dX12_cuts_105 : decode cX12_cuts 105 = .ok (.iaload, 1) := by decide +kernel
theorem dX12_cuts_106 : decode cX12_cuts 106 = .ok (.invokevirtual 139, 3) := by decide +kernel
theorem dX12_cuts_109 : decode cX12_cuts 109 = .ok (.aload_n 0, 1) := by decide +kernel
theorem dX12_cuts_110 : decode cX12_cuts 110 = .ok (.getfield 7, 3) := by decide +kernel
theorem dX12_cuts_113 : decode cX12_cuts 113 = .ok (.bipush 27, 2) := by decide +kernel
theorem dX12_cuts_115 : decode cX12_cuts 115 = .ok (.iaload, 1) := by decide +kernel
theorem dX12_cuts_116 : decode cX12_cuts 116 = .ok (.iconst (-1), 1) := by decide +kernel
theorem dX12_cuts_117 : decode cX12_cuts 117 = .ok (.ixor, 1) := by decide +kernel
theorem dX12_cuts_118 : decode cX12_cuts 118 = .ok (.iand, 1) := by decide +kernel
theorem dX12_cuts_119 : decode cX12_cuts 119 = .ok (.iload_n 1, 1) := by decide +kernel
theorem dX12_cuts_120 : decode cX12_cuts 120 = .ok (.iand, 1) := by decide +kernel
theorem dX12_cuts_121 : decode cX12_cuts 121 = .ok (.ifCond .ne 7, 3) := by decide +kernel
theorem dX12_cuts_124 : decode cX12_cuts 124 = .ok (.iconst 1, 1) := by decide +kernel
theorem dX12_cuts_125 : decode cX12_cuts 125 = .ok (.goto 4, 3) := by decide +kernel
theorem dX12_cuts_128 : decode cX12_cuts 128 = .ok (.iconst 0, 1) := by decide +kernel
theorem dX12_cuts_129 : decode cX12_cuts 129 = .ok (.istore 5, 2) := by decide +kernel
theorem dX12_cuts_131 : decode cX12_cuts 131 = .ok (.iinc 6 1, 3) := by decide +kernel
theorem dX12_cuts_134 : decode cX12_cuts 134 = .ok (.goto (-52), 3) := by decide +kernel
theorem dX12_cuts_137 : decode cX12_cuts 137 = .ok (.iload 5, 2) := by decide +kernel
theorem dX12_cuts_139 : decode cX12_cuts 139 = .ok (.ifCond .eq 8, 3) := by decide +kernel
theorem dX12_cuts_142 : decode cX12_cuts 142 = .ok (.iload 4, 2) := by decide +kernel
theorem dX12_cuts_144 : decode cX12_cuts 144 = .ok (.goto 4, 3) := by decide +kernel
theorem dX12_cuts_147 : decode cX12_cuts 147 = .ok (.iload_n 2, 1) := by decide +kernel
theorem dX12_cuts_148 : decode cX12_cuts 148 = .ok (.istore_n 2, 1) := by decide +kernel
theorem dX12_cuts_149 : decode cX12_cuts 149 = .ok (.iinc 4 1, 3) := by decide +kernel
theorem dX12_cuts_152 : decode cX12_cuts 152 = .ok (.goto (-123), 3) := by decide +kernel
theorem dX12_cuts_155 : decode cX12_cuts 155 = .ok (.iload_n 2, 1) := by decide +kernel
theorem dX12_cuts_156 : decode cX12_cuts 156 = .ok (.ireturn, 1) := by decide +kernel
theorem dX12_rules_0 : decode cX12_rules 0 = .ok (.aload_n 0, 1) := by decide +kernel
theorem dX12_rules_1 : decode cX12_rules 1 = .ok (.getfield 7, 3) := by decide +kernel
theorem dX12_rules_4 : decode cX12_rules 4 = .ok (.bipush 39, 2) := by decide +kernel
theorem dX12_rules_6 : decode cX12_rules 6 = .ok (.iaload, 1) := by decide +kernel
theorem dX12_rules_7 : decode cX12_rules 7 = .ok (.ireturn, 1) := by decide +kernel
theorem dX12_rule_0 : decode cX12_rule 0 = .ok (.aload_n 0, 1) := by decide +kernel
theorem dX12_rule_1 : decode cX12_rule 1 = .ok (.iload_n 1, 1) := by decide +kernel
theorem dX12_rule_2 : decode cX12_rule 2 = .ok (.iload_n 2, 1) := by decide +kernel
theorem dX12_rule_3 : decode cX12_rule 3 = .ok (.invokevirtual 119, 3) := by decide +kernel
theorem dX12_rule_6 : decode cX12_rule 6 = .ok (.ifCond .eq 11, 3) := by decide +kernel
theorem dX12_rule_9 : decode cX12_rule 9 = .ok (.aload_n 0, 1) := by decide +kernel
theorem dX12_rule_10 : decode cX12_rule 10 = .ok (.iload_n 3, 1) := by decide +kernel
theorem dX12_rule_11 : decode cX12_rule 11 = .ok (.invokevirtual 158, 3) := by decide +kernel
theorem dX12_rule_14 : decode cX12_rule 14 = .ok (.ifCond .ne 10, 3) := by decide +kernel
theorem dX12_rule_17 : decode cX12_rule 17 = .ok (.aload_n 0, 1) := by decide +kernel
theorem dX12_rule_18 : decode cX12_rule 18 = .ok (.bipush (-2), 2) := by decide +kernel
theorem dX12_rule_20 : decode cX12_rule 20 = .ok (.invokevirtual 60, 3) := by decide +kernel
theorem dX12_rule_23 : decode cX12_rule 23 = .ok (.ireturn, 1) := by decide +kernel
theorem dX12_rule_24 : decode cX12_rule 24 = .ok (.aload_n 0, 1) := by decide +kernel
theorem dX12_rule_25 : decode cX12_rule 25 = .ok (.invokevirtual 164, 3) := by decide +kernel
theorem dX12_rule_28 : decode cX12_rule 28 = .ok (.istore 4, 2) := by decide +kernel
theorem dX12_rule_30 : decode cX12_rule 30 = .ok (.iload 4, 2) := by decide +kernel
theorem dX12_rule_32 : decode cX12_rule 32 = .ok (.iconst 4, 1) := by decide +kernel
theorem dX12_rule_33 : decode cX12_rule 33 = .ok (.if_icmp .ne 8, 3) := by decide +kernel
theorem dX12_rule_36 : decode cX12_rule 36 = .ok (.aload_n 0, 1) := by decide +kernel
theorem dX12_rule_37 : decode cX12_rule 37 = .ok (.invokevirtual 64, 3) := by decide +kernel
theorem dX12_rule_40 : decode cX12_rule 40 = .ok (.ireturn, 1) := by decide +kernel
theorem dX12_rule_41 : decode cX12_rule 41 = .ok (.aload_n 0, 1) := by decide +kernel
theorem dX12_rule_42 : decode cX12_rule 42 = .ok (.getfield 7, 3) := by decide +kernel
theorem dX12_rule_45 : decode cX12_rule 45 = .ok (.iload_n 1, 1) := by decide +kernel
theorem dX12_rule_46 : decode cX12_rule 46 = .ok (.iload_n 2, 1) := by decide +kernel
theorem dX12_rule_47 : decode cX12_rule 47 = .ok (.iload_n 3, 1) := by decide +kernel
theorem dX12_rule_48 : decode cX12_rule 48 = .ok (.invokestatic 167, 3) := by decide +kernel
theorem dX12_rule_51 : decode cX12_rule 51 = .ok (.iload 4, 2) := by decide +kernel
theorem dX12_rule_53 : decode cX12_rule 53 = .ok (.ireturn, 1) := by decide +kernel
theorem dX12_layRule_0 : decode cX12_layRule 0 = .ok (.bipush 40, 2) := by decide +kernel
theorem dX12_layRule_2 : decode cX12_layRule 2 = .ok (.iconst 3, 1) := by decide +kernel
theorem dX12_layRule_3 : decode cX12_layRule 3 = .ok (.aload_n 0, 1) := by decide +kernel
theorem dX12_layRule_4 : decode cX12_layRule 4 = .ok (.bipush 39, 2) := by decide +kernel
theorem dX12_layRule_6 : decode cX12_layRule 6 = .ok (.iaload, 1) := by decide +kernel
theorem dX12_layRule_7 : decode cX12_layRule 7 = .ok (.imul, 1) := by decide +kernel
theorem dX12_layRule_8 : decode cX12_layRule 8 = .ok (.iadd, 1) := by decide +kernel
theorem dX12_layRule_9 : decode cX12_layRule 9 = .ok (.istore 4, 2) := by decide +kernel
theorem dX12_layRule_11 : decode cX12_layRule 11 = .ok (.aload_n 0, 1) := by decide +kernel
theorem dX12_layRule_12 : decode cX12_layRule 12 = .ok (.iload 4, 2) := by decide +kernel
theorem dX12_layRule_14 : decode cX12_layRule 14 = .ok (.iload_n 1, 1) := by decide +kernel
theorem dX12_layRule_15 : decode cX12_layRule 15 = .ok (.iastore, 1) := by decide +kernel
theorem dX12_layRule_16 : decode cX12_layRule 16 = .ok (.aload_n 0, 1) := by decide +kernel
theorem dX12_layRule_17 : decode cX12_layRule 17 = .ok (.iload 4, 2) := by decide +kernel
theorem dX12_layRule_19 : decode cX12_layRule 19 = .ok (.iconst 1, 1) := by decide +kernel
theorem dX12_layRule_20 : decode cX12_layRule 20 = .ok (.iadd, 1) := by decide +kernel
theorem dX12_layRule_21 : decode cX12_layRule 21 = .ok (.iload_n 2, 1) := by decide +kernel
theorem dX12_layRule_22 : decode cX12_layRule 22 = .ok (.iastore, 1) := by decide +kernel
theorem dX12_layRule_23 : decode cX12_layRule 23 = .ok (.aload_n 0, 1) := by decide +kernel
theorem dX12_layRule_24 : decode cX12_layRule 24 = .ok (.iload 4, 2) := by decide +kernel
theorem dX12_layRule_26 : decode cX12_layRule 26 = .ok (.iconst 2, 1) := by decide +kernel
theorem dX12_layRule_27 : decode cX12_layRule 27 = .ok (.iadd, 1) := by decide +kernel
theorem dX12_layRule_28 : decode cX12_layRule 28 = .ok (.iload_n 3, 1) := by decide +kernel
theorem dX12_layRule_29 : decode cX12_layRule 29 = .ok (.iastore, 1) := by decide +kernel
theorem dX12_layRule_30 : decode cX12_layRule 30 = .ok (.aload_n 0, 1) := by decide +kernel
theorem dX12_layRule_31 : decode cX12_layRule 31 = .ok (.bipush 39, 2) := by decide +kernel
theorem dX12_layRule_33 : decode cX12_layRule 33 = .ok (.dup2, 1) := by decide +kernel
theorem dX12_layRule_34 : decode cX12_layRule 34 = .ok (.iaload, 1) := by decide +kernel
theorem dX12_layRule_35 : decode cX12_layRule 35 = .ok (.iconst 1, 1) := by decide +kernel
theorem dX12_layRule_36 : decode cX12_layRule 36 = .ok (.iadd, 1) := by decide +kernel
theorem dX12_layRule_37 : decode cX12_layRule 37 = .ok (.iastore, 1) := by decide +kernel
theorem dX12_layRule_38 : decode cX12_layRule 38 = .ok (.return_, 1) := by decide +kernel
theorem dX12_free_0 : decode cX12_free 0 = .ok (.aload_n 0, 1) := by decide +kernel
theorem dX12_free_1 : decode cX12_free 1 = .ok (.invokevirtual 164, 3) := by decide +kernel
theorem dX12_free_4 : decode cX12_free 4 = .ok (.istore_n 1, 1) := by decide +kernel
theorem dX12_free_5 : decode cX12_free 5 = .ok (.aload_n 0, 1) := by decide +kernel
theorem dX12_free_6 : decode cX12_free 6 = .ok (.getfield 7, 3) := by decide +kernel
theorem dX12_free_9 : decode cX12_free 9 = .ok (.bipush 39, 2) := by decide +kernel
theorem dX12_free_11 : decode cX12_free 11 = .ok (.iconst 0, 1) := by decide +kernel
theorem dX12_free_12 : decode cX12_free 12 = .ok (.iastore, 1) := by decide +kernel
theorem dX12_free_13 : decode cX12_free 13 = .ok (.iload_n 1, 1) := by decide +kernel
theorem dX12_free_14 : decode cX12_free 14 = .ok (.ireturn, 1) := by decide +kernel
theorem dX12_isSo_0 : decode cX12_isSo 0 = .ok (.iconst 1, 1) := by decide +kernel
theorem dX12_isSo_1 : decode cX12_isSo 1 = .ok (.istore_n 2, 1) := by decide +kernel
theorem dX12_isSo_2 : decode cX12_isSo 2 = .ok (.iconst 0, 1) := by decide +kernel
theorem dX12_isSo_3 : decode cX12_isSo 3 = .ok (.istore_n 3, 1) := by decide +kernel
theorem dX12_isSo_4 : decode cX12_isSo 4 = .ok (.iload_n 3, 1) := by decide +kernel
theorem dX12_isSo_5 : decode cX12_isSo 5 = .ok (.aload_n 0, 1) := by decide +kernel
theorem dX12_isSo_6 : decode cX12_isSo 6 = .ok (.invokevirtual 164, 3) := by decide +kernel
theorem dX12_isSo_9 : decode cX12_isSo 9 = .ok (.if_icmp .ge 77, 3) := by decide +kernel
theorem dX12_isSo_12 : decode cX12_isSo 12 = .ok (.iload_n 2, 1) := by decide +kernel
theorem dX12_isSo_13 : decode cX12_isSo 13 = .ok (.ifCond .eq 73, 3) := by decide +kernel
theorem dX12_isSo_16 : decode cX12_isSo 16 = .ok (.aload_n 0, 1) := by decide +kernel
theorem dX12_isSo_17 : decode cX12_isSo 17 = .ok (.aload_n 0, 1) := by decide +kernel
theorem dX12_isSo_18 : decode cX12_isSo 18 = .ok (.getfield 7, 3) := by decide +kernel
theorem dX12_isSo_21 : decode cX12_isSo 21 = .ok (.bipush 40, 2) := by decide +kernel
theorem dX12_isSo_23 : decode cX12_isSo 23 = .ok (.iconst 3, 1) := by decide +kernel
theorem dX12_isSo_24 : decode cX12_isSo 24 = .ok (.iload_n 3, 1) := by decide +kernel
theorem dX12_isSo_25 : decode cX12_isSo 25 = .ok (.imul, 1) := by decide +kernel
theorem dX12_isSo_26 : decode cX12_isSo 26 = .ok (.iadd, 1) := by decide +kernel
theorem dX12_isSo_27 : decode cX12_isSo 27 = .ok (.iaload, 1) := by decide +kernel
theorem dX12_isSo_28 : decode cX12_isSo 28 = .ok (.aload_n 0, 1) := by decide +kernel
theorem dX12_isSo_29 : decode cX12_isSo 29 = .ok (.getfield 7, 3) := by decide +kernel
theorem dX12_isSo_32 : decode cX12_isSo 32 = .ok (.bipush 40, 2) := by decide +kernel
theorem dX12_isSo_34 : decode cX12_isSo 34 = .ok (.iconst 3, 1) := by decide +kernel
theorem dX12_isSo_35 : decode cX12_isSo 35 = .ok (.iload_n 3, 1) := by decide +kernel
theorem dX12_isSo_36 : decode cX12_isSo 36 = .ok (.imul, 1) := by decide +kernel
theorem dX12_isSo_37 : decode cX12_isSo 37 = .ok (.iadd, 1) := by decide +kernel
theorem dX12_isSo_38 : decode cX12_isSo 38 = .ok (.iconst 1, 1) := by decide +kernel
theorem dX12_isSo_39 : decode cX12_isSo 39 = .ok (.iadd, 1) := by decide +kernel
theorem dX12_isSo_40 : decode cX12_isSo 40 = .ok (.iaload, 1) := by decide +kernel
theorem dX12_isSo_41 : decode cX12_isSo 41 = .ok (.invokevirtual 126, 3) := by decide +kernel
theorem dX12_isSo_44 : decode cX12_isSo 44 = .ok (.iload_n 1, 1) := by decide +kernel
theorem dX12_isSo_45 : decode cX12_isSo 45 = .ok (.iload_n 3, 1) := by decide +kernel
theorem dX12_isSo_46 : decode cX12_isSo 46 = .ok (.ishr, 1) := by decide +kernel
theorem dX12_isSo_47 : decode cX12_isSo 47 = .ok (.iconst 1, 1) := by decide +kernel
theorem dX12_isSo_48 : decode cX12_isSo 48 = .ok (.iand, 1) := by decide +kernel
theorem dX12_isSo_49 : decode cX12_isSo 49 = .ok (.iconst 1, 1) := by decide +kernel
theorem dX12_isSo_50 : decode cX12_isSo 50 = .ok (.if_icmp .eq 24, 3) := by decide +kernel
theorem dX12_isSo_53 : decode cX12_isSo 53 = .ok (.aload_n 0, 1) := by decide +kernel
theorem dX12_isSo_54 : decode cX12_isSo 54 = .ok (.iconst 0, 1) := by decide +kernel
theorem dX12_isSo_55 : decode cX12_isSo 55 = .ok (.invokevirtual 114, 3) := by decide +kernel
theorem dX12_isSo_58 : decode cX12_isSo 58 = .ok (.aload_n 0, 1) := by decide +kernel
theorem dX12_isSo_59 : decode cX12_isSo 59 = .ok (.getfield 7, 3) := by decide +kernel
theorem dX12_isSo_62 : decode cX12_isSo 62 = .ok (.bipush 40, 2) := by decide +kernel
theorem dX12_isSo_64 : decode cX12_isSo 64 = .ok (.iconst 3, 1) := by decide +kernel
theorem dX12_isSo_65 : decode cX12_isSo 65 = .ok (.iload_n 3, 1) := by decide +kernel
theorem dX12_isSo_66 : decode cX12_isSo 66 = .ok (.imul, 1) := by decide +kernel
theorem dX12_isSo_67 : decode cX12_isSo 67 = .ok (.iadd, 1) := by decide +kernel
theorem dX12_isSo_68 : decode cX12_isSo 68 = .ok (.iconst 2, 1) := by decide +kernel
theorem dX12_isSo_69 : decode cX12_isSo 69 = .ok (.iadd, 1) := by decide +kernel
theorem dX12_isSo_70 : decode cX12_isSo 70 = .ok (.iaload, 1) := by decide +kernel
theorem dX12_isSo_71 : decode cX12_isSo 71 = .ok (.if_icmp .ne 7, 3) := by decide +kernel
theorem dX12_isSo_74 : decode cX12_isSo 74 = .ok (.iconst 1, 1) := by decide +kernel
theorem dX12_isSo_75 : decode cX12_isSo 75 = .ok (.goto 4, 3) := by decide +kernel
theorem dX12_isSo_78 : decode cX12_isSo 78 = .ok (.iconst 0, 1) := by decide +kernel
theorem dX12_isSo_79 : decode cX12_isSo 79 = .ok (.istore_n 2, 1) := by decide +kernel
theorem dX12_isSo_80 : decode cX12_isSo 80 = .ok (.iinc 3 1, 3) := by decide +kernel
theorem dX12_isSo_83 : decode cX12_isSo 83 = .ok (.goto (-79), 3) := by decide +kernel
theorem dX12_isSo_86 : decode cX12_isSo 86 = .ok (.iload_n 2, 1) := by decide +kernel
theorem dX12_isSo_87 : decode cX12_isSo 87 = .ok (.ireturn, 1) := by decide +kernel
theorem dX12_findSlacks_0 : decode cX12_findSlacks 0 = .ok (.aload_n 0, 1) := by decide +kernel
theorem dX12_findSlacks_1 : decode cX12_findSlacks 1 = .ok (.aload_n 0, 1) := by decide +kernel
theorem dX12_findSlacks_2 : decode cX12_findSlacks 2 = .ok (.invokevirtual 155, 3) := by decide +kernel
theorem dX12_findSlacks_5 : decode cX12_findSlacks 5 = .ok (.putfield 89, 3) := by decide +kernel
theorem dX12_findSlacks_8 : decode cX12_findSlacks 8 = .ok (.iconst 1, 1) := by decide +kernel
theorem dX12_findSlacks_9 : decode cX12_findSlacks 9 = .ok (.istore_n 2, 1) := by decide +kernel
theorem dX12_findSlacks_10 : decode cX12_findSlacks 10 = .ok (.iconst 0, 1) := by decide +kernel
theorem dX12_findSlacks_11 : decode cX12_findSlacks 11 = .ok (.istore_n 3, 1) := by decide +kernel
theorem dX12_findSlacks_12 : decode cX12_findSlacks 12 = .ok (.iload_n 3, 1) := by decide +kernel
theorem dX12_findSlacks_13 : decode cX12_findSlacks 13 = .ok (.aload_n 0, 1) := by decide +kernel
theorem dX12_findSlacks_14 : decode cX12_findSlacks 14 = .ok (.invokevirtual 48, 3) := by decide +kernel
theorem dX12_findSlacks_17 : decode cX12_findSlacks 17 = .ok (.if_icmp .ge 14, 3) := by decide +kernel
theorem dX12_findSlacks_20 : decode cX12_findSlacks 20 = .ok (.iload_n 2, 1) := by decide +kernel
theorem dX12_findSlacks_21 : decode cX12_findSlacks 21 = .ok (.bipush 10, 2) := by decide +kernel
theorem dX12_findSlacks_23 : decode cX12_findSlacks 23 = .ok (.imul, 1) := by decide +kernel
theorem dX12_findSlacks_24 : decode cX12_findSlacks 24 = .ok (.istore_n 2, 1) := by decide +kernel
theorem dX12_findSlacks_25 : decode cX12_findSlacks 25 = .ok (.iinc 3 1, 3) := by decide +kernel
theorem dX12_findSlacks_28 : decode cX12_findSlacks 28 = .ok (.goto (-16), 3) := by decide +kernel
theorem dX12_findSlacks_31 : decode cX12_findSlacks 31 = .ok (.iconst 0, 1) := by decide +kernel
theorem dX12_findSlacks_32 : decode cX12_findSlacks 32 = .ok (.istore_n 3, 1) := by decide +kernel
theorem dX12_findSlacks_33 : decode cX12_findSlacks 33 = .ok (.iload_n 3, 1) := by decide +kernel
theorem dX12_findSlacks_34 : decode cX12_findSlacks 34 = .ok (.iload_n 2, 1) := by decide +kernel
theorem dX12_findSlacks_35 : decode cX12_findSlacks 35 = .ok (.if_icmp .ge 60, 3) := by decide +kernel
theorem dX12_findSlacks_38 : decode cX12_findSlacks 38 = .ok (.iload_n 3, 1) := by decide +kernel
theorem dX12_findSlacks_39 : decode cX12_findSlacks 39 = .ok (.istore 4, 2) := by decide +kernel
theorem dX12_findSlacks_41 : decode cX12_findSlacks 41 = .ok (.aload_n 0, 1) := by decide +kernel
theorem dX12_findSlacks_42 : decode cX12_findSlacks 42 = .ok (.invokevirtual 48, 3) := by decide +kernel
theorem dX12_findSlacks_45 : decode cX12_findSlacks 45 = .ok (.iconst 1, 1) := by decide +kernel
theorem dX12_findSlacks_46 : decode cX12_findSlacks 46 = .ok (.isub, 1) := by decide +kernel
theorem dX12_findSlacks_47 : decode cX12_findSlacks 47 = .ok (.istore 5, 2) := by decide +kernel
theorem dX12_findSlacks_49 : decode cX12_findSlacks 49 = .ok (.iload 5, 2) := by decide +kernel
theorem dX12_findSlacks_51 : decode cX12_findSlacks 51 = .ok (.ifCond .lt 28, 3) := by decide +kernel
theorem dX12_findSlacks_54 : decode cX12_findSlacks 54 = .ok (.aload_n 0, 1) := by decide +kernel
theorem dX12_findSlacks_55 : decode cX12_findSlacks 55 = .ok (.getfield 27, 3) := by decide +kernel
theorem dX12_findSlacks_58 : decode cX12_findSlacks 58 = .ok (.iload 5, 2) := by decide +kernel
theorem dX12_findSlacks_60 : decode cX12_findSlacks 60 = .ok (.iload 4, 2) := by decide +kernel
theorem dX12_findSlacks_62 : decode cX12_findSlacks 62 = .ok (.bipush 10, 2) := by decide +kernel
theorem dX12_findSlacks_64 : decode cX12_findSlacks 64 = .ok (.irem, 1) := by decide +kernel
theorem dX12_findSlacks_65 : decode cX12_findSlacks 65 = .ok (.iastore, 1) := by decide +kernel
theorem dX12_findSlacks_66 : decode cX12_findSlacks 66 = .ok (.iload 4, 2) := by decide +kernel
theorem dX12_findSlacks_68 : decode cX12_findSlacks 68 = .ok (.bipush 10, 2) := by decide +kernel
theorem dX12_findSlacks_70 : decode cX12_findSlacks 70 = .ok (.idiv, 1) := by decide +kernel
theorem dX12_findSlacks_71 : decode cX12_findSlacks 71 = .ok (.istore 4, 2) := by decide +kernel
theorem dX12_findSlacks_73 : decode cX12_findSlacks 73 = .ok (.iinc 5 (-1), 3) := by decide +kernel
theorem dX12_findSlacks_76 : decode cX12_findSlacks 76 = .ok (.goto (-27), 3) := by decide +kernel
theorem dX12_findSlacks_79 : decode cX12_findSlacks 79 = .ok (.aload_n 0, 1) := by decide +kernel
theorem dX12_findSlacks_80 : decode cX12_findSlacks 80 = .ok (.iload_n 1, 1) := by decide +kernel
theorem dX12_findSlacks_81 : decode cX12_findSlacks 81 = .ok (.invokevirtual 171, 3) := by decide +kernel
theorem dX12_findSlacks_84 : decode cX12_findSlacks 84 = .ok (.ifCond .eq 5, 3) := by decide +kernel
theorem dX12_findSlacks_87 : decode cX12_findSlacks 87 = .ok (.iconst 1, 1) := by decide +kernel
theorem dX12_findSlacks_88 : decode cX12_findSlacks 88 = .ok (.ireturn, 1) := by decide +kernel
theorem dX12_findSlacks_89 : decode cX12_findSlacks 89 = .ok (.iinc 3 1, 3) := by decide +kernel
theorem dX12_findSlacks_92 : decode cX12_findSlacks 92 = .ok (.goto (-59), 3) := by decide +kernel
theorem dX12_findSlacks_95 : decode cX12_findSlacks 95 = .ok (.iconst 0, 1) := by decide +kernel
theorem dX12_findSlacks_96 : decode cX12_findSlacks 96 = .ok (.ireturn, 1) := by decide +kernel
theorem dX12_slack_0 : decode cX12_slack 0 = .ok (.aload_n 0, 1) := by decide +kernel
theorem dX12_slack_1 : decode cX12_slack 1 = .ok (.iload_n 1, 1) := by decide +kernel
theorem dX12_slack_2 : decode cX12_slack 2 = .ok (.invokevirtual 71, 3) := by decide +kernel
theorem dX12_slack_5 : decode cX12_slack 5 = .ok (.ifCond .ne 10, 3) := by decide +kernel
theorem dX12_slack_8 : decode cX12_slack 8 = .ok (.aload_n 0, 1) := by decide +kernel
theorem dX12_slack_9 : decode cX12_slack 9 = .ok (.bipush (-10), 2) := by decide +kernel
theorem dX12_slack_11 : decode cX12_slack 11 = .ok (.invokevirtual 60, 3) := by decide +kernel
theorem dX12_slack_14 : decode cX12_slack 14 = .ok (.ireturn, 1) := by decide +kernel
theorem dX12_slack_15 : decode cX12_slack 15 = .ok (.aload_n 0, 1) := by decide +kernel
theorem dX12_slack_16 : decode cX12_slack 16 = .ok (.iconst 0, 1) := by decide +kernel
theorem dX12_slack_17 : decode cX12_slack 17 = .ok (.invokevirtual 174, 3) := by decide +kernel
theorem dX12_slack_20 : decode cX12_slack 20 = .ok (.ifCond .eq 12, 3) := by decide +kernel
theorem dX12_slack_23 : decode cX12_slack 23 = .ok (.aload_n 0, 1) := by decide +kernel
theorem dX12_slack_24 : decode cX12_slack 24 = .ok (.getfield 27, 3) := by decide +kernel
theorem dX12_slack_27 : decode cX12_slack 27 = .ok (.iload_n 1, 1) := by decide +kernel
theorem dX12_slack_28 : decode cX12_slack 28 = .ok (.iaload, 1) := by decide +kernel
theorem dX12_slack_29 : decode cX12_slack 29 = .ok (.goto 4, 3) := by decide +kernel
theorem dX12_slack_32 : decode cX12_slack 32 = .ok (.iconst (-1), 1) := by decide +kernel
theorem dX12_slack_33 : decode cX12_slack 33 = .ok (.ireturn, 1) := by decide +kernel
theorem dX12_giveUp_0 : decode cX12_giveUp 0 = .ok (.iconst 1, 1) := by decide +kernel
theorem dX12_giveUp_1 : decode cX12_giveUp 1 = .ok (.aload_n 0, 1) := by decide +kernel
theorem dX12_giveUp_2 : decode cX12_giveUp 2 = .ok (.invokevirtual 164, 3) := by decide +kernel
theorem dX12_giveUp_5 : decode cX12_giveUp 5 = .ok (.ishl, 1) := by decide +kernel
theorem dX12_giveUp_6 : decode cX12_giveUp 6 = .ok (.iconst 1, 1) := by decide +kernel
theorem dX12_giveUp_7 : decode cX12_giveUp 7 = .ok (.isub, 1) := by decide +kernel
theorem dX12_giveUp_8 : decode cX12_giveUp 8 = .ok (.istore_n 1, 1) := by decide +kernel
theorem dX12_giveUp_9 : decode cX12_giveUp 9 = .ok (.iconst 0, 1) := by decide +kernel
theorem dX12_giveUp_10 : decode cX12_giveUp 10 = .ok (.istore_n 2, 1) := by decide +kernel
theorem dX12_giveUp_11 : decode cX12_giveUp 11 = .ok (.iload_n 2, 1) := by decide +kernel
theorem dX12_giveUp_12 : decode cX12_giveUp 12 = .ok (.iconst 1, 1) := by decide +kernel
theorem dX12_giveUp_13 : decode cX12_giveUp 13 = .ok (.aload_n 0, 1) := by decide +kernel
theorem dX12_giveUp_14 : decode cX12_giveUp 14 = .ok (.invokevirtual 164, 3) := by decide +kernel
theorem dX12_giveUp_17 : decode cX12_giveUp 17 = .ok (.ishl, 1) := by decide +kernel
theorem dX12_giveUp_18 : decode cX12_giveUp 18 = .ok (.if_icmp .ge 42, 3) := by decide +kernel
theorem dX12_giveUp_21 : decode cX12_giveUp 21 = .ok (.iload_n 1, 1) := by decide +kernel
theorem dX12_giveUp_22 : decode cX12_giveUp 22 = .ok (.invokestatic 136, 3) := by decide +kernel
theorem dX12_giveUp_25 : decode cX12_giveUp 25 = .ok (.iload_n 2, 1) := by decide +kernel
theorem dX12_giveUp_26 : decode cX12_giveUp 26 = .ok (.invokestatic 136, 3) := by decide +kernel
theorem dX12_giveUp_29 : decode cX12_giveUp 29 = .ok (.isub, 1) := by decide +kernel
theorem dX12_giveUp_30 : decode cX12_giveUp 30 = .ok (.istore_n 3, 1) := by decide +kernel
theorem dX12_giveUp_31 : decode cX12_giveUp 31 = .ok (.iload_n 3, 1) := by decide +kernel
theorem dX12_giveUp_32 : decode cX12_giveUp 32 = .ok (.ifCond .gt 12, 3) := by decide +kernel
theorem dX12_giveUp_35 : decode cX12_giveUp 35 = .ok (.iload_n 3, 1) := by decide +kernel
theorem dX12_giveUp_36 : decode cX12_giveUp 36 = .ok (.ifCond .ne 18, 3) := by decide +kernel
theorem dX12_giveUp_39 : decode cX12_giveUp 39 = .ok (.iload_n 2, 1) := by decide +kernel
theorem dX12_giveUp_40 : decode cX12_giveUp 40 = .ok (.iload_n 1, 1) := by decide +kernel
theorem dX12_giveUp_41 : decode cX12_giveUp 41 = .ok (.if_icmp .ge 13, 3) := by decide +kernel
theorem dX12_giveUp_44 : decode cX12_giveUp 44 = .ok (.aload_n 0, 1) := by decide +kernel
theorem dX12_giveUp_45 : decode cX12_giveUp 45 = .ok (.iload_n 2, 1) := by decide +kernel
theorem dX12_giveUp_46 : decode cX12_giveUp 46 = .ok (.invokevirtual 174, 3) := by decide +kernel
theorem dX12_giveUp_49 : decode cX12_giveUp 49 = .ok (.ifCond .eq 5, 3) := by decide +kernel
theorem dX12_giveUp_52 : decode cX12_giveUp 52 = .ok (.iload_n 2, 1) := by decide +kernel
theorem dX12_giveUp_53 : decode cX12_giveUp 53 = .ok (.istore_n 1, 1) := by decide +kernel
theorem dX12_giveUp_54 : decode cX12_giveUp 54 = .ok (.iinc 2 1, 3) := by decide +kernel
theorem dX12_giveUp_57 : decode cX12_giveUp 57 = .ok (.goto (-46), 3) := by decide +kernel
theorem dX12_giveUp_60 : decode cX12_giveUp 60 = .ok (.iload_n 1, 1) := by decide +kernel
theorem dX12_giveUp_61 : decode cX12_giveUp 61 = .ok (.ireturn, 1) := by decide +kernel
theorem dX12_harmBy_0 : decode cX12_harmBy 0 = .ok (.aload_n 0, 1) := by decide +kernel
theorem dX12_harmBy_1 : decode cX12_harmBy 1 = .ok (.iload_n 1, 1) := by decide +kernel
theorem dX12_harmBy_2 : decode cX12_harmBy 2 = .ok (.putfield 89, 3) := by decide +kernel
theorem dX12_harmBy_5 : decode cX12_harmBy 5 = .ok (.iconst 0, 1) := by decide +kernel
theorem dX12_harmBy_6 : decode cX12_harmBy 6 = .ok (.istore_n 2, 1) := by decide +kernel
theorem dX12_harmBy_7 : decode cX12_harmBy 7 = .ok (.iconst 0, 1) := by decide +kernel
theorem dX12_harmBy_8 : decode cX12_harmBy 8 = .ok (.istore_n 3, 1) := by decide +kernel
theorem dX12_harmBy_9 : decode cX12_harmBy 9 = .ok (.iload_n 3, 1) := by decide +kernel
theorem dX12_harmBy_10 : decode cX12_harmBy 10 = .ok (.aload_n 0, 1) := by decide +kernel
theorem dX12_harmBy_11 : decode cX12_harmBy 11 = .ok (.invokevirtual 133, 3) := by decide +kernel
theorem dX12_harmBy_14 : decode cX12_harmBy 14 = .ok (.if_icmp .ge 22, 3) := by decide +kernel
theorem dX12_harmBy_17 : decode cX12_harmBy 17 = .ok (.iload_n 2, 1) := by decide +kernel
theorem dX12_harmBy_18 : decode cX12_harmBy 18 = .ok (.aload_n 0, 1) := by decide +kernel
theorem dX12_harmBy_19 : decode cX12_harmBy 19 = .ok (.aload_n 0, 1) := by decide +kernel
theorem dX12_harmBy_20 : decode cX12_harmBy 20 = .ok (.iload_n 3, 1) := by decide +kernel
theorem dX12_harmBy_21 : decode cX12_harmBy 21 = .ok (.iconst 0, 1) := by decide +kernel
theorem dX12_harmBy_22 : decode cX12_harmBy 22 = .ok (.invokevirtual 139, 3) := by decide +kernel
theorem dX12_harmBy_25 : decode cX12_harmBy 25 = .ok (.invokevirtual 142, 3) := by decide +kernel
theorem dX12_harmBy_28 : decode cX12_harmBy 28 = .ok (.iadd, 1) := by decide +kernel
theorem dX12_harmBy_29 : decode cX12_harmBy 29 = .ok (.istore_n 2, 1) := by decide +kernel
theorem dX12_harmBy_30 : decode cX12_harmBy 30 = .ok (.iinc 3 1, 3) := by decide +kernel
theorem dX12_harmBy_33 : decode cX12_harmBy 33 = .ok (.goto (-24), 3) := by decide +kernel
theorem dX12_harmBy_36 : decode cX12_harmBy 36 = .ok (.iload_n 2, 1) := by decide +kernel
theorem dX12_harmBy_37 : decode cX12_harmBy 37 = .ok (.ireturn, 1) := by decide +kernel
theorem dX12_factorial_0 : decode cX12_factorial 0 = .ok (.iconst 1, 1) := by decide +kernel
theorem dX12_factorial_1 : decode cX12_factorial 1 = .ok (.istore_n 1, 1) := by decide +kernel
theorem dX12_factorial_2 : decode cX12_factorial 2 = .ok (.iconst 2, 1) := by decide +kernel
theorem dX12_factorial_3 : decode cX12_factorial 3 = .ok (.istore_n 2, 1) := by decide +kernel
theorem dX12_factorial_4 : decode cX12_factorial 4 = .ok (.iload_n 2, 1) := by decide +kernel
theorem dX12_factorial_5 : decode cX12_factorial 5 = .ok (.iload_n 0, 1) := by decide +kernel
theorem dX12_factorial_6 : decode cX12_factorial 6 = .ok (.if_icmp .gt 13, 3) := by decide +kernel
theorem dX12_factorial_9 : decode cX12_factorial 9 = .ok (.iload_n 1, 1) := by decide +kernel
theorem dX12_factorial_10 : decode cX12_factorial 10 = .ok (.iload_n 2, 1) := by decide +kernel
theorem dX12_factorial_11 : decode cX12_factorial 11 = .ok (.imul, 1) := by decide +kernel
theorem dX12_factorial_12 : decode cX12_factorial 12 = .ok (.istore_n 1, 1) := by decide +kernel
theorem dX12_factorial_13 : decode cX12_factorial 13 = .ok (.iinc 2 1, 3) := by decide +kernel
theorem dX12_factorial_16 : decode cX12_factorial 16 = .ok (.goto (-12), 3) := by decide +kernel
theorem dX12_factorial_19 : decode cX12_factorial 19 = .ok (.iload_n 1, 1) := by decide +kernel
theorem dX12_factorial_20 : decode cX12_factorial 20 = .ok (.ireturn, 1) := by decide +kernel
theorem dX12_share_0 : decode cX12_share 0 = .ok (.aload_n 0, 1) := by decide +kernel
theorem dX12_share_1 : decode cX12_share 1 = .ok (.iload_n 1, 1) := by decide +kernel
theorem dX12_share_2 : decode cX12_share 2 = .ok (.invokevirtual 71, 3) := by decide +kernel
theorem dX12_share_5 : decode cX12_share 5 = .ok (.ifCond .ne 10, 3) := by decide +kernel
theorem dX12_share_8 : decode cX12_share 8 = .ok (.aload_n 0, 1) := by decide +kernel
theorem dX12_share_9 : decode cX12_share 9 = .ok (.bipush (-2), 2) := by decide +kernel
theorem dX12_share_11 : decode cX12_share 11 = .ok (.invokevirtual 60, 3) := by decide +kernel
theorem dX12_share_14 : decode cX12_share 14 = .ok (.ireturn, 1) := by decide +kernel
theorem dX12_share_15 : decode cX12_share 15 = .ok (.aload_n 0, 1) := by decide +kernel
theorem dX12_share_16 : decode cX12_share 16 = .ok (.invokevirtual 123, 3) := by decide +kernel
theorem dX12_share_19 : decode cX12_share 19 = .ok (.iconst 1, 1) := by decide +kernel
theorem dX12_share_20 : decode cX12_share 20 = .ok (.iload_n 1, 1) := by decide +kernel
theorem dX12_share_21 : decode cX12_share 21 = .ok (.ishl, 1) := by decide +kernel
theorem dX12_share_22 : decode cX12_share 22 = .ok (.istore_n 2, 1) := by decide +kernel
theorem dX12_share_23 : decode cX12_share 23 = .ok (.lconst 0, 1) := by decide +kernel
theorem dX12_share_24 : decode cX12_share 24 = .ok (.lstore_n 3, 1) := by decide +kernel
theorem dX12_share_25 : decode cX12_share 25 = .ok (.iconst 0, 1) := by decide +kernel
theorem dX12_share_26 : decode cX12_share 26 = .ok (.istore 5, 2) := by decide +kernel
theorem dX12_share_28 : decode cX12_share 28 = .ok (.iload 5, 2) := by decide +kernel
theorem dX12_share_30 : decode cX12_share 30 = .ok (.aload_n 0, 1) := by decide +kernel
theorem dX12_share_31 : decode cX12_share 31 = .ok (.invokevirtual 155, 3) := by decide +kernel
theorem dX12_share_34 : decode cX12_share 34 = .ok (.if_icmp .gt 67, 3) := by decide +kernel
theorem dX12_share_37 : decode cX12_share 37 = .ok (.iload 5, 2) := by decide +kernel
theorem dX12_share_39 : decode cX12_share 39 = .ok (.iload_n 2, 1) := by decide +kernel
theorem dX12_share_40 : decode cX12_share 40 = .ok (.iand, 1) := by decide +kernel
theorem dX12_share_41 : decode cX12_share 41 = .ok (.ifCond .ne 54, 3) := by decide +kernel
theorem dX12_share_44 : decode cX12_share 44 = .ok (.iload 5, 2) := by decide +kernel
theorem dX12_share_46 : decode cX12_share 46 = .ok (.invokestatic 136, 3) := by decide +kernel
theorem dX12_share_49 : decode cX12_share 49 = .ok (.istore 6, 2) := by decide +kernel
theorem dX12_share_51 : decode cX12_share 51 = .ok (.iload 6, 2) := by decide +kernel
theorem dX12_share_53 : decode cX12_share 53 = .ok (.invokestatic 177, 3) := by decide +kernel
theorem dX12_share_56 : decode cX12_share 56 = .ok (.i2l, 1) := by decide +kernel
theorem dX12_share_57 : decode cX12_share 57 = .ok (.aload_n 0, 1) := by decide +kernel
theorem dX12_share_58 : decode cX12_share 58 = .ok (.invokevirtual 48, 3) := by decide +kernel
theorem dX12_share_61 : decode cX12_share 61 = .ok (.iconst 1, 1) := by decide +kernel
theorem dX12_share_62 : decode cX12_share 62 = .ok (.isub, 1) := by decide +kernel
theorem dX12_share_63 : decode cX12_share 63 = .ok (.iload 6, 2) := by decide +kernel
theorem dX12_share_65 : decode cX12_share 65 = .ok (.isub, 1) := by decide +kernel
theorem dX12_share_66 : decode cX12_share 66 = .ok (.invokestatic 177, 3) := by decide +kernel
theorem dX12_share_69 : decode cX12_share 69 = .ok (.i2l, 1) := by decide +kernel
theorem dX12_share_70 : decode cX12_share 70 = .ok (.lmul, 1) := by decide +kernel
theorem dX12_share_71 : decode cX12_share 71 = .ok (.lstore 7, 2) := by decide +kernel
theorem dX12_share_73 : decode cX12_share 73 = .ok (.lload_n 3, 1) := by decide +kernel
theorem dX12_share_74 : decode cX12_share 74 = .ok (.lload 7, 2) := by decide +kernel
theorem dX12_share_76 : decode cX12_share 76 = .ok (.aload_n 0, 1) := by decide +kernel
theorem dX12_share_77 : decode cX12_share 77 = .ok (.iload 5, 2) := by decide +kernel
theorem dX12_share_79 : decode cX12_share 79 = .ok (.iload_n 2, 1) := by decide +kernel
theorem dX12_share_80 : decode cX12_share 80 = .ok (.ior, 1) := by decide +kernel
theorem dX12_share_81 : decode cX12_share 81 = .ok (.invokevirtual 180, 3) := by decide +kernel
theorem dX12_share_84 : decode cX12_share 84 = .ok (.aload_n 0, 1) := by decide +kernel
theorem dX12_share_85 : decode cX12_share 85 = .ok (.iload 5, 2) := by decide +kernel
theorem dX12_share_87 : decode cX12_share 87 = .ok (.invokevirtual 180, 3) := by decide +kernel
theorem dX12_share_90 : decode cX12_share 90 = .ok (.isub, 1) := by decide +kernel
theorem dX12_share_91 : decode cX12_share 91 = .ok (.i2l, 1) := by decide +kernel
theorem dX12_share_92 : decode cX12_share 92 = .ok (.lmul, 1) := by decide +kernel
theorem dX12_share_93 : decode cX12_share 93 = .ok (.ladd, 1) := by decide +kernel
theorem dX12_share_94 : decode cX12_share 94 = .ok (.lstore_n 3, 1) := by decide +kernel
theorem dX12_share_95 : decode cX12_share 95 = .ok (.iinc 5 1, 3) := by decide +kernel
theorem dX12_share_98 : decode cX12_share 98 = .ok (.goto (-70), 3) := by decide +kernel
theorem dX12_share_101 : decode cX12_share 101 = .ok (.lload_n 3, 1) := by decide +kernel
theorem dX12_share_102 : decode cX12_share 102 = .ok (.lconst 0, 1) := by decide +kernel
theorem dX12_share_103 : decode cX12_share 103 = .ok (.lcmp, 1) := by decide +kernel
theorem dX12_share_104 : decode cX12_share 104 = .ok (.ifCond .ge 8, 3) := by decide +kernel
theorem dX12_share_107 : decode cX12_share 107 = .ok (.lload_n 3, 1) := by decide +kernel
theorem dX12_share_108 : decode cX12_share 108 = .ok (.lneg, 1) := by decide +kernel
theorem dX12_share_109 : decode cX12_share 109 = .ok (.goto 4, 3) := by decide +kernel
theorem dX12_share_112 : decode cX12_share 112 = .ok (.lload_n 3, 1) := by decide +kernel
theorem dX12_share_113 : decode cX12_share 113 = .ok (.lstore 5, 2) := by decide +kernel
theorem dX12_share_115 : decode cX12_share 115 = .ok (.aload_n 0, 1) := by decide +kernel
theorem dX12_share_116 : decode cX12_share 116 = .ok (.invokevirtual 48, 3) := by decide +kernel
theorem dX12_share_119 : decode cX12_share 119 = .ok (.invokestatic 177, 3) := by decide +kernel
theorem dX12_share_122 : decode cX12_share 122 = .ok (.i2l, 1) := by decide +kernel
theorem dX12_share_123 : decode cX12_share 123 = .ok (.lstore 7, 2) := by decide +kernel
theorem dX12_share_125 : decode cX12_share 125 = .ok (.lload 7, 2) := by decide +kernel
theorem dX12_share_127 : decode cX12_share 127 = .ok (.lconst 0, 1) := by decide +kernel
theorem dX12_share_128 : decode cX12_share 128 = .ok (.lcmp, 1) := by decide +kernel
theorem dX12_share_129 : decode cX12_share 129 = .ok (.ifCond .eq 21, 3) := by decide +kernel
theorem dX12_share_132 : decode cX12_share 132 = .ok (.lload 5, 2) := by decide +kernel
theorem dX12_share_134 : decode cX12_share 134 = .ok (.lload 7, 2) := by decide +kernel
theorem dX12_share_136 : decode cX12_share 136 = .ok (.lrem, 1) := by decide +kernel
theorem dX12_share_137 : decode cX12_share 137 = .ok (.lstore 9, 2) := by decide +kernel
theorem dX12_share_139 : decode cX12_share 139 = .ok (.lload 7, 2) := by decide +kernel
theorem dX12_share_141 : decode cX12_share 141 = .ok (.lstore 5, 2) := by decide +kernel
theorem dX12_share_143 : decode cX12_share 143 = .ok (.lload 9, 2) := by decide +kernel
theorem dX12_share_145 : decode cX12_share 145 = .ok (.lstore 7, 2) := by decide +kernel
theorem dX12_share_147 : decode cX12_share 147 = .ok (.goto (-22), 3) := by decide +kernel
theorem dX12_share_150 : decode cX12_share 150 = .ok (.aload_n 0, 1) := by decide +kernel
theorem dX12_share_151 : decode cX12_share 151 = .ok (.lload_n 3, 1) := by decide +kernel
theorem dX12_share_152 : decode cX12_share 152 = .ok (.lload 5, 2) := by decide +kernel
theorem dX12_share_154 : decode cX12_share 154 = .ok (.ldiv, 1) := by decide +kernel
theorem dX12_share_155 : decode cX12_share 155 = .ok (.putfield 183, 3) := by decide +kernel
theorem dX12_share_158 : decode cX12_share 158 = .ok (.aload_n 0, 1) := by decide +kernel
theorem dX12_share_159 : decode cX12_share 159 = .ok (.aload_n 0, 1) := by decide +kernel
theorem dX12_share_160 : decode cX12_share 160 = .ok (.invokevirtual 48, 3) := by decide +kernel
theorem dX12_share_163 : decode cX12_share 163 = .ok (.invokestatic 177, 3) := by decide +kernel
theorem dX12_share_166 : decode cX12_share 166 = .ok (.i2l, 1) := by decide +kernel
theorem dX12_share_167 : decode cX12_share 167 = .ok (.lload 5, 2) := by decide +kernel
theorem dX12_share_169 : decode cX12_share 169 = .ok (.ldiv, 1) := by decide +kernel
theorem dX12_share_170 : decode cX12_share 170 = .ok (.putfield 23, 3) := by decide +kernel
theorem dX12_share_173 : decode cX12_share 173 = .ok (.iconst 1, 1) := by decide +kernel
theorem dX12_share_174 : decode cX12_share 174 = .ok (.ireturn, 1) := by decide +kernel
theorem dX12_type_0 : decode cX12_type 0 = .ok (.iload_n 3, 1) := by decide +kernel
theorem dX12_type_1 : decode cX12_type 1 = .ok (.i2l, 1) := by decide +kernel
theorem dX12_type_2 : decode cX12_type 2 = .ok (.lconst 1, 1) := by decide +kernel
theorem dX12_type_3 : decode cX12_type 3 = .ok (.ldc2_w 186, 3) := by decide +kernel
theorem dX12_type_6 : decode cX12_type 6 = .ok (.invokestatic 52, 3) := by decide +kernel
theorem dX12_type_9 : decode cX12_type 9 = .ok (.ifCond .ne 10, 3) := by decide +kernel
theorem dX12_type_12 : decode cX12_type 12 = .ok (.aload_n 0, 1) := by decide +kernel
theorem dX12_type_13 : decode cX12_type 13 = .ok (.bipush (-2), 2) := by decide +kernel
theorem dX12_type_15 : decode cX12_type 15 = .ok (.invokevirtual 60, 3) := by decide +kernel
theorem dX12_type_18 : decode cX12_type 18 = .ok (.ireturn, 1) := by decide +kernel
theorem dX12_type_19 : decode cX12_type 19 = .ok (.aload_n 0, 1) := by decide +kernel
theorem dX12_type_20 : decode cX12_type 20 = .ok (.getfield 188, 3) := by decide +kernel
theorem dX12_type_23 : decode cX12_type 23 = .ok (.iload_n 3, 1) := by decide +kernel
theorem dX12_type_24 : decode cX12_type 24 = .ok (.iadd, 1) := by decide +kernel
theorem dX12_type_25 : decode cX12_type 25 = .ok (.sipush 200, 3) := by decide +kernel
theorem dX12_type_28 : decode cX12_type 28 = .ok (.if_icmp .le 8, 3) := by decide +kernel
theorem dX12_type_31 : decode cX12_type 31 = .ok (.aload_n 0, 1) := by decide +kernel
theorem dX12_type_32 : decode cX12_type 32 = .ok (.invokevirtual 64, 3) := by decide +kernel
theorem dX12_type_35 : decode cX12_type 35 = .ok (.ireturn, 1) := by decide +kernel
theorem dX12_type_36 : decode cX12_type 36 = .ok (.iload_n 3, 1) := by decide +kernel
theorem dX12_type_37 : decode cX12_type 37 = .ok (.iconst 1, 1) := by decide +kernel
theorem dX12_type_38 : decode cX12_type 38 = .ok (.isub, 1) := by decide +kernel
theorem dX12_type_39 : decode cX12_type 39 = .ok (.istore 4, 2) := by decide +kernel
theorem dX12_type_41 : decode cX12_type 41 = .ok (.iload 4, 2) := by decide +kernel
theorem dX12_type_43 : decode cX12_type 43 = .ok (.ifCond .lt 40, 3) := by decide +kernel
theorem dX12_type_46 : decode cX12_type 46 = .ok (.aload_n 0, 1) := by decide +kernel
theorem dX12_type_47 : decode cX12_type 47 = .ok (.getfield 39, 3) := by decide +kernel
theorem dX12_type_50 : decode cX12_type 50 = .ok (.aload_n 0, 1) := by decide +kernel
theorem dX12_type_51 : decode cX12_type 51 = .ok (.getfield 188, 3) := by decide +kernel
theorem dX12_type_54 : decode cX12_type 54 = .ok (.lload_n 1, 1) := by decide +kernel
theorem dX12_type_55 : decode cX12_type 55 = .ok (.bipush 8, 2) := by decide +kernel
theorem dX12_type_57 : decode cX12_type 57 = .ok (.iload 4, 2) := by decide +kernel
theorem dX12_type_59 : decode cX12_type 59 = .ok (.imul, 1) := by decide +kernel
theorem dX12_type_60 : decode cX12_type 60 = .ok (.lushr, 1) := by decide +kernel
theorem dX12_type_61 : decode cX12_type 61 = .ok (.ldc2_w 191, 3) := by decide +kernel
theorem dX12_type_64 : decode cX12_type 64 = .ok (.land, 1) := by decide +kernel
theorem dX12_type_65 : decode cX12_type 65 = .ok (.l2i, 1) := by decide +kernel
theorem dX12_type_66 : decode cX12_type 66 = .ok (.iastore, 1) := by decide +kernel
theorem dX12_type_67 : decode cX12_type 67 = .ok (.aload_n 0, 1) := by decide +kernel
theorem dX12_type_68 : decode cX12_type 68 = .ok (.dup, 1) := by decide +kernel
theorem dX12_type_69 : decode cX12_type 69 = .ok (.getfield 188, 3) := by decide +kernel
theorem dX12_type_72 : decode cX12_type 72 = .ok (.iconst 1, 1) := by decide +kernel
theorem dX12_type_73 : decode cX12_type 73 = .ok (.iadd, 1) := by decide +kernel
theorem dX12_type_74 : decode cX12_type 74 = .ok (.putfield 188, 3) := by decide +kernel
theorem dX12_type_77 : decode cX12_type 77 = .ok (.iinc 4 (-1), 3) := by decide +kernel
theorem dX12_type_80 : decode cX12_type 80 = .ok (.goto (-39), 3) := by decide +kernel
theorem dX12_type_83 : decode cX12_type 83 = .ok (.aload_n 0, 1) := by decide +kernel
theorem dX12_type_84 : decode cX12_type 84 = .ok (.getfield 188, 3) := by decide +kernel
theorem dX12_type_87 : decode cX12_type 87 = .ok (.ireturn, 1) := by decide +kernel
theorem dX12_clear_0 : decode cX12_clear 0 = .ok (.aload_n 0, 1) := by decide +kernel
theorem dX12_clear_1 : decode cX12_clear 1 = .ok (.getfield 188, 3) := by decide +kernel
theorem dX12_clear_4 : decode cX12_clear 4 = .ok (.istore_n 1, 1) := by decide +kernel
theorem dX12_clear_5 : decode cX12_clear 5 = .ok (.aload_n 0, 1) := by decide +kernel
theorem dX12_clear_6 : decode cX12_clear 6 = .ok (.iconst 0, 1) := by decide +kernel
theorem dX12_clear_7 : decode cX12_clear 7 = .ok (.putfield 188, 3) := by decide +kernel
theorem dX12_clear_10 : decode cX12_clear 10 = .ok (.iload_n 1, 1) := by decide +kernel
theorem dX12_clear_11 : decode cX12_clear 11 = .ok (.ireturn, 1) := by decide +kernel
theorem dX12_isSmall_0 : decode cX12_isSmall 0 = .ok (.iload_n 0, 1) := by decide +kernel
theorem dX12_isSmall_1 : decode cX12_isSmall 1 = .ok (.i2l, 1) := by decide +kernel
theorem dX12_isSmall_2 : decode cX12_isSmall 2 = .ok (.ldc2_w 193, 3) := by decide +kernel
theorem dX12_isSmall_5 : decode cX12_isSmall 5 = .ok (.ldc2_w 195, 3) := by decide +kernel
theorem dX12_isSmall_8 : decode cX12_isSmall 8 = .ok (.invokestatic 52, 3) := by decide +kernel
theorem dX12_isSmall_11 : decode cX12_isSmall 11 = .ok (.ireturn, 1) := by decide +kernel
theorem dX12_isFigure_0 : decode cX12_isFigure 0 = .ok (.iload_n 0, 1) := by decide +kernel
theorem dX12_isFigure_1 : decode cX12_isFigure 1 = .ok (.i2l, 1) := by decide +kernel
theorem dX12_isFigure_2 : decode cX12_isFigure 2 = .ok (.ldc2_w 197, 3) := by decide +kernel
theorem dX12_isFigure_5 : decode cX12_isFigure 5 = .ok (.ldc2_w 199, 3) := by decide +kernel
theorem dX12_isFigure_8 : decode cX12_isFigure 8 = .ok (.invokestatic 52, 3) := by decide +kernel
theorem dX12_isFigure_11 : decode cX12_isFigure 11 = .ok (.ireturn, 1) := by decide +kernel
theorem dX12_look_0 : decode cX12_look 0 = .ok (.aload_n 0, 1) := by decide +kernel
theorem dX12_look_1 : decode cX12_look 1 = .ok (.iload_n 1, 1) := by decide +kernel
theorem dX12_look_2 : decode cX12_look 2 = .ok (.putfield 201, 3) := by decide +kernel
theorem dX12_look_5 : decode cX12_look 5 = .ok (.aload_n 0, 1) := by decide +kernel
theorem dX12_look_6 : decode cX12_look 6 = .ok (.getfield 201, 3) := by decide +kernel
theorem dX12_look_9 : decode cX12_look 9 = .ok (.aload_n 0, 1) := by decide +kernel
theorem dX12_look_10 : decode cX12_look 10 = .ok (.getfield 188, 3) := by decide +kernel
theorem dX12_look_13 : decode cX12_look 13 = .ok (.if_icmp .ge 30, 3) := by decide +kernel
theorem dX12_look_16 : decode cX12_look 16 = .ok (.aload_n 0, 1) := by decide +kernel
theorem dX12_look_17 : decode cX12_look 17 = .ok (.getfield 39, 3) := by decide +kernel
theorem dX12_look_20 : decode cX12_look 20 = .ok (.aload_n 0, 1) := by decide +kernel
theorem dX12_look_21 : decode cX12_look 21 = .ok (.getfield 201, 3) := by decide +kernel
theorem dX12_look_24 : decode cX12_look 24 = .ok (.iaload, 1) := by decide +kernel
theorem dX12_look_25 : decode cX12_look 25 = .ok (.bipush 32, 2) := by decide +kernel
theorem dX12_look_27 : decode cX12_look 27 = .ok (.if_icmp .ne 16, 3) := by decide +kernel
theorem dX12_look_30 : decode cX12_look 30 = .ok (.aload_n 0, 1) := by decide +kernel
theorem dX12_look_31 : decode cX12_look 31 = .ok (.dup, 1) := by decide +kernel
theorem dX12_look_32 : decode cX12_look 32 = .ok (.getfield 201, 3) := by decide +kernel
theorem dX12_look_35 : decode cX12_look 35 = .ok (.iconst 1, 1) := by decide +kernel
theorem dX12_look_36 : decode cX12_look 36 = .ok (.iadd, 1) := by decide +kernel
theorem dX12_look_37 : decode cX12_look 37 = .ok (.putfield 201, 3) := by decide +kernel
theorem dX12_look_40 : decode cX12_look 40 = .ok (.goto (-35), 3) := by decide +kernel
theorem dX12_look_43 : decode cX12_look 43 = .ok (.aload_n 0, 1) := by decide +kernel
theorem dX12_look_44 : decode cX12_look 44 = .ok (.iconst 0, 1) := by decide +kernel
theorem dX12_look_45 : decode cX12_look 45 = .ok (.putfield 204, 3) := by decide +kernel
theorem dX12_look_48 : decode cX12_look 48 = .ok (.aload_n 0, 1) := by decide +kernel
theorem dX12_look_49 : decode cX12_look 49 = .ok (.iconst 0, 1) := by decide +kernel
theorem dX12_look_50 : decode cX12_look 50 = .ok (.putfield 207, 3) := by decide +kernel
theorem dX12_look_53 : decode cX12_look 53 = .ok (.aload_n 0, 1) := by decide +kernel
theorem dX12_look_54 : decode cX12_look 54 = .ok (.iconst 0, 1) := by decide +kernel
theorem dX12_look_55 : decode cX12_look 55 = .ok (.putfield 210, 3) := by decide +kernel
theorem dX12_look_58 : decode cX12_look 58 = .ok (.aload_n 0, 1) := by decide +kernel
theorem dX12_look_59 : decode cX12_look 59 = .ok (.getfield 201, 3) := by decide +kernel
theorem dX12_look_62 : decode cX12_look 62 = .ok (.aload_n 0, 1) := by decide +kernel
theorem dX12_look_63 : decode cX12_look 63 = .ok (.getfield 188, 3) := by decide +kernel
theorem dX12_look_66 : decode cX12_look 66 = .ok (.if_icmp .ne 4, 3) := by decide +kernel
theorem dX12_look_69 : decode cX12_look 69 = .ok (.return_, 1) := by decide +kernel
theorem dX12_look_70 : decode cX12_look 70 = .ok (.aload_n 0, 1) := by decide +kernel
theorem dX12_look_71 : decode cX12_look 71 = .ok (.getfield 39, 3) := by decide +kernel
theorem dX12_look_74 : decode cX12_look 74 = .ok (.aload_n 0, 1) := by decide +kernel
theorem dX12_look_75 : decode cX12_look 75 = .ok (.getfield 201, 3) := by decide +kernel
theorem dX12_look_78 : decode cX12_look 78 = .ok (.iaload, 1) := by decide +kernel
theorem dX12_look_79 : decode cX12_look 79 = .ok (.istore_n 2, 1) := by decide +kernel
theorem dX12_look_80 : decode cX12_look 80 = .ok (.aload_n 0, 1) := by decide +kernel
theorem dX12_look_81 : decode cX12_look 81 = .ok (.iload_n 2, 1) := by decide +kernel
theorem dX12_look_82 : decode cX12_look 82 = .ok (.invokestatic 213, 3) := by decide +kernel
theorem dX12_look_85 : decode cX12_look 85 = .ok (.ifCond .eq 7, 3) := by decide +kernel
theorem dX12_look_88 : decode cX12_look 88 = .ok (.iconst 1, 1) := by decide +kernel
theorem dX12_look_89 : decode cX12_look 89 = .ok (.goto 25, 3) := by decide +kernel
theorem dX12_look_92 : decode cX12_look 92 = .ok (.iload_n 2, 1) := by decide +kernel
theorem dX12_look_93 : decode cX12_look 93 = .ok (.invokestatic 216, 3) := by decide +kernel
theorem dX12_look_96 : decode cX12_look 96 = .ok (.ifCond .eq 7, 3) := by decide +kernel
theorem dX12_look_99 : decode cX12_look 99 = .ok (.iconst 2, 1) := by decide +kernel
theorem dX12_look_100 : decode cX12_look 100 = .ok (.goto 14, 3) := by decide +kernel
theorem dX12_look_103 : decode cX12_look 103 = .ok (.iload_n 2, 1) := by decide +kernel
theorem dX12_look_104 : decode cX12_look 104 = .ok (.bipush 59, 2) := by decide +kernel
theorem dX12_look_106 : decode cX12_look 106 = .ok (.if_icmp .ne 7, 3) := by decide +kernel
theorem dX12_look_109 : decode cX12_look 109 = .ok (.iconst 3, 1) := by decide +kernel
theorem dX12_look_110 : decode cX12_look 110 = .ok (.goto 4, 3) := by decide +kernel
theorem dX12_look_113 : decode cX12_look 113 = .ok (.iconst 4, 1) := by decide +kernel
theorem dX12_look_114 : decode cX12_look 114 = .ok (.putfield 207, 3) := by decide +kernel
theorem dX12_look_117 : decode cX12_look 117 = .ok (.aload_n 0, 1) := by decide +kernel
theorem dX12_look_118 : decode cX12_look 118 = .ok (.iconst 1, 1) := by decide +kernel
theorem dX12_look_119 : decode cX12_look 119 = .ok (.putfield 204, 3) := by decide +kernel
theorem dX12_look_122 : decode cX12_look 122 = .ok (.aload_n 0, 1) := by decide +kernel
theorem dX12_look_123 : decode cX12_look 123 = .ok (.getfield 207, 3) := by decide +kernel
theorem dX12_look_126 : decode cX12_look 126 = .ok (.iconst 3, 1) := by decide +kernel
theorem dX12_look_127 : decode cX12_look 127 = .ok (.if_icmp .ge 7, 3) := by decide +kernel
theorem dX12_look_130 : decode cX12_look 130 = .ok (.iconst 1, 1) := by decide +kernel
theorem dX12_look_131 : decode cX12_look 131 = .ok (.goto 4, 3) := by decide +kernel
theorem dX12_look_134 : decode cX12_look 134 = .ok (.iconst 0, 1) := by decide +kernel
theorem dX12_look_135 : decode cX12_look 135 = .ok (.istore_n 3, 1) := by decide +kernel
theorem dX12_look_136 : decode cX12_look 136 = .ok (.iload_n 3, 1) := by decide +kernel
theorem dX12_look_137 : decode cX12_look 137 = .ok (.ifCond .eq 78, 3) := by decide +kernel
theorem dX12_look_140 : decode cX12_look 140 = .ok (.aload_n 0, 1) := by decide +kernel
theorem dX12_look_141 : decode cX12_look 141 = .ok (.getfield 201, 3) := by decide +kernel
theorem dX12_look_144 : decode cX12_look 144 = .ok (.aload_n 0, 1) := by decide +kernel
theorem dX12_look_145 : decode cX12_look 145 = .ok (.getfield 204, 3) := by decide +kernel
theorem dX12_look_148 : decode cX12_look 148 = .ok (.iadd, 1) := by decide +kernel
theorem dX12_look_149 : decode cX12_look 149 = .ok (.aload_n 0, 1) := by decide +kernel
theorem dX12_look_150 : decode cX12_look 150 = .ok (.getfield 188, 3) := by decide +kernel
theorem dX12_look_153 : decode cX12_look 153 = .ok (.if_icmp .ge 62, 3) := by decide +kernel
theorem dX12_look_156 : decode cX12_look 156 = .ok (.aload_n 0, 1) := by decide +kernel
theorem dX12_look_157 : decode cX12_look 157 = .ok (.getfield 39, 3) := by decide +kernel
theorem dX12_look_160 : decode cX12_look 160 = .ok (.aload_n 0, 1) := by decide +kernel
theorem dX12_look_161 : decode cX12_look 161 = .ok (.getfield 201, 3) := by decide +kernel
theorem dX12_look_164 : decode cX12_look 164 = .ok (.aload_n 0, 1) := by decide +kernel
theorem dX12_look_165 : decode cX12_look 165 = .ok (.getfield 204, 3) := by decide +kernel
theorem dX12_look_168 : decode cX12_look 168 = .ok (.iadd, 1) := by decide +kernel
theorem dX12_look_169 : decode cX12_look 169 = .ok (.iaload, 1) := by decide +kernel
theorem dX12_look_170 : decode cX12_look 170 = .ok (.istore 4, 2) := by decide +kernel
theorem dX12_look_172 : decode cX12_look 172 = .ok (.aload_n 0, 1) := by decide +kernel
theorem dX12_look_173 : decode cX12_look 173 = .ok (.getfield 207, 3) := by decide +kernel
theorem dX12_look_176 : decode cX12_look 176 = .ok (.iconst 1, 1) := by decide +kernel
theorem dX12_look_177 : decode cX12_look 177 = .ok (.if_icmp .ne 11, 3) := by decide +kernel
theorem dX12_look_180 : decode cX12_look 180 = .ok (.iload 4, 2) := by decide +kernel
theorem dX12_look_182 : decode cX12_look 182 = .ok (.invokestatic 213, 3) := by decide +kernel
theorem dX12_look_185 : decode cX12_look 185 = .ok (.goto 8, 3) := by decide +kernel
theorem dX12_look_188 : decode cX12_look 188 = .ok (.iload 4, 2) := by decide +kernel
theorem dX12_look_190 : decode cX12_look 190 = .ok (.invokestatic 216, 3) := by decide +kernel
theorem dX12_look_193 : decode cX12_look 193 = .ok (.istore_n 3, 1) := by decide +kernel
theorem dX12_look_194 : decode cX12_look 194 = .ok (.aload_n 0, 1) := by decide +kernel
theorem dX12_look_195 : decode cX12_look 195 = .ok (.dup, 1) := by decide +kernel
theorem dX12_look_196 : decode cX12_look 196 = .ok (.getfield 204, 3) := by decide +kernel
theorem dX12_look_199 : decode cX12_look 199 = .ok (.iload_n 3, 1) := by decide +kernel
theorem dX12_look_200 : decode cX12_look 200 = .ok (.ifCond .eq 7, 3) := by decide +kernel
theorem dX12_look_203 : decode cX12_look 203 = .ok (.iconst 1, 1) := by decide +kernel
theorem dX12_look_204 : decode cX12_look 204 = .ok (.goto 4, 3) := by decide +kernel
theorem dX12_look_207 : decode cX12_look 207 = .ok (.iconst 0, 1) := by decide +kernel
theorem dX12_look_208 : decode cX12_look 208 = .ok (.iadd, 1) := by decide +kernel
theorem dX12_look_209 : decode cX12_look 209 = .ok (.putfield 204, 3) := by decide +kernel
theorem dX12_look_212 : decode cX12_look 212 = .ok (.goto (-76), 3) := by decide +kernel
theorem dX12_look_215 : decode cX12_look 215 = .ok (.iconst 0, 1) := by decide +kernel
theorem dX12_look_216 : decode cX12_look 216 = .ok (.istore 4, 2) := by decide +kernel
theorem dX12_look_218 : decode cX12_look 218 = .ok (.iload 4, 2) := by decide +kernel
theorem dX12_look_220 : decode cX12_look 220 = .ok (.aload_n 0, 1) := by decide +kernel
theorem dX12_look_221 : decode cX12_look 221 = .ok (.getfield 204, 3) := by decide +kernel
theorem dX12_look_224 : decode cX12_look 224 = .ok (.if_icmp .ge 50, 3) := by decide +kernel
theorem dX12_look_227 : decode cX12_look 227 = .ok (.iload 4, 2) := by decide +kernel
theorem dX12_look_229 : decode cX12_look 229 = .ok (.iconst 2, 1) := by decide +kernel
theorem dX12_look_230 : decode cX12_look 230 = .ok (.if_icmp .ge 44, 3) := by decide +kernel
theorem dX12_look_233 : decode cX12_look 233 = .ok (.aload_n 0, 1) := by decide +kernel
theorem dX12_look_234 : decode cX12_look 234 = .ok (.getfield 207, 3) := by decide +kernel
theorem dX12_look_237 : decode cX12_look 237 = .ok (.iconst 2, 1) := by decide +kernel
theorem dX12_look_238 : decode cX12_look 238 = .ok (.if_icmp .ne 36, 3) := by decide +kernel
theorem dX12_look_241 : decode cX12_look 241 = .ok (.aload_n 0, 1) := by decide +kernel
theorem dX12_look_242 : decode cX12_look 242 = .ok (.bipush 10, 2) := by decide +kernel
theorem dX12_look_244 : decode cX12_look 244 = .ok (.aload_n 0, 1) := by decide +kernel
theorem dX12_look_245 : decode cX12_look 245 = .ok (.getfield 210, 3) := by decide +kernel
theorem dX12_look_248 : decode cX12_look 248 = .ok (.imul, 1) := by decide +kernel
theorem dX12_look_249 : decode cX12_look 249 = .ok (.aload_n 0, 1) := by decide +kernel
theorem dX12_look_250 : decode cX12_look 250 = .ok (.getfield 39, 3) := by decide +kernel
theorem dX12_look_253 : decode cX12_look 253 = .ok (.aload_n 0, 1) := by decide +kernel
theorem dX12_look_254 : decode cX12_look 254 = .ok (.getfield 201, 3) := by decide +kernel
theorem dX12_look_257 : decode cX12_look 257 = .ok (.iload 4, 2) := by decide +kernel
theorem dX12_look_259 : decode cX12_look 259 = .ok (.iadd, 1) := by decide +kernel
theorem dX12_look_260 : decode cX12_look 260 = .ok (.iaload, 1) := by decide +kernel
theorem dX12_look_261 : decode cX12_look 261 = .ok (.iadd, 1) := by decide +kernel
theorem dX12_look_262 : decode cX12_look 262 = .ok (.bipush 48, 2) := by decide +kernel
theorem dX12_look_264 : decode cX12_look 264 = .ok (.isub, 1) := by decide +kernel
theorem dX12_look_265 : decode cX12_look 265 = .ok (.putfield 210, 3) := by decide +kernel
theorem dX12_look_268 : decode cX12_look 268 = .ok (.iinc 4 1, 3) := by decide +kernel
theorem dX12_look_271 : decode cX12_look 271 = .ok (.goto (-53), 3) := by decide +kernel
theorem dX12_look_274 : decode cX12_look 274 = .ok (.aload_n 0, 1) := by decide +kernel
theorem dX12_look_275 : decode cX12_look 275 = .ok (.aload_n 0, 1) := by decide +kernel
theorem dX12_look_276 : decode cX12_look 276 = .ok (.getfield 207, 3) := by decide +kernel
theorem dX12_look_279 : decode cX12_look 279 = .ok (.iconst 2, 1) := by decide +kernel
theorem dX12_look_280 : decode cX12_look 280 = .ok (.if_icmp .ne 15, 3) := by decide +kernel
theorem dX12_look_283 : decode cX12_look 283 = .ok (.aload_n 0, 1) := by decide +kernel
theorem dX12_look_284 : decode cX12_look 284 = .ok (.getfield 204, 3) := by decide +kernel
theorem dX12_look_287 : decode cX12_look 287 = .ok (.iconst 2, 1) := by decide +kernel
theorem dX12_look_288 : decode cX12_look 288 = .ok (.if_icmp .le 7, 3) := by decide +kernel
theorem dX12_look_291 : decode cX12_look 291 = .ok (.iconst 4, 1) := by decide +kernel
theorem dX12_look_292 : decode cX12_look 292 = .ok (.goto 7, 3) := by decide +kernel
theorem dX12_look_295 : decode cX12_look 295 = .ok (.aload_n 0, 1) := by decide +kernel
theorem dX12_look_296 : decode cX12_look 296 = .ok (.getfield 207, 3) := by decide +kernel
theorem dX12_look_299 : decode cX12_look 299 = .ok (.putfield 207, 3) := by decide +kernel
theorem dX12_look_302 : decode cX12_look 302 = .ok (.return_, 1) := by decide +kernel
theorem dX12_goOn_0 : decode cX12_goOn 0 = .ok (.aload_n 0, 1) := by decide +kernel
theorem dX12_goOn_1 : decode cX12_goOn 1 = .ok (.aload_n 0, 1) := by decide +kernel
theorem dX12_goOn_2 : decode cX12_goOn 2 = .ok (.getfield 201, 3) := by decide +kernel
theorem dX12_goOn_5 : decode cX12_goOn 5 = .ok (.aload_n 0, 1) := by decide +kernel
theorem dX12_goOn_6 : decode cX12_goOn 6 = .ok (.getfield 204, 3) := by decide +kernel
theorem dX12_goOn_9 : decode cX12_goOn 9 = .ok (.iadd, 1) := by decide +kernel
theorem dX12_goOn_10 : decode cX12_goOn 10 = .ok (.invokevirtual 219, 3) := by decide +kernel
theorem dX12_goOn_13 : decode cX12_goOn 13 = .ok (.return_, 1) := by decide +kernel
theorem dX12_isWord_0 : decode cX12_isWord 0 = .ok (.iload 4, 2) := by decide +kernel
theorem dX12_isWord_2 : decode cX12_isWord 2 = .ok (.ifCond .ne 7, 3) := by decide +kernel
theorem dX12_isWord_5 : decode cX12_isWord 5 = .ok (.iconst 3, 1) := by decide +kernel
theorem dX12_isWord_6 : decode cX12_isWord 6 = .ok (.goto 23, 3) := by decide +kernel
theorem dX12_isWord_9 : decode cX12_isWord 9 = .ok (.iload 5, 2) := by decide +kernel
theorem dX12_isWord_11 : decode cX12_isWord 11 = .ok (.ifCond .ne 7, 3) := by decide +kernel
theorem dX12_isWord_14 : decode cX12_isWord 14 = .ok (.iconst 4, 1) := by decide +kernel
theorem dX12_isWord_15 : decode cX12_isWord 15 = .ok (.goto 14, 3) := by decide +kernel
theorem dX12_isWord_18 : decode cX12_isWord 18 = .ok (.iload 6, 2) := by decide +kernel
theorem dX12_isWord_20 : decode cX12_isWord 20 = .ok (.ifCond .ne 7, 3) := by decide +kernel
theorem dX12_isWord_23 : decode cX12_isWord 23 = .ok (.iconst 5, 1) := by decide +kernel
theorem dX12_isWord_24 : decode cX12_isWord 24 = .ok (.goto 5, 3) := by decide +kernel
theorem dX12_isWord_27 : decode cX12_isWord 27 = .ok (.bipush 6, 2) := by decide +kernel
theorem dX12_isWord_29 : decode cX12_isWord 29 = .ok (.istore 7, 2) := by decide +kernel
theorem dX12_isWord_31 : decode cX12_isWord 31 = .ok (.aload_n 0, 1) := by decide +kernel
theorem dX12_isWord_32 : decode cX12_isWord 32 = .ok (.getfield 207, 3) := by decide +kernel
theorem dX12_isWord_35 : decode cX12_isWord 35 = .ok (.iconst 1, 1) := by decide +kernel
theorem dX12_isWord_36 : decode cX12_isWord 36 = .ok (.if_icmp .ne 16, 3) := by decide +kernel
theorem dX12_isWord_39 : decode cX12_isWord 39 = .ok (.aload_n 0, 1) := by decide +kernel
theorem dX12_isWord_40 : decode cX12_isWord 40 = .ok (.getfield 204, 3) := by decide +kernel
theorem dX12_isWord_43 : decode cX12_isWord 43 = .ok (.iload 7, 2) := by decide +kernel
theorem dX12_isWord_45 : decode cX12_isWord 45 = .ok (.if_icmp .ne 7, 3) := by decide +kernel
theorem dX12_isWord_48 : decode cX12_isWord 48 = .ok (.iconst 1, 1) := by decide +kernel
theorem dX12_isWord_49 : decode cX12_isWord 49 = .ok (.goto 4, 3) := by decide +kernel
theorem dX12_isWord_52 : decode cX12_isWord 52 = .ok (.iconst 0, 1) := by decide +kernel
theorem dX12_isWord_53 : decode cX12_isWord 53 = .ok (.istore 8, 2) := by decide +kernel
theorem dX12_isWord_55 : decode cX12_isWord 55 = .ok (.iconst 0, 1) := by decide +kernel
theorem dX12_isWord_56 : decode cX12_isWord 56 = .ok (.istore 9, 2) := by decide +kernel
theorem dX12_isWord_58 : decode cX12_isWord 58 = .ok (.iload 9, 2) := by decide +kernel
theorem dX12_isWord_60 : decode cX12_isWord 60 = .ok (.iload 7, 2) := by decide +kernel
theorem dX12_isWord_62 : decode cX12_isWord 62 = .ok (.if_icmp .ge 89, 3) := by decide +kernel
theorem dX12_isWord_65 : decode cX12_isWord 65 = .ok (.iload 8, 2) := by decide +kernel
theorem dX12_isWord_67 : decode cX12_isWord 67 = .ok (.ifCond .eq 84, 3) := by decide +kernel
theorem dX12_isWord_70 : decode cX12_isWord 70 = .ok (.aload_n 0, 1) := by decide +kernel
theorem dX12_isWord_71 : decode cX12_isWord 71 = .ok (.getfield 39, 3) := by decide +kernel
theorem dX12_isWord_74 : decode cX12_isWord 74 = .ok (.aload_n 0, 1) := by decide +kernel
theorem dX12_isWord_75 : decode cX12_isWord 75 = .ok (.getfield 201, 3) := by decide +kernel
theorem dX12_isWord_78 : decode cX12_isWord 78 = .ok (.iload 9, 2) := by decide +kernel
theorem dX12_isWord_80 : decode cX12_isWord 80 = .ok (.iadd, 1) := by decide +kernel
theorem dX12_isWord_81 : decode cX12_isWord 81 = .ok (.iaload, 1) := by decide +kernel
theorem dX12_isWord_82 : decode cX12_isWord 82 = .ok (.iload 9, 2) := by decide +kernel
theorem dX12_isWord_84 : decode cX12_isWord 84 = .ok (.ifCond .ne 7, 3) := by decide +kernel
theorem dX12_isWord_87 : decode cX12_isWord 87 = .ok (.iload_n 1, 1) := by decide +kernel
theorem dX12_isWord_88 : decode cX12_isWord 88 = .ok (.goto 47, 3) := by decide +kernel
theorem dX12_isWord_91 : decode cX12_isWord 91 = .ok (.iload 9, 2) := by decide +kernel
theorem dX12_isWord_93 : decode cX12_isWord 93 = .ok (.iconst 1, 1) := by decide +kernel
theorem dX12_isWord_94 : decode cX12_isWord 94 = .ok (.if_icmp .ne 7, 3) := by decide +kernel
theorem dX12_isWord_97 : decode cX12_isWord 97 = .ok (.iload_n 2, 1) := by decide +kernel
theorem dX12_isWord_98 : decode cX12_isWord 98 = .ok (.goto 37, 3) := by decide +kernel
theorem dX12_isWord_101 : decode cX12_isWord 101 = .ok (.iload 9, 2) := by decide +kernel
theorem dX12_isWord_103 : decode cX12_isWord 103 = .ok (.iconst 2, 1) := by decide +kernel
theorem dX12_isWord_104 : decode cX12_isWord 104 = .ok (.if_icmp .ne 7, 3) := by decide +kernel
theorem dX12_isWord_107 : decode cX12_isWord 107 = .ok (.iload_n 3, 1) := by decide +kernel
theorem dX12_isWord_108 : decode cX12_isWord 108 = .ok (.goto 27, 3) := by decide +kernel
theorem dX12_isWord_111 : decode cX12_isWord 111 = .ok (.iload 9, 2) := by decide +kernel
theorem dX12_isWord_113 : decode cX12_isWord 113 = .ok (.iconst 3, 1) := by decide +kernel
theorem dX12_isWord_114 : decode cX12_isWord 114 = .ok (.if_icmp .ne 8, 3) := by decide +kernel
theorem dX12_isWord_117 : decode cX12_isWord 117 = .ok (.iload 4, 2) := by decide +kernel
theorem dX12_isWord_119 : decode cX12_isWord 119 = .ok (.goto 16, 3) := by decide +kernel
theorem dX12_isWord_122 : decode cX12_isWord 122 = .ok (.iload 9, 2) := by decide +kernel
theorem dX12_isWord_124 : decode cX12_isWord 124 = .ok (.iconst 4, 1) := by decide +kernel
theorem dX12_isWord_125 : decode cX12_isWord 125 = .ok (.if_icmp .ne 8, 3) := by decide +kernel
theorem dX12_isWord_128 : decode cX12_isWord 128 = .ok (.iload 5, 2) := by decide +kernel
theorem dX12_isWord_130 : decode cX12_isWord 130 = .ok (.goto 5, 3) := by decide +kernel
theorem dX12_isWord_133 : decode cX12_isWord 133 = .ok (.iload 6, 2) := by decide +kernel
theorem dX12_isWord_135 : decode cX12_isWord 135 = .ok (.if_icmp .ne 7, 3) := by decide +kernel
theorem dX12_isWord_138 : decode cX12_isWord 138 = .ok (.iconst 1, 1) := by decide +kernel
theorem dX12_isWord_139 : decode cX12_isWord 139 = .ok (.goto 4, 3) := by decide +kernel
theorem dX12_isWord_142 : decode cX12_isWord 142 = .ok (.iconst 0, 1) := by decide +kernel
theorem dX12_isWord_143 : decode cX12_isWord 143 = .ok (.istore 8, 2) := by decide +kernel
theorem dX12_isWord_145 : decode cX12_isWord 145 = .ok (.iinc 9 1, 3) := by decide +kernel
theorem dX12_isWord_148 : decode cX12_isWord 148 = .ok (.goto (-90), 3) := by decide +kernel
theorem dX12_isWord_151 : decode cX12_isWord 151 = .ok (.iload 8, 2) := by decide +kernel
theorem dX12_isWord_153 : decode cX12_isWord 153 = .ok (.ireturn, 1) := by decide +kernel
theorem dX12_takes_0 : decode cX12_takes 0 = .ok (.aload_n 0, 1) := by decide +kernel
theorem dX12_takes_1 : decode cX12_takes 1 = .ok (.getfield 207, 3) := by decide +kernel
theorem dX12_takes_4 : decode cX12_takes 4 = .ok (.iconst 2, 1) := by decide +kernel
theorem dX12_takes_5 : decode cX12_takes 5 = .ok (.if_icmp .ne 18, 3) := by decide +kernel
theorem dX12_takes_8 : decode cX12_takes 8 = .ok (.aload_n 0, 1) := by decide +kernel
theorem dX12_takes_9 : decode cX12_takes 9 = .ok (.getfield 210, 3) := by decide +kernel
theorem dX12_takes_12 : decode cX12_takes 12 = .ok (.i2l, 1) := by decide +kernel
theorem dX12_takes_13 : decode cX12_takes 13 = .ok (.iload_n 2, 1) := by decide +kernel
theorem dX12_takes_14 : decode cX12_takes 14 = .ok (.i2l, 1) := by decide +kernel
theorem dX12_takes_15 : decode cX12_takes 15 = .ok (.iload_n 3, 1) := by decide +kernel
theorem dX12_takes_16 : decode cX12_takes 16 = .ok (.i2l, 1) := by decide +kernel
theorem dX12_takes_17 : decode cX12_takes 17 = .ok (.invokestatic 52, 3) := by decide +kernel
theorem dX12_takes_20 : decode cX12_takes 20 = .ok (.ifCond .ne 5, 3) := by decide +kernel
theorem dX12_takes_23 : decode cX12_takes 23 = .ok (.iconst 0, 1) := by decide +kernel
theorem dX12_takes_24 : decode cX12_takes 24 = .ok (.ireturn, 1) := by decide +kernel
theorem dX12_takes_25 : decode cX12_takes 25 = .ok (.aload_n 0, 1) := by decide +kernel
theorem dX12_takes_26 : decode cX12_takes 26 = .ok (.getfield 45, 3) := by decide +kernel
theorem dX12_takes_29 : decode cX12_takes 29 = .ok (.iload_n 1, 1) := by decide +kernel
theorem dX12_takes_30 : decode cX12_takes 30 = .ok (.aload_n 0, 1) := by decide +kernel
theorem dX12_takes_31 : decode cX12_takes 31 = .ok (.getfield 210, 3) := by decide +kernel
theorem dX12_takes_34 : decode cX12_takes 34 = .ok (.iastore, 1) := by decide +kernel
theorem dX12_takes_35 : decode cX12_takes 35 = .ok (.aload_n 0, 1) := by decide +kernel
theorem dX12_takes_36 : decode cX12_takes 36 = .ok (.invokevirtual 222, 3) := by decide +kernel
theorem dX12_takes_39 : decode cX12_takes 39 = .ok (.iconst 1, 1) := by decide +kernel
theorem dX12_takes_40 : decode cX12_takes 40 = .ok (.ireturn, 1) := by decide +kernel
theorem dX12_readsThing_0 : decode cX12_readsThing 0 = .ok (.aload_n 0, 1) := by decide +kernel
theorem dX12_readsThing_1 : decode cX12_readsThing 1 = .ok (.getfield 42, 3) := by decide +kernel
theorem dX12_readsThing_4 : decode cX12_readsThing 4 = .ok (.iconst 0, 1) := by decide +kernel
theorem dX12_readsThing_5 : decode cX12_readsThing 5 = .ok (.iaload, 1) := by decide +kernel
theorem dX12_readsThing_6 : decode cX12_readsThing 6 = .ok (.iconst 5, 1) := by decide +kernel
theorem dX12_readsThing_7 : decode cX12_readsThing 7 = .ok (.if_icmp .ne 5, 3) := by decide +kernel
theorem dX12_readsThing_10 : decode cX12_readsThing 10 = .ok (.iconst 0, 1) := by decide +kernel
theorem dX12_readsThing_11 : decode cX12_readsThing 11 = .ok (.ireturn, 1) := by decide +kernel
theorem dX12_readsThing_12 : decode cX12_readsThing 12 = .ok (.aload_n 0, 1) := by decide +kernel
theorem dX12_readsThing_13 : decode cX12_readsThing 13 = .ok (.invokevirtual 222, 3) := by decide +kernel
theorem dX12_readsThing_16 : decode cX12_readsThing 16 = .ok (.aload_n 0, 1) := by decide +kernel
theorem dX12_readsThing_17 : decode cX12_readsThing 17 = .ok (.iconst 0, 1) := by decide +kernel
theorem dX12_readsThing_18 : decode cX12_readsThing 18 = .ok (.iconst 0, 1) := by decide +kernel
theorem dX12_readsThing_19 : decode cX12_readsThing 19 = .ok (.iconst 4, 1) := by decide +kernel
theorem dX12_readsThing_20 : decode cX12_readsThing 20 = .ok (.invokevirtual 225, 3) := by decide +kernel
theorem dX12_readsThing_23 : decode cX12_readsThing 23 = .ok (.ifCond .eq 36, 3) := by decide +kernel
theorem dX12_readsThing_26 : decode cX12_readsThing 26 = .ok (.aload_n 0, 1) := by decide +kernel
theorem dX12_readsThing_27 : decode cX12_readsThing 27 = .ok (.iconst 1, 1) := by decide +kernel
theorem dX12_readsThing_28 : decode cX12_readsThing 28 = .ok (.iconst 0, 1) := by decide +kernel
theorem dX12_readsThing_29 : decode cX12_readsThing 29 = .ok (.bipush 9, 2) := by decide +kernel
theorem dX12_readsThing_31 : decode cX12_readsThing 31 = .ok (.invokevirtual 225, 3) := by decide +kernel
theorem dX12_readsThing_34 : decode cX12_readsThing 34 = .ok (.ifCond .eq 25, 3) := by decide +kernel
theorem dX12_readsThing_37 : decode cX12_readsThing 37 = .ok (.aload_n 0, 1) := by decide +kernel
theorem dX12_readsThing_38 : decode cX12_readsThing 38 = .ok (.iconst 2, 1) := by decide +kernel
theorem dX12_readsThing_39 : decode cX12_readsThing 39 = .ok (.iconst 1, 1) := by decide +kernel
theorem dX12_readsThing_40 : decode cX12_readsThing 40 = .ok (.bipush 9, 2) := by decide +kernel
theorem dX12_readsThing_42 : decode cX12_readsThing 42 = .ok (.invokevirtual 225, 3) := by decide +kernel
theorem dX12_readsThing_45 : decode cX12_readsThing 45 = .ok (.ifCond .eq 14, 3) := by decide +kernel
theorem dX12_readsThing_48 : decode cX12_readsThing 48 = .ok (.aload_n 0, 1) := by decide +kernel
theorem dX12_readsThing_49 : decode cX12_readsThing 49 = .ok (.iconst 3, 1) := by decide +kernel
theorem dX12_readsThing_50 : decode cX12_readsThing 50 = .ok (.iconst 0, 1) := by decide +kernel
theorem dX12_readsThing_51 : decode cX12_readsThing 51 = .ok (.bipush 9, 2) := by decide +kernel
theorem dX12_readsThing_53 : decode cX12_readsThing 53 = .ok (.invokevirtual 225, 3) := by decide +kernel
theorem dX12_readsThing_56 : decode cX12_readsThing 56 = .ok (.ifCond .ne 5, 3) := by decide +kernel
theorem dX12_readsThing_59 : decode cX12_readsThing 59 = .ok (.iconst 0, 1) := by decide +kernel
theorem dX12_readsThing_60 : decode cX12_readsThing 60 = .ok (.ireturn, 1) := by decide +kernel
theorem dX12_readsThing_61 : decode cX12_readsThing 61 = .ok (.aload_n 0, 1) := by decide +kernel
theorem dX12_readsThing_62 : decode cX12_readsThing 62 = .ok (.getfield 42, 3) := by decide +kernel
theorem dX12_readsThing_65 : decode cX12_readsThing 65 = .ok (.aload_n 0, 1) := by decide +kernel
theorem dX12_readsThing_66 : decode cX12_readsThing 66 = .ok (.getfield 45, 3) := by decide +kernel
theorem dX12_readsThing_69 : decode cX12_readsThing 69 = .ok (.iconst 0, 1) := by decide +kernel
theorem dX12_readsThing_70 : decode cX12_readsThing 70 = .ok (.iaload, 1) := by decide +kernel
theorem dX12_readsThing_71 : decode cX12_readsThing 71 = .ok (.aload_n 0, 1) := by decide +kernel
theorem dX12_readsThing_72 : decode cX12_readsThing 72 = .ok (.getfield 45, 3) := by decide +kernel
theorem dX12_readsThing_75 : decode cX12_readsThing 75 = .ok (.iconst 1, 1) := by decide +kernel
theorem dX12_readsThing_76 : decode cX12_readsThing 76 = .ok (.iaload, 1) := by decide +kernel
theorem dX12_readsThing_77 : decode cX12_readsThing 77 = .ok (.aload_n 0, 1) := by decide +kernel
theorem dX12_readsThing_78 : decode cX12_readsThing 78 = .ok (.getfield 45, 3) := by decide +kernel
theorem dX12_readsThing_81 : decode cX12_readsThing 81 = .ok (.iconst 2, 1) := by decide +kernel
theorem dX12_readsThing_82 : decode cX12_readsThing 82 = .ok (.iaload, 1) := by decide +kernel
theorem dX12_readsThing_83 : decode cX12_readsThing 83 = .ok (.aload_n 0, 1) := by decide +kernel
theorem dX12_readsThing_84 : decode cX12_readsThing 84 = .ok (.getfield 45, 3) := by decide +kernel
theorem dX12_readsThing_87 : decode cX12_readsThing 87 = .ok (.iconst 3, 1) := by decide +kernel
theorem dX12_readsThing_88 : decode cX12_readsThing 88 = .ok (.iaload, 1) := by decide +kernel
theorem dX12_readsThing_89 : decode cX12_readsThing 89 = .ok (.invokestatic 67, 3) := by decide +kernel
theorem dX12_readsThing_92 : decode cX12_readsThing 92 = .ok (.iconst 1, 1) := by decide +kernel
theorem dX12_readsThing_93 : decode cX12_readsThing 93 = .ok (.ireturn, 1) := by decide +kernel
theorem dX12_readsCut_0 : decode cX12_readsCut 0 = .ok (.aload_n 0, 1) := by decide +kernel
theorem dX12_readsCut_1 : decode cX12_readsCut 1 = .ok (.invokevirtual 222, 3) := by decide +kernel
theorem dX12_readsCut_4 : decode cX12_readsCut 4 = .ok (.aload_n 0, 1) := by decide +kernel
theorem dX12_readsCut_5 : decode cX12_readsCut 5 = .ok (.getfield 207, 3) := by decide +kernel
theorem dX12_readsCut_8 : decode cX12_readsCut 8 = .ok (.iconst 2, 1) := by decide +kernel
theorem dX12_readsCut_9 : decode cX12_readsCut 9 = .ok (.if_icmp .ne 34, 3) := by decide +kernel
theorem dX12_readsCut_12 : decode cX12_readsCut 12 = .ok (.aload_n 0, 1) := by decide +kernel
theorem dX12_readsCut_13 : decode cX12_readsCut 13 = .ok (.getfield 210, 3) := by decide +kernel
theorem dX12_readsCut_16 : decode cX12_readsCut 16 = .ok (.aload_n 0, 1) := by decide +kernel
theorem dX12_readsCut_17 : decode cX12_readsCut 17 = .ok (.getfield 42, 3) := by decide +kernel
theorem dX12_readsCut_20 : decode cX12_readsCut 20 = .ok (.iconst 0, 1) := by decide +kernel
theorem dX12_readsCut_21 : decode cX12_readsCut 21 = .ok (.iaload, 1) := by decide +kernel
theorem dX12_readsCut_22 : decode cX12_readsCut 22 = .ok (.if_icmp .ge 21, 3) := by decide +kernel
theorem dX12_readsCut_25 : decode cX12_readsCut 25 = .ok (.aload_n 0, 1) := by decide +kernel
theorem dX12_readsCut_26 : decode cX12_readsCut 26 = .ok (.getfield 42, 3) := by decide +kernel
theorem dX12_readsCut_29 : decode cX12_readsCut 29 = .ok (.iconst 1, 1) := by decide +kernel
theorem dX12_readsCut_30 : decode cX12_readsCut 30 = .ok (.iconst 5, 1) := by decide +kernel
theorem dX12_readsCut_31 : decode cX12_readsCut 31 = .ok (.aload_n 0, 1) := by decide +kernel
theorem dX12_readsCut_32 : decode cX12_readsCut 32 = .ok (.getfield 210, 3) := by decide +kernel
theorem dX12_readsCut_35 : decode cX12_readsCut 35 = .ok (.imul, 1) := by decide +kernel
theorem dX12_readsCut_36 : decode cX12_readsCut 36 = .ok (.iadd, 1) := by decide +kernel
theorem dX12_readsCut_37 : decode cX12_readsCut 37 = .ok (.iconst 4, 1) := by decide +kernel
theorem dX12_readsCut_38 : decode cX12_readsCut 38 = .ok (.iadd, 1) := by decide +kernel
theorem dX12_readsCut_39 : decode cX12_readsCut 39 = .ok (.iaload, 1) := by decide +kernel
theorem dX12_readsCut_40 : decode cX12_readsCut 40 = .ok (.ifCond .ne 5, 3) := by decide +kernel
theorem dX12_readsCut_43 : decode cX12_readsCut 43 = .ok (.iconst 0, 1) := by decide +kernel
theorem dX12_readsCut_44 : decode cX12_readsCut 44 = .ok (.ireturn, 1) := by decide +kernel
theorem dX12_readsCut_45 : decode cX12_readsCut 45 = .ok (.aload_n 0, 1) := by decide +kernel
theorem dX12_readsCut_46 : decode cX12_readsCut 46 = .ok (.getfield 42, 3) := by decide +kernel
theorem dX12_readsCut_49 : decode cX12_readsCut 49 = .ok (.iconst 1, 1) := by decide +kernel
theorem dX12_readsCut_50 : decode cX12_readsCut 50 = .ok (.iconst 5, 1) := by decide +kernel
theorem dX12_readsCut_51 : decode cX12_readsCut 51 = .ok (.aload_n 0, 1) := by decide +kernel
theorem dX12_readsCut_52 : decode cX12_readsCut 52 = .ok (.getfield 210, 3) := by decide +kernel
theorem dX12_readsCut_55 : decode cX12_readsCut 55 = .ok (.imul, 1) := by decide +kernel
theorem dX12_readsCut_56 : decode cX12_readsCut 56 = .ok (.iadd, 1) := by decide +kernel
theorem dX12_readsCut_57 : decode cX12_readsCut 57 = .ok (.iconst 4, 1) := by decide +kernel
theorem dX12_readsCut_58 : decode cX12_readsCut 58 = .ok (.iadd, 1) := by decide +kernel
theorem dX12_readsCut_59 : decode cX12_readsCut 59 = .ok (.iconst 0, 1) := by decide +kernel
theorem dX12_readsCut_60 : decode cX12_readsCut 60 = .ok (.iastore, 1) := by decide +kernel
theorem dX12_readsCut_61 : decode cX12_readsCut 61 = .ok (.aload_n 0, 1) := by decide +kernel
theorem dX12_readsCut_62 : decode cX12_readsCut 62 = .ok (.invokevirtual 222, 3) := by decide +kernel
theorem dX12_readsCut_65 : decode cX12_readsCut 65 = .ok (.iconst 1, 1) := by decide +kernel
theorem dX12_readsCut_66 : decode cX12_readsCut 66 = .ok (.ireturn, 1) := by decide +kernel
theorem dX12_takesPull_0 : decode cX12_takesPull 0 = .ok (.aload_n 0, 1) := by decide +kernel
theorem dX12_takesPull_1 : decode cX12_takesPull 1 = .ok (.invokevirtual 222, 3) := by decide +kernel
theorem dX12_takesPull_4 : decode cX12_takesPull 4 = .ok (.aload_n 0, 1) := by decide +kernel
theorem dX12_takesPull_5 : decode cX12_takesPull 5 = .ok (.iconst 0, 1) := by decide +kernel
theorem dX12_takesPull_6 : decode cX12_takesPull 6 = .ok (.iconst 0, 1) := by decide +kernel
theorem dX12_takesPull_7 : decode cX12_takesPull 7 = .ok (.aload_n 0, 1) := by decide +kernel
theorem dX12_takesPull_8 : decode cX12_takesPull 8 = .ok (.getfield 42, 3) := by decide +kernel
theorem dX12_takesPull_11 : decode cX12_takesPull 11 = .ok (.iconst 0, 1) := by decide +kernel
theorem dX12_takesPull_12 : decode cX12_takesPull 12 = .ok (.iaload, 1) := by decide +kernel
theorem dX12_takesPull_13 : decode cX12_takesPull 13 = .ok (.iconst 1, 1) := by decide +kernel
theorem dX12_takesPull_14 : decode cX12_takesPull 14 = .ok (.isub, 1) := by decide +kernel
theorem dX12_takesPull_15 : decode cX12_takesPull 15 = .ok (.invokevirtual 225, 3) := by decide +kernel
theorem dX12_takesPull_18 : decode cX12_takesPull 18 = .ok (.ifCond .eq 18, 3) := by decide +kernel
theorem dX12_takesPull_21 : decode cX12_takesPull 21 = .ok (.aload_n 0, 1) := by decide +kernel
theorem dX12_takesPull_22 : decode cX12_takesPull 22 = .ok (.iconst 1, 1) := by decide +kernel
theorem dX12_takesPull_23 : decode cX12_takesPull 23 = .ok (.iconst 0, 1) := by decide +kernel
theorem dX12_takesPull_24 : decode cX12_takesPull 24 = .ok (.bipush 20, 2) := by decide +kernel
theorem dX12_takesPull_26 : decode cX12_takesPull 26 = .ok (.invokevirtual 225, 3) := by decide +kernel
theorem dX12_takesPull_29 : decode cX12_takesPull 29 = .ok (.ifCond .eq 7, 3) := by decide +kernel
theorem dX12_takesPull_32 : decode cX12_takesPull 32 = .ok (.iconst 1, 1) := by decide +kernel
theorem dX12_takesPull_33 : decode cX12_takesPull 33 = .ok (.goto 4, 3) := by decide +kernel
theorem dX12_takesPull_36 : decode cX12_takesPull 36 = .ok (.iconst 0, 1) := by decide +kernel
theorem dX12_takesPull_37 : decode cX12_takesPull 37 = .ok (.ireturn, 1) := by decide +kernel
theorem dX12_readsErrand_0 : decode cX12_readsErrand 0 = .ok (.aload_n 0, 1) := by decide +kernel
theorem dX12_readsErrand_1 : decode cX12_readsErrand 1 = .ok (.getfield 42, 3) := by decide +kernel
theorem dX12_readsErrand_4 : decode cX12_readsErrand 4 = .ok (.bipush 28, 2) := by decide +kernel
theorem dX12_readsErrand_6 : decode cX12_readsErrand 6 = .ok (.iaload, 1) := by decide +kernel
theorem dX12_readsErrand_7 : decode cX12_readsErrand 7 = .ok (.istore_n 1, 1) := by decide +kernel
theorem dX12_readsErrand_8 : decode cX12_readsErrand 8 = .ok (.iload_n 1, 1) := by decide +kernel
theorem dX12_readsErrand_9 : decode cX12_readsErrand 9 = .ok (.iconst 5, 1) := by decide +kernel
theorem dX12_readsErrand_10 : decode cX12_readsErrand 10 = .ok (.if_icmp .eq 10, 3) := by decide +kernel
theorem dX12_readsErrand_13 : decode cX12_readsErrand 13 = .ok (.aload_n 0, 1) := by decide +kernel
theorem dX12_readsErrand_14 : decode cX12_readsErrand 14 = .ok (.invokevirtual 229, 3) := by decide +kernel
theorem dX12_readsErrand_17 : decode cX12_readsErrand 17 = .ok (.ifCond .ne 5, 3) := by decide +kernel
theorem dX12_readsErrand_20 : decode cX12_readsErrand 20 = .ok (.iconst 0, 1) := by decide +kernel
theorem dX12_readsErrand_21 : decode cX12_readsErrand 21 = .ok (.ireturn, 1) := by decide +kernel
theorem dX12_readsErrand_22 : decode cX12_readsErrand 22 = .ok (.aload_n 0, 1) := by decide +kernel
theorem dX12_readsErrand_23 : decode cX12_readsErrand 23 = .ok (.getfield 42, 3) := by decide +kernel
theorem dX12_readsErrand_26 : decode cX12_readsErrand 26 = .ok (.bipush 29, 2) := by decide +kernel
theorem dX12_readsErrand_28 : decode cX12_readsErrand 28 = .ok (.iconst 2, 1) := by decide +kernel
theorem dX12_readsErrand_29 : decode cX12_readsErrand 29 = .ok (.iload_n 1, 1) := by decide +kernel
theorem dX12_readsErrand_30 : decode cX12_readsErrand 30 = .ok (.imul, 1) := by decide +kernel
theorem dX12_readsErrand_31 : decode cX12_readsErrand 31 = .ok (.iadd, 1) := by decide +kernel
theorem dX12_readsErrand_32 : decode cX12_readsErrand 32 = .ok (.aload_n 0, 1) := by decide +kernel
theorem dX12_readsErrand_33 : decode cX12_readsErrand 33 = .ok (.getfield 45, 3) := by decide +kernel
theorem dX12_readsErrand_36 : decode cX12_readsErrand 36 = .ok (.iconst 0, 1) := by decide +kernel
theorem dX12_readsErrand_37 : decode cX12_readsErrand 37 = .ok (.iaload, 1) := by decide +kernel
theorem dX12_readsErrand_38 : decode cX12_readsErrand 38 = .ok (.iastore, 1) := by decide +kernel
theorem dX12_readsErrand_39 : decode cX12_readsErrand 39 = .ok (.aload_n 0, 1) := by decide +kernel
theorem dX12_readsErrand_40 : decode cX12_readsErrand 40 = .ok (.getfield 42, 3) := by decide +kernel
theorem dX12_readsErrand_43 : decode cX12_readsErrand 43 = .ok (.bipush 29, 2) := by decide +kernel
theorem dX12_readsErrand_45 : decode cX12_readsErrand 45 = .ok (.iconst 2, 1) := by decide +kernel
theorem dX12_readsErrand_46 : decode cX12_readsErrand 46 = .ok (.iload_n 1, 1) := by decide +kernel
theorem dX12_readsErrand_47 : decode cX12_readsErrand 47 = .ok (.imul, 1) := by decide +kernel
theorem dX12_readsErrand_48 : decode cX12_readsErrand 48 = .ok (.iadd, 1) := by decide +kernel
theorem dX12_readsErrand_49 : decode cX12_readsErrand 49 = .ok (.iconst 1, 1) := by decide +kernel
theorem dX12_readsErrand_50 : decode cX12_readsErrand 50 = .ok (.iadd, 1) := by decide +kernel
theorem dX12_readsErrand_51 : decode cX12_readsErrand 51 = .ok (.aload_n 0, 1) := by decide +kernel
theorem dX12_readsErrand_52 : decode cX12_readsErrand 52 = .ok (.getfield 45, 3) := by decide +kernel
theorem dX12_readsErrand_55 : decode cX12_readsErrand 55 = .ok (.iconst 1, 1) := by decide +kernel
theorem dX12_readsErrand_56 : decode cX12_readsErrand 56 = .ok (.iaload, 1) := by decide +kernel
theorem dX12_readsErrand_57 : decode cX12_readsErrand 57 = .ok (.iastore, 1) := by decide +kernel
theorem dX12_readsErrand_58 : decode cX12_readsErrand 58 = .ok (.aload_n 0, 1) := by decide +kernel
theorem dX12_readsErrand_59 : decode cX12_readsErrand 59 = .ok (.getfield 42, 3) := by decide +kernel
theorem dX12_readsErrand_62 : decode cX12_readsErrand 62 = .ok (.bipush 28, 2) := by decide +kernel
theorem dX12_readsErrand_64 : decode cX12_readsErrand 64 = .ok (.dup2, 1) := by decide +kernel
theorem dX12_readsErrand_65 : decode cX12_readsErrand 65 = .ok (.iaload, 1) := by decide +kernel
theorem dX12_readsErrand_66 : decode cX12_readsErrand 66 = .ok (.iconst 1, 1) := by decide +kernel
theorem dX12_readsErrand_67 : decode cX12_readsErrand 67 = .ok (.iadd, 1) := by decide +kernel
theorem dX12_readsErrand_68 : decode cX12_readsErrand 68 = .ok (.iastore, 1) := by decide +kernel
theorem dX12_readsErrand_69 : decode cX12_readsErrand 69 = .ok (.iconst 1, 1) := by decide +kernel
theorem dX12_readsErrand_70 : decode cX12_readsErrand 70 = .ok (.ireturn, 1) := by decide +kernel
theorem dX12_readsRule_0 : decode cX12_readsRule 0 = .ok (.aload_n 0, 1) := by decide +kernel
theorem dX12_readsRule_1 : decode cX12_readsRule 1 = .ok (.getfield 42, 3) := by decide +kernel
theorem dX12_readsRule_4 : decode cX12_readsRule 4 = .ok (.bipush 39, 2) := by decide +kernel
theorem dX12_readsRule_6 : decode cX12_readsRule 6 = .ok (.iaload, 1) := by decide +kernel
theorem dX12_readsRule_7 : decode cX12_readsRule 7 = .ok (.iconst 4, 1) := by decide +kernel
theorem dX12_readsRule_8 : decode cX12_readsRule 8 = .ok (.if_icmp .eq 29, 3) := by decide +kernel
theorem dX12_readsRule_11 : decode cX12_readsRule 11 = .ok (.aload_n 0, 1) := by decide +kernel
theorem dX12_readsRule_12 : decode cX12_readsRule 12 = .ok (.invokevirtual 229, 3) := by decide +kernel
theorem dX12_readsRule_15 : decode cX12_readsRule 15 = .ok (.ifCond .eq 22, 3) := by decide +kernel
theorem dX12_readsRule_18 : decode cX12_readsRule 18 = .ok (.aload_n 0, 1) := by decide +kernel
theorem dX12_readsRule_19 : decode cX12_readsRule 19 = .ok (.iconst 2, 1) := by decide +kernel
theorem dX12_readsRule_20 : decode cX12_readsRule 20 = .ok (.iconst 0, 1) := by decide +kernel
theorem dX12_readsRule_21 : decode cX12_readsRule 21 = .ok (.iconst 1, 1) := by decide +kernel
theorem dX12_readsRule_22 : decode cX12_readsRule 22 = .ok (.aload_n 0, 1) := by decide +kernel
theorem dX12_readsRule_23 : decode cX12_readsRule 23 = .ok (.getfield 42, 3) := by decide +kernel
theorem dX12_readsRule_26 : decode cX12_readsRule 26 = .ok (.iconst 0, 1) := by decide +kernel
theorem dX12_readsRule_27 : decode cX12_readsRule 27 = .ok (.iaload, 1) := by decide +kernel
theorem dX12_readsRule_28 : decode cX12_readsRule 28 = .ok (.ishl, 1) := by decide +kernel
theorem dX12_readsRule_29 : decode cX12_readsRule 29 = .ok (.iconst 1, 1) := by decide +kernel
theorem dX12_readsRule_30 : decode cX12_readsRule 30 = .ok (.isub, 1) := by decide +kernel
theorem dX12_readsRule_31 : decode cX12_readsRule 31 = .ok (.invokevirtual 225, 3) := by decide +kernel
theorem dX12_readsRule_34 : decode cX12_readsRule 34 = .ok (.ifCond .ne 5, 3) := by decide +kernel
theorem dX12_readsRule_37 : decode cX12_readsRule 37 = .ok (.iconst 0, 1) := by decide +kernel
theorem dX12_readsRule_38 : decode cX12_readsRule 38 = .ok (.ireturn, 1) := by decide +kernel
theorem dX12_readsRule_39 : decode cX12_readsRule 39 = .ok (.aload_n 0, 1) := by decide +kernel
theorem dX12_readsRule_40 : decode cX12_readsRule 40 = .ok (.getfield 42, 3) := by decide +kernel
theorem dX12_readsRule_43 : decode cX12_readsRule 43 = .ok (.aload_n 0, 1) := by decide +kernel
theorem dX12_readsRule_44 : decode cX12_readsRule 44 = .ok (.getfield 45, 3) := by decide +kernel
theorem dX12_readsRule_47 : decode cX12_readsRule 47 = .ok (.iconst 0, 1) := by decide +kernel
theorem dX12_readsRule_48 : decode cX12_readsRule 48 = .ok (.iaload, 1) := by decide +kernel
theorem dX12_readsRule_49 : decode cX12_readsRule 49 = .ok (.aload_n 0, 1) := by decide +kernel
theorem dX12_readsRule_50 : decode cX12_readsRule 50 = .ok (.getfield 45, 3) := by decide +kernel
theorem dX12_readsRule_53 : decode cX12_readsRule 53 = .ok (.iconst 1, 1) := by decide +kernel
theorem dX12_readsRule_54 : decode cX12_readsRule 54 = .ok (.iaload, 1) := by decide +kernel
theorem dX12_readsRule_55 : decode cX12_readsRule 55 = .ok (.aload_n 0, 1) := by decide +kernel
theorem dX12_readsRule_56 : decode cX12_readsRule 56 = .ok (.getfield 45, 3) := by decide +kernel
theorem dX12_readsRule_59 : decode cX12_readsRule 59 = .ok (.iconst 2, 1) := by decide +kernel
theorem dX12_readsRule_60 : decode cX12_readsRule 60 = .ok (.iaload, 1) := by decide +kernel
theorem dX12_readsRule_61 : decode cX12_readsRule 61 = .ok (.invokestatic 167, 3) := by decide +kernel
theorem dX12_readsRule_64 : decode cX12_readsRule 64 = .ok (.iconst 1, 1) := by decide +kernel
theorem dX12_readsRule_65 : decode cX12_readsRule 65 = .ok (.ireturn, 1) := by decide +kernel
theorem dX12_readsItem_0 : decode cX12_readsItem 0 = .ok (.aload_n 0, 1) := by decide +kernel
theorem dX12_readsItem_1 : decode cX12_readsItem 1 = .ok (.bipush 116, 2) := by decide +kernel
theorem dX12_readsItem_3 : decode cX12_readsItem 3 = .ok (.bipush 104, 2) := by decide +kernel
theorem dX12_readsItem_5 : decode cX12_readsItem 5 = .ok (.bipush 105, 2) := by decide +kernel
theorem dX12_readsItem_7 : decode cX12_readsItem 7 = .ok (.bipush 110, 2) := by decide +kernel
theorem dX12_readsItem_9 : decode cX12_readsItem 9 = .ok (.bipush 103, 2) := by decide +kernel
theorem dX12_readsItem_11 : decode cX12_readsItem 11 = .ok (.iconst 0, 1) := by decide +kernel
theorem dX12_readsItem_12 : decode cX12_readsItem 12 = .ok (.invokevirtual 233, 3) := by decide +kernel
theorem dX12_readsItem_15 : decode cX12_readsItem 15 = .ok (.ifCond .eq 8, 3) := by decide +kernel
theorem dX12_readsItem_18 : decode cX12_readsItem 18 = .ok (.aload_n 0, 1) := by decide +kernel
theorem dX12_readsItem_19 : decode cX12_readsItem 19 = .ok (.invokevirtual 237, 3) := by decide +kernel
theorem dX12_readsItem_22 : decode cX12_readsItem 22 = .ok (.ireturn, 1) := by decide +kernel
theorem dX12_readsItem_23 : decode cX12_readsItem 23 = .ok (.aload_n 0, 1) := by decide +kernel
theorem dX12_readsItem_24 : decode cX12_readsItem 24 = .ok (.bipush 99, 2) := by decide +kernel
theorem dX12_readsItem_26 : decode cX12_readsItem 26 = .ok (.bipush 117, 2) := by decide +kernel
theorem dX12_readsItem_28 : decode cX12_readsItem 28 = .ok (.bipush 116, 2) := by decide +kernel
theorem dX12_readsItem_30 : decode cX12_readsItem 30 = .ok (.iconst 0, 1) := by decide +kernel
theorem dX12_readsItem_31 : decode cX12_readsItem 31 = .ok (.iconst 0, 1) := by decide +kernel
theorem dX12_readsItem_32 : decode cX12_readsItem 32 = .ok (.iconst 0, 1) := by decide +kernel
theorem dX12_readsItem_33 : decode cX12_readsItem 33 = .ok (.invokevirtual 233, 3) := by decide +kernel
theorem dX12_readsItem_36 : decode cX12_readsItem 36 = .ok (.ifCond .eq 8, 3) := by decide +kernel
theorem dX12_readsItem_39 : decode cX12_readsItem 39 = .ok (.aload_n 0, 1) := by decide +kernel
theorem dX12_readsItem_40 : decode cX12_readsItem 40 = .ok (.invokevirtual 240, 3) := by decide +kernel
theorem dX12_readsItem_43 : decode cX12_readsItem 43 = .ok (.ireturn, 1) := by decide +kernel
theorem dX12_readsItem_44 : decode cX12_readsItem 44 = .ok (.aload_n 0, 1) := by decide +kernel
theorem dX12_readsItem_45 : decode cX12_readsItem 45 = .ok (.bipush 100, 2) := by decide +kernel
theorem dX12_readsItem_47 : decode cX12_readsItem 47 = .ok (.bipush 97, 2) := by decide +kernel
theorem dX12_readsItem_49 : decode cX12_readsItem 49 = .ok (.bipush 109, 2) := by decide +kernel
theorem dX12_readsItem_51 : decode cX12_readsItem 51 = .ok (.bipush 112, 2) := by decide +kernel
theorem dX12_readsItem_53 : decode cX12_readsItem 53 = .ok (.iconst 0, 1) := by decide +kernel
theorem dX12_readsItem_54 : decode cX12_readsItem 54 = .ok (.iconst 0, 1) := by decide +kernel
theorem dX12_readsItem_55 : decode cX12_readsItem 55 = .ok (.invokevirtual 233, 3) := by decide +kernel
theorem dX12_readsItem_58 : decode cX12_readsItem 58 = .ok (.ifCond .eq 31, 3) := by decide +kernel
theorem dX12_readsItem_61 : decode cX12_readsItem 61 = .ok (.aload_n 0, 1) := by decide +kernel
theorem dX12_readsItem_62 : decode cX12_readsItem 62 = .ok (.invokevirtual 222, 3) := by decide +kernel
theorem dX12_readsItem_65 : decode cX12_readsItem 65 = .ok (.aload_n 0, 1) := by decide +kernel
theorem dX12_readsItem_66 : decode cX12_readsItem 66 = .ok (.iconst 0, 1) := by decide +kernel
theorem dX12_readsItem_67 : decode cX12_readsItem 67 = .ok (.iconst 0, 1) := by decide +kernel
theorem dX12_readsItem_68 : decode cX12_readsItem 68 = .ok (.bipush 9, 2) := by decide +kernel
theorem dX12_readsItem_70 : decode cX12_readsItem 70 = .ok (.invokevirtual 225, 3) := by decide +kernel
theorem dX12_readsItem_73 : decode cX12_readsItem 73 = .ok (.istore_n 1, 1) := by decide +kernel
theorem dX12_readsItem_74 : decode cX12_readsItem 74 = .ok (.aload_n 0, 1) := by decide +kernel
theorem dX12_readsItem_75 : decode cX12_readsItem 75 = .ok (.getfield 42, 3) := by decide +kernel
theorem dX12_readsItem_78 : decode cX12_readsItem 78 = .ok (.bipush 26, 2) := by decide +kernel
theorem dX12_readsItem_80 : decode cX12_readsItem 80 = .ok (.aload_n 0, 1) := by decide +kernel
theorem dX12_readsItem_81 : decode cX12_readsItem 81 = .ok (.getfield 45, 3) := by decide +kernel
theorem dX12_readsItem_84 : decode cX12_readsItem 84 = .ok (.iconst 0, 1) := by decide +kernel
theorem dX12_readsItem_85 : decode cX12_readsItem 85 = .ok (.iaload, 1) := by decide +kernel
theorem dX12_readsItem_86 : decode cX12_readsItem 86 = .ok (.iastore, 1) := by decide +kernel
theorem dX12_readsItem_87 : decode cX12_readsItem 87 = .ok (.iload_n 1, 1) := by decide +kernel
theorem dX12_readsItem_88 : decode cX12_readsItem 88 = .ok (.ireturn, 1) := by decide +kernel
theorem dX12_readsItem_89 : decode cX12_readsItem 89 = .ok (.aload_n 0, 1) := by decide +kernel
theorem dX12_readsItem_90 : decode cX12_readsItem 90 = .ok (.bipush 101, 2) := by decide +kernel
theorem dX12_readsItem_92 : decode cX12_readsItem 92 = .ok (.bipush 114, 2) := by decide +kernel
theorem dX12_readsItem_94 : decode cX12_readsItem 94 = .ok (.bipush 114, 2) := by decide +kernel
theorem dX12_readsItem_96 : decode cX12_readsItem 96 = .ok (.bipush 97, 2) := by decide +kernel
theorem dX12_readsItem_98 : decode cX12_readsItem 98 = .ok (.bipush 110, 2) := by decide +kernel
theorem dX12_readsItem_100 : decode cX12_readsItem 100 = .ok (.bipush 100, 2) := by decide +kernel
theorem dX12_readsItem_102 : decode cX12_readsItem 102 = .ok (.invokevirtual 233, 3) := by decide +kernel
theorem dX12_readsItem_105 : decode cX12_readsItem 105 = .ok (.ifCond .eq 8, 3) := by decide +kernel
theorem dX12_readsItem_108 : decode cX12_readsItem 108 = .ok (.aload_n 0, 1) := by decide +kernel
theorem dX12_readsItem_109 : decode cX12_readsItem 109 = .ok (.invokevirtual 243, 3) := by decide +kernel
theorem dX12_readsItem_112 : decode cX12_readsItem 112 = .ok (.ireturn, 1) := by decide +kernel
theorem dX12_readsItem_113 : decode cX12_readsItem 113 = .ok (.aload_n 0, 1) := by decide +kernel
theorem dX12_readsItem_114 : decode cX12_readsItem 114 = .ok (.bipush 114, 2) := by decide +kernel
theorem dX12_readsItem_116 : decode cX12_readsItem 116 = .ok (.bipush 117, 2) := by decide +kernel
theorem dX12_readsItem_118 : decode cX12_readsItem 118 = .ok (.bipush 108, 2) := by decide +kernel
theorem dX12_readsItem_120 : decode cX12_readsItem 120 = .ok (.bipush 101, 2) := by decide +kernel
theorem dX12_readsItem_122 : decode cX12_readsItem 122 = .ok (.iconst 0, 1) := by decide +kernel
theorem dX12_readsItem_123 : decode cX12_readsItem 123 = .ok (.iconst 0, 1) := by decide +kernel
theorem dX12_readsItem_124 : decode cX12_readsItem 124 = .ok (.invokevirtual 233, 3) := by decide +kernel
theorem dX12_readsItem_127 : decode cX12_readsItem 127 = .ok (.ifCond .eq 14, 3) := by decide +kernel
theorem dX12_readsItem_130 : decode cX12_readsItem 130 = .ok (.aload_n 0, 1) := by decide +kernel
theorem dX12_readsItem_131 : decode cX12_readsItem 131 = .ok (.invokevirtual 246, 3) := by decide +kernel
theorem dX12_readsItem_134 : decode cX12_readsItem 134 = .ok (.ifCond .eq 7, 3) := by decide +kernel
theorem dX12_readsItem_137 : decode cX12_readsItem 137 = .ok (.iconst 1, 1) := by decide +kernel
theorem dX12_readsItem_138 : decode cX12_readsItem 138 = .ok (.goto 4, 3) := by decide +kernel
theorem dX12_readsItem_141 : decode cX12_readsItem 141 = .ok (.iconst 0, 1) := by decide +kernel
theorem dX12_readsItem_142 : decode cX12_readsItem 142 = .ok (.ireturn, 1) := by decide +kernel
theorem dX12_read_0 : decode cX12_read 0 = .ok (.iconst 0, 1) := by decide +kernel
theorem dX12_read_1 : decode cX12_read 1 = .ok (.istore_n 1, 1) := by decide +kernel
theorem dX12_read_2 : decode cX12_read 2 = .ok (.iload_n 1, 1) := by decide +kernel
theorem dX12_read_3 : decode cX12_read 3 = .ok (.bipush 52, 2) := by decide +kernel
theorem dX12_read_5 : decode cX12_read 5 = .ok (.if_icmp .ge 16, 3) := by decide +kernel
theorem dX12_read_8 : decode cX12_read 8 = .ok (.aload_n 0, 1) := by decide +kernel
theorem dX12_read_9 : decode cX12_read 9 = .ok (.getfield 42, 3) := by decide +kernel
theorem dX12_read_12 : decode cX12_read 12 = .ok (.iload_n 1, 1) := by decide +kernel
theorem dX12_read_13 : decode cX12_read 13 = .ok (.iconst 0, 1) := by decide +kernel
theorem dX12_read_14 : decode cX12_read 14 = .ok (.iastore, 1) := by decide +kernel
theorem dX12_read_15 : decode cX12_read 15 = .ok (.iinc 1 1, 3) := by decide +kernel
theorem dX12_read_18 : decode cX12_read 18 = .ok (.goto (-16), 3) := by decide +kernel
theorem dX12_read_21 : decode cX12_read 21 = .ok (.iconst 0, 1) := by decide +kernel
theorem dX12_read_22 : decode cX12_read 22 = .ok (.istore_n 1, 1) := by decide +kernel
theorem dX12_read_23 : decode cX12_read 23 = .ok (.aload_n 0, 1) := by decide +kernel
theorem dX12_read_24 : decode cX12_read 24 = .ok (.iconst 0, 1) := by decide +kernel
theorem dX12_read_25 : decode cX12_read 25 = .ok (.invokevirtual 219, 3) := by decide +kernel
theorem dX12_read_28 : decode cX12_read 28 = .ok (.aload_n 0, 1) := by decide +kernel
theorem dX12_read_29 : decode cX12_read 29 = .ok (.getfield 207, 3) := by decide +kernel
theorem dX12_read_32 : decode cX12_read 32 = .ok (.ifCond .eq 36, 3) := by decide +kernel
theorem dX12_read_35 : decode cX12_read 35 = .ok (.aload_n 0, 1) := by decide +kernel
theorem dX12_read_36 : decode cX12_read 36 = .ok (.invokevirtual 249, 3) := by decide +kernel
theorem dX12_read_39 : decode cX12_read 39 = .ok (.ifCond .eq 11, 3) := by decide +kernel
theorem dX12_read_42 : decode cX12_read 42 = .ok (.aload_n 0, 1) := by decide +kernel
theorem dX12_read_43 : decode cX12_read 43 = .ok (.getfield 207, 3) := by decide +kernel
theorem dX12_read_46 : decode cX12_read 46 = .ok (.iconst 3, 1) := by decide +kernel
theorem dX12_read_47 : decode cX12_read 47 = .ok (.if_icmp .eq 11, 3) := by decide +kernel
theorem dX12_read_50 : decode cX12_read 50 = .ok (.bipush (-10), 2) := by decide +kernel
theorem dX12_read_52 : decode cX12_read 52 = .ok (.aload_n 0, 1) := by decide +kernel
theorem dX12_read_53 : decode cX12_read 53 = .ok (.getfield 201, 3) := by decide +kernel
theorem dX12_read_56 : decode cX12_read 56 = .ok (.isub, 1) := by decide +kernel
theorem dX12_read_57 : decode cX12_read 57 = .ok (.ireturn, 1) := by decide +kernel
theorem dX12_read_58 : decode cX12_read 58 = .ok (.aload_n 0, 1) := by decide +kernel
theorem dX12_read_59 : decode cX12_read 59 = .ok (.invokevirtual 222, 3) := by decide +kernel
theorem dX12_read_62 : decode cX12_read 62 = .ok (.iinc 1 1, 3) := by decide +kernel
theorem dX12_read_65 : decode cX12_read 65 = .ok (.goto (-37), 3) := by decide +kernel
theorem dX12_read_68 : decode cX12_read 68 = .ok (.iconst 0, 1) := by decide +kernel
theorem dX12_read_69 : decode cX12_read 69 = .ok (.istore_n 2, 1) := by decide +kernel
theorem dX12_read_70 : decode cX12_read 70 = .ok (.iload_n 2, 1) := by decide +kernel
theorem dX12_read_71 : decode cX12_read 71 = .ok (.bipush 52, 2) := by decide +kernel
theorem dX12_read_73 : decode cX12_read 73 = .ok (.if_icmp .ge 21, 3) := by decide +kernel
theorem dX12_read_76 : decode cX12_read 76 = .ok (.aload_n 0, 1) := by decide +kernel
theorem dX12_read_77 : decode cX12_read 77 = .ok (.getfield 7, 3) := by decide +kernel
theorem dX12_read_80 : decode cX12_read 80 = .ok (.iload_n 2, 1) := by decide +kernel
theorem dX12_read_81 : decode cX12_read 81 = .ok (.aload_n 0, 1) := by decide +kernel
theorem dX12_read_82 : decode cX12_read 82 = .ok (.getfield 42, 3) := by decide +kernel
theorem dX12_read_85 : decode cX12_read 85 = .ok (.iload_n 2, 1) := by decide +kernel
theorem dX12_read_86 : decode cX12_read 86 = .ok (.iaload, 1) := by decide +kernel
theorem dX12_read_87 : decode cX12_read 87 = .ok (.iastore, 1) := by decide +kernel
theorem dX12_read_88 : decode cX12_read 88 = .ok (.iinc 2 1, 3) := by decide +kernel
theorem dX12_read_91 : decode cX12_read 91 = .ok (.goto (-21), 3) := by decide +kernel
theorem dX12_read_94 : decode cX12_read 94 = .ok (.aload_n 0, 1) := by decide +kernel
theorem dX12_read_95 : decode cX12_read 95 = .ok (.getfield 7, 3) := by decide +kernel
theorem dX12_read_98 : decode cX12_read 98 = .ok (.bipush 52, 2) := by decide +kernel
theorem dX12_read_100 : decode cX12_read 100 = .ok (.iconst 0, 1) := by decide +kernel
theorem dX12_read_101 : decode cX12_read 101 = .ok (.iastore, 1) := by decide +kernel
theorem dX12_read_102 : decode cX12_read 102 = .ok (.iload_n 1, 1) := by decide +kernel
theorem dX12_read_103 : decode cX12_read 103 = .ok (.ireturn, 1) := by decide +kernel
theorem dX12_part_0 : decode cX12_part 0 = .ok (.iload_n 1, 1) := by decide +kernel
theorem dX12_part_1 : decode cX12_part 1 = .ok (.ifCond .ne 10, 3) := by decide +kernel
theorem dX12_part_4 : decode cX12_part 4 = .ok (.aload_n 0, 1) := by decide +kernel
theorem dX12_part_5 : decode cX12_part 5 = .ok (.getfield 183, 3) := by decide +kernel
theorem dX12_part_8 : decode cX12_part 8 = .ok (.goto 23, 3) := by decide +kernel
theorem dX12_part_11 : decode cX12_part 11 = .ok (.iload_n 1, 1) := by decide +kernel
theorem dX12_part_12 : decode cX12_part 12 = .ok (.iconst 1, 1) := by decide +kernel
theorem dX12_part_13 : decode cX12_part 13 = .ok (.if_icmp .ne 10, 3) := by decide +kernel
theorem dX12_part_16 : decode cX12_part 16 = .ok (.aload_n 0, 1) := by decide +kernel
theorem dX12_part_17 : decode cX12_part 17 = .ok (.getfield 23, 3) := by decide +kernel
theorem dX12_part_20 : decode cX12_part 20 = .ok (.goto 11, 3) := by decide +kernel
theorem dX12_part_23 : decode cX12_part 23 = .ok (.aload_n 0, 1) := by decide +kernel
theorem dX12_part_24 : decode cX12_part 24 = .ok (.sipush (-1000), 3) := by decide +kernel
theorem dX12_part_27 : decode cX12_part 27 = .ok (.invokevirtual 60, 3) := by decide +kernel
theorem dX12_part_30 : decode cX12_part 30 = .ok (.i2l, 1) := by decide +kernel
theorem dX12_part_31 : decode cX12_part 31 = .ok (.lreturn, 1) := by decide +kernel
theorem dX12_image_0 : decode cX12_image 0 = .ok (.iload_n 1, 1) := by decide +kernel
theorem dX12_image_1 : decode cX12_image 1 = .ok (.i2l, 1) := by decide +kernel
theorem dX12_image_2 : decode cX12_image 2 = .ok (.lconst 0, 1) := by decide +kernel
theorem dX12_image_3 : decode cX12_image 3 = .ok (.lconst 1, 1) := by decide +kernel
theorem dX12_image_4 : decode cX12_image 4 = .ok (.invokestatic 52, 3) := by decide +kernel
theorem dX12_image_7 : decode cX12_image 7 = .ok (.ifCond .ne 10, 3) := by decide +kernel
theorem dX12_image_10 : decode cX12_image 10 = .ok (.aload_n 0, 1) := by decide +kernel
theorem dX12_image_11 : decode cX12_image 11 = .ok (.bipush (-2), 2) := by decide +kernel
theorem dX12_image_13 : decode cX12_image 13 = .ok (.invokevirtual 60, 3) := by decide +kernel
theorem dX12_image_16 : decode cX12_image 16 = .ok (.ireturn, 1) := by decide +kernel
theorem dX12_image_17 : decode cX12_image 17 = .ok (.iconst 0, 1) := by decide +kernel
theorem dX12_image_18 : decode cX12_image 18 = .ok (.istore_n 2, 1) := by decide +kernel
theorem dX12_image_19 : decode cX12_image 19 = .ok (.iload_n 2, 1) := by decide +kernel
theorem dX12_image_20 : decode cX12_image 20 = .ok (.bipush 63, 2) := by decide +kernel
theorem dX12_image_22 : decode cX12_image 22 = .ok (.if_icmp .ge 26, 3) := by decide +kernel
theorem dX12_image_25 : decode cX12_image 25 = .ok (.aload_n 0, 1) := by decide +kernel
theorem dX12_image_26 : decode cX12_image 26 = .ok (.getfield 13, 3) := by decide +kernel
theorem dX12_image_29 : decode cX12_image 29 = .ok (.bipush 63, 2) := by decide +kernel
theorem dX12_image_31 : decode cX12_image 31 = .ok (.iload_n 1, 1) := by decide +kernel
theorem dX12_image_32 : decode cX12_image 32 = .ok (.imul, 1) := by decide +kernel
theorem dX12_image_33 : decode cX12_image 33 = .ok (.iload_n 2, 1) := by decide +kernel
theorem dX12_image_34 : decode cX12_image 34 = .ok (.iadd, 1) := by decide +kernel
theorem dX12_image_35 : decode cX12_image 35 = .ok (.aload_n 0, 1) := by decide +kernel
theorem dX12_image_36 : decode cX12_image 36 = .ok (.getfield 7, 3) := by decide +kernel
theorem dX12_image_39 : decode cX12_image 39 = .ok (.iload_n 2, 1) := by decide +kernel
theorem dX12_image_40 : decode cX12_image 40 = .ok (.iaload, 1) := by decide +kernel
theorem dX12_image_41 : decode cX12_image 41 = .ok (.iastore, 1) := by decide +kernel
theorem dX12_image_42 : decode cX12_image 42 = .ok (.iinc 2 1, 3) := by decide +kernel
theorem dX12_image_45 : decode cX12_image 45 = .ok (.goto (-26), 3) := by decide +kernel
theorem dX12_image_48 : decode cX12_image 48 = .ok (.aload_n 0, 1) := by decide +kernel
theorem dX12_image_49 : decode cX12_image 49 = .ok (.getfield 16, 3) := by decide +kernel
theorem dX12_image_52 : decode cX12_image 52 = .ok (.iload_n 1, 1) := by decide +kernel
theorem dX12_image_53 : decode cX12_image 53 = .ok (.iconst 1, 1) := by decide +kernel
theorem dX12_image_54 : decode cX12_image 54 = .ok (.bastore, 1) := by decide +kernel
theorem dX12_image_55 : decode cX12_image 55 = .ok (.iconst 1, 1) := by decide +kernel
theorem dX12_image_56 : decode cX12_image 56 = .ok (.ireturn, 1) := by decide +kernel
theorem dX12_from_0 : decode cX12_from 0 = .ok (.iload_n 1, 1) := by decide +kernel
theorem dX12_from_1 : decode cX12_from 1 = .ok (.i2l, 1) := by decide +kernel
theorem dX12_from_2 : decode cX12_from 2 = .ok (.lconst 0, 1) := by decide +kernel
theorem dX12_from_3 : decode cX12_from 3 = .ok (.lconst 1, 1) := by decide +kernel
theorem dX12_from_4 : decode cX12_from 4 = .ok (.invokestatic 52, 3) := by decide +kernel
theorem dX12_from_7 : decode cX12_from 7 = .ok (.ifCond .ne 10, 3) := by decide +kernel
theorem dX12_from_10 : decode cX12_from 10 = .ok (.aload_n 0, 1) := by decide +kernel
theorem dX12_from_11 : decode cX12_from 11 = .ok (.bipush (-2), 2) := by decide +kernel
theorem dX12_from_13 : decode cX12_from 13 = .ok (.invokevirtual 60, 3) := by decide +kernel
theorem dX12_from_16 : decode cX12_from 16 = .ok (.ireturn, 1) := by decide +kernel
theorem dX12_from_17 : decode cX12_from 17 = .ok (.aload_n 0, 1) := by decide +kernel
theorem dX12_from_18 : decode cX12_from 18 = .ok (.getfield 16, 3) := by decide +kernel
theorem dX12_from_21 : decode cX12_from 21 = .ok (.iload_n 1, 1) := by decide +kernel
theorem dX12_from_22 : decode cX12_from 22 = .ok (.baload, 1) := by decide +kernel
theorem dX12_from_23 : decode cX12_from 23 = .ok (.ifCond .ne 10, 3) := by decide +kernel
theorem dX12_from_26 : decode cX12_from 26 = .ok (.aload_n 0, 1) := by decide +kernel
theorem dX12_from_27 : decode cX12_from 27 = .ok (.bipush (-3), 2) := by decide +kernel
theorem dX12_from_29 : decode cX12_from 29 = .ok (.invokevirtual 79, 3) := by decide +kernel
theorem dX12_from_32 : decode cX12_from 32 = .ok (.ireturn, 1) := by decide +kernel
theorem dX12_from_33 : decode cX12_from 33 = .ok (.iconst 0, 1) := by decide +kernel
theorem dX12_from_34 : decode cX12_from 34 = .ok (.istore_n 2, 1) := by decide +kernel
theorem dX12_from_35 : decode cX12_from 35 = .ok (.iload_n 2, 1) := by decide +kernel
theorem dX12_from_36 : decode cX12_from 36 = .ok (.bipush 63, 2) := by decide +kernel
theorem dX12_from_38 : decode cX12_from 38 = .ok (.if_icmp .ge 26, 3) := by decide +kernel
theorem dX12_from_41 : decode cX12_from 41 = .ok (.aload_n 0, 1) := by decide +kernel
theorem dX12_from_42 : decode cX12_from 42 = .ok (.getfield 7, 3) := by decide +kernel
theorem dX12_from_45 : decode cX12_from 45 = .ok (.iload_n 2, 1) := by decide +kernel
theorem dX12_from_46 : decode cX12_from 46 = .ok (.aload_n 0, 1) := by decide +kernel
theorem dX12_from_47 : decode cX12_from 47 = .ok (.getfield 13, 3) := by decide +kernel
theorem dX12_from_50 : decode cX12_from 50 = .ok (.bipush 63, 2) := by decide +kernel
theorem dX12_from_52 : decode cX12_from 52 = .ok (.iload_n 1, 1) := by decide +kernel
theorem dX12_from_53 : decode cX12_from 53 = .ok (.imul, 1) := by decide +kernel
theorem dX12_from_54 : decode cX12_from 54 = .ok (.iload_n 2, 1) := by decide +kernel
theorem dX12_from_55 : decode cX12_from 55 = .ok (.iadd, 1) := by decide +kernel
theorem dX12_from_56 : decode cX12_from 56 = .ok (.iaload, 1) := by decide +kernel
theorem dX12_from_57 : decode cX12_from 57 = .ok (.iastore, 1) := by decide +kernel
theorem dX12_from_58 : decode cX12_from 58 = .ok (.iinc 2 1, 3) := by decide +kernel
theorem dX12_from_61 : decode cX12_from 61 = .ok (.goto (-26), 3) := by decide +kernel
theorem dX12_from_64 : decode cX12_from 64 = .ok (.iconst 1, 1) := by decide +kernel
theorem dX12_from_65 : decode cX12_from 65 = .ok (.ireturn, 1) := by decide +kernel
theorem dX12_status_0 : decode cX12_status 0 = .ok (.iload_n 1, 1) := by decide +kernel
theorem dX12_status_1 : decode cX12_status 1 = .ok (.i2l, 1) := by decide +kernel
theorem dX12_status_2 : decode cX12_status 2 = .ok (.lconst 0, 1) := by decide +kernel
theorem dX12_status_3 : decode cX12_status 3 = .ok (.ldc2_w 252, 3) := by decide +kernel
theorem dX12_status_6 : decode cX12_status 6 = .ok (.invokestatic 52, 3) := by decide +kernel
theorem dX12_status_9 : decode cX12_status 9 = .ok (.ifCond .eq 12, 3) := by decide +kernel
theorem dX12_status_12 : decode cX12_status 12 = .ok (.aload_n 0, 1) := by decide +kernel
theorem dX12_status_13 : decode cX12_status 13 = .ok (.getfield 20, 3) := by decide +kernel
theorem dX12_status_16 : decode cX12_status 16 = .ok (.iload_n 1, 1) := by decide +kernel
theorem dX12_status_17 : decode cX12_status 17 = .ok (.iaload, 1) := by decide +kernel
theorem dX12_status_18 : decode cX12_status 18 = .ok (.goto 8, 3) := by decide +kernel
theorem dX12_status_21 : decode cX12_status 21 = .ok (.aload_n 0, 1) := by decide +kernel
theorem dX12_status_22 : decode cX12_status 22 = .ok (.iconst (-1), 1) := by decide +kernel
theorem dX12_status_23 : decode cX12_status 23 = .ok (.invokevirtual 60, 3) := by decide +kernel
theorem dX12_status_26 : decode cX12_status 26 = .ok (.ireturn, 1) := by decide +kernel
theorem dX12_counted_0 : decode cX12_counted 0 = .ok (.iload_n 1, 1) := by decide +kernel
theorem dX12_counted_1 : decode cX12_counted 1 = .ok (.tableswitch 75 0 5 #[39, 44, 52, 57, 62, 70], 39) := by decide +kernel
theorem dX12_counted_40 : decode cX12_counted 40 = .ok (.aload_n 0, 1) := by decide +kernel
theorem dX12_counted_41 : decode cX12_counted 41 = .ok (.invokevirtual 48, 3) := by decide +kernel
theorem dX12_counted_44 : decode cX12_counted 44 = .ok (.ireturn, 1) := by decide +kernel
theorem dX12_counted_45 : decode cX12_counted 45 = .ok (.aload_n 0, 1) := by decide +kernel
theorem dX12_counted_46 : decode cX12_counted 46 = .ok (.invokevirtual 86, 3) := by decide +kernel
theorem dX12_counted_49 : decode cX12_counted 49 = .ok (.invokestatic 136, 3) := by decide +kernel
theorem dX12_counted_52 : decode cX12_counted 52 = .ok (.ireturn, 1) := by decide +kernel
theorem dX12_counted_53 : decode cX12_counted 53 = .ok (.aload_n 0, 1) := by decide +kernel
theorem dX12_counted_54 : decode cX12_counted 54 = .ok (.invokevirtual 133, 3) := by decide +kernel
theorem dX12_counted_57 : decode cX12_counted 57 = .ok (.ireturn, 1) := by decide +kernel
theorem dX12_counted_58 : decode cX12_counted 58 = .ok (.aload_n 0, 1) := by decide +kernel
theorem dX12_counted_59 : decode cX12_counted 59 = .ok (.invokevirtual 164, 3) := by decide +kernel
theorem dX12_counted_62 : decode cX12_counted 62 = .ok (.ireturn, 1) := by decide +kernel
theorem dX12_counted_63 : decode cX12_counted 63 = .ok (.aload_n 0, 1) := by decide +kernel
theorem dX12_counted_64 : decode cX12_counted 64 = .ok (.getfield 7, 3) := by decide +kernel
theorem dX12_counted_67 : decode cX12_counted 67 = .ok (.bipush 52, 2) := by decide +kernel
theorem dX12_counted_69 : decode cX12_counted 69 = .ok (.iaload, 1) := by decide +kernel
theorem dX12_counted_70 : decode cX12_counted 70 = .ok (.ireturn, 1) := by decide +kernel
theorem dX12_counted_71 : decode cX12_counted 71 = .ok (.aload_n 0, 1) := by decide +kernel
theorem dX12_counted_72 : decode cX12_counted 72 = .ok (.getfield 188, 3) := by decide +kernel
theorem dX12_counted_75 : decode cX12_counted 75 = .ok (.ireturn, 1) := by decide +kernel
theorem dX12_counted_76 : decode cX12_counted 76 = .ok (.aload_n 0, 1) := by decide +kernel
theorem dX12_counted_77 : decode cX12_counted 77 = .ok (.getfield 7, 3) := by decide +kernel
theorem dX12_counted_80 : decode cX12_counted 80 = .ok (.bipush 26, 2) := by decide +kernel
theorem dX12_counted_82 : decode cX12_counted 82 = .ok (.iaload, 1) := by decide +kernel
theorem dX12_counted_83 : decode cX12_counted 83 = .ok (.ireturn, 1) := by decide +kernel
theorem dX12_count_0 : decode cX12_count 0 = .ok (.iload_n 1, 1) := by decide +kernel
theorem dX12_count_1 : decode cX12_count 1 = .ok (.i2l, 1) := by decide +kernel
theorem dX12_count_2 : decode cX12_count 2 = .ok (.lconst 0, 1) := by decide +kernel
theorem dX12_count_3 : decode cX12_count 3 = .ok (.ldc2_w 254, 3) := by decide +kernel
theorem dX12_count_6 : decode cX12_count 6 = .ok (.invokestatic 52, 3) := by decide +kernel
theorem dX12_count_9 : decode cX12_count 9 = .ok (.ifCond .eq 11, 3) := by decide +kernel
theorem dX12_count_12 : decode cX12_count 12 = .ok (.aload_n 0, 1) := by decide +kernel
theorem dX12_count_13 : decode cX12_count 13 = .ok (.iload_n 1, 1) := by decide +kernel
theorem dX12_count_14 : decode cX12_count 14 = .ok (.invokevirtual 256, 3) := by decide +kernel
theorem dX12_count_17 : decode cX12_count 17 = .ok (.goto 9, 3) := by decide +kernel
theorem dX12_count_20 : decode cX12_count 20 = .ok (.aload_n 0, 1) := by decide +kernel
theorem dX12_count_21 : decode cX12_count 21 = .ok (.bipush (-2), 2) := by decide +kernel
theorem dX12_count_23 : decode cX12_count 23 = .ok (.invokevirtual 60, 3) := by decide +kernel
theorem dX12_count_26 : decode cX12_count 26 = .ok (.ireturn, 1) := by decide +kernel
theorem dX12_sums_0 : decode cX12_sums 0 = .ok (.lload_n 1, 1) := by decide +kernel
theorem dX12_sums_1 : decode cX12_sums 1 = .ok (.lstore 5, 2) := by decide +kernel
theorem dX12_sums_3 : decode cX12_sums 3 = .ok (.iconst 0, 1) := by decide +kernel
theorem dX12_sums_4 : decode cX12_sums 4 = .ok (.istore 7, 2) := by decide +kernel
theorem dX12_sums_6 : decode cX12_sums 6 = .ok (.iload 7, 2) := by decide +kernel
theorem dX12_sums_8 : decode cX12_sums 8 = .ok (.iload 4, 2) := by decide +kernel
theorem dX12_sums_10 : decode cX12_sums 10 = .ok (.if_icmp .ge 28, 3) := by decide +kernel
theorem dX12_sums_13 : decode cX12_sums 13 = .ok (.ldc2_w 259, 3) := by decide +kernel
theorem dX12_sums_16 : decode cX12_sums 16 = .ok (.lload 5, 2) := by decide +kernel
theorem dX12_sums_18 : decode cX12_sums 18 = .ok (.lmul, 1) := by decide +kernel
theorem dX12_sums_19 : decode cX12_sums 19 = .ok (.aload_n 0, 1) := by decide +kernel
theorem dX12_sums_20 : decode cX12_sums 20 = .ok (.getfield 7, 3) := by decide +kernel
theorem dX12_sums_23 : decode cX12_sums 23 = .ok (.iload_n 3, 1) := by decide +kernel
theorem dX12_sums_24 : decode cX12_sums 24 = .ok (.iload 7, 2) := by decide +kernel
theorem dX12_sums_26 : decode cX12_sums 26 = .ok (.iadd, 1) := by decide +kernel
theorem dX12_sums_27 : decode cX12_sums 27 = .ok (.iaload, 1) := by decide +kernel
theorem dX12_sums_28 : decode cX12_sums 28 = .ok (.i2l, 1) := by decide +kernel
theorem dX12_sums_29 : decode cX12_sums 29 = .ok (.ladd, 1) := by decide +kernel
theorem dX12_sums_30 : decode cX12_sums 30 = .ok (.lstore 5, 2) := by decide +kernel
theorem dX12_sums_32 : decode cX12_sums 32 = .ok (.iinc 7 1, 3) := by decide +kernel
theorem dX12_sums_35 : decode cX12_sums 35 = .ok (.goto (-29), 3) := by decide +kernel
theorem dX12_sums_38 : decode cX12_sums 38 = .ok (.lload 5, 2) := by decide +kernel
theorem dX12_sums_40 : decode cX12_sums 40 = .ok (.lreturn, 1) := by decide +kernel
theorem dX12_digest_0 : decode cX12_digest 0 = .ok (.ldc2_w 261, 3) := by decide +kernel
theorem dX12_digest_3 : decode cX12_digest 3 = .ok (.lstore_n 1, 1) := by decide +kernel
theorem dX12_digest_4 : decode cX12_digest 4 = .ok (.iconst 0, 1) := by decide +kernel
theorem dX12_digest_5 : decode cX12_digest 5 = .ok (.istore_n 3, 1) := by decide +kernel
theorem dX12_digest_6 : decode cX12_digest 6 = .ok (.iload_n 3, 1) := by decide +kernel
theorem dX12_digest_7 : decode cX12_digest 7 = .ok (.bipush 7, 2) := by decide +kernel
theorem dX12_digest_9 : decode cX12_digest 9 = .ok (.if_icmp .ge 22, 3) := by decide +kernel
theorem dX12_digest_12 : decode cX12_digest 12 = .ok (.ldc2_w 259, 3) := by decide +kernel
theorem dX12_digest_15 : decode cX12_digest 15 = .ok (.lload_n 1, 1) := by decide +kernel
theorem dX12_digest_16 : decode cX12_digest 16 = .ok (.lmul, 1) := by decide +kernel
theorem dX12_digest_17 : decode cX12_digest 17 = .ok (.aload_n 0, 1) := by decide +kernel
theorem dX12_digest_18 : decode cX12_digest 18 = .ok (.iload_n 3, 1) := by decide +kernel
theorem dX12_digest_19 : decode cX12_digest 19 = .ok (.invokevirtual 256, 3) := by decide +kernel
theorem dX12_digest_22 : decode cX12_digest 22 = .ok (.i2l, 1) := by decide +kernel
theorem dX12_digest_23 : decode cX12_digest 23 = .ok (.ladd, 1) := by decide +kernel
theorem dX12_digest_24 : decode cX12_digest 24 = .ok (.lstore_n 1, 1) := by decide +kernel
theorem dX12_digest_25 : decode cX12_digest 25 = .ok (.iinc 3 1, 3) := by decide +kernel
theorem dX12_digest_28 : decode cX12_digest 28 = .ok (.goto (-22), 3) := by decide +kernel
theorem dX12_digest_31 : decode cX12_digest 31 = .ok (.ldc2_w 259, 3) := by decide +kernel
theorem dX12_digest_34 : decode cX12_digest 34 = .ok (.lload_n 1, 1) := by decide +kernel
theorem dX12_digest_35 : decode cX12_digest 35 = .ok (.lmul, 1) := by decide +kernel
theorem dX12_digest_36 : decode cX12_digest 36 = .ok (.aload_n 0, 1) := by decide +kernel
theorem dX12_digest_37 : decode cX12_digest 37 = .ok (.getfield 7, 3) := by decide +kernel
theorem dX12_digest_40 : decode cX12_digest 40 = .ok (.bipush 27, 2) := by decide +kernel
theorem dX12_digest_42 : decode cX12_digest 42 = .ok (.iaload, 1) := by decide +kernel
theorem dX12_digest_43 : decode cX12_digest 43 = .ok (.i2l, 1) := by decide +kernel
theorem dX12_digest_44 : decode cX12_digest 44 = .ok (.ladd, 1) := by decide +kernel
theorem dX12_digest_45 : decode cX12_digest 45 = .ok (.lstore_n 1, 1) := by decide +kernel
theorem dX12_digest_46 : decode cX12_digest 46 = .ok (.aload_n 0, 1) := by decide +kernel
theorem dX12_digest_47 : decode cX12_digest 47 = .ok (.lload_n 1, 1) := by decide +kernel
theorem dX12_digest_48 : decode cX12_digest 48 = .ok (.iconst 1, 1) := by decide +kernel
theorem dX12_digest_49 : decode cX12_digest 49 = .ok (.iconst 5, 1) := by decide +kernel
theorem dX12_digest_50 : decode cX12_digest 50 = .ok (.aload_n 0, 1) := by decide +kernel
theorem dX12_digest_51 : decode cX12_digest 51 = .ok (.invokevirtual 48, 3) := by decide +kernel
theorem dX12_digest_54 : decode cX12_digest 54 = .ok (.imul, 1) := by decide +kernel
theorem dX12_digest_55 : decode cX12_digest 55 = .ok (.invokevirtual 263, 3) := by decide +kernel
theorem dX12_digest_58 : decode cX12_digest 58 = .ok (.lstore_n 1, 1) := by decide +kernel
theorem dX12_digest_59 : decode cX12_digest 59 = .ok (.aload_n 0, 1) := by decide +kernel
theorem dX12_digest_60 : decode cX12_digest 60 = .ok (.lload_n 1, 1) := by decide +kernel
theorem dX12_digest_61 : decode cX12_digest 61 = .ok (.bipush 29, 2) := by decide +kernel
theorem dX12_digest_63 : decode cX12_digest 63 = .ok (.iconst 2, 1) := by decide +kernel
theorem dX12_digest_64 : decode cX12_digest 64 = .ok (.aload_n 0, 1) := by decide +kernel
theorem dX12_digest_65 : decode cX12_digest 65 = .ok (.invokevirtual 133, 3) := by decide +kernel
theorem dX12_digest_68 : decode cX12_digest 68 = .ok (.imul, 1) := by decide +kernel
theorem dX12_digest_69 : decode cX12_digest 69 = .ok (.invokevirtual 263, 3) := by decide +kernel
theorem dX12_digest_72 : decode cX12_digest 72 = .ok (.lstore_n 1, 1) := by decide +kernel
theorem dX12_digest_73 : decode cX12_digest 73 = .ok (.aload_n 0, 1) := by decide +kernel
theorem dX12_digest_74 : decode cX12_digest 74 = .ok (.lload_n 1, 1) := by decide +kernel
theorem dX12_digest_75 : decode cX12_digest 75 = .ok (.bipush 40, 2) := by decide +kernel
theorem dX12_digest_77 : decode cX12_digest 77 = .ok (.iconst 3, 1) := by decide +kernel
theorem dX12_digest_78 : decode cX12_digest 78 = .ok (.aload_n 0, 1) := by decide +kernel
theorem dX12_digest_79 : decode cX12_digest 79 = .ok (.invokevirtual 164, 3) := by decide +kernel
theorem dX12_digest_82 : decode cX12_digest 82 = .ok (.imul, 1) := by decide +kernel
theorem dX12_digest_83 : decode cX12_digest 83 = .ok (.invokevirtual 263, 3) := by decide +kernel
theorem dX12_digest_86 : decode cX12_digest 86 = .ok (.lstore_n 1, 1) := by decide +kernel
theorem dX12_digest_87 : decode cX12_digest 87 = .ok (.ldc2_w 259, 3) := by decide +kernel
theorem dX12_digest_90 : decode cX12_digest 90 = .ok (.ldc2_w 259, 3) := by decide +kernel
theorem dX12_digest_93 : decode cX12_digest 93 = .ok (.lload_n 1, 1) := by decide +kernel
theorem dX12_digest_94 : decode cX12_digest 94 = .ok (.lmul, 1) := by decide +kernel
theorem dX12_digest_95 : decode cX12_digest 95 = .ok (.aload_n 0, 1) := by decide +kernel
theorem dX12_digest_96 : decode cX12_digest 96 = .ok (.getfield 183, 3) := by decide +kernel
theorem dX12_digest_99 : decode cX12_digest 99 = .ok (.ladd, 1) := by decide +kernel
theorem dX12_digest_100 : decode cX12_digest 100 = .ok (.lmul, 1) := by decide +kernel
theorem dX12_digest_101 : decode cX12_digest 101 = .ok (.aload_n 0, 1) := by decide +kernel
theorem dX12_digest_102 : decode cX12_digest 102 = .ok (.getfield 23, 3) := by decide +kernel
theorem dX12_digest_105 : decode cX12_digest 105 = .ok (.ladd, 1) := by decide +kernel
theorem dX12_digest_106 : decode cX12_digest 106 = .ok (.lreturn, 1) := by decide +kernel
