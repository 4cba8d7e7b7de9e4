theorem dX4_sameMap_56 : decode cX4_sameMap 56 = .ok (.iinc 2 1, 3) := by decide +kernel
theorem dX4_sameMap_59 : decode cX4_sameMap 59 = .ok (.goto (-44), 3) := by decide +kernel
theorem dX4_sameMap_62 : decode cX4_sameMap 62 = .ok (.iconst 1, 1) := by decide +kernel
theorem dX4_sameMap_63 : decode cX4_sameMap 63 = .ok (.ireturn, 1) := by decide +kernel
theorem dX4_sameItems_0 : decode cX4_sameItems 0 = .ok (.aload_n 0, 1) := by decide +kernel
theorem dX4_sameItems_1 : decode cX4_sameItems 1 = .ok (.getfield 22, 3) := by decide +kernel
theorem dX4_sameItems_4 : decode cX4_sameItems 4 = .ok (.iload_n 1, 1) := by decide +kernel
theorem dX4_sameItems_5 : decode cX4_sameItems 5 = .ok (.iaload, 1) := by decide +kernel
theorem dX4_sameItems_6 : decode cX4_sameItems 6 = .ok (.aload_n 2, 1) := by decide +kernel
theorem dX4_sameItems_7 : decode cX4_sameItems 7 = .ok (.getfield 22, 3) := by decide +kernel
theorem dX4_sameItems_10 : decode cX4_sameItems 10 = .ok (.iload_n 1, 1) := by decide +kernel
theorem dX4_sameItems_11 : decode cX4_sameItems 11 = .ok (.iaload, 1) := by decide +kernel
theorem dX4_sameItems_12 : decode cX4_sameItems 12 = .ok (.if_icmp .eq 5, 3) := by decide +kernel
theorem dX4_sameItems_15 : decode cX4_sameItems 15 = .ok (.iconst 0, 1) := by decide +kernel
theorem dX4_sameItems_16 : decode cX4_sameItems 16 = .ok (.ireturn, 1) := by decide +kernel
theorem dX4_sameItems_17 : decode cX4_sameItems 17 = .ok (.iload_n 1, 1) := by decide +kernel
theorem dX4_sameItems_18 : decode cX4_sameItems 18 = .ok (.bipush 14, 2) := by decide +kernel
theorem dX4_sameItems_20 : decode cX4_sameItems 20 = .ok (.imul, 1) := by decide +kernel
theorem dX4_sameItems_21 : decode cX4_sameItems 21 = .ok (.istore_n 3, 1) := by decide +kernel
theorem dX4_sameItems_22 : decode cX4_sameItems 22 = .ok (.iload_n 3, 1) := by decide +kernel
theorem dX4_sameItems_23 : decode cX4_sameItems 23 = .ok (.iload_n 1, 1) := by decide +kernel
theorem dX4_sameItems_24 : decode cX4_sameItems 24 = .ok (.bipush 14, 2) := by decide +kernel
theorem dX4_sameItems_26 : decode cX4_sameItems 26 = .ok (.imul, 1) := by decide +kernel
theorem dX4_sameItems_27 : decode cX4_sameItems 27 = .ok (.aload_n 0, 1) := by decide +kernel
theorem dX4_sameItems_28 : decode cX4_sameItems 28 = .ok (.getfield 22, 3) := by decide +kernel
theorem dX4_sameItems_31 : decode cX4_sameItems 31 = .ok (.iload_n 1, 1) := by decide +kernel
theorem dX4_sameItems_32 : decode cX4_sameItems 32 = .ok (.iaload, 1) := by decide +kernel
theorem dX4_sameItems_33 : decode cX4_sameItems 33 = .ok (.iadd, 1) := by decide +kernel
theorem dX4_sameItems_34 : decode cX4_sameItems 34 = .ok (.if_icmp .ge 56, 3) := by decide +kernel
theorem dX4_sameItems_37 : decode cX4_sameItems 37 = .ok (.aload_n 0, 1) := by decide +kernel
theorem dX4_sameItems_38 : decode cX4_sameItems 38 = .ok (.getfield 40, 3) := by decide +kernel
theorem dX4_sameItems_41 : decode cX4_sameItems 41 = .ok (.iload_n 3, 1) := by decide +kernel
theorem dX4_sameItems_42 : decode cX4_sameItems 42 = .ok (.iaload, 1) := by decide +kernel
theorem dX4_sameItems_43 : decode cX4_sameItems 43 = .ok (.aload_n 2, 1) := by decide +kernel
theorem dX4_sameItems_44 : decode cX4_sameItems 44 = .ok (.getfield 40, 3) := by decide +kernel
theorem dX4_sameItems_47 : decode cX4_sameItems 47 = .ok (.iload_n 3, 1) := by decide +kernel
theorem dX4_sameItems_48 : decode cX4_sameItems 48 = .ok (.iaload, 1) := by decide +kernel
theorem dX4_sameItems_49 : decode cX4_sameItems 49 = .ok (.if_icmp .ne 33, 3) := by decide +kernel
theorem dX4_sameItems_52 : decode cX4_sameItems 52 = .ok (.aload_n 0, 1) := by decide +kernel
theorem dX4_sameItems_53 : decode cX4_sameItems 53 = .ok (.getfield 43, 3) := by decide +kernel
theorem dX4_sameItems_56 : decode cX4_sameItems 56 = .ok (.iload_n 3, 1) := by decide +kernel
theorem dX4_sameItems_57 : decode cX4_sameItems 57 = .ok (.iaload, 1) := by decide +kernel
theorem dX4_sameItems_58 : decode cX4_sameItems 58 = .ok (.aload_n 2, 1) := by decide +kernel
theorem dX4_sameItems_59 : decode cX4_sameItems 59 = .ok (.getfield 43, 3) := by decide +kernel
theorem dX4_sameItems_62 : decode cX4_sameItems 62 = .ok (.iload_n 3, 1) := by decide +kernel
theorem dX4_sameItems_63 : decode cX4_sameItems 63 = .ok (.iaload, 1) := by decide +kernel
theorem dX4_sameItems_64 : decode cX4_sameItems 64 = .ok (.if_icmp .ne 18, 3) := by decide +kernel
theorem dX4_sameItems_67 : decode cX4_sameItems 67 = .ok (.aload_n 0, 1) := by decide +kernel
theorem dX4_sameItems_68 : decode cX4_sameItems 68 = .ok (.getfield 46, 3) := by decide +kernel
theorem dX4_sameItems_71 : decode cX4_sameItems 71 = .ok (.iload_n 3, 1) := by decide +kernel
theorem dX4_sameItems_72 : decode cX4_sameItems 72 = .ok (.iaload, 1) := by decide +kernel
theorem dX4_sameItems_73 : decode cX4_sameItems 73 = .ok (.aload_n 2, 1) := by decide +kernel
theorem dX4_sameItems_74 : decode cX4_sameItems 74 = .ok (.getfield 46, 3) := by decide +kernel
theorem dX4_sameItems_77 : decode cX4_sameItems 77 = .ok (.iload_n 3, 1) := by decide +kernel
theorem dX4_sameItems_78 : decode cX4_sameItems 78 = .ok (.iaload, 1) := by decide +kernel
theorem dX4_sameItems_79 : decode cX4_sameItems 79 = .ok (.if_icmp .eq 5, 3) := by decide +kernel
theorem dX4_sameItems_82 : decode cX4_sameItems 82 = .ok (.iconst 0, 1) := by decide +kernel
theorem dX4_sameItems_83 : decode cX4_sameItems 83 = .ok (.ireturn, 1) := by decide +kernel
theorem dX4_sameItems_84 : decode cX4_sameItems 84 = .ok (.iinc 3 1, 3) := by decide +kernel
theorem dX4_sameItems_87 : decode cX4_sameItems 87 = .ok (.goto (-65), 3) := by decide +kernel
theorem dX4_sameItems_90 : decode cX4_sameItems 90 = .ok (.iconst 1, 1) := by decide +kernel
theorem dX4_sameItems_91 : decode cX4_sameItems 91 = .ok (.ireturn, 1) := by decide +kernel
theorem dX4_sameInner_0 : decode cX4_sameInner 0 = .ok (.aload_n 0, 1) := by decide +kernel
theorem dX4_sameInner_1 : decode cX4_sameInner 1 = .ok (.getfield 19, 3) := by decide +kernel
theorem dX4_sameInner_4 : decode cX4_sameInner 4 = .ok (.iload_n 1, 1) := by decide +kernel
theorem dX4_sameInner_5 : decode cX4_sameInner 5 = .ok (.iaload, 1) := by decide +kernel
theorem dX4_sameInner_6 : decode cX4_sameInner 6 = .ok (.aload_n 2, 1) := by decide +kernel
theorem dX4_sameInner_7 : decode cX4_sameInner 7 = .ok (.getfield 19, 3) := by decide +kernel
theorem dX4_sameInner_10 : decode cX4_sameInner 10 = .ok (.iload_n 1, 1) := by decide +kernel
theorem dX4_sameInner_11 : decode cX4_sameInner 11 = .ok (.iaload, 1) := by decide +kernel
theorem dX4_sameInner_12 : decode cX4_sameInner 12 = .ok (.if_icmp .ne 18, 3) := by decide +kernel
theorem dX4_sameInner_15 : decode cX4_sameInner 15 = .ok (.aload_n 0, 1) := by decide +kernel
theorem dX4_sameInner_16 : decode cX4_sameInner 16 = .ok (.getfield 22, 3) := by decide +kernel
theorem dX4_sameInner_19 : decode cX4_sameInner 19 = .ok (.iload_n 1, 1) := by decide +kernel
theorem dX4_sameInner_20 : decode cX4_sameInner 20 = .ok (.iaload, 1) := by decide +kernel
theorem dX4_sameInner_21 : decode cX4_sameInner 21 = .ok (.aload_n 2, 1) := by decide +kernel
theorem dX4_sameInner_22 : decode cX4_sameInner 22 = .ok (.getfield 22, 3) := by decide +kernel
theorem dX4_sameInner_25 : decode cX4_sameInner 25 = .ok (.iload_n 1, 1) := by decide +kernel
theorem dX4_sameInner_26 : decode cX4_sameInner 26 = .ok (.iaload, 1) := by decide +kernel
theorem dX4_sameInner_27 : decode cX4_sameInner 27 = .ok (.if_icmp .eq 5, 3) := by decide +kernel
theorem dX4_sameInner_30 : decode cX4_sameInner 30 = .ok (.iconst 0, 1) := by decide +kernel
theorem dX4_sameInner_31 : decode cX4_sameInner 31 = .ok (.ireturn, 1) := by decide +kernel
theorem dX4_sameInner_32 : decode cX4_sameInner 32 = .ok (.iload_n 1, 1) := by decide +kernel
theorem dX4_sameInner_33 : decode cX4_sameInner 33 = .ok (.bipush 6, 2) := by decide +kernel
theorem dX4_sameInner_35 : decode cX4_sameInner 35 = .ok (.imul, 1) := by decide +kernel
theorem dX4_sameInner_36 : decode cX4_sameInner 36 = .ok (.istore_n 3, 1) := by decide +kernel
theorem dX4_sameInner_37 : decode cX4_sameInner 37 = .ok (.iload_n 3, 1) := by decide +kernel
theorem dX4_sameInner_38 : decode cX4_sameInner 38 = .ok (.iload_n 1, 1) := by decide +kernel
theorem dX4_sameInner_39 : decode cX4_sameInner 39 = .ok (.bipush 6, 2) := by decide +kernel
theorem dX4_sameInner_41 : decode cX4_sameInner 41 = .ok (.imul, 1) := by decide +kernel
theorem dX4_sameInner_42 : decode cX4_sameInner 42 = .ok (.aload_n 0, 1) := by decide +kernel
theorem dX4_sameInner_43 : decode cX4_sameInner 43 = .ok (.getfield 22, 3) := by decide +kernel
theorem dX4_sameInner_46 : decode cX4_sameInner 46 = .ok (.iload_n 1, 1) := by decide +kernel
theorem dX4_sameInner_47 : decode cX4_sameInner 47 = .ok (.iaload, 1) := by decide +kernel
theorem dX4_sameInner_48 : decode cX4_sameInner 48 = .ok (.iadd, 1) := by decide +kernel
theorem dX4_sameInner_49 : decode cX4_sameInner 49 = .ok (.if_icmp .ge 49, 3) := by decide +kernel
theorem dX4_sameInner_52 : decode cX4_sameInner 52 = .ok (.aload_n 0, 1) := by decide +kernel
theorem dX4_sameInner_53 : decode cX4_sameInner 53 = .ok (.getfield 37, 3) := by decide +kernel
theorem dX4_sameInner_56 : decode cX4_sameInner 56 = .ok (.iload_n 3, 1) := by decide +kernel
theorem dX4_sameInner_57 : decode cX4_sameInner 57 = .ok (.iaload, 1) := by decide +kernel
theorem dX4_sameInner_58 : decode cX4_sameInner 58 = .ok (.aload_n 2, 1) := by decide +kernel
theorem dX4_sameInner_59 : decode cX4_sameInner 59 = .ok (.getfield 37, 3) := by decide +kernel
theorem dX4_sameInner_62 : decode cX4_sameInner 62 = .ok (.iload_n 3, 1) := by decide +kernel
theorem dX4_sameInner_63 : decode cX4_sameInner 63 = .ok (.iaload, 1) := by decide +kernel
theorem dX4_sameInner_64 : decode cX4_sameInner 64 = .ok (.if_icmp .ne 26, 3) := by decide +kernel
theorem dX4_sameInner_67 : decode cX4_sameInner 67 = .ok (.aload_n 0, 1) := by decide +kernel
theorem dX4_sameInner_68 : decode cX4_sameInner 68 = .ok (.aload_n 0, 1) := by decide +kernel
theorem dX4_sameInner_69 : decode cX4_sameInner 69 = .ok (.getfield 37, 3) := by decide +kernel
theorem dX4_sameInner_72 : decode cX4_sameInner 72 = .ok (.iload_n 3, 1) := by decide +kernel
theorem dX4_sameInner_73 : decode cX4_sameInner 73 = .ok (.iaload, 1) := by decide +kernel
theorem dX4_sameInner_74 : decode cX4_sameInner 74 = .ok (.invokevirtual 137, 3) := by decide +kernel
theorem dX4_sameInner_77 : decode cX4_sameInner 77 = .ok (.aload_n 2, 1) := by decide +kernel
theorem dX4_sameInner_78 : decode cX4_sameInner 78 = .ok (.aload_n 2, 1) := by decide +kernel
theorem dX4_sameInner_79 : decode cX4_sameInner 79 = .ok (.getfield 37, 3) := by decide +kernel
theorem dX4_sameInner_82 : decode cX4_sameInner 82 = .ok (.iload_n 3, 1) := by decide +kernel
theorem dX4_sameInner_83 : decode cX4_sameInner 83 = .ok (.iaload, 1) := by decide +kernel
theorem dX4_sameInner_84 : decode cX4_sameInner 84 = .ok (.invokevirtual 137, 3) := by decide +kernel
theorem dX4_sameInner_87 : decode cX4_sameInner 87 = .ok (.if_icmp .eq 5, 3) := by decide +kernel
theorem dX4_sameInner_90 : decode cX4_sameInner 90 = .ok (.iconst 0, 1) := by decide +kernel
theorem dX4_sameInner_91 : decode cX4_sameInner 91 = .ok (.ireturn, 1) := by decide +kernel
theorem dX4_sameInner_92 : decode cX4_sameInner 92 = .ok (.iinc 3 1, 3) := by decide +kernel
theorem dX4_sameInner_95 : decode cX4_sameInner 95 = .ok (.goto (-58), 3) := by decide +kernel
theorem dX4_sameInner_98 : decode cX4_sameInner 98 = .ok (.iconst 1, 1) := by decide +kernel
theorem dX4_sameInner_99 : decode cX4_sameInner 99 = .ok (.ireturn, 1) := by decide +kernel
theorem dX5_init_0 : decode cX5_init 0 = .ok (.aload_n 0, 1) := by decide +kernel
theorem dX5_init_1 : decode cX5_init 1 = .ok (.invokespecial 3, 3) := by decide +kernel
theorem dX5_init_4 : decode cX5_init 4 = .ok (.aload_n 0, 1) := by decide +kernel
theorem dX5_init_5 : decode cX5_init 5 = .ok (.iload_n 1, 1) := by decide +kernel
theorem dX5_init_6 : decode cX5_init 6 = .ok (.bipush 16, 2) := by decide +kernel
theorem dX5_init_8 : decode cX5_init 8 = .ok (.bipush 96, 2) := by decide +kernel
theorem dX5_init_10 : decode cX5_init 10 = .ok (.invokestatic 9, 3) := by decide +kernel
theorem dX5_init_13 : decode cX5_init 13 = .ok (.putfield 13, 3) := by decide +kernel
theorem dX5_init_16 : decode cX5_init 16 = .ok (.aload_n 0, 1) := by decide +kernel
theorem dX5_init_17 : decode cX5_init 17 = .ok (.new 17, 3) := by decide +kernel
theorem dX5_init_20 : decode cX5_init 20 = .ok (.dup, 1) := by decide +kernel
theorem dX5_init_21 : decode cX5_init 21 = .ok (.aload_n 0, 1) := by decide +kernel
theorem dX5_init_22 : decode cX5_init 22 = .ok (.getfield 13, 3) := by decide +kernel
theorem dX5_init_25 : decode cX5_init 25 = .ok (.invokespecial 19, 3) := by decide +kernel
theorem dX5_init_28 : decode cX5_init 28 = .ok (.putfield 22, 3) := by decide +kernel
theorem dX5_init_31 : decode cX5_init 31 = .ok (.aload_n 0, 1) := by decide +kernel
theorem dX5_init_32 : decode cX5_init 32 = .ok (.new 17, 3) := by decide +kernel
theorem dX5_init_35 : decode cX5_init 35 = .ok (.dup, 1) := by decide +kernel
theorem dX5_init_36 : decode cX5_init 36 = .ok (.aload_n 0, 1) := by decide +kernel
theorem dX5_init_37 : decode cX5_init 37 = .ok (.getfield 13, 3) := by decide +kernel
theorem dX5_init_40 : decode cX5_init 40 = .ok (.invokespecial 19, 3) := by decide +kernel
theorem dX5_init_43 : decode cX5_init 43 = .ok (.putfield 26, 3) := by decide +kernel
theorem dX5_init_46 : decode cX5_init 46 = .ok (.aload_n 0, 1) := by decide +kernel
theorem dX5_init_47 : decode cX5_init 47 = .ok (.new 29, 3) := by decide +kernel
theorem dX5_init_50 : decode cX5_init 50 = .ok (.dup, 1) := by decide +kernel
theorem dX5_init_51 : decode cX5_init 51 = .ok (.aload_n 0, 1) := by decide +kernel
theorem dX5_init_52 : decode cX5_init 52 = .ok (.getfield 13, 3) := by decide +kernel
theorem dX5_init_55 : decode cX5_init 55 = .ok (.invokespecial 31, 3) := by decide +kernel
theorem dX5_init_58 : decode cX5_init 58 = .ok (.putfield 32, 3) := by decide +kernel
theorem dX5_init_61 : decode cX5_init 61 = .ok (.aload_n 0, 1) := by decide +kernel
theorem dX5_init_62 : decode cX5_init 62 = .ok (.new 36, 3) := by decide +kernel
theorem dX5_init_65 : decode cX5_init 65 = .ok (.dup, 1) := by decide +kernel
theorem dX5_init_66 : decode cX5_init 66 = .ok (.iload_n 2, 1) := by decide +kernel
theorem dX5_init_67 : decode cX5_init 67 = .ok (.bipush 6, 2) := by decide +kernel
theorem dX5_init_69 : decode cX5_init 69 = .ok (.bipush 64, 2) := by decide +kernel
theorem dX5_init_71 : decode cX5_init 71 = .ok (.invokestatic 9, 3) := by decide +kernel
theorem dX5_init_74 : decode cX5_init 74 = .ok (.aload_n 0, 1) := by decide +kernel
theorem dX5_init_75 : decode cX5_init 75 = .ok (.getfield 13, 3) := by decide +kernel
theorem dX5_init_78 : decode cX5_init 78 = .ok (.invokespecial 38, 3) := by decide +kernel
theorem dX5_init_81 : decode cX5_init 81 = .ok (.putfield 41, 3) := by decide +kernel
theorem dX5_init_84 : decode cX5_init 84 = .ok (.aload_n 0, 1) := by decide +kernel
theorem dX5_init_85 : decode cX5_init 85 = .ok (.new 45, 3) := by decide +kernel
theorem dX5_init_88 : decode cX5_init 88 = .ok (.dup, 1) := by decide +kernel
theorem dX5_init_89 : decode cX5_init 89 = .ok (.invokespecial 47, 3) := by decide +kernel
theorem dX5_init_92 : decode cX5_init 92 = .ok (.putfield 48, 3) := by decide +kernel
theorem dX5_init_95 : decode cX5_init 95 = .ok (.aload_n 0, 1) := by decide +kernel
theorem dX5_init_96 : decode cX5_init 96 = .ok (.aload_n 0, 1) := by decide +kernel
theorem dX5_init_97 : decode cX5_init 97 = .ok (.getfield 13, 3) := by decide +kernel
theorem dX5_init_100 : decode cX5_init 100 = .ok (.newarray .boolean, 2) := by decide +kernel
theorem dX5_init_102 : decode cX5_init 102 = .ok (.putfield 52, 3) := by decide +kernel
theorem dX5_init_105 : decode cX5_init 105 = .ok (.aload_n 0, 1) := by decide +kernel
theorem dX5_init_106 : decode cX5_init 106 = .ok (.sipush 2048, 3) := by decide +kernel
theorem dX5_init_109 : decode cX5_init 109 = .ok (.newarray .byte, 2) := by decide +kernel
theorem dX5_init_111 : decode cX5_init 111 = .ok (.putfield 56, 3) := by decide +kernel
theorem dX5_init_114 : decode cX5_init 114 = .ok (.return_, 1) := by decide +kernel
theorem dX5_make_0 : decode cX5_make 0 = .ok (.aload_n 0, 1) := by decide +kernel
theorem dX5_make_1 : decode cX5_make 1 = .ok (.invokevirtual 60, 3) := by decide +kernel
theorem dX5_make_4 : decode cX5_make 4 = .ok (.aload_n 0, 1) := by decide +kernel
theorem dX5_make_5 : decode cX5_make 5 = .ok (.iload_n 1, 1) := by decide +kernel
theorem dX5_make_6 : decode cX5_make 6 = .ok (.invokevirtual 63, 3) := by decide +kernel
theorem dX5_make_9 : decode cX5_make 9 = .ok (.aload_n 0, 1) := by decide +kernel
theorem dX5_make_10 : decode cX5_make 10 = .ok (.iload_n 2, 1) := by decide +kernel
theorem dX5_make_11 : decode cX5_make 11 = .ok (.invokevirtual 66, 3) := by decide +kernel
theorem dX5_make_14 : decode cX5_make 14 = .ok (.aload_n 0, 1) := by decide +kernel
theorem dX5_make_15 : decode cX5_make 15 = .ok (.iload_n 1, 1) := by decide +kernel
theorem dX5_make_16 : decode cX5_make 16 = .ok (.iload_n 2, 1) := by decide +kernel
theorem dX5_make_17 : decode cX5_make 17 = .ok (.invokevirtual 69, 3) := by decide +kernel
theorem dX5_make_20 : decode cX5_make 20 = .ok (.aload_n 0, 1) := by decide +kernel
theorem dX5_make_21 : decode cX5_make 21 = .ok (.getfield 22, 3) := by decide +kernel
theorem dX5_make_24 : decode cX5_make 24 = .ok (.getfield 72, 3) := by decide +kernel
theorem dX5_make_27 : decode cX5_make 27 = .ok (.invokevirtual 76, 3) := by decide +kernel
theorem dX5_make_30 : decode cX5_make 30 = .ok (.istore 4, 2) := by decide +kernel
theorem dX5_make_32 : decode cX5_make 32 = .ok (.iload 4, 2) := by decide +kernel
theorem dX5_make_34 : decode cX5_make 34 = .ok (.iconst (-1), 1) := by decide +kernel
theorem dX5_make_35 : decode cX5_make 35 = .ok (.if_icmp .ne 13, 3) := by decide +kernel
theorem dX5_make_38 : decode cX5_make 38 = .ok (.new 82, 3) := by decide +kernel
theorem dX5_make_41 : decode cX5_make 41 = .ok (.dup, 1) := by decide +kernel
theorem dX5_make_42 : decode cX5_make 42 = .ok (.ldc 84, 2) := by decide +kernel
theorem dX5_make_44 : decode cX5_make 44 = .ok (.invokespecial 86, 3) := by decide +kernel
theorem dX5_make_47 : decode cX5_make 47 = .ok (.athrow, 1) := by decide +kernel
theorem dX5_make_48 : decode cX5_make 48 = .ok (.aload_n 0, 1) := by decide +kernel
theorem dX5_make_49 : decode cX5_make 49 = .ok (.invokevirtual 89, 3) := by decide +kernel
theorem dX5_make_52 : decode cX5_make 52 = .ok (.aload_n 0, 1) := by decide +kernel
theorem dX5_make_53 : decode cX5_make 53 = .ok (.aload_n 0, 1) := by decide +kernel
theorem dX5_make_54 : decode cX5_make 54 = .ok (.getfield 22, 3) := by decide +kernel
theorem dX5_make_57 : decode cX5_make 57 = .ok (.getfield 92, 3) := by decide +kernel
theorem dX5_make_60 : decode cX5_make 60 = .ok (.iload 4, 2) := by decide +kernel
theorem dX5_make_62 : decode cX5_make 62 = .ok (.iconst 0, 1) := by decide +kernel
theorem dX5_make_63 : decode cX5_make 63 = .ok (.iconst 0, 1) := by decide +kernel
theorem dX5_make_64 : decode cX5_make 64 = .ok (.invokestatic 95, 3) := by decide +kernel
theorem dX5_make_67 : decode cX5_make 67 = .ok (.bipush 6, 2) := by decide +kernel
theorem dX5_make_69 : decode cX5_make 69 = .ok (.iconst (-1), 1) := by decide +kernel
theorem dX5_make_70 : decode cX5_make 70 = .ok (.invokevirtual 98, 3) := by decide +kernel
theorem dX5_make_73 : decode cX5_make 73 = .ok (.ifCond .eq 29, 3) := by decide +kernel
theorem dX5_make_76 : decode cX5_make 76 = .ok (.aload_n 0, 1) := by decide +kernel
theorem dX5_make_77 : decode cX5_make 77 = .ok (.getfield 22, 3) := by decide +kernel
theorem dX5_make_80 : decode cX5_make 80 = .ok (.getfield 92, 3) := by decide +kernel
theorem dX5_make_83 : decode cX5_make 83 = .ok (.iload_n 1, 1) := by decide +kernel
theorem dX5_make_84 : decode cX5_make 84 = .ok (.iconst 1, 1) := by decide +kernel
theorem dX5_make_85 : decode cX5_make 85 = .ok (.iload_n 2, 1) := by decide +kernel
theorem dX5_make_86 : decode cX5_make 86 = .ok (.invokestatic 95, 3) := by decide +kernel
theorem dX5_make_89 : decode cX5_make 89 = .ok (.iconst 3, 1) := by decide +kernel
theorem dX5_make_90 : decode cX5_make 90 = .ok (.iload 4, 2) := by decide +kernel
theorem dX5_make_92 : decode cX5_make 92 = .ok (.invokevirtual 98, 3) := by decide +kernel
theorem dX5_make_95 : decode cX5_make 95 = .ok (.ifCond .eq 7, 3) := by decide +kernel
theorem dX5_make_98 : decode cX5_make 98 = .ok (.iconst 1, 1) := by decide +kernel
theorem dX5_make_99 : decode cX5_make 99 = .ok (.goto 4, 3) := by decide +kernel
theorem dX5_make_102 : decode cX5_make 102 = .ok (.iconst 0, 1) := by decide +kernel
theorem dX5_make_103 : decode cX5_make 103 = .ok (.invokevirtual 102, 3) := by decide +kernel
theorem dX5_make_106 : decode cX5_make 106 = .ok (.aload_n 0, 1) := by decide +kernel
theorem dX5_make_107 : decode cX5_make 107 = .ok (.getfield 22, 3) := by decide +kernel
theorem dX5_make_110 : decode cX5_make 110 = .ok (.getfield 72, 3) := by decide +kernel
theorem dX5_make_113 : decode cX5_make 113 = .ok (.iload 4, 2) := by decide +kernel
theorem dX5_make_115 : decode cX5_make 115 = .ok (.iload_n 3, 1) := by decide +kernel
theorem dX5_make_116 : decode cX5_make 116 = .ok (.ifCond .eq 7, 3) := by decide +kernel
theorem dX5_make_119 : decode cX5_make 119 = .ok (.iconst 0, 1) := by decide +kernel
theorem dX5_make_120 : decode cX5_make 120 = .ok (.goto 4, 3) := by decide +kernel
theorem dX5_make_123 : decode cX5_make 123 = .ok (.iconst 1, 1) := by decide +kernel
theorem dX5_make_124 : decode cX5_make 124 = .ok (.iload_n 1, 1) := by decide +kernel
theorem dX5_make_125 : decode cX5_make 125 = .ok (.invokevirtual 106, 3) := by decide +kernel
theorem dX5_make_128 : decode cX5_make 128 = .ok (.aload_n 0, 1) := by decide +kernel
theorem dX5_make_129 : decode cX5_make 129 = .ok (.getfield 22, 3) := by decide +kernel
theorem dX5_make_132 : decode cX5_make 132 = .ok (.getfield 72, 3) := by decide +kernel
theorem dX5_make_135 : decode cX5_make 135 = .ok (.getfield 110, 3) := by decide +kernel
theorem dX5_make_138 : decode cX5_make 138 = .ok (.iload_n 1, 1) := by decide +kernel
theorem dX5_make_139 : decode cX5_make 139 = .ok (.dup2, 1) := by decide +kernel
theorem dX5_make_140 : decode cX5_make 140 = .ok (.iaload, 1) := by decide +kernel
theorem dX5_make_141 : decode cX5_make 141 = .ok (.iconst 1, 1) := by decide +kernel
theorem dX5_make_142 : decode cX5_make 142 = .ok (.iadd, 1) := by decide +kernel
theorem dX5_make_143 : decode cX5_make 143 = .ok (.iastore, 1) := by decide +kernel
theorem dX5_make_144 : decode cX5_make 144 = .ok (.iload 4, 2) := by decide +kernel
theorem dX5_make_146 : decode cX5_make 146 = .ok (.ireturn, 1) := by decide +kernel
theorem dX5_link_0 : decode cX5_link 0 = .ok (.aload_n 0, 1) := by decide +kernel
theorem dX5_link_1 : decode cX5_link 1 = .ok (.invokevirtual 60, 3) := by decide +kernel
theorem dX5_link_4 : decode cX5_link 4 = .ok (.aload_n 0, 1) := by decide +kernel
theorem dX5_link_5 : decode cX5_link 5 = .ok (.iload_n 1, 1) := by decide +kernel
theorem dX5_link_6 : decode cX5_link 6 = .ok (.invokevirtual 63, 3) := by decide +kernel
theorem dX5_link_9 : decode cX5_link 9 = .ok (.aload_n 0, 1) := by decide +kernel
theorem dX5_link_10 : decode cX5_link 10 = .ok (.iload_n 3, 1) := by decide +kernel
theorem dX5_link_11 : decode cX5_link 11 = .ok (.invokevirtual 114, 3) := by decide +kernel
theorem dX5_link_14 : decode cX5_link 14 = .ok (.aload_n 0, 1) := by decide +kernel
theorem dX5_link_15 : decode cX5_link 15 = .ok (.iload_n 2, 1) := by decide +kernel
theorem dX5_link_16 : decode cX5_link 16 = .ok (.invokevirtual 66, 3) := by decide +kernel
theorem dX5_link_19 : decode cX5_link 19 = .ok (.aload_n 0, 1) := by decide +kernel
theorem dX5_link_20 : decode cX5_link 20 = .ok (.iload_n 1, 1) := by decide +kernel
theorem dX5_link_21 : decode cX5_link 21 = .ok (.iload_n 2, 1) := by decide +kernel
theorem dX5_link_22 : decode cX5_link 22 = .ok (.invokevirtual 69, 3) := by decide +kernel
theorem dX5_link_25 : decode cX5_link 25 = .ok (.aload_n 0, 1) := by decide +kernel
theorem dX5_link_26 : decode cX5_link 26 = .ok (.invokevirtual 89, 3) := by decide +kernel
theorem dX5_link_29 : decode cX5_link 29 = .ok (.aload_n 0, 1) := by decide +kernel
theorem dX5_link_30 : decode cX5_link 30 = .ok (.aload_n 0, 1) := by decide +kernel
theorem dX5_link_31 : decode cX5_link 31 = .ok (.getfield 22, 3) := by decide +kernel
theorem dX5_link_34 : decode cX5_link 34 = .ok (.getfield 92, 3) := by decide +kernel
theorem dX5_link_37 : decode cX5_link 37 = .ok (.iload_n 1, 1) := by decide +kernel
theorem dX5_link_38 : decode cX5_link 38 = .ok (.iconst 1, 1) := by decide +kernel
theorem dX5_link_39 : decode cX5_link 39 = .ok (.iload_n 2, 1) := by decide +kernel
theorem dX5_link_40 : decode cX5_link 40 = .ok (.invokestatic 95, 3) := by decide +kernel
theorem dX5_link_43 : decode cX5_link 43 = .ok (.iconst 3, 1) := by decide +kernel
theorem dX5_link_44 : decode cX5_link 44 = .ok (.iload_n 3, 1) := by decide +kernel
theorem dX5_link_45 : decode cX5_link 45 = .ok (.invokevirtual 98, 3) := by decide +kernel
theorem dX5_link_48 : decode cX5_link 48 = .ok (.invokevirtual 102, 3) := by decide +kernel
theorem dX5_link_51 : decode cX5_link 51 = .ok (.aload_n 0, 1) := by decide +kernel
theorem dX5_link_52 : decode cX5_link 52 = .ok (.getfield 22, 3) := by decide +kernel
theorem dX5_link_55 : decode cX5_link 55 = .ok (.getfield 72, 3) := by decide +kernel
theorem dX5_link_58 : decode cX5_link 58 = .ok (.getfield 110, 3) := by decide +kernel
theorem dX5_link_61 : decode cX5_link 61 = .ok (.iload_n 1, 1) := by decide +kernel
theorem dX5_link_62 : decode cX5_link 62 = .ok (.dup2, 1) := by decide +kernel
theorem dX5_link_63 : decode cX5_link 63 = .ok (.iaload, 1) := by decide +kernel
theorem dX5_link_64 : decode cX5_link 64 = .ok (.iconst 1, 1) := by decide +kernel
theorem dX5_link_65 : decode cX5_link 65 = .ok (.iadd, 1) := by decide +kernel
theorem dX5_link_66 : decode cX5_link 66 = .ok (.iastore, 1) := by decide +kernel
theorem dX5_link_67 : decode cX5_link 67 = .ok (.aload_n 0, 1) := by decide +kernel
theorem dX5_link_68 : decode cX5_link 68 = .ok (.getfield 22, 3) := by decide +kernel
theorem dX5_link_71 : decode cX5_link 71 = .ok (.getfield 72, 3) := by decide +kernel
theorem dX5_link_74 : decode cX5_link 74 = .ok (.getfield 117, 3) := by decide +kernel
theorem dX5_link_77 : decode cX5_link 77 = .ok (.iload_n 3, 1) := by decide +kernel
theorem dX5_link_78 : decode cX5_link 78 = .ok (.dup2, 1) := by decide +kernel
theorem dX5_link_79 : decode cX5_link 79 = .ok (.iaload, 1) := by decide +kernel
theorem dX5_link_80 : decode cX5_link 80 = .ok (.iconst 1, 1) := by decide +kernel
theorem dX5_link_81 : decode cX5_link 81 = .ok (.iadd, 1) := by decide +kernel
theorem dX5_link_82 : decode cX5_link 82 = .ok (.iastore, 1) := by decide +kernel
theorem dX5_link_83 : decode cX5_link 83 = .ok (.aload_n 0, 1) := by decide +kernel
theorem dX5_link_84 : decode cX5_link 84 = .ok (.getfield 22, 3) := by decide +kernel
theorem dX5_link_87 : decode cX5_link 87 = .ok (.getfield 72, 3) := by decide +kernel
theorem dX5_link_90 : decode cX5_link 90 = .ok (.getfield 117, 3) := by decide +kernel
theorem dX5_link_93 : decode cX5_link 93 = .ok (.iload_n 3, 1) := by decide +kernel
theorem dX5_link_94 : decode cX5_link 94 = .ok (.iaload, 1) := by decide +kernel
theorem dX5_link_95 : decode cX5_link 95 = .ok (.ireturn, 1) := by decide +kernel
theorem dX5_unlink_0 : decode cX5_unlink 0 = .ok (.aload_n 0, 1) := by decide +kernel
theorem dX5_unlink_1 : decode cX5_unlink 1 = .ok (.invokevirtual 60, 3) := by decide +kernel
theorem dX5_unlink_4 : decode cX5_unlink 4 = .ok (.aload_n 0, 1) := by decide +kernel
theorem dX5_unlink_5 : decode cX5_unlink 5 = .ok (.iload_n 1, 1) := by decide +kernel
theorem dX5_unlink_6 : decode cX5_unlink 6 = .ok (.invokevirtual 63, 3) := by decide +kernel
theorem dX5_unlink_9 : decode cX5_unlink 9 = .ok (.aload_n 0, 1) := by decide +kernel
theorem dX5_unlink_10 : decode cX5_unlink 10 = .ok (.iload_n 1, 1) := by decide +kernel
theorem dX5_unlink_11 : decode cX5_unlink 11 = .ok (.iload_n 2, 1) := by decide +kernel
theorem dX5_unlink_12 : decode cX5_unlink 12 = .ok (.invokevirtual 120, 3) := by decide +kernel
theorem dX5_unlink_15 : decode cX5_unlink 15 = .ok (.istore_n 3, 1) := by decide +kernel
theorem dX5_unlink_16 : decode cX5_unlink 16 = .ok (.aload_n 0, 1) := by decide +kernel
theorem dX5_unlink_17 : decode cX5_unlink 17 = .ok (.getfield 22, 3) := by decide +kernel
theorem dX5_unlink_20 : decode cX5_unlink 20 = .ok (.getfield 72, 3) := by decide +kernel
theorem dX5_unlink_23 : decode cX5_unlink 23 = .ok (.astore 4, 2) := by decide +kernel
theorem dX5_unlink_25 : decode cX5_unlink 25 = .ok (.aload 4, 2) := by decide +kernel
theorem dX5_unlink_27 : decode cX5_unlink 27 = .ok (.getfield 124, 3) := by decide +kernel
theorem dX5_unlink_30 : decode cX5_unlink 30 = .ok (.iload_n 3, 1) := by decide +kernel
theorem dX5_unlink_31 : decode cX5_unlink 31 = .ok (.iaload, 1) := by decide +kernel
theorem dX5_unlink_32 : decode cX5_unlink 32 = .ok (.ifCond .ne 23, 3) := by decide +kernel
theorem dX5_unlink_35 : decode cX5_unlink 35 = .ok (.aload 4, 2) := by decide +kernel
theorem dX5_unlink_37 : decode cX5_unlink 37 = .ok (.getfield 110, 3) := by decide +kernel
theorem dX5_unlink_40 : decode cX5_unlink 40 = .ok (.iload_n 3, 1) := by decide +kernel
theorem dX5_unlink_41 : decode cX5_unlink 41 = .ok (.iaload, 1) := by decide +kernel
theorem dX5_unlink_42 : decode cX5_unlink 42 = .ok (.ifCond .le 13, 3) := by decide +kernel
theorem dX5_unlink_45 : decode cX5_unlink 45 = .ok (.new 82, 3) := by decide +kernel
theorem dX5_unlink_48 : decode cX5_unlink 48 = .ok (.dup, 1) := by decide +kernel
theorem dX5_unlink_49 : decode cX5_unlink 49 = .ok (.ldc 127, 2) := by decide +kernel
theorem dX5_unlink_51 : decode cX5_unlink 51 = .ok (.invokespecial 86, 3) := by decide +kernel
theorem dX5_unlink_54 : decode cX5_unlink 54 = .ok (.athrow, 1) := by decide +kernel
theorem dX5_unlink_55 : decode cX5_unlink 55 = .ok (.aload_n 0, 1) := by decide +kernel
theorem dX5_unlink_56 : decode cX5_unlink 56 = .ok (.getfield 22, 3) := by decide +kernel
theorem dX5_unlink_59 : decode cX5_unlink 59 = .ok (.getfield 92, 3) := by decide +kernel
theorem dX5_unlink_62 : decode cX5_unlink 62 = .ok (.iload_n 1, 1) := by decide +kernel
theorem dX5_unlink_63 : decode cX5_unlink 63 = .ok (.iconst 1, 1) := by decide +kernel
theorem dX5_unlink_64 : decode cX5_unlink 64 = .ok (.iload_n 2, 1) := by decide +kernel
theorem dX5_unlink_65 : decode cX5_unlink 65 = .ok (.invokestatic 95, 3) := by decide +kernel
theorem dX5_unlink_68 : decode cX5_unlink 68 = .ok (.invokevirtual 129, 3) := by decide +kernel
theorem dX5_unlink_71 : decode cX5_unlink 71 = .ok (.aload 4, 2) := by decide +kernel
theorem dX5_unlink_73 : decode cX5_unlink 73 = .ok (.getfield 110, 3) := by decide +kernel
theorem dX5_unlink_76 : decode cX5_unlink 76 = .ok (.iload_n 1, 1) := by decide +kernel
theorem dX5_unlink_77 : decode cX5_unlink 77 = .ok (.dup2, 1) := by decide +kernel
theorem dX5_unlink_78 : decode cX5_unlink 78 = .ok (.iaload, 1) := by decide +kernel
theorem dX5_unlink_79 : decode cX5_unlink 79 = .ok (.iconst 1, 1) := by decide +kernel
theorem dX5_unlink_80 : decode cX5_unlink 80 = .ok (.isub, 1) := by decide +kernel
theorem dX5_unlink_81 : decode cX5_unlink 81 = .ok (.iastore, 1) := by decide +kernel
theorem dX5_unlink_82 : decode cX5_unlink 82 = .ok (.aload 4, 2) := by decide +kernel
theorem dX5_unlink_84 : decode cX5_unlink 84 = .ok (.getfield 117, 3) := by decide +kernel
theorem dX5_unlink_87 : decode cX5_unlink 87 = .ok (.iload_n 3, 1) := by decide +kernel
theorem dX5_unlink_88 : decode cX5_unlink 88 = .ok (.dup2, 1) := by decide +kernel
theorem dX5_unlink_89 : decode cX5_unlink 89 = .ok (.iaload, 1) := by decide +kernel
theorem dX5_unlink_90 : decode cX5_unlink 90 = .ok (.iconst 1, 1) := by decide +kernel
theorem dX5_unlink_91 : decode cX5_unlink 91 = .ok (.isub, 1) := by decide +kernel
theorem dX5_unlink_92 : decode cX5_unlink 92 = .ok (.iastore, 1) := by decide +kernel
theorem dX5_unlink_93 : decode cX5_unlink 93 = .ok (.aload 4, 2) := by decide +kernel
theorem dX5_unlink_95 : decode cX5_unlink 95 = .ok (.getfield 117, 3) := by decide +kernel
theorem dX5_unlink_98 : decode cX5_unlink 98 = .ok (.iload_n 3, 1) := by decide +kernel
theorem dX5_unlink_99 : decode cX5_unlink 99 = .ok (.iaload, 1) := by decide +kernel
theorem dX5_unlink_100 : decode cX5_unlink 100 = .ok (.istore 5, 2) := by decide +kernel
theorem dX5_unlink_102 : decode cX5_unlink 102 = .ok (.iload 5, 2) := by decide +kernel
theorem dX5_unlink_104 : decode cX5_unlink 104 = .ok (.ifCond .ne 8, 3) := by decide +kernel
theorem dX5_unlink_107 : decode cX5_unlink 107 = .ok (.aload_n 0, 1) := by decide +kernel
theorem dX5_unlink_108 : decode cX5_unlink 108 = .ok (.iload_n 3, 1) := by decide +kernel
theorem dX5_unlink_109 : decode cX5_unlink 109 = .ok (.invokevirtual 132, 3) := by decide +kernel
theorem dX5_unlink_112 : decode cX5_unlink 112 = .ok (.iload 5, 2) := by decide +kernel
theorem dX5_unlink_114 : decode cX5_unlink 114 = .ok (.ireturn, 1) := by decide +kernel
theorem dX5_move_0 : decode cX5_move 0 = .ok (.aload_n 0, 1) := by decide +kernel
theorem dX5_move_1 : decode cX5_move 1 = .ok (.invokevirtual 60, 3) := by decide +kernel
theorem dX5_move_4 : decode cX5_move 4 = .ok (.aload_n 0, 1) := by decide +kernel
theorem dX5_move_5 : decode cX5_move 5 = .ok (.iload_n 1, 1) := by decide +kernel
theorem dX5_move_6 : decode cX5_move 6 = .ok (.invokevirtual 63, 3) := by decide +kernel
theorem dX5_move_9 : decode cX5_move 9 = .ok (.aload_n 0, 1) := by decide +kernel
theorem dX5_move_10 : decode cX5_move 10 = .ok (.iload_n 3, 1) := by decide +kernel
theorem dX5_move_11 : decode cX5_move 11 = .ok (.invokevirtual 63, 3) := by decide +kernel
theorem dX5_move_14 : decode cX5_move 14 = .ok (.aload_n 0, 1) := by decide +kernel
theorem dX5_move_15 : decode cX5_move 15 = .ok (.iload_n 1, 1) := by decide +kernel
theorem dX5_move_16 : decode cX5_move 16 = .ok (.iload_n 2, 1) := by decide +kernel
theorem dX5_move_17 : decode cX5_move 17 = .ok (.invokevirtual 120, 3) := by decide +kernel
theorem dX5_move_20 : decode cX5_move 20 = .ok (.istore 5, 2) := by decide +kernel
theorem dX5_move_22 : decode cX5_move 22 = .ok (.aload_n 0, 1) := by decide +kernel
theorem dX5_move_23 : decode cX5_move 23 = .ok (.iload 4, 2) := by decide +kernel
theorem dX5_move_25 : decode cX5_move 25 = .ok (.invokevirtual 66, 3) := by decide +kernel
theorem dX5_move_28 : decode cX5_move 28 = .ok (.aload_n 0, 1) := by decide +kernel
theorem dX5_move_29 : decode cX5_move 29 = .ok (.iload_n 3, 1) := by decide +kernel
theorem dX5_move_30 : decode cX5_move 30 = .ok (.iload 4, 2) := by decide +kernel
theorem dX5_move_32 : decode cX5_move 32 = .ok (.invokevirtual 69, 3) := by decide +kernel
theorem dX5_move_35 : decode cX5_move 35 = .ok (.aload_n 0, 1) := by decide +kernel
theorem dX5_move_36 : decode cX5_move 36 = .ok (.getfield 22, 3) := by decide +kernel
theorem dX5_move_39 : decode cX5_move 39 = .ok (.getfield 72, 3) := by decide +kernel
theorem dX5_move_42 : decode cX5_move 42 = .ok (.astore 6, 2) := by decide +kernel
theorem dX5_move_44 : decode cX5_move 44 = .ok (.aload 6, 2) := by decide +kernel
theorem dX5_move_46 : decode cX5_move 46 = .ok (.iload 5, 2) := by decide +kernel
theorem dX5_move_48 : decode cX5_move 48 = .ok (.iload_n 3, 1) := by decide +kernel
theorem dX5_move_49 : decode cX5_move 49 = .ok (.invokevirtual 135, 3) := by decide +kernel
theorem dX5_move_52 : decode cX5_move 52 = .ok (.ifCond .eq 13, 3) := by decide +kernel
theorem dX5_move_55 : decode cX5_move 55 = .ok (.new 82, 3) := by decide +kernel
theorem dX5_move_58 : decode cX5_move 58 = .ok (.dup, 1) := by decide +kernel
theorem dX5_move_59 : decode cX5_move 59 = .ok (.ldc 139, 2) := by decide +kernel
theorem dX5_move_61 : decode cX5_move 61 = .ok (.invokespecial 86, 3) := by decide +kernel
theorem dX5_move_64 : decode cX5_move 64 = .ok (.athrow, 1) := by decide +kernel
theorem dX5_move_65 : decode cX5_move 65 = .ok (.aload_n 0, 1) := by decide +kernel
theorem dX5_move_66 : decode cX5_move 66 = .ok (.invokevirtual 89, 3) := by decide +kernel
theorem dX5_move_69 : decode cX5_move 69 = .ok (.aload_n 0, 1) := by decide +kernel
theorem dX5_move_70 : decode cX5_move 70 = .ok (.getfield 22, 3) := by decide +kernel
theorem dX5_move_73 : decode cX5_move 73 = .ok (.getfield 92, 3) := by decide +kernel
theorem dX5_move_76 : decode cX5_move 76 = .ok (.iload_n 1, 1) := by decide +kernel
theorem dX5_move_77 : decode cX5_move 77 = .ok (.iconst 1, 1) := by decide +kernel
theorem dX5_move_78 : decode cX5_move 78 = .ok (.iload_n 2, 1) := by decide +kernel
theorem dX5_move_79 : decode cX5_move 79 = .ok (.invokestatic 95, 3) := by decide +kernel
theorem dX5_move_82 : decode cX5_move 82 = .ok (.invokevirtual 129, 3) := by decide +kernel
theorem dX5_move_85 : decode cX5_move 85 = .ok (.aload_n 0, 1) := by decide +kernel
theorem dX5_move_86 : decode cX5_move 86 = .ok (.aload_n 0, 1) := by decide +kernel
theorem dX5_move_87 : decode cX5_move 87 = .ok (.getfield 22, 3) := by decide +kernel
theorem dX5_move_90 : decode cX5_move 90 = .ok (.getfield 92, 3) := by decide +kernel
theorem dX5_move_93 : decode cX5_move 93 = .ok (.iload_n 3, 1) := by decide +kernel
theorem dX5_move_94 : decode cX5_move 94 = .ok (.iconst 1, 1) := by decide +kernel
theorem dX5_move_95 : decode cX5_move 95 = .ok (.iload 4, 2) := by decide +kernel
theorem dX5_move_97 : decode cX5_move 97 = .ok (.invokestatic 95, 3) := by decide +kernel
theorem dX5_move_100 : decode cX5_move 100 = .ok (.iconst 3, 1) := by decide +kernel
theorem dX5_move_101 : decode cX5_move 101 = .ok (.iload 5, 2) := by decide +kernel
theorem dX5_move_103 : decode cX5_move 103 = .ok (.invokevirtual 98, 3) := by decide +kernel
theorem dX5_move_106 : decode cX5_move 106 = .ok (.invokevirtual 102, 3) := by decide +kernel
theorem dX5_move_109 : decode cX5_move 109 = .ok (.aload 6, 2) := by decide +kernel
theorem dX5_move_111 : decode cX5_move 111 = .ok (.getfield 110, 3) := by decide +kernel
theorem dX5_move_114 : decode cX5_move 114 = .ok (.iload_n 1, 1) := by decide +kernel
theorem dX5_move_115 : decode cX5_move 115 = .ok (.dup2, 1) := by decide +kernel
theorem dX5_move_116 : decode cX5_move 116 = .ok (.iaload, 1) := by decide +kernel
theorem dX5_move_117 : decode cX5_move 117 = .ok (.iconst 1, 1) := by decide +kernel
theorem dX5_move_118 : decode cX5_move 118 = .ok (.isub, 1) := by decide +kernel
theorem dX5_move_119 : decode cX5_move 119 = .ok (.iastore, 1) := by decide +kernel
theorem dX5_move_120 : decode cX5_move 120 = .ok (.aload 6, 2) := by decide +kernel
theorem dX5_move_122 : decode cX5_move 122 = .ok (.getfield 110, 3) := by decide +kernel
theorem dX5_move_125 : decode cX5_move 125 = .ok (.iload_n 3, 1) := by decide +kernel
theorem dX5_move_126 : decode cX5_move 126 = .ok (.dup2, 1) := by decide +kernel
theorem dX5_move_127 : decode cX5_move 127 = .ok (.iaload, 1) := by decide +kernel
theorem dX5_move_128 : decode cX5_move 128 = .ok (.iconst 1, 1) := by decide +kernel
theorem dX5_move_129 : decode cX5_move 129 = .ok (.iadd, 1) := by decide +kernel
theorem dX5_move_130 : decode cX5_move 130 = .ok (.iastore, 1) := by decide +kernel
theorem dX5_move_131 : decode cX5_move 131 = .ok (.aload 6, 2) := by decide +kernel
theorem dX5_move_133 : decode cX5_move 133 = .ok (.getfield 124, 3) := by decide +kernel
theorem dX5_move_136 : decode cX5_move 136 = .ok (.iload 5, 2) := by decide +kernel
theorem dX5_move_138 : decode cX5_move 138 = .ok (.iaload, 1) := by decide +kernel
theorem dX5_move_139 : decode cX5_move 139 = .ok (.ifCond .ne 12, 3) := by decide +kernel
theorem dX5_move_142 : decode cX5_move 142 = .ok (.aload 6, 2) := by decide +kernel
theorem dX5_move_144 : decode cX5_move 144 = .ok (.getfield 141, 3) := by decide +kernel
theorem dX5_move_147 : decode cX5_move 147 = .ok (.iload 5, 2) := by decide +kernel
theorem dX5_move_149 : decode cX5_move 149 = .ok (.iload_n 3, 1) := by decide +kernel
theorem dX5_move_150 : decode cX5_move 150 = .ok (.iastore, 1) := by decide +kernel
theorem dX5_move_151 : decode cX5_move 151 = .ok (.iload 5, 2) := by decide +kernel
theorem dX5_move_153 : decode cX5_move 153 = .ok (.ireturn, 1) := by decide +kernel
theorem dX5_write_0 : decode cX5_write 0 = .ok (.aload_n 0, 1) := by decide +kernel
theorem dX5_write_1 : decode cX5_write 1 = .ok (.iload_n 1, 1) := by decide +kernel
theorem dX5_write_2 : decode cX5_write 2 = .ok (.iload_n 2, 1) := by decide +kernel
theorem dX5_write_3 : decode cX5_write 3 = .ok (.iload 5, 2) := by decide +kernel
theorem dX5_write_5 : decode cX5_write 5 = .ok (.bipush 8, 2) := by decide +kernel
theorem dX5_write_7 : decode cX5_write 7 = .ok (.invokevirtual 144, 3) := by decide +kernel
theorem dX5_write_10 : decode cX5_write 10 = .ok (.istore 6, 2) := by decide +kernel
theorem dX5_write_12 : decode cX5_write 12 = .ok (.aload_n 0, 1) := by decide +kernel
theorem dX5_write_13 : decode cX5_write 13 = .ok (.getfield 22, 3) := by decide +kernel
theorem dX5_write_16 : decode cX5_write 16 = .ok (.iload_n 1, 1) := by decide +kernel
theorem dX5_write_17 : decode cX5_write 17 = .ok (.aload_n 0, 1) := by decide +kernel
theorem dX5_write_18 : decode cX5_write 18 = .ok (.getfield 56, 3) := by decide +kernel
theorem dX5_write_21 : decode cX5_write 21 = .ok (.invokevirtual 148, 3) := by decide +kernel
theorem dX5_write_24 : decode cX5_write 24 = .ok (.iconst 0, 1) := by decide +kernel
theorem dX5_write_25 : decode cX5_write 25 = .ok (.istore 7, 2) := by decide +kernel
theorem dX5_write_27 : decode cX5_write 27 = .ok (.iload 7, 2) := by decide +kernel
theorem dX5_write_29 : decode cX5_write 29 = .ok (.iload 5, 2) := by decide +kernel
theorem dX5_write_31 : decode cX5_write 31 = .ok (.if_icmp .ge 27, 3) := by decide +kernel
theorem dX5_write_34 : decode cX5_write 34 = .ok (.aload_n 0, 1) := by decide +kernel
theorem dX5_write_35 : decode cX5_write 35 = .ok (.getfield 56, 3) := by decide +kernel
theorem dX5_write_38 : decode cX5_write 38 = .ok (.iload_n 2, 1) := by decide +kernel
theorem dX5_write_39 : decode cX5_write 39 = .ok (.iload 7, 2) := by decide +kernel
theorem dX5_write_41 : decode cX5_write 41 = .ok (.iadd, 1) := by decide +kernel
theorem dX5_write_42 : decode cX5_write 42 = .ok (.lload_n 3, 1) := by decide +kernel
theorem dX5_write_43 : decode cX5_write 43 = .ok (.bipush 8, 2) := by decide +kernel
theorem dX5_write_45 : decode cX5_write 45 = .ok (.iload 7, 2) := by decide +kernel
theorem dX5_write_47 : decode cX5_write 47 = .ok (.imul, 1) := by decide +kernel
theorem dX5_write_48 : decode cX5_write 48 = .ok (.lshr, 1) := by decide +kernel
theorem dX5_write_49 : decode cX5_write 49 = .ok (.l2i, 1) := by decide +kernel
theorem dX5_write_50 : decode cX5_write 50 = .ok (.i2b, 1) := by decide +kernel
theorem dX5_write_51 : decode cX5_write 51 = .ok (.bastore, 1) := by decide +kernel
theorem dX5_write_52 : decode cX5_write 52 = .ok (.iinc 7 1, 3) := by decide +kernel
theorem dX5_write_55 : decode cX5_write 55 = .ok (.goto (-28), 3) := by decide +kernel
theorem dX5_write_58 : decode cX5_write 58 = .ok (.aload_n 0, 1) := by decide +kernel
theorem dX5_write_59 : decode cX5_write 59 = .ok (.iload_n 1, 1) := by decide +kernel
theorem dX5_write_60 : decode cX5_write 60 = .ok (.iload 6, 2) := by decide +kernel
theorem dX5_write_62 : decode cX5_write 62 = .ok (.invokevirtual 152, 3) := by decide +kernel
theorem dX5_write_65 : decode cX5_write 65 = .ok (.iload 6, 2) := by decide +kernel
theorem dX5_write_67 : decode cX5_write 67 = .ok (.ireturn, 1) := by decide +kernel
theorem dX5_fill_0 : decode cX5_fill 0 = .ok (.aload_n 0, 1) := by decide +kernel
theorem dX5_fill_1 : decode cX5_fill 1 = .ok (.iload_n 1, 1) := by decide +kernel
theorem dX5_fill_2 : decode cX5_fill 2 = .ok (.iload_n 2, 1) := by decide +kernel
theorem dX5_fill_3 : decode cX5_fill 3 = .ok (.iload 4, 2) := by decide +kernel
theorem dX5_fill_5 : decode cX5_fill 5 = .ok (.sipush 512, 3) := by decide +kernel
theorem dX5_fill_8 : decode cX5_fill 8 = .ok (.invokevirtual 144, 3) := by decide +kernel
theorem dX5_fill_11 : decode cX5_fill 11 = .ok (.istore 5, 2) := by decide +kernel
theorem dX5_fill_13 : decode cX5_fill 13 = .ok (.aload_n 0, 1) := by decide +kernel
theorem dX5_fill_14 : decode cX5_fill 14 = .ok (.getfield 22, 3) := by decide +kernel
theorem dX5_fill_17 : decode cX5_fill 17 = .ok (.iload_n 1, 1) := by decide +kernel
theorem dX5_fill_18 : decode cX5_fill 18 = .ok (.aload_n 0, 1) := by decide +kernel
theorem dX5_fill_19 : decode cX5_fill 19 = .ok (.getfield 56, 3) := by decide +kernel
theorem dX5_fill_22 : decode cX5_fill 22 = .ok (.invokevirtual 148, 3) := by decide +kernel
theorem dX5_fill_25 : decode cX5_fill 25 = .ok (.iconst 0, 1) := by decide +kernel
theorem dX5_fill_26 : decode cX5_fill 26 = .ok (.istore 6, 2) := by decide +kernel
theorem dX5_fill_28 : decode cX5_fill 28 = .ok (.iload 6, 2) := by decide +kernel
theorem dX5_fill_30 : decode cX5_fill 30 = .ok (.iload 4, 2) := by decide +kernel
theorem dX5_fill_32 : decode cX5_fill 32 = .ok (.if_icmp .ge 26, 3) := by decide +kernel
theorem dX5_fill_35 : decode cX5_fill 35 = .ok (.aload_n 0, 1) := by decide +kernel
theorem dX5_fill_36 : decode cX5_fill 36 = .ok (.getfield 56, 3) := by decide +kernel
theorem dX5_fill_39 : decode cX5_fill 39 = .ok (.iload_n 2, 1) := by decide +kernel
theorem dX5_fill_40 : decode cX5_fill 40 = .ok (.iload 6, 2) := by decide +kernel
theorem dX5_fill_42 : decode cX5_fill 42 = .ok (.iadd, 1) := by decide +kernel
theorem dX5_fill_43 : decode cX5_fill 43 = .ok (.iload_n 3, 1) := by decide +kernel
theorem dX5_fill_44 : decode cX5_fill 44 = .ok (.bipush 7, 2) := by decide +kernel
theorem dX5_fill_46 : decode cX5_fill 46 = .ok (.iload 6, 2) := by decide +kernel
theorem dX5_fill_48 : decode cX5_fill 48 = .ok (.imul, 1) := by decide +kernel
theorem dX5_fill_49 : decode cX5_fill 49 = .ok (.iadd, 1) := by decide +kernel
theorem dX5_fill_50 : decode cX5_fill 50 = .ok (.i2b, 1) := by decide +kernel
theorem dX5_fill_51 : decode cX5_fill 51 = .ok (.bastore, 1) := by decide +kernel
theorem dX5_fill_52 : decode cX5_fill 52 = .ok (.iinc 6 1, 3) := by decide +kernel
theorem dX5_fill_55 : decode cX5_fill 55 = .ok (.goto (-27), 3) := by decide +kernel
theorem dX5_fill_58 : decode cX5_fill 58 = .ok (.aload_n 0, 1) := by decide +kernel
theorem dX5_fill_59 : decode cX5_fill 59 = .ok (.iload_n 1, 1) := by decide +kernel
theorem dX5_fill_60 : decode cX5_fill 60 = .ok (.iload 5, 2) := by decide +kernel
theorem dX5_fill_62 : decode cX5_fill 62 = .ok (.invokevirtual 152, 3) := by decide +kernel
theorem dX5_fill_65 : decode cX5_fill 65 = .ok (.iload 5, 2) := by decide +kernel
theorem dX5_fill_67 : decode cX5_fill 67 = .ok (.ireturn, 1) := by decide +kernel
theorem dX5_cut_0 : decode cX5_cut 0 = .ok (.aload_n 0, 1) := by decide +kernel
theorem dX5_cut_1 : decode cX5_cut 1 = .ok (.invokevirtual 60, 3) := by decide +kernel
theorem dX5_cut_4 : decode cX5_cut 4 = .ok (.aload_n 0, 1) := by decide +kernel
theorem dX5_cut_5 : decode cX5_cut 5 = .ok (.iload_n 1, 1) := by decide +kernel
theorem dX5_cut_6 : decode cX5_cut 6 = .ok (.invokevirtual 114, 3) := by decide +kernel
theorem dX5_cut_9 : decode cX5_cut 9 = .ok (.aload_n 0, 1) := by decide +kernel
theorem dX5_cut_10 : decode cX5_cut 10 = .ok (.getfield 22, 3) := by decide +kernel
theorem dX5_cut_13 : decode cX5_cut 13 = .ok (.getfield 72, 3) := by decide +kernel
theorem dX5_cut_16 : decode cX5_cut 16 = .ok (.getfield 110, 3) := by decide +kernel
theorem dX5_cut_19 : decode cX5_cut 19 = .ok (.iload_n 1, 1) := by decide +kernel
theorem dX5_cut_20 : decode cX5_cut 20 = .ok (.iaload, 1) := by decide +kernel
theorem dX5_cut_21 : decode cX5_cut 21 = .ok (.istore_n 3, 1) := by decide +kernel
theorem dX5_cut_22 : decode cX5_cut 22 = .ok (.iload_n 2, 1) := by decide +kernel
theorem dX5_cut_23 : decode cX5_cut 23 = .ok (.ifCond .lt 8, 3) := by decide +kernel
theorem dX5_cut_26 : decode cX5_cut 26 = .ok (.iload_n 2, 1) := by decide +kernel
theorem dX5_cut_27 : decode cX5_cut 27 = .ok (.iload_n 3, 1) := by decide +kernel
theorem dX5_cut_28 : decode cX5_cut 28 = .ok (.if_icmp .le 13, 3) := by decide +kernel
theorem dX5_cut_31 : decode cX5_cut 31 = .ok (.new 155, 3) := by decide +kernel
theorem dX5_cut_34 : decode cX5_cut 34 = .ok (.dup, 1) := by decide +kernel
theorem dX5_cut_35 : decode cX5_cut 35 = .ok (.ldc 157, 2) := by decide +kernel
theorem dX5_cut_37 : decode cX5_cut 37 = .ok (.invokespecial 159, 3) := by decide +kernel
theorem dX5_cut_40 : decode cX5_cut 40 = .ok (.athrow, 1) := by decide +kernel
theorem dX5_cut_41 : decode cX5_cut 41 = .ok (.aload_n 0, 1) := by decide +kernel
theorem dX5_cut_42 : decode cX5_cut 42 = .ok (.getfield 22, 3) := by decide +kernel
theorem dX5_cut_45 : decode cX5_cut 45 = .ok (.iload_n 1, 1) := by decide +kernel
theorem dX5_cut_46 : decode cX5_cut 46 = .ok (.aload_n 0, 1) := by decide +kernel
theorem dX5_cut_47 : decode cX5_cut 47 = .ok (.getfield 56, 3) := by decide +kernel
theorem dX5_cut_50 : decode cX5_cut 50 = .ok (.invokevirtual 148, 3) := by decide +kernel
theorem dX5_cut_53 : decode cX5_cut 53 = .ok (.iload_n 2, 1) := by decide +kernel
theorem dX5_cut_54 : decode cX5_cut 54 = .ok (.istore 4, 2) := by decide +kernel
theorem dX5_cut_56 : decode cX5_cut 56 = .ok (.iload 4, 2) := by decide +kernel
theorem dX5_cut_58 : decode cX5_cut 58 = .ok (.iload_n 3, 1) := by decide +kernel
theorem dX5_cut_59 : decode cX5_cut 59 = .ok (.if_icmp .ge 17, 3) := by decide +kernel
theorem dX5_cut_62 : decode cX5_cut 62 = .ok (.aload_n 0, 1) := by decide +kernel
theorem dX5_cut_63 : decode cX5_cut 63 = .ok (.getfield 56, 3) := by decide +kernel
theorem dX5_cut_66 : decode cX5_cut 66 = .ok (.iload 4, 2) := by decide +kernel
theorem dX5_cut_68 : decode cX5_cut 68 = .ok (.iconst 0, 1) := by decide +kernel
theorem dX5_cut_69 : decode cX5_cut 69 = .ok (.bastore, 1) := by decide +kernel
theorem dX5_cut_70 : decode cX5_cut 70 = .ok (.iinc 4 1, 3) := by decide +kernel
theorem dX5_cut_73 : decode cX5_cut 73 = .ok (.goto (-17), 3) := by decide +kernel
theorem dX5_cut_76 : decode cX5_cut 76 = .ok (.aload_n 0, 1) := by decide +kernel
theorem dX5_cut_77 : decode cX5_cut 77 = .ok (.iload_n 1, 1) := by decide +kernel
theorem dX5_cut_78 : decode cX5_cut 78 = .ok (.iload_n 2, 1) := by decide +kernel
theorem dX5_cut_79 : decode cX5_cut 79 = .ok (.invokevirtual 152, 3) := by decide +kernel
theorem dX5_cut_82 : decode cX5_cut 82 = .ok (.iload_n 2, 1) := by decide +kernel
theorem dX5_cut_83 : decode cX5_cut 83 = .ok (.invokestatic 160, 3) := by decide +kernel
theorem dX5_cut_86 : decode cX5_cut 86 = .ok (.ireturn, 1) := by decide +kernel
theorem dX5_read_0 : decode cX5_read 0 = .ok (.aload_n 0, 1) := by decide +kernel
theorem dX5_read_1 : decode cX5_read 1 = .ok (.invokevirtual 60, 3) := by decide +kernel
theorem dX5_read_4 : decode cX5_read 4 = .ok (.aload_n 0, 1) := by decide +kernel
theorem dX5_read_5 : decode cX5_read 5 = .ok (.iload_n 1, 1) := by decide +kernel
theorem dX5_read_6 : decode cX5_read 6 = .ok (.invokevirtual 114, 3) := by decide +kernel
theorem dX5_read_9 : decode cX5_read 9 = .ok (.iload_n 2, 1) := by decide +kernel
theorem dX5_read_10 : decode cX5_read 10 = .ok (.ifCond .lt 19, 3) := by decide +kernel
theorem dX5_read_13 : decode cX5_read 13 = .ok (.iload_n 2, 1) := by decide +kernel
theorem dX5_read_14 : decode cX5_read 14 = .ok (.aload_n 0, 1) := by decide +kernel
theorem dX5_read_15 : decode cX5_read 15 = .ok (.getfield 22, 3) := by decide +kernel
theorem dX5_read_18 : decode cX5_read 18 = .ok (.getfield 72, 3) := by decide +kernel
theorem dX5_read_21 : decode cX5_read 21 = .ok (.getfield 110, 3) := by decide +kernel
theorem dX5_read_24 : decode cX5_read 24 = .ok (.iload_n 1, 1) := by decide +kernel
theorem dX5_read_25 : decode cX5_read 25 = .ok (.iaload, 1) := by decide +kernel
theorem dX5_read_26 : decode cX5_read 26 = .ok (.if_icmp .lt 13, 3) := by decide +kernel
theorem dX5_read_29 : decode cX5_read 29 = .ok (.new 164, 3) := by decide +kernel
theorem dX5_read_32 : decode cX5_read 32 = .ok (.dup, 1) := by decide +kernel
theorem dX5_read_33 : decode cX5_read 33 = .ok (.ldc 166, 2) := by decide +kernel
theorem dX5_read_35 : decode cX5_read 35 = .ok (.invokespecial 168, 3) := by decide +kernel
theorem dX5_read_38 : decode cX5_read 38 = .ok (.athrow, 1) := by decide +kernel
theorem dX5_read_39 : decode cX5_read 39 = .ok (.aload_n 0, 1) := by decide +kernel
theorem dX5_read_40 : decode cX5_read 40 = .ok (.getfield 22, 3) := by decide +kernel
theorem dX5_read_43 : decode cX5_read 43 = .ok (.iload_n 1, 1) := by decide +kernel
theorem dX5_read_44 : decode cX5_read 44 = .ok (.iload_n 2, 1) := by decide +kernel
theorem dX5_read_45 : decode cX5_read 45 = .ok (.invokevirtual 169, 3) := by decide +kernel
theorem dX5_read_48 : decode cX5_read 48 = .ok (.ireturn, 1) := by decide +kernel
theorem dX5_look_0 : decode cX5_look 0 = .ok (.aload_n 0, 1) := by decide +kernel
theorem dX5_look_1 : decode cX5_look 1 = .ok (.invokevirtual 60, 3) := by decide +kernel
theorem dX5_look_4 : decode cX5_look 4 = .ok (.aload_n 0, 1) := by decide +kernel
theorem dX5_look_5 : decode cX5_look 5 = .ok (.iload_n 1, 1) := by decide +kernel
theorem dX5_look_6 : decode cX5_look 6 = .ok (.invokevirtual 63, 3) := by decide +kernel
theorem dX5_look_9 : decode cX5_look 9 = .ok (.aload_n 0, 1) := by decide +kernel
theorem dX5_look_10 : decode cX5_look 10 = .ok (.iload_n 1, 1) := by decide +kernel
theorem dX5_look_11 : decode cX5_look 11 = .ok (.iload_n 2, 1) := by decide +kernel
theorem dX5_look_12 : decode cX5_look 12 = .ok (.invokevirtual 172, 3) := by decide +kernel
theorem dX5_look_15 : decode cX5_look 15 = .ok (.ireturn, 1) := by decide +kernel
theorem dX5_name_0 : decode cX5_name 0 = .ok (.aload_n 0, 1) := by decide +kernel
theorem dX5_name_1 : decode cX5_name 1 = .ok (.invokevirtual 60, 3) := by decide +kernel
theorem dX5_name_4 : decode cX5_name 4 = .ok (.aload_n 0, 1) := by decide +kernel
theorem dX5_name_5 : decode cX5_name 5 = .ok (.iload_n 1, 1) := by decide +kernel
theorem dX5_name_6 : decode cX5_name 6 = .ok (.invokevirtual 63, 3) := by decide +kernel
theorem dX5_name_9 : decode cX5_name 9 = .ok (.iload_n 2, 1) := by decide +kernel
theorem dX5_name_10 : decode cX5_name 10 = .ok (.ifCond .lt 23, 3) := by decide +kernel
theorem dX5_name_13 : decode cX5_name 13 = .ok (.iload_n 2, 1) := by decide +kernel
theorem dX5_name_14 : decode cX5_name 14 = .ok (.aload_n 0, 1) := by decide +kernel
theorem dX5_name_15 : decode cX5_name 15 = .ok (.getfield 22, 3) := by decide +kernel
theorem dX5_name_18 : decode cX5_name 18 = .ok (.getfield 72, 3) := by decide +kernel
theorem dX5_name_21 : decode cX5_name 21 = .ok (.getfield 110, 3) := by decide +kernel
theorem dX5_name_24 : decode cX5_name 24 = .ok (.iload_n 1, 1) := by decide +kernel
theorem dX5_name_25 : decode cX5_name 25 = .ok (.iaload, 1) := by decide +kernel
theorem dX5_name_26 : decode cX5_name 26 = .ok (.if_icmp .ge 7, 3) := by decide +kernel
theorem dX5_name_29 : decode cX5_name 29 = .ok (.iconst 1, 1) := by decide +kernel
theorem dX5_name_30 : decode cX5_name 30 = .ok (.goto 4, 3) := by decide +kernel
theorem dX5_name_33 : decode cX5_name 33 = .ok (.iconst 0, 1) := by decide +kernel
theorem dX5_name_34 : decode cX5_name 34 = .ok (.istore_n 3, 1) := by decide +kernel
theorem dX5_name_35 : decode cX5_name 35 = .ok (.iload_n 3, 1) := by decide +kernel
theorem dX5_name_36 : decode cX5_name 36 = .ok (.ifCond .eq 25, 3) := by decide +kernel
theorem dX5_name_39 : decode cX5_name 39 = .ok (.aload_n 0, 1) := by decide +kernel
theorem dX5_name_40 : decode cX5_name 40 = .ok (.getfield 22, 3) := by decide +kernel
theorem dX5_name_43 : decode cX5_name 43 = .ok (.getfield 92, 3) := by decide +kernel
theorem dX5_name_46 : decode cX5_name 46 = .ok (.iload_n 1, 1) := by decide +kernel
theorem dX5_name_47 : decode cX5_name 47 = .ok (.iconst 0, 1) := by decide +kernel
theorem dX5_name_48 : decode cX5_name 48 = .ok (.iconst 0, 1) := by decide +kernel
theorem dX5_name_49 : decode cX5_name 49 = .ok (.invokestatic 95, 3) := by decide +kernel
theorem dX5_name_52 : decode cX5_name 52 = .ok (.iload_n 2, 1) := by decide +kernel
theorem dX5_name_53 : decode cX5_name 53 = .ok (.iconst 1, 1) := by decide +kernel
theorem dX5_name_54 : decode cX5_name 54 = .ok (.iadd, 1) := by decide +kernel
theorem dX5_name_55 : decode cX5_name 55 = .ok (.invokevirtual 175, 3) := by decide +kernel
theorem dX5_name_58 : decode cX5_name 58 = .ok (.goto 4, 3) := by decide +kernel
theorem dX5_name_61 : decode cX5_name 61 = .ok (.iconst (-1), 1) := by decide +kernel
theorem dX5_name_62 : decode cX5_name 62 = .ok (.istore 4, 2) := by decide +kernel
theorem dX5_name_64 : decode cX5_name 64 = .ok (.iload 4, 2) := by decide +kernel
theorem dX5_name_66 : decode cX5_name 66 = .ok (.iconst (-1), 1) := by decide +kernel
theorem dX5_name_67 : decode cX5_name 67 = .ok (.if_icmp .ne 13, 3) := by decide +kernel
theorem dX5_name_70 : decode cX5_name 70 = .ok (.new 164, 3) := by decide +kernel
theorem dX5_name_73 : decode cX5_name 73 = .ok (.dup, 1) := by decide +kernel
theorem dX5_name_74 : decode cX5_name 74 = .ok (.ldc 178, 2) := by decide +kernel
theorem dX5_name_76 : decode cX5_name 76 = .ok (.invokespecial 168, 3) := by decide +kernel
theorem dX5_name_79 : decode cX5_name 79 = .ok (.athrow, 1) := by decide +kernel
theorem dX5_name_80 : decode cX5_name 80 = .ok (.aload_n 0, 1) := by decide +kernel
theorem dX5_name_81 : decode cX5_name 81 = .ok (.getfield 22, 3) := by decide +kernel
theorem dX5_name_84 : decode cX5_name 84 = .ok (.getfield 92, 3) := by decide +kernel
theorem dX5_name_87 : decode cX5_name 87 = .ok (.getfield 180, 3) := by decide +kernel
theorem dX5_name_90 : decode cX5_name 90 = .ok (.iload 4, 2) := by decide +kernel
theorem dX5_name_92 : decode cX5_name 92 = .ok (.iaload, 1) := by decide +kernel
theorem dX5_name_93 : decode cX5_name 93 = .ok (.invokestatic 183, 3) := by decide +kernel
theorem dX5_name_96 : decode cX5_name 96 = .ok (.ireturn, 1) := by decide +kernel
theorem dX5_about_0 : decode cX5_about 0 = .ok (.aload_n 0, 1) := by decide +kernel
theorem dX5_about_1 : decode cX5_about 1 = .ok (.invokevirtual 60, 3) := by decide +kernel
theorem dX5_about_4 : decode cX5_about 4 = .ok (.aload_n 0, 1) := by decide +kernel
theorem dX5_about_5 : decode cX5_about 5 = .ok (.getfield 22, 3) := by decide +kernel
theorem dX5_about_8 : decode cX5_about 8 = .ok (.getfield 72, 3) := by decide +kernel
theorem dX5_about_11 : decode cX5_about 11 = .ok (.iload_n 1, 1) := by decide +kernel
theorem dX5_about_12 : decode cX5_about 12 = .ok (.invokevirtual 186, 3) := by decide +kernel
theorem dX5_about_15 : decode cX5_about 15 = .ok (.ifCond .ne 13, 3) := by decide +kernel
theorem dX5_about_18 : decode cX5_about 18 = .ok (.new 164, 3) := by decide +kernel
theorem dX5_about_21 : decode cX5_about 21 = .ok (.dup, 1) := by decide +kernel
theorem dX5_about_22 : decode cX5_about 22 = .ok (.ldc 190, 2) := by decide +kernel
theorem dX5_about_24 : decode cX5_about 24 = .ok (.invokespecial 168, 3) := by decide +kernel
theorem dX5_about_27 : decode cX5_about 27 = .ok (.athrow, 1) := by decide +kernel
theorem dX5_about_28 : decode cX5_about 28 = .ok (.iload_n 2, 1) := by decide +kernel
theorem dX5_about_29 : decode cX5_about 29 = .ok (.ifCond .ge 13, 3) := by decide +kernel
theorem dX5_about_32 : decode cX5_about 32 = .ok (.new 155, 3) := by decide +kernel
theorem dX5_about_35 : decode cX5_about 35 = .ok (.dup, 1) := by decide +kernel
theorem dX5_about_36 : decode cX5_about 36 = .ok (.ldc 192, 2) := by decide +kernel
theorem dX5_about_38 : decode cX5_about 38 = .ok (.invokespecial 159, 3) := by decide +kernel
theorem dX5_about_41 : decode cX5_about 41 = .ok (.athrow, 1) := by decide +kernel
theorem dX5_about_42 : decode cX5_about 42 = .ok (.aload_n 0, 1) := by decide +kernel
theorem dX5_about_43 : decode cX5_about 43 = .ok (.getfield 22, 3) := by decide +kernel
theorem dX5_about_46 : decode cX5_about 46 = .ok (.getfield 72, 3) := by decide +kernel
theorem dX5_about_49 : decode cX5_about 49 = .ok (.astore_n 3, 1) := by decide +kernel
theorem dX5_about_50 : decode cX5_about 50 = .ok (.iload_n 2, 1) := by decide +kernel
theorem dX5_about_51 : decode cX5_about 51 = .ok (.tableswitch 66 0 4 #[33, 40, 47, 54, 60], 33) := by decide +kernel
theorem dX5_about_84 : decode cX5_about 84 = .ok (.aload_n 3, 1) := by decide +kernel
theorem dX5_about_85 : decode cX5_about 85 = .ok (.getfield 124, 3) := by decide +kernel
theorem dX5_about_88 : decode cX5_about 88 = .ok (.iload_n 1, 1) := by decide +kernel
theorem dX5_about_89 : decode cX5_about 89 = .ok (.iaload, 1) := by decide +kernel
theorem dX5_about_90 : decode cX5_about 90 = .ok (.ireturn, 1) := by decide +kernel
theorem dX5_about_91 : decode cX5_about 91 = .ok (.aload_n 3, 1) := by decide +kernel
theorem dX5_about_92 : decode cX5_about 92 = .ok (.getfield 117, 3) := by decide +kernel
theorem dX5_about_95 : decode cX5_about 95 = .ok (.iload_n 1, 1) := by decide +kernel
theorem dX5_about_96 : decode cX5_about 96 = .ok (.iaload, 1) := by decide +kernel
theorem dX5_about_97 : decode cX5_about 97 = .ok (.ireturn, 1) := by decide +kernel
theorem dX5_about_98 : decode cX5_about 98 = .ok (.aload_n 3, 1) := by decide +kernel
theorem dX5_about_99 : decode cX5_about 99 = .ok (.getfield 110, 3) := by decide +kernel
theorem dX5_about_102 : decode cX5_about 102 = .ok (.iload_n 1, 1) := by decide +kernel
theorem dX5_about_103 : decode cX5_about 103 = .ok (.iaload, 1) := by decide +kernel
theorem dX5_about_104 : decode cX5_about 104 = .ok (.ireturn, 1) := by decide +kernel
theorem dX5_about_105 : decode cX5_about 105 = .ok (.aload_n 3, 1) := by decide +kernel
theorem dX5_about_106 : decode cX5_about 106 = .ok (.iload_n 1, 1) := by decide +kernel
theorem dX5_about_107 : decode cX5_about 107 = .ok (.invokevirtual 194, 3) := by decide +kernel
theorem dX5_about_110 : decode cX5_about 110 = .ok (.ireturn, 1) := by decide +kernel
theorem dX5_about_111 : decode cX5_about 111 = .ok (.aload_n 3, 1) := by decide +kernel
theorem dX5_about_112 : decode cX5_about 112 = .ok (.iload_n 1, 1) := by decide +kernel
theorem dX5_about_113 : decode cX5_about 113 = .ok (.invokevirtual 197, 3) := by decide +kernel
theorem dX5_about_116 : decode cX5_about 116 = .ok (.ireturn, 1) := by decide +kernel
theorem dX5_about_117 : decode cX5_about 117 = .ok (.iload_n 2, 1) := by decide +kernel
theorem dX5_about_118 : decode cX5_about 118 = .ok (.iconst 5, 1) := by decide +kernel
theorem dX5_about_119 : decode cX5_about 119 = .ok (.isub, 1) := by decide +kernel
theorem dX5_about_120 : decode cX5_about 120 = .ok (.aload_n 3, 1) := by decide +kernel
theorem dX5_about_121 : decode cX5_about 121 = .ok (.iload_n 1, 1) := by decide +kernel
theorem dX5_about_122 : decode cX5_about 122 = .ok (.invokevirtual 194, 3) := by decide +kernel
theorem dX5_about_125 : decode cX5_about 125 = .ok (.if_icmp .lt 13, 3) := by decide +kernel
theorem dX5_about_128 : decode cX5_about 128 = .ok (.new 164, 3) := by decide +kernel
theorem dX5_about_131 : decode cX5_about 131 = .ok (.dup, 1) := by decide +kernel
theorem dX5_about_132 : decode cX5_about 132 = .ok (.ldc 200, 2) := by decide +kernel
theorem dX5_about_134 : decode cX5_about 134 = .ok (.invokespecial 168, 3) := by decide +kernel
theorem dX5_about_137 : decode cX5_about 137 = .ok (.athrow, 1) := by decide +kernel
theorem dX5_about_138 : decode cX5_about 138 = .ok (.aload_n 3, 1) := by decide +kernel
theorem dX5_about_139 : decode cX5_about 139 = .ok (.getfield 202, 3) := by decide +kernel
theorem dX5_about_142 : decode cX5_about 142 = .ok (.iload_n 1, 1) := by decide +kernel
theorem dX5_about_143 : decode cX5_about 143 = .ok (.bipush 16, 2) := by decide +kernel
theorem dX5_about_145 : decode cX5_about 145 = .ok (.imul, 1) := by decide +kernel
theorem dX5_about_146 : decode cX5_about 146 = .ok (.iload_n 2, 1) := by decide +kernel
theorem dX5_about_147 : decode cX5_about 147 = .ok (.iadd, 1) := by decide +kernel
theorem dX5_about_148 : decode cX5_about 148 = .ok (.iconst 5, 1) := by decide +kernel
theorem dX5_about_149 : decode cX5_about 149 = .ok (.isub, 1) := by decide +kernel
theorem dX5_about_150 : decode cX5_about 150 = .ok (.iaload, 1) := by decide +kernel
theorem dX5_about_151 : decode cX5_about 151 = .ok (.ireturn, 1) := by decide +kernel
theorem dX5_node_0 : decode cX5_node 0 = .ok (.aload_n 0, 1) := by decide +kernel
theorem dX5_node_1 : decode cX5_node 1 = .ok (.invokevirtual 60, 3) := by decide +kernel
theorem dX5_node_4 : decode cX5_node 4 = .ok (.aload_n 0, 1) := by decide +kernel
theorem dX5_node_5 : decode cX5_node 5 = .ok (.getfield 22, 3) := by decide +kernel
theorem dX5_node_8 : decode cX5_node 8 = .ok (.getfield 92, 3) := by decide +kernel
theorem dX5_node_11 : decode cX5_node 11 = .ok (.astore 4, 2) := by decide +kernel
theorem dX5_node_13 : decode cX5_node 13 = .ok (.aload 4, 2) := by decide +kernel
theorem dX5_node_15 : decode cX5_node 15 = .ok (.iload_n 1, 1) := by decide +kernel
theorem dX5_node_16 : decode cX5_node 16 = .ok (.iload_n 2, 1) := by decide +kernel
theorem dX5_node_17 : decode cX5_node 17 = .ok (.invokevirtual 205, 3) := by decide +kernel
theorem dX5_node_20 : decode cX5_node 20 = .ok (.istore 5, 2) := by decide +kernel
theorem dX5_node_22 : decode cX5_node 22 = .ok (.iload 5, 2) := by decide +kernel
theorem dX5_node_24 : decode cX5_node 24 = .ok (.iconst (-1), 1) := by decide +kernel
theorem dX5_node_25 : decode cX5_node 25 = .ok (.if_icmp .ne 13, 3) := by decide +kernel
theorem dX5_node_28 : decode cX5_node 28 = .ok (.new 164, 3) := by decide +kernel
theorem dX5_node_31 : decode cX5_node 31 = .ok (.dup, 1) := by decide +kernel
theorem dX5_node_32 : decode cX5_node 32 = .ok (.ldc 208, 2) := by decide +kernel
theorem dX5_node_34 : decode cX5_node 34 = .ok (.invokespecial 168, 3) := by decide +kernel
theorem dX5_node_37 : decode cX5_node 37 = .ok (.athrow, 1) := by decide +kernel
theorem dX5_node_38 : decode cX5_node 38 = .ok (.iload_n 3, 1) := by decide +kernel
theorem dX5_node_39 : decode cX5_node 39 = .ok (.tableswitch 59 0 3 #[29, 32, 41, 50], 29) := by decide +kernel
theorem dX5_node_68 : decode cX5_node 68 = .ok (.iload 5, 2) := by decide +kernel
theorem dX5_node_70 : decode cX5_node 70 = .ok (.ireturn, 1) := by decide +kernel
theorem dX5_node_71 : decode cX5_node 71 = .ok (.aload 4, 2) := by decide +kernel
theorem dX5_node_73 : decode cX5_node 73 = .ok (.getfield 210, 3) := by decide +kernel
theorem dX5_node_76 : decode cX5_node 76 = .ok (.iload 5, 2) := by decide +kernel
theorem dX5_node_78 : decode cX5_node 78 = .ok (.iaload, 1) := by decide +kernel
theorem dX5_node_79 : decode cX5_node 79 = .ok (.ireturn, 1) := by decide +kernel
theorem dX5_node_80 : decode cX5_node 80 = .ok (.aload 4, 2) := by decide +kernel
theorem dX5_node_82 : decode cX5_node 82 = .ok (.getfield 213, 3) := by decide +kernel
theorem dX5_node_85 : decode cX5_node 85 = .ok (.iload 5, 2) := by decide +kernel
theorem dX5_node_87 : decode cX5_node 87 = .ok (.iaload, 1) := by decide +kernel
theorem dX5_node_88 : decode cX5_node 88 = .ok (.ireturn, 1) := by decide +kernel
theorem dX5_node_89 : decode cX5_node 89 = .ok (.aload 4, 2) := by decide +kernel
theorem dX5_node_91 : decode cX5_node 91 = .ok (.getfield 216, 3) := by decide +kernel
theorem dX5_node_94 : decode cX5_node 94 = .ok (.iload 5, 2) := by decide +kernel
theorem dX5_node_96 : decode cX5_node 96 = .ok (.iaload, 1) := by decide +kernel
theorem dX5_node_97 : decode cX5_node 97 = .ok (.ireturn, 1) := by decide +kernel
theorem dX5_node_98 : decode cX5_node 98 = .ok (.new 155, 3) := by decide +kernel
theorem dX5_node_101 : decode cX5_node 101 = .ok (.dup, 1) := by decide +kernel
theorem dX5_node_102 : decode cX5_node 102 = .ok (.ldc 219, 2) := by decide +kernel
theorem dX5_node_104 : decode cX5_node 104 = .ok (.invokespecial 159, 3) := by decide +kernel
theorem dX5_node_107 : decode cX5_node 107 = .ok (.athrow, 1) := by decide +kernel
theorem dX5_item_0 : decode cX5_item 0 = .ok (.aload_n 0, 1) := by decide +kernel
theorem dX5_item_1 : decode cX5_item 1 = .ok (.invokevirtual 60, 3) := by decide +kernel
theorem dX5_item_4 : decode cX5_item 4 = .ok (.aload_n 0, 1) := by decide +kernel
theorem dX5_item_5 : decode cX5_item 5 = .ok (.getfield 22, 3) := by decide +kernel
theorem dX5_item_8 : decode cX5_item 8 = .ok (.getfield 92, 3) := by decide +kernel
theorem dX5_item_11 : decode cX5_item 11 = .ok (.astore_n 3, 1) := by decide +kernel
theorem dX5_item_12 : decode cX5_item 12 = .ok (.aload_n 3, 1) := by decide +kernel
theorem dX5_item_13 : decode cX5_item 13 = .ok (.aload_n 3, 1) := by decide +kernel
theorem dX5_item_14 : decode cX5_item 14 = .ok (.iconst 0, 1) := by decide +kernel
theorem dX5_item_15 : decode cX5_item 15 = .ok (.invokevirtual 221, 3) := by decide +kernel
theorem dX5_item_18 : decode cX5_item 18 = .ok (.iload_n 1, 1) := by decide +kernel
theorem dX5_item_19 : decode cX5_item 19 = .ok (.invokevirtual 224, 3) := by decide +kernel
theorem dX5_item_22 : decode cX5_item 22 = .ok (.istore 4, 2) := by decide +kernel
theorem dX5_item_24 : decode cX5_item 24 = .ok (.iload 4, 2) := by decide +kernel
theorem dX5_item_26 : decode cX5_item 26 = .ok (.iconst (-1), 1) := by decide +kernel
theorem dX5_item_27 : decode cX5_item 27 = .ok (.if_icmp .ne 13, 3) := by decide +kernel
theorem dX5_item_30 : decode cX5_item 30 = .ok (.new 164, 3) := by decide +kernel
theorem dX5_item_33 : decode cX5_item 33 = .ok (.dup, 1) := by decide +kernel
theorem dX5_item_34 : decode cX5_item 34 = .ok (.ldc 227, 2) := by decide +kernel
theorem dX5_item_36 : decode cX5_item 36 = .ok (.invokespecial 168, 3) := by decide +kernel
theorem dX5_item_39 : decode cX5_item 39 = .ok (.athrow, 1) := by decide +kernel
theorem dX5_item_40 : decode cX5_item 40 = .ok (.iload_n 2, 1) := by decide +kernel
theorem dX5_item_41 : decode cX5_item 41 = .ok (.tableswitch 82 0 4 #[35, 46, 57, 68, 76], 35) := by decide +kernel
theorem dX5_item_76 : decode cX5_item 76 = .ok (.aload_n 3, 1) := by decide +kernel
theorem dX5_item_77 : decode cX5_item 77 = .ok (.getfield 180, 3) := by decide +kernel
theorem dX5_item_80 : decode cX5_item 80 = .ok (.iload 4, 2) := by decide +kernel
theorem dX5_item_82 : decode cX5_item 82 = .ok (.iaload, 1) := by decide +kernel
theorem dX5_item_83 : decode cX5_item 83 = .ok (.invokestatic 229, 3) := by decide +kernel
theorem dX5_item_86 : decode cX5_item 86 = .ok (.ireturn, 1) := by decide +kernel
theorem dX5_item_87 : decode cX5_item 87 = .ok (.aload_n 3, 1) := by decide +kernel
theorem dX5_item_88 : decode cX5_item 88 = .ok (.getfield 180, 3) := by decide +kernel
theorem dX5_item_91 : decode cX5_item 91 = .ok (.iload 4, 2) := by decide +kernel
theorem dX5_item_93 : decode cX5_item 93 = .ok (.iaload, 1) := by decide +kernel
theorem dX5_item_94 : decode cX5_item 94 = .ok (.invokestatic 232, 3) := by decide +kernel
theorem dX5_item_97 : decode cX5_item 97 = .ok (.ireturn, 1) := by decide +kernel
theorem dX5_item_98 : decode cX5_item 98 = .ok (.aload_n 3, 1) := by decide +kernel
theorem dX5_item_99 : decode cX5_item 99 = .ok (.getfield 180, 3) := by decide +kernel
theorem dX5_item_102 : decode cX5_item 102 = .ok (.iload 4, 2) := by decide +kernel
theorem dX5_item_104 : decode cX5_item 104 = .ok (.iaload, 1) := by decide +kernel
theorem dX5_item_105 : decode cX5_item 105 = .ok (.invokestatic 183, 3) := by decide +kernel
theorem dX5_item_108 : decode cX5_item 108 = .ok (.ireturn, 1) := by decide +kernel
theorem dX5_item_109 : decode cX5_item 109 = .ok (.aload_n 3, 1) := by decide +kernel
theorem dX5_item_110 : decode cX5_item 110 = .ok (.getfield 235, 3) := by decide +kernel
theorem dX5_item_113 : decode cX5_item 113 = .ok (.iload 4, 2) := by decide +kernel
theorem dX5_item_115 : decode cX5_item 115 = .ok (.iaload, 1) := by decide +kernel
theorem dX5_item_116 : decode cX5_item 116 = .ok (.ireturn, 1) := by decide +kernel
theorem dX5_item_117 : decode cX5_item 117 = .ok (.iload 4, 2) := by decide +kernel
theorem dX5_item_119 : decode cX5_item 119 = .ok (.bipush 14, 2) := by decide +kernel
theorem dX5_item_121 : decode cX5_item 121 = .ok (.idiv, 1) := by decide +kernel
theorem dX5_item_122 : decode cX5_item 122 = .ok (.ireturn, 1) := by decide +kernel
theorem dX5_item_123 : decode cX5_item 123 = .ok (.new 155, 3) := by decide +kernel
theorem dX5_item_126 : decode cX5_item 126 = .ok (.dup, 1) := by decide +kernel
theorem dX5_item_127 : decode cX5_item 127 = .ok (.ldc 238, 2) := by decide +kernel
theorem dX5_item_129 : decode cX5_item 129 = .ok (.invokespecial 159, 3) := by decide +kernel
theorem dX5_item_132 : decode cX5_item 132 = .ok (.athrow, 1) := by decide +kernel
theorem dX5_commit_0 : decode cX5_commit 0 = .ok (.aload_n 0, 1) := by decide +kernel
theorem dX5_commit_1 : decode cX5_commit 1 = .ok (.invokevirtual 60, 3) := by decide +kernel
theorem dX5_commit_4 : decode cX5_commit 4 = .ok (.aload_n 0, 1) := by decide +kernel
theorem dX5_commit_5 : decode cX5_commit 5 = .ok (.invokevirtual 240, 3) := by decide +kernel
theorem dX5_commit_8 : decode cX5_commit 8 = .ok (.istore_n 1, 1) := by decide +kernel
theorem dX5_commit_9 : decode cX5_commit 9 = .ok (.iload_n 1, 1) := by decide +kernel
theorem dX5_commit_10 : decode cX5_commit 10 = .ok (.ifCond .ne 5, 3) := by decide +kernel
theorem dX5_commit_13 : decode cX5_commit 13 = .ok (.iconst 0, 1) := by decide +kernel
theorem dX5_commit_14 : decode cX5_commit 14 = .ok (.ireturn, 1) := by decide +kernel
theorem dX5_commit_15 : decode cX5_commit 15 = .ok (.iload_n 1, 1) := by decide +kernel
theorem dX5_commit_16 : decode cX5_commit 16 = .ok (.iconst 2, 1) := by decide +kernel
theorem dX5_commit_17 : decode cX5_commit 17 = .ok (.iadd, 1) := by decide +kernel
theorem dX5_commit_18 : decode cX5_commit 18 = .ok (.istore_n 2, 1) := by decide +kernel
theorem dX5_commit_19 : decode cX5_commit 19 = .ok (.iload_n 2, 1) := by decide +kernel
theorem dX5_commit_20 : decode cX5_commit 20 = .ok (.aload_n 0, 1) := by decide +kernel
theorem dX5_commit_21 : decode cX5_commit 21 = .ok (.getfield 41, 3) := by decide +kernel
theorem dX5_commit_24 : decode cX5_commit 24 = .ok (.getfield 243, 3) := by decide +kernel
theorem dX5_commit_27 : decode cX5_commit 27 = .ok (.if_icmp .le 13, 3) := by decide +kernel
theorem dX5_commit_30 : decode cX5_commit 30 = .ok (.new 82, 3) := by decide +kernel
theorem dX5_commit_33 : decode cX5_commit 33 = .ok (.dup, 1) := by decide +kernel
theorem dX5_commit_34 : decode cX5_commit 34 = .ok (.ldc 246, 2) := by decide +kernel
theorem dX5_commit_36 : decode cX5_commit 36 = .ok (.invokespecial 86, 3) := by decide +kernel
theorem dX5_commit_39 : decode cX5_commit 39 = .ok (.athrow, 1) := by decide +kernel
theorem dX5_commit_40 : decode cX5_commit 40 = .ok (.aload_n 0, 1) := by decide +kernel
theorem dX5_commit_41 : decode cX5_commit 41 = .ok (.getfield 48, 3) := by decide +kernel
theorem dX5_commit_44 : decode cX5_commit 44 = .ok (.getfield 248, 3) := by decide +kernel
theorem dX5_commit_47 : decode cX5_commit 47 = .ok (.istore_n 3, 1) := by decide +kernel
theorem dX5_commit_48 : decode cX5_commit 48 = .ok (.iload_n 2, 1) := by decide +kernel
theorem dX5_commit_49 : decode cX5_commit 49 = .ok (.aload_n 0, 1) := by decide +kernel
theorem dX5_commit_50 : decode cX5_commit 50 = .ok (.getfield 41, 3) := by decide +kernel
theorem dX5_commit_53 : decode cX5_commit 53 = .ok (.getfield 243, 3) := by decide +kernel
theorem dX5_commit_56 : decode cX5_commit 56 = .ok (.aload_n 0, 1) := by decide +kernel
theorem dX5_commit_57 : decode cX5_commit 57 = .ok (.getfield 41, 3) := by decide +kernel
theorem dX5_commit_60 : decode cX5_commit 60 = .ok (.getfield 251, 3) := by decide +kernel
theorem dX5_commit_63 : decode cX5_commit 63 = .ok (.isub, 1) := by decide +kernel
theorem dX5_commit_64 : decode cX5_commit 64 = .ok (.if_icmp .le 17, 3) := by decide +kernel
theorem dX5_commit_67 : decode cX5_commit 67 = .ok (.aload_n 0, 1) := by decide +kernel
theorem dX5_commit_68 : decode cX5_commit 68 = .ok (.getfield 41, 3) := by decide +kernel
theorem dX5_commit_71 : decode cX5_commit 71 = .ok (.aload_n 0, 1) := by decide +kernel
theorem dX5_commit_72 : decode cX5_commit 72 = .ok (.getfield 48, 3) := by decide +kernel
theorem dX5_commit_75 : decode cX5_commit 75 = .ok (.invokevirtual 254, 3) := by decide +kernel
theorem dX5_commit_78 : decode cX5_commit 78 = .ok (.ifCond .eq 7, 3) := by decide +kernel
theorem dX5_commit_81 : decode cX5_commit 81 = .ok (.iconst 1, 1) := by decide +kernel
theorem dX5_commit_82 : decode cX5_commit 82 = .ok (.goto 4, 3) := by decide +kernel
theorem dX5_commit_85 : decode cX5_commit 85 = .ok (.iconst 0, 1) := by decide +kernel
theorem dX5_commit_86 : decode cX5_commit 86 = .ok (.istore 4, 2) := by decide +kernel
theorem dX5_commit_88 : decode cX5_commit 88 = .ok (.iload 4, 2) := by decide +kernel
theorem dX5_commit_90 : decode cX5_commit 90 = .ok (.ifCond .eq 32, 3) := by decide +kernel
theorem dX5_commit_93 : decode cX5_commit 93 = .ok (.aload_n 0, 1) := by decide +kernel
theorem dX5_commit_94 : decode cX5_commit 94 = .ok (.getfield 41, 3) := by decide +kernel
theorem dX5_commit_97 : decode cX5_commit 97 = .ok (.aload_n 0, 1) := by decide +kernel
theorem dX5_commit_98 : decode cX5_commit 98 = .ok (.getfield 52, 3) := by decide +kernel
theorem dX5_commit_101 : decode cX5_commit 101 = .ok (.aload_n 0, 1) := by decide +kernel
theorem dX5_commit_102 : decode cX5_commit 102 = .ok (.getfield 48, 3) := by decide +kernel
theorem dX5_commit_105 : decode cX5_commit 105 = .ok (.invokevirtual 258, 3) := by decide +kernel
theorem dX5_commit_108 : decode cX5_commit 108 = .ok (.ifCond .eq 14, 3) := by decide +kernel
theorem dX5_commit_111 : decode cX5_commit 111 = .ok (.aload_n 0, 1) := by decide +kernel
theorem dX5_commit_112 : decode cX5_commit 112 = .ok (.getfield 26, 3) := by decide +kernel
theorem dX5_commit_115 : decode cX5_commit 115 = .ok (.aload_n 0, 1) := by decide +kernel
theorem dX5_commit_116 : decode cX5_commit 116 = .ok (.getfield 22, 3) := by decide +kernel
theorem dX5_commit_119 : decode cX5_commit 119 = .ok (.invokevirtual 262, 3) := by decide +kernel
theorem dX5_commit_122 : decode cX5_commit 122 = .ok (.aload_n 0, 1) := by decide +kernel
theorem dX5_commit_123 : decode cX5_commit 123 = .ok (.getfield 48, 3) := by decide +kernel
theorem dX5_commit_126 : decode cX5_commit 126 = .ok (.getfield 248, 3) := by decide +kernel
theorem dX5_commit_129 : decode cX5_commit 129 = .ok (.iload_n 3, 1) := by decide +kernel
theorem dX5_commit_130 : decode cX5_commit 130 = .ok (.isub, 1) := by decide +kernel
theorem dX5_commit_131 : decode cX5_commit 131 = .ok (.ireturn, 1) := by decide +kernel
theorem dX5_checkpoint_0 : decode cX5_checkpoint 0 = .ok (.aload_n 0, 1) := by decide +kernel
theorem dX5_checkpoint_1 : decode cX5_checkpoint 1 = .ok (.invokevirtual 60, 3) := by decide +kernel
theorem dX5_checkpoint_4 : decode cX5_checkpoint 4 = .ok (.aload_n 0, 1) := by decide +kernel
theorem dX5_checkpoint_5 : decode cX5_checkpoint 5 = .ok (.invokevirtual 266, 3) := by decide +kernel
theorem dX5_checkpoint_8 : decode cX5_checkpoint 8 = .ok (.ireturn, 1) := by decide +kernel
theorem dX5_back_0 : decode cX5_back 0 = .ok (.aload_n 0, 1) := by decide +kernel
theorem dX5_back_1 : decode cX5_back 1 = .ok (.invokevirtual 60, 3) := by decide +kernel
theorem dX5_back_4 : decode cX5_back 4 = .ok (.aload_n 0, 1) := by decide +kernel
theorem dX5_back_5 : decode cX5_back 5 = .ok (.invokevirtual 240, 3) := by decide +kernel
theorem dX5_back_8 : decode cX5_back 8 = .ok (.istore_n 1, 1) := by decide +kernel
theorem dX5_back_9 : decode cX5_back 9 = .ok (.aload_n 0, 1) := by decide +kernel
theorem dX5_back_10 : decode cX5_back 10 = .ok (.getfield 22, 3) := by decide +kernel
theorem dX5_back_13 : decode cX5_back 13 = .ok (.aload_n 0, 1) := by decide +kernel
theorem dX5_back_14 : decode cX5_back 14 = .ok (.getfield 26, 3) := by decide +kernel
theorem dX5_back_17 : decode cX5_back 17 = .ok (.invokevirtual 262, 3) := by decide +kernel
theorem dX5_back_20 : decode cX5_back 20 = .ok (.iload_n 1, 1) := by decide +kernel
theorem dX5_back_21 : decode cX5_back 21 = .ok (.ireturn, 1) := by decide +kernel
theorem dX5_fail_0 : decode cX5_fail 0 = .ok (.iload_n 1, 1) := by decide +kernel
theorem dX5_fail_1 : decode cX5_fail 1 = .ok (.iconst (-1), 1) := by decide +kernel
theorem dX5_fail_2 : decode cX5_fail 2 = .ok (.if_icmp .ge 14, 3) := by decide +kernel
theorem dX5_fail_5 : decode cX5_fail 5 = .ok (.new 155, 3) := by decide +kernel
theorem dX5_fail_8 : decode cX5_fail 8 = .ok (.dup, 1) := by decide +kernel
theorem dX5_fail_9 : decode cX5_fail 9 = .ok (.ldc_w 269, 3) := by decide +kernel
theorem dX5_fail_12 : decode cX5_fail 12 = .ok (.invokespecial 159, 3) := by decide +kernel
theorem dX5_fail_15 : decode cX5_fail 15 = .ok (.athrow, 1) := by decide +kernel
theorem dX5_fail_16 : decode cX5_fail 16 = .ok (.aload_n 0, 1) := by decide +kernel
theorem dX5_fail_17 : decode cX5_fail 17 = .ok (.getfield 48, 3) := by decide +kernel
theorem dX5_fail_20 : decode cX5_fail 20 = .ok (.iload_n 1, 1) := by decide +kernel
theorem dX5_fail_21 : decode cX5_fail 21 = .ok (.putfield 271, 3) := by decide +kernel
theorem dX5_fail_24 : decode cX5_fail 24 = .ok (.return_, 1) := by decide +kernel
theorem dX5_off_0 : decode cX5_off 0 = .ok (.aload_n 0, 1) := by decide +kernel
theorem dX5_off_1 : decode cX5_off 1 = .ok (.getfield 48, 3) := by decide +kernel
theorem dX5_off_4 : decode cX5_off 4 = .ok (.getfield 274, 3) := by decide +kernel
theorem dX5_off_7 : decode cX5_off 7 = .ok (.ireturn, 1) := by decide +kernel
theorem dX5_recover_0 : decode cX5_recover 0 = .ok (.aload_n 0, 1) := by decide +kernel
theorem dX5_recover_1 : decode cX5_recover 1 = .ok (.getfield 48, 3) := by decide +kernel
theorem dX5_recover_4 : decode cX5_recover 4 = .ok (.getfield 274, 3) := by decide +kernel
theorem dX5_recover_7 : decode cX5_recover 7 = .ok (.ifCond .ne 14, 3) := by decide +kernel
theorem dX5_recover_10 : decode cX5_recover 10 = .ok (.new 82, 3) := by decide +kernel
theorem dX5_recover_13 : decode cX5_recover 13 = .ok (.dup, 1) := by decide +kernel
theorem dX5_recover_14 : decode cX5_recover 14 = .ok (.ldc_w 278, 3) := by decide +kernel
theorem dX5_recover_17 : decode cX5_recover 17 = .ok (.invokespecial 86, 3) := by decide +kernel
theorem dX5_recover_20 : decode cX5_recover 20 = .ok (.athrow, 1) := by decide +kernel
theorem dX5_recover_21 : decode cX5_recover 21 = .ok (.aload_n 0, 1) := by decide +kernel
theorem dX5_recover_22 : decode cX5_recover 22 = .ok (.getfield 48, 3) := by decide +kernel
theorem dX5_recover_25 : decode cX5_recover 25 = .ok (.iconst 0, 1) := by decide +kernel
theorem dX5_recover_26 : decode cX5_recover 26 = .ok (.putfield 274, 3) := by decide +kernel
theorem dX5_recover_29 : decode cX5_recover 29 = .ok (.aload_n 0, 1) := by decide +kernel
theorem dX5_recover_30 : decode cX5_recover 30 = .ok (.getfield 22, 3) := by decide +kernel
theorem dX5_recover_33 : decode cX5_recover 33 = .ok (.aload_n 0, 1) := by decide +kernel
theorem dX5_recover_34 : decode cX5_recover 34 = .ok (.getfield 26, 3) := by decide +kernel
theorem dX5_recover_37 : decode cX5_recover 37 = .ok (.invokevirtual 262, 3) := by decide +kernel
theorem dX5_recover_40 : decode cX5_recover 40 = .ok (.aload_n 0, 1) := by decide +kernel
theorem dX5_recover_41 : decode cX5_recover 41 = .ok (.invokevirtual 266, 3) := by decide +kernel
theorem dX5_recover_44 : decode cX5_recover 44 = .ok (.ireturn, 1) := by decide +kernel
theorem dX5_count_0 : decode cX5_count 0 = .ok (.aload_n 0, 1) := by decide +kernel
theorem dX5_count_1 : decode cX5_count 1 = .ok (.invokevirtual 60, 3) := by decide +kernel
theorem dX5_count_4 : decode cX5_count 4 = .ok (.aload_n 0, 1) := by decide +kernel
theorem dX5_count_5 : decode cX5_count 5 = .ok (.getfield 22, 3) := by decide +kernel
theorem dX5_count_8 : decode cX5_count 8 = .ok (.getfield 92, 3) := by decide +kernel
theorem dX5_count_11 : decode cX5_count 11 = .ok (.astore_n 2, 1) := by decide +kernel
theorem dX5_count_12 : decode cX5_count 12 = .ok (.iload_n 1, 1) := by decide +kernel
theorem dX5_count_13 : decode cX5_count 13 = .ok (.tableswitch 127 0 9 #[55, 60, 65, 77, 88, 93, 98, 103, 111, 119], 55) := by decide +kernel
theorem dX5_count_68 : decode cX5_count 68 = .ok (.aload_n 2, 1) := by decide +kernel
theorem dX5_count_69 : decode cX5_count 69 = .ok (.invokevirtual 280, 3) := by decide +kernel
theorem dX5_count_72 : decode cX5_count 72 = .ok (.ireturn, 1) := by decide +kernel
theorem dX5_count_73 : decode cX5_count 73 = .ok (.aload_n 2, 1) := by decide +kernel
theorem dX5_count_74 : decode cX5_count 74 = .ok (.invokevirtual 283, 3) := by decide +kernel
theorem dX5_count_77 : decode cX5_count 77 = .ok (.ireturn, 1) := by decide +kernel
theorem dX5_count_78 : decode cX5_count 78 = .ok (.aload_n 2, 1) := by decide +kernel
theorem dX5_count_79 : decode cX5_count 79 = .ok (.getfield 286, 3) := by decide +kernel
theorem dX5_count_82 : decode cX5_count 82 = .ok (.aload_n 2, 1) := by decide +kernel
theorem dX5_count_83 : decode cX5_count 83 = .ok (.getfield 289, 3) := by decide +kernel
theorem dX5_count_86 : decode cX5_count 86 = .ok (.iaload, 1) := by decide +kernel
theorem dX5_count_87 : decode cX5_count 87 = .ok (.iconst 1, 1) := by decide +kernel
theorem dX5_count_88 : decode cX5_count 88 = .ok (.iadd, 1) := by decide +kernel
theorem dX5_count_89 : decode cX5_count 89 = .ok (.ireturn, 1) := by decide +kernel
theorem dX5_count_90 : decode cX5_count 90 = .ok (.aload_n 0, 1) := by decide +kernel
theorem dX5_count_91 : decode cX5_count 91 = .ok (.getfield 22, 3) := by decide +kernel
theorem dX5_count_94 : decode cX5_count 94 = .ok (.getfield 72, 3) := by decide +kernel
theorem dX5_count_97 : decode cX5_count 97 = .ok (.invokevirtual 292, 3) := by decide +kernel
theorem dX5_count_100 : decode cX5_count 100 = .ok (.ireturn, 1) := by decide +kernel
theorem dX5_count_101 : decode cX5_count 101 = .ok (.aload_n 2, 1) := by decide +kernel
theorem dX5_count_102 : decode cX5_count 102 = .ok (.invokevirtual 295, 3) := by decide +kernel
theorem dX5_count_105 : decode cX5_count 105 = .ok (.ireturn, 1) := by decide +kernel
theorem dX5_count_106 : decode cX5_count 106 = .ok (.aload_n 2, 1) := by decide +kernel
theorem dX5_count_107 : decode cX5_count 107 = .ok (.invokevirtual 298, 3) := by decide +kernel
theorem dX5_count_110 : decode cX5_count 110 = .ok (.ireturn, 1) := by decide +kernel
theorem dX5_count_111 : decode cX5_count 111 = .ok (.aload_n 0, 1) := by decide +kernel
theorem dX5_count_112 : decode cX5_count 112 = .ok (.invokevirtual 240, 3) := by decide +kernel
theorem dX5_count_115 : decode cX5_count 115 = .ok (.ireturn, 1) := by decide +kernel
theorem dX5_count_116 : decode cX5_count 116 = .ok (.aload_n 0, 1) := by decide +kernel
theorem dX5_count_117 : decode cX5_count 117 = .ok (.getfield 41, 3) := by decide +kernel
theorem dX5_count_120 : decode cX5_count 120 = .ok (.getfield 251, 3) := by decide +kernel
theorem dX5_count_123 : decode cX5_count 123 = .ok (.ireturn, 1) := by decide +kernel
theorem dX5_count_124 : decode cX5_count 124 = .ok (.aload_n 0, 1) := by decide +kernel
theorem dX5_count_125 : decode cX5_count 125 = .ok (.getfield 48, 3) := by decide +kernel
theorem dX5_count_128 : decode cX5_count 128 = .ok (.getfield 248, 3) := by decide +kernel
theorem dX5_count_131 : decode cX5_count 131 = .ok (.ireturn, 1) := by decide +kernel
theorem dX5_count_132 : decode cX5_count 132 = .ok (.aload_n 0, 1) := by decide +kernel
theorem dX5_count_133 : decode cX5_count 133 = .ok (.getfield 41, 3) := by decide +kernel
theorem dX5_count_136 : decode cX5_count 136 = .ok (.getfield 301, 3) := by decide +kernel
theorem dX5_count_139 : decode cX5_count 139 = .ok (.ireturn, 1) := by decide +kernel
theorem dX5_count_140 : decode cX5_count 140 = .ok (.new 155, 3) := by decide +kernel
theorem dX5_count_143 : decode cX5_count 143 = .ok (.dup, 1) := by decide +kernel
theorem dX5_count_144 : decode cX5_count 144 = .ok (.ldc_w 304, 3) := by decide +kernel
theorem dX5_count_147 : decode cX5_count 147 = .ok (.invokespecial 159, 3) := by decide +kernel
theorem dX5_count_150 : decode cX5_count 150 = .ok (.athrow, 1) := by decide +kernel
theorem dX5_needPower_0 : decode cX5_needPower 0 = .ok (.aload_n 0, 1) := by decide +kernel
theorem dX5_needPower_1 : decode cX5_needPower 1 = .ok (.getfield 48, 3) := by decide +kernel
theorem dX5_needPower_4 : decode cX5_needPower 4 = .ok (.getfield 274, 3) := by decide +kernel
theorem dX5_needPower_7 : decode cX5_needPower 7 = .ok (.ifCond .eq 14, 3) := by decide +kernel
theorem dX5_needPower_10 : decode cX5_needPower 10 = .ok (.new 306, 3) := by decide +kernel
theorem dX5_needPower_13 : decode cX5_needPower 13 = .ok (.dup, 1) := by decide +kernel
theorem dX5_needPower_14 : decode cX5_needPower 14 = .ok (.ldc_w 308, 3) := by decide +kernel
theorem dX5_needPower_17 : decode cX5_needPower 17 = .ok (.invokespecial 310, 3) := by decide +kernel
theorem dX5_needPower_20 : decode cX5_needPower 20 = .ok (.athrow, 1) := by decide +kernel
theorem dX5_needPower_21 : decode cX5_needPower 21 = .ok (.return_, 1) := by decide +kernel
theorem dX5_needDirectory_0 : decode cX5_needDirectory 0 = .ok (.aload_n 0, 1) := by decide +kernel
theorem dX5_needDirectory_1 : decode cX5_needDirectory 1 = .ok (.getfield 22, 3) := by decide +kernel
theorem dX5_needDirectory_4 : decode cX5_needDirectory 4 = .ok (.getfield 72, 3) := by decide +kernel
theorem dX5_needDirectory_7 : decode cX5_needDirectory 7 = .ok (.iload_n 1, 1) := by decide +kernel
theorem dX5_needDirectory_8 : decode cX5_needDirectory 8 = .ok (.invokevirtual 186, 3) := by decide +kernel
theorem dX5_needDirectory_11 : decode cX5_needDirectory 11 = .ok (.ifCond .eq 18, 3) := by decide +kernel
theorem dX5_needDirectory_14 : decode cX5_needDirectory 14 = .ok (.aload_n 0, 1) := by decide +kernel
theorem dX5_needDirectory_15 : decode cX5_needDirectory 15 = .ok (.getfield 22, 3) := by decide +kernel
theorem dX5_needDirectory_18 : decode cX5_needDirectory 18 = .ok (.getfield 72, 3) := by decide +kernel
theorem dX5_needDirectory_21 : decode cX5_needDirectory 21 = .ok (.getfield 124, 3) := by decide +kernel
theorem dX5_needDirectory_24 : decode cX5_needDirectory 24 = .ok (.iload_n 1, 1) := by decide +kernel
theorem dX5_needDirectory_25 : decode cX5_needDirectory 25 = .ok (.iaload, 1) := by decide +kernel
theorem dX5_needDirectory_26 : decode cX5_needDirectory 26 = .ok (.ifCond .eq 14, 3) := by decide +kernel
theorem dX5_needDirectory_29 : decode cX5_needDirectory 29 = .ok (.new 164, 3) := by decide +kernel
theorem dX5_needDirectory_32 : decode cX5_needDirectory 32 = .ok (.dup, 1) := by decide +kernel
theorem dX5_needDirectory_33 : decode cX5_needDirectory 33 = .ok (.ldc_w 311, 3) := by decide +kernel
theorem dX5_needDirectory_36 : decode cX5_needDirectory 36 = .ok (.invokespecial 168, 3) := by decide +kernel
theorem dX5_needDirectory_39 : decode cX5_needDirectory 39 = .ok (.athrow, 1) := by decide +kernel
theorem dX5_needDirectory_40 : decode cX5_needDirectory 40 = .ok (.return_, 1) := by decide +kernel
theorem dX5_needFile_0 : decode cX5_needFile 0 = .ok (.aload_n 0, 1) := by decide +kernel
theorem dX5_needFile_1 : decode cX5_needFile 1 = .ok (.getfield 22, 3) := by decide +kernel
theorem dX5_needFile_4 : decode cX5_needFile 4 = .ok (.getfield 72, 3) := by decide +kernel
theorem dX5_needFile_7 : decode cX5_needFile 7 = .ok (.iload_n 1, 1) := by decide +kernel
theorem dX5_needFile_8 : decode cX5_needFile 8 = .ok (.invokevirtual 186, 3) := by decide +kernel
theorem dX5_needFile_11 : decode cX5_needFile 11 = .ok (.ifCond .eq 19, 3) := by decide +kernel
theorem dX5_needFile_14 : decode cX5_needFile 14 = .ok (.aload_n 0, 1) := by decide +kernel
theorem dX5_needFile_15 : decode cX5_needFile 15 = .ok (.getfield 22, 3) := by decide +kernel
theorem dX5_needFile_18 : decode cX5_needFile 18 = .ok (.getfield 72, 3) := by decide +kernel
theorem dX5_needFile_21 : decode cX5_needFile 21 = .ok (.getfield 124, 3) := by decide +kernel
theorem dX5_needFile_24 : decode cX5_needFile 24 = .ok (.iload_n 1, 1) := by decide +kernel
theorem dX5_needFile_25 : decode cX5_needFile 25 = .ok (.iaload, 1) := by decide +kernel
theorem dX5_needFile_26 : decode cX5_needFile 26 = .ok (.iconst 1, 1) := by decide +kernel
theorem dX5_needFile_27 : decode cX5_needFile 27 = .ok (.if_icmp .eq 14, 3) := by decide +kernel
theorem dX5_needFile_30 : decode cX5_needFile 30 = .ok (.new 164, 3) := by decide +kernel
theorem dX5_needFile_33 : decode cX5_needFile 33 = .ok (.dup, 1) := by decide +kernel
theorem dX5_needFile_34 : decode cX5_needFile 34 = .ok (.ldc_w 313, 3) := by decide +kernel
theorem dX5_needFile_37 : decode cX5_needFile 37 = .ok (.invokespecial 168, 3) := by decide +kernel
theorem dX5_needFile_40 : decode cX5_needFile 40 = .ok (.athrow, 1) := by decide +kernel
theorem dX5_needFile_41 : decode cX5_needFile 41 = .ok (.return_, 1) := by decide +kernel
theorem dX5_needName_0 : decode cX5_needName 0 = .ok (.iload_n 1, 1) := by decide +kernel
theorem dX5_needName_1 : decode cX5_needName 1 = .ok (.ifCond .lt 10, 3) := by decide +kernel
theorem dX5_needName_4 : decode cX5_needName 4 = .ok (.iload_n 1, 1) := by decide +kernel
theorem dX5_needName_5 : decode cX5_needName 5 = .ok (.sipush 1000, 3) := by decide +kernel
theorem dX5_needName_8 : decode cX5_needName 8 = .ok (.if_icmp .lt 14, 3) := by decide +kernel
theorem dX5_needName_11 : decode cX5_needName 11 = .ok (.new 155, 3) := by decide +kernel
theorem dX5_needName_14 : decode cX5_needName 14 = .ok (.dup, 1) := by decide +kernel
theorem dX5_needName_15 : decode cX5_needName 15 = .ok (.ldc_w 315, 3) := by decide +kernel
theorem dX5_needName_18 : decode cX5_needName 18 = .ok (.invokespecial 159, 3) := by decide +kernel
theorem dX5_needName_21 : decode cX5_needName 21 = .ok (.athrow, 1) := by decide +kernel
theorem dX5_needName_22 : decode cX5_needName 22 = .ok (.return_, 1) := by decide +kernel
theorem dX5_needNoEntry_0 : decode cX5_needNoEntry 0 = .ok (.aload_n 0, 1) := by decide +kernel
theorem dX5_needNoEntry_1 : decode cX5_needNoEntry 1 = .ok (.iload_n 1, 1) := by decide +kernel
theorem dX5_needNoEntry_2 : decode cX5_needNoEntry 2 = .ok (.iload_n 2, 1) := by decide +kernel
theorem dX5_needNoEntry_3 : decode cX5_needNoEntry 3 = .ok (.invokevirtual 172, 3) := by decide +kernel
theorem dX5_needNoEntry_6 : decode cX5_needNoEntry 6 = .ok (.iconst (-1), 1) := by decide +kernel
theorem dX5_needNoEntry_7 : decode cX5_needNoEntry 7 = .ok (.if_icmp .eq 14, 3) := by decide +kernel
theorem dX5_needNoEntry_10 : decode cX5_needNoEntry 10 = .ok (.new 82, 3) := by decide +kernel
theorem dX5_needNoEntry_13 : decode cX5_needNoEntry 13 = .ok (.dup, 1) := by decide +kernel
theorem dX5_needNoEntry_14 : decode cX5_needNoEntry 14 = .ok (.ldc_w 317, 3) := by decide +kernel
theorem dX5_needNoEntry_17 : decode cX5_needNoEntry 17 = .ok (.invokespecial 86, 3) := by decide +kernel
theorem dX5_needNoEntry_20 : decode cX5_needNoEntry 20 = .ok (.athrow, 1) := by decide +kernel
theorem dX5_needNoEntry_21 : decode cX5_needNoEntry 21 = .ok (.return_, 1) := by decide +kernel
theorem dX5_needEntry_0 : decode cX5_needEntry 0 = .ok (.aload_n 0, 1) := by decide +kernel
theorem dX5_needEntry_1 : decode cX5_needEntry 1 = .ok (.iload_n 1, 1) := by decide +kernel
theorem dX5_needEntry_2 : decode cX5_needEntry 2 = .ok (.iload_n 2, 1) := by decide +kernel
theorem dX5_needEntry_3 : decode cX5_needEntry 3 = .ok (.invokevirtual 172, 3) := by decide +kernel
theorem dX5_needEntry_6 : decode cX5_needEntry 6 = .ok (.istore_n 3, 1) := by decide +kernel
theorem dX5_needEntry_7 : decode cX5_needEntry 7 = .ok (.iload_n 3, 1) := by decide +kernel
theorem dX5_needEntry_8 : decode cX5_needEntry 8 = .ok (.iconst (-1), 1) := by decide +kernel
theorem dX5_needEntry_9 : decode cX5_needEntry 9 = .ok (.if_icmp .ne 14, 3) := by decide +kernel
theorem dX5_needEntry_12 : decode cX5_needEntry 12 = .ok (.new 164, 3) := by decide +kernel
theorem dX5_needEntry_15 : decode cX5_needEntry 15 = .ok (.dup, 1) := by decide +kernel
theorem dX5_needEntry_16 : decode cX5_needEntry 16 = .ok (.ldc_w 319, 3) := by decide +kernel
theorem dX5_needEntry_19 : decode cX5_needEntry 19 = .ok (.invokespecial 168, 3) := by decide +kernel
theorem dX5_needEntry_22 : decode cX5_needEntry 22 = .ok (.athrow, 1) := by decide +kernel
theorem dX5_needEntry_23 : decode cX5_needEntry 23 = .ok (.iload_n 3, 1) := by decide +kernel
theorem dX5_needEntry_24 : decode cX5_needEntry 24 = .ok (.ireturn, 1) := by decide +kernel
theorem dX5_needRoom_0 : decode cX5_needRoom 0 = .ok (.iload_n 1, 1) := by decide +kernel
theorem dX5_needRoom_1 : decode cX5_needRoom 1 = .ok (.ifCond .ne 28, 3) := by decide +kernel
theorem dX5_needRoom_4 : decode cX5_needRoom 4 = .ok (.aload_n 0, 1) := by decide +kernel
theorem dX5_needRoom_5 : decode cX5_needRoom 5 = .ok (.getfield 22, 3) := by decide +kernel
theorem dX5_needRoom_8 : decode cX5_needRoom 8 = .ok (.getfield 92, 3) := by decide +kernel
theorem dX5_needRoom_11 : decode cX5_needRoom 11 = .ok (.aload_n 0, 1) := by decide +kernel
theorem dX5_needRoom_12 : decode cX5_needRoom 12 = .ok (.getfield 32, 3) := by decide +kernel
theorem dX5_needRoom_15 : decode cX5_needRoom 15 = .ok (.invokevirtual 321, 3) := by decide +kernel
theorem dX5_needRoom_18 : decode cX5_needRoom 18 = .ok (.new 82, 3) := by decide +kernel
theorem dX5_needRoom_21 : decode cX5_needRoom 21 = .ok (.dup, 1) := by decide +kernel
theorem dX5_needRoom_22 : decode cX5_needRoom 22 = .ok (.ldc_w 324, 3) := by decide +kernel
theorem dX5_needRoom_25 : decode cX5_needRoom 25 = .ok (.invokespecial 86, 3) := by decide +kernel
theorem dX5_needRoom_28 : decode cX5_needRoom 28 = .ok (.athrow, 1) := by decide +kernel
theorem dX5_needRoom_29 : decode cX5_needRoom 29 = .ok (.return_, 1) := by decide +kernel
theorem dX5_keep_0 : decode cX5_keep 0 = .ok (.aload_n 0, 1) := by decide +kernel
theorem dX5_keep_1 : decode cX5_keep 1 = .ok (.getfield 32, 3) := by decide +kernel
theorem dX5_keep_4 : decode cX5_keep 4 = .ok (.aload_n 0, 1) := by decide +kernel
theorem dX5_keep_5 : decode cX5_keep 5 = .ok (.getfield 22, 3) := by decide +kernel
theorem dX5_keep_8 : decode cX5_keep 8 = .ok (.getfield 92, 3) := by decide +kernel
theorem dX5_keep_11 : decode cX5_keep 11 = .ok (.invokevirtual 321, 3) := by decide +kernel
theorem dX5_keep_14 : decode cX5_keep 14 = .ok (.return_, 1) := by decide +kernel
theorem dX5_toldBy_0 : decode cX5_toldBy 0 = .ok (.iload_n 2, 1) := by decide +kernel
theorem dX5_toldBy_1 : decode cX5_toldBy 1 = .ok (.ifCond .lt 10, 3) := by decide +kernel
theorem dX5_toldBy_4 : decode cX5_toldBy 4 = .ok (.iload_n 2, 1) := by decide +kernel
theorem dX5_toldBy_5 : decode cX5_toldBy 5 = .ok (.sipush 1000, 3) := by decide +kernel
theorem dX5_toldBy_8 : decode cX5_toldBy 8 = .ok (.if_icmp .lt 5, 3) := by decide +kernel
theorem dX5_toldBy_11 : decode cX5_toldBy 11 = .ok (.iconst (-1), 1) := by decide +kernel
theorem dX5_toldBy_12 : decode cX5_toldBy 12 = .ok (.ireturn, 1) := by decide +kernel
theorem dX5_toldBy_13 : decode cX5_toldBy 13 = .ok (.aload_n 0, 1) := by decide +kernel
theorem dX5_toldBy_14 : decode cX5_toldBy 14 = .ok (.getfield 22, 3) := by decide +kernel
theorem dX5_toldBy_17 : decode cX5_toldBy 17 = .ok (.getfield 92, 3) := by decide +kernel
theorem dX5_toldBy_20 : decode cX5_toldBy 20 = .ok (.iload_n 1, 1) := by decide +kernel
theorem dX5_toldBy_21 : decode cX5_toldBy 21 = .ok (.iconst 1, 1) := by decide +kernel
theorem dX5_toldBy_22 : decode cX5_toldBy 22 = .ok (.iload_n 2, 1) := by decide +kernel
theorem dX5_toldBy_23 : decode cX5_toldBy 23 = .ok (.invokestatic 95, 3) := by decide +kernel
theorem dX5_toldBy_26 : decode cX5_toldBy 26 = .ok (.invokevirtual 326, 3) := by decide +kernel
theorem dX5_toldBy_29 : decode cX5_toldBy 29 = .ok (.istore_n 3, 1) := by decide +kernel
theorem dX5_toldBy_30 : decode cX5_toldBy 30 = .ok (.iload_n 3, 1) := by decide +kernel
theorem dX5_toldBy_31 : decode cX5_toldBy 31 = .ok (.iconst (-1), 1) := by decide +kernel
theorem dX5_toldBy_32 : decode cX5_toldBy 32 = .ok (.if_icmp .ne 7, 3) := by decide +kernel
theorem dX5_toldBy_35 : decode cX5_toldBy 35 = .ok (.iconst (-1), 1) := by decide +kernel
theorem dX5_toldBy_36 : decode cX5_toldBy 36 = .ok (.goto 15, 3) := by decide +kernel
theorem dX5_toldBy_39 : decode cX5_toldBy 39 = .ok (.aload_n 0, 1) := by decide +kernel
theorem dX5_toldBy_40 : decode cX5_toldBy 40 = .ok (.getfield 22, 3) := by decide +kernel
theorem dX5_toldBy_43 : decode cX5_toldBy 43 = .ok (.getfield 92, 3) := by decide +kernel
theorem dX5_toldBy_46 : decode cX5_toldBy 46 = .ok (.getfield 329, 3) := by decide +kernel
theorem dX5_toldBy_49 : decode cX5_toldBy 49 = .ok (.iload_n 3, 1) := by decide +kernel
theorem dX5_toldBy_50 : decode cX5_toldBy 50 = .ok (.iaload, 1) := by decide +kernel
theorem dX5_toldBy_51 : decode cX5_toldBy 51 = .ok (.ireturn, 1) := by decide +kernel
theorem dX5_sizeAfter_0 : decode cX5_sizeAfter 0 = .ok (.aload_n 0, 1) := by decide +kernel
theorem dX5_sizeAfter_1 : decode cX5_sizeAfter 1 = .ok (.invokevirtual 60, 3) := by decide +kernel
theorem dX5_sizeAfter_4 : decode cX5_sizeAfter 4 = .ok (.aload_n 0, 1) := by decide +kernel
theorem dX5_sizeAfter_5 : decode cX5_sizeAfter 5 = .ok (.iload_n 1, 1) := by decide +kernel
theorem dX5_sizeAfter_6 : decode cX5_sizeAfter 6 = .ok (.invokevirtual 114, 3) := by decide +kernel
theorem dX5_sizeAfter_9 : decode cX5_sizeAfter 9 = .ok (.aload_n 0, 1) := by decide +kernel
theorem dX5_sizeAfter_10 : decode cX5_sizeAfter 10 = .ok (.getfield 22, 3) := by decide +kernel
theorem dX5_sizeAfter_13 : decode cX5_sizeAfter 13 = .ok (.getfield 72, 3) := by decide +kernel
theorem dX5_sizeAfter_16 : decode cX5_sizeAfter 16 = .ok (.getfield 110, 3) := by decide +kernel
theorem dX5_sizeAfter_19 : decode cX5_sizeAfter 19 = .ok (.iload_n 1, 1) := by decide +kernel
theorem dX5_sizeAfter_20 : decode cX5_sizeAfter 20 = .ok (.iaload, 1) := by decide +kernel
theorem dX5_sizeAfter_21 : decode cX5_sizeAfter 21 = .ok (.istore 5, 2) := by decide +kernel
theorem dX5_sizeAfter_23 : decode cX5_sizeAfter 23 = .ok (.iload_n 2, 1) := by decide +kernel
theorem dX5_sizeAfter_24 : decode cX5_sizeAfter 24 = .ok (.ifCond .lt 9, 3) := by decide +kernel
theorem dX5_sizeAfter_27 : decode cX5_sizeAfter 27 = .ok (.iload_n 2, 1) := by decide +kernel
theorem dX5_sizeAfter_28 : decode cX5_sizeAfter 28 = .ok (.iload 5, 2) := by decide +kernel
theorem dX5_sizeAfter_30 : decode cX5_sizeAfter 30 = .ok (.if_icmp .le 13, 3) := by decide +kernel
theorem dX5_sizeAfter_33 : decode cX5_sizeAfter 33 = .ok (.new 164, 3) := by decide +kernel
theorem dX5_sizeAfter_36 : decode cX5_sizeAfter 36 = .ok (.dup, 1) := by decide +kernel
theorem dX5_sizeAfter_37 : decode cX5_sizeAfter 37 = .ok (.ldc 166, 2) := by decide +kernel
theorem dX5_sizeAfter_39 : decode cX5_sizeAfter 39 = .ok (.invokespecial 168, 3) := by decide +kernel
theorem dX5_sizeAfter_42 : decode cX5_sizeAfter 42 = .ok (.athrow, 1) := by decide +kernel
theorem dX5_sizeAfter_43 : decode cX5_sizeAfter 43 = .ok (.iload_n 3, 1) := by decide +kernel
theorem dX5_sizeAfter_44 : decode cX5_sizeAfter 44 = .ok (.iconst 1, 1) := by decide +kernel
theorem dX5_sizeAfter_45 : decode cX5_sizeAfter 45 = .ok (.if_icmp .lt 18, 3) := by decide +kernel
theorem dX5_sizeAfter_48 : decode cX5_sizeAfter 48 = .ok (.iload_n 3, 1) := by decide +kernel
theorem dX5_sizeAfter_49 : decode cX5_sizeAfter 49 = .ok (.iload 4, 2) := by decide +kernel
theorem dX5_sizeAfter_51 : decode cX5_sizeAfter 51 = .ok (.if_icmp .gt 12, 3) := by decide +kernel
theorem dX5_sizeAfter_54 : decode cX5_sizeAfter 54 = .ok (.iload_n 2, 1) := by decide +kernel
theorem dX5_sizeAfter_55 : decode cX5_sizeAfter 55 = .ok (.iload_n 3, 1) := by decide +kernel
theorem dX5_sizeAfter_56 : decode cX5_sizeAfter 56 = .ok (.iadd, 1) := by decide +kernel
theorem dX5_sizeAfter_57 : decode cX5_sizeAfter 57 = .ok (.sipush 2048, 3) := by decide +kernel
theorem dX5_sizeAfter_60 : decode cX5_sizeAfter 60 = .ok (.if_icmp .le 14, 3) := by decide +kernel
theorem dX5_sizeAfter_63 : decode cX5_sizeAfter 63 = .ok (.new 155, 3) := by decide +kernel
theorem dX5_sizeAfter_66 : decode cX5_sizeAfter 66 = .ok (.dup, 1) := by decide +kernel
theorem dX5_sizeAfter_67 : decode cX5_sizeAfter 67 = .ok (.ldc_w 332, 3) := by decide +kernel
theorem dX5_sizeAfter_70 : decode cX5_sizeAfter 70 = .ok (.invokespecial 159, 3) := by decide +kernel
theorem dX5_sizeAfter_73 : decode cX5_sizeAfter 73 = .ok (.athrow, 1) := by decide +kernel
theorem dX5_sizeAfter_74 : decode cX5_sizeAfter 74 = .ok (.iload 5, 2) := by decide +kernel
theorem dX5_sizeAfter_76 : decode cX5_sizeAfter 76 = .ok (.iload_n 2, 1) := by decide +kernel
theorem dX5_sizeAfter_77 : decode cX5_sizeAfter 77 = .ok (.iload_n 3, 1) := by decide +kernel
theorem dX5_sizeAfter_78 : decode cX5_sizeAfter 78 = .ok (.iadd, 1) := by decide +kernel
theorem dX5_sizeAfter_79 : decode cX5_sizeAfter 79 = .ok (.invokestatic 334, 3) := by decide +kernel
theorem dX5_sizeAfter_82 : decode cX5_sizeAfter 82 = .ok (.ireturn, 1) := by decide +kernel
theorem dX5_changeFile_0 : decode cX5_changeFile 0 = .ok (.aload_n 0, 1) := by decide +kernel
theorem dX5_changeFile_1 : decode cX5_changeFile 1 = .ok (.getfield 22, 3) := by decide +kernel
theorem dX5_changeFile_4 : decode cX5_changeFile 4 = .ok (.getfield 72, 3) := by decide +kernel
theorem dX5_changeFile_7 : decode cX5_changeFile 7 = .ok (.astore_n 3, 1) := by decide +kernel
theorem dX5_changeFile_8 : decode cX5_changeFile 8 = .ok (.aload_n 3, 1) := by decide +kernel
theorem dX5_changeFile_9 : decode cX5_changeFile 9 = .ok (.iload_n 1, 1) := by decide +kernel
theorem dX5_changeFile_10 : decode cX5_changeFile 10 = .ok (.invokevirtual 194, 3) := by decide +kernel
theorem dX5_changeFile_13 : decode cX5_changeFile 13 = .ok (.istore 4, 2) := by decide +kernel
theorem dX5_changeFile_15 : decode cX5_changeFile 15 = .ok (.aload_n 3, 1) := by decide +kernel
theorem dX5_changeFile_16 : decode cX5_changeFile 16 = .ok (.iload_n 1, 1) := by decide +kernel
theorem dX5_changeFile_17 : decode cX5_changeFile 17 = .ok (.invokevirtual 197, 3) := by decide +kernel
theorem dX5_changeFile_20 : decode cX5_changeFile 20 = .ok (.istore 5, 2) := by decide +kernel
theorem dX5_changeFile_22 : decode cX5_changeFile 22 = .ok (.aload_n 0, 1) := by decide +kernel
theorem dX5_changeFile_23 : decode cX5_changeFile 23 = .ok (.invokevirtual 89, 3) := by decide +kernel
theorem dX5_changeFile_26 : decode cX5_changeFile 26 = .ok (.aload_n 0, 1) := by decide +kernel
theorem dX5_changeFile_27 : decode cX5_changeFile 27 = .ok (.aload_n 0, 1) := by decide +kernel
theorem dX5_changeFile_28 : decode cX5_changeFile 28 = .ok (.iload_n 1, 1) := by decide +kernel
theorem dX5_changeFile_29 : decode cX5_changeFile 29 = .ok (.iload 4, 2) := by decide +kernel
theorem dX5_changeFile_31 : decode cX5_changeFile 31 = .ok (.iload_n 2, 1) := by decide +kernel
theorem dX5_changeFile_32 : decode cX5_changeFile 32 = .ok (.invokestatic 160, 3) := by decide +kernel
theorem dX5_changeFile_35 : decode cX5_changeFile 35 = .ok (.invokevirtual 339, 3) := by decide +kernel
theorem dX5_changeFile_38 : decode cX5_changeFile 38 = .ok (.ifCond .eq 61, 3) := by decide +kernel
theorem dX5_changeFile_41 : decode cX5_changeFile 41 = .ok (.aload_n 0, 1) := by decide +kernel
theorem dX5_changeFile_42 : decode cX5_changeFile 42 = .ok (.getfield 22, 3) := by decide +kernel
theorem dX5_changeFile_45 : decode cX5_changeFile 45 = .ok (.getfield 92, 3) := by decide +kernel
theorem dX5_changeFile_48 : decode cX5_changeFile 48 = .ok (.iload_n 1, 1) := by decide +kernel
theorem dX5_changeFile_49 : decode cX5_changeFile 49 = .ok (.iconst 2, 1) := by decide +kernel
theorem dX5_changeFile_50 : decode cX5_changeFile 50 = .ok (.iconst 0, 1) := by decide +kernel
theorem dX5_changeFile_51 : decode cX5_changeFile 51 = .ok (.invokestatic 95, 3) := by decide +kernel
theorem dX5_changeFile_54 : decode cX5_changeFile 54 = .ok (.iconst 2, 1) := by decide +kernel
theorem dX5_changeFile_55 : decode cX5_changeFile 55 = .ok (.iload 4, 2) := by decide +kernel
theorem dX5_changeFile_57 : decode cX5_changeFile 57 = .ok (.imul, 1) := by decide +kernel
theorem dX5_changeFile_58 : decode cX5_changeFile 58 = .ok (.iconst 2, 1) := by decide +kernel
theorem dX5_changeFile_59 : decode cX5_changeFile 59 = .ok (.iload_n 2, 1) := by decide +kernel
theorem dX5_changeFile_60 : decode cX5_changeFile 60 = .ok (.invokestatic 160, 3) := by decide +kernel
theorem dX5_changeFile_63 : decode cX5_changeFile 63 = .ok (.imul, 1) := by decide +kernel
theorem dX5_changeFile_64 : decode cX5_changeFile 64 = .ok (.invokevirtual 342, 3) := by decide +kernel
theorem dX5_changeFile_67 : decode cX5_changeFile 67 = .ok (.ifCond .eq 32, 3) := by decide +kernel
theorem dX5_changeFile_70 : decode cX5_changeFile 70 = .ok (.aload_n 0, 1) := by decide +kernel
theorem dX5_changeFile_71 : decode cX5_changeFile 71 = .ok (.getfield 22, 3) := by decide +kernel
theorem dX5_changeFile_74 : decode cX5_changeFile 74 = .ok (.getfield 92, 3) := by decide +kernel
theorem dX5_changeFile_77 : decode cX5_changeFile 77 = .ok (.iload_n 1, 1) := by decide +kernel
theorem dX5_changeFile_78 : decode cX5_changeFile 78 = .ok (.iconst 3, 1) := by decide +kernel
theorem dX5_changeFile_79 : decode cX5_changeFile 79 = .ok (.iconst 0, 1) := by decide +kernel
theorem dX5_changeFile_80 : decode cX5_changeFile 80 = .ok (.invokestatic 95, 3) := by decide +kernel
theorem dX5_changeFile_83 : decode cX5_changeFile 83 = .ok (.iload 5, 2) := by decide +kernel
theorem dX5_changeFile_85 : decode cX5_changeFile 85 = .ok (.iload_n 2, 1) := by decide +kernel
theorem dX5_changeFile_86 : decode cX5_changeFile 86 = .ok (.invokestatic 345, 3) := by decide +kernel
theorem dX5_changeFile_89 : decode cX5_changeFile 89 = .ok (.invokevirtual 342, 3) := by decide +kernel
theorem dX5_changeFile_92 : decode cX5_changeFile 92 = .ok (.ifCond .eq 7, 3) := by decide +kernel
theorem dX5_changeFile_95 : decode cX5_changeFile 95 = .ok (.iconst 1, 1) := by decide +kernel
theorem dX5_changeFile_96 : decode cX5_changeFile 96 = .ok (.goto 4, 3) := by decide +kernel
theorem dX5_changeFile_99 : decode cX5_changeFile 99 = .ok (.iconst 0, 1) := by decide +kernel
theorem dX5_changeFile_100 : decode cX5_changeFile 100 = .ok (.invokevirtual 102, 3) := by decide +kernel
theorem dX5_changeFile_103 : decode cX5_changeFile 103 = .ok (.aload_n 3, 1) := by decide +kernel
theorem dX5_changeFile_104 : decode cX5_changeFile 104 = .ok (.getfield 110, 3) := by decide +kernel
theorem dX5_changeFile_107 : decode cX5_changeFile 107 = .ok (.iload_n 1, 1) := by decide +kernel
theorem dX5_changeFile_108 : decode cX5_changeFile 108 = .ok (.iload_n 2, 1) := by decide +kernel
theorem dX5_changeFile_109 : decode cX5_changeFile 109 = .ok (.iastore, 1) := by decide +kernel
theorem dX5_changeFile_110 : decode cX5_changeFile 110 = .ok (.aload_n 0, 1) := by decide +kernel
theorem dX5_changeFile_111 : decode cX5_changeFile 111 = .ok (.getfield 22, 3) := by decide +kernel
theorem dX5_changeFile_114 : decode cX5_changeFile 114 = .ok (.iload_n 1, 1) := by decide +kernel
theorem dX5_changeFile_115 : decode cX5_changeFile 115 = .ok (.aload_n 0, 1) := by decide +kernel
theorem dX5_changeFile_116 : decode cX5_changeFile 116 = .ok (.getfield 56, 3) := by decide +kernel
theorem dX5_changeFile_119 : decode cX5_changeFile 119 = .ok (.invokevirtual 348, 3) := by decide +kernel
theorem dX5_changeFile_122 : decode cX5_changeFile 122 = .ok (.return_, 1) := by decide +kernel
theorem dX5_changeData_0 : decode cX5_changeData 0 = .ok (.aload_n 0, 1) := by decide +kernel
theorem dX5_changeData_1 : decode cX5_changeData 1 = .ok (.getfield 22, 3) := by decide +kernel
theorem dX5_changeData_4 : decode cX5_changeData 4 = .ok (.getfield 72, 3) := by decide +kernel
theorem dX5_changeData_7 : decode cX5_changeData 7 = .ok (.getfield 202, 3) := by decide +kernel
theorem dX5_changeData_10 : decode cX5_changeData 10 = .ok (.astore 4, 2) := by decide +kernel
theorem dX5_changeData_12 : decode cX5_changeData 12 = .ok (.iload_n 2, 1) := by decide +kernel
theorem dX5_changeData_13 : decode cX5_changeData 13 = .ok (.istore 5, 2) := by decide +kernel
theorem dX5_changeData_15 : decode cX5_changeData 15 = .ok (.iload 5, 2) := by decide +kernel
theorem dX5_changeData_17 : decode cX5_changeData 17 = .ok (.iload_n 3, 1) := by decide +kernel
theorem dX5_changeData_18 : decode cX5_changeData 18 = .ok (.if_icmp .ge 42, 3) := by decide +kernel
theorem dX5_changeData_21 : decode cX5_changeData 21 = .ok (.aload_n 0, 1) := by decide +kernel
theorem dX5_changeData_22 : decode cX5_changeData 22 = .ok (.getfield 22, 3) := by decide +kernel
theorem dX5_changeData_25 : decode cX5_changeData 25 = .ok (.getfield 92, 3) := by decide +kernel
theorem dX5_changeData_28 : decode cX5_changeData 28 = .ok (.iconst 4, 1) := by decide +kernel
theorem dX5_changeData_29 : decode cX5_changeData 29 = .ok (.invokevirtual 351, 3) := by decide +kernel
theorem dX5_changeData_32 : decode cX5_changeData 32 = .ok (.istore 6, 2) := by decide +kernel
theorem dX5_changeData_34 : decode cX5_changeData 34 = .ok (.iload 6, 2) := by decide +kernel
theorem dX5_changeData_36 : decode cX5_changeData 36 = .ok (.iconst (-1), 1) := by decide +kernel
theorem dX5_changeData_37 : decode cX5_changeData 37 = .ok (.if_icmp .ne 5, 3) := by decide +kernel
theorem dX5_changeData_40 : decode cX5_changeData 40 = .ok (.iconst 0, 1) := by decide +kernel
theorem dX5_changeData_41 : decode cX5_changeData 41 = .ok (.ireturn, 1) := by decide +kernel
theorem dX5_changeData_42 : decode cX5_changeData 42 = .ok (.aload 4, 2) := by decide +kernel
theorem dX5_changeData_44 : decode cX5_changeData 44 = .ok (.iload_n 1, 1) := by decide +kernel
theorem dX5_changeData_45 : decode cX5_changeData 45 = .ok (.bipush 16, 2) := by decide +kernel
theorem dX5_changeData_47 : decode cX5_changeData 47 = .ok (.imul, 1) := by decide +kernel
theorem dX5_changeData_48 : decode cX5_changeData 48 = .ok (.iload 5, 2) := by decide +kernel
theorem dX5_changeData_50 : decode cX5_changeData 50 = .ok (.iadd, 1) := by decide +kernel
theorem dX5_changeData_51 : decode cX5_changeData 51 = .ok (.iload 6, 2) := by decide +kernel
theorem dX5_changeData_53 : decode cX5_changeData 53 = .ok (.iastore, 1) := by decide +kernel
theorem dX5_changeData_54 : decode cX5_changeData 54 = .ok (.iinc 5 1, 3) := by decide +kernel
theorem dX5_changeData_57 : decode cX5_changeData 57 = .ok (.goto (-42), 3) := by decide +kernel
theorem dX5_changeData_60 : decode cX5_changeData 60 = .ok (.iload_n 2, 1) := by decide +kernel
theorem dX5_changeData_61 : decode cX5_changeData 61 = .ok (.iconst 1, 1) := by decide +kernel
theorem dX5_changeData_62 : decode cX5_changeData 62 = .ok (.isub, 1) := by decide +kernel
theorem dX5_changeData_63 : decode cX5_changeData 63 = .ok (.istore 5, 2) := by decide +kernel
theorem dX5_changeData_65 : decode cX5_changeData 65 = .ok (.iload 5, 2) := by decide +kernel
theorem dX5_changeData_67 : decode cX5_changeData 67 = .ok (.iload_n 3, 1) := by decide +kernel
theorem dX5_changeData_68 : decode cX5_changeData 68 = .ok (.if_icmp .lt 31, 3) := by decide +kernel
theorem dX5_changeData_71 : decode cX5_changeData 71 = .ok (.aload_n 0, 1) := by decide +kernel
theorem dX5_changeData_72 : decode cX5_changeData 72 = .ok (.getfield 22, 3) := by decide +kernel
theorem dX5_changeData_75 : decode cX5_changeData 75 = .ok (.getfield 92, 3) := by decide +kernel
theorem dX5_changeData_78 : decode cX5_changeData 78 = .ok (.getfield 354, 3) := by decide +kernel
theorem dX5_changeData_81 : decode cX5_changeData 81 = .ok (.aload 4, 2) := by decide +kernel
theorem dX5_changeData_83 : decode cX5_changeData 83 = .ok (.iload_n 1, 1) := by decide +kernel
theorem dX5_changeData_84 : decode cX5_changeData 84 = .ok (.bipush 16, 2) := by decide +kernel
theorem dX5_changeData_86 : decode cX5_changeData 86 = .ok (.imul, 1) := by decide +kernel
theorem dX5_changeData_87 : decode cX5_changeData 87 = .ok (.iload 5, 2) := by decide +kernel
theorem dX5_changeData_89 : decode cX5_changeData 89 = .ok (.iadd, 1) := by decide +kernel
theorem dX5_changeData_90 : decode cX5_changeData 90 = .ok (.iaload, 1) := by decide +kernel
theorem dX5_changeData_91 : decode cX5_changeData 91 = .ok (.iconst 0, 1) := by decide +kernel
theorem dX5_changeData_92 : decode cX5_changeData 92 = .ok (.iastore, 1) := by decide +kernel
theorem dX5_changeData_93 : decode cX5_changeData 93 = .ok (.iinc 5 (-1), 3) := by decide +kernel
theorem dX5_changeData_96 : decode cX5_changeData 96 = .ok (.goto (-31), 3) := by decide +kernel
theorem dX5_changeData_99 : decode cX5_changeData 99 = .ok (.iconst 1, 1) := by decide +kernel
theorem dX5_changeData_100 : decode cX5_changeData 100 = .ok (.ireturn, 1) := by decide +kernel
theorem dX5_forget_0 : decode cX5_forget 0 = .ok (.aload_n 0, 1) := by decide +kernel
theorem dX5_forget_1 : decode cX5_forget 1 = .ok (.getfield 22, 3) := by decide +kernel
theorem dX5_forget_4 : decode cX5_forget 4 = .ok (.getfield 72, 3) := by decide +kernel
theorem dX5_forget_7 : decode cX5_forget 7 = .ok (.iload_n 1, 1) := by decide +kernel
theorem dX5_forget_8 : decode cX5_forget 8 = .ok (.invokevirtual 194, 3) := by decide +kernel
theorem dX5_forget_11 : decode cX5_forget 11 = .ok (.istore_n 2, 1) := by decide +kernel
theorem dX5_forget_12 : decode cX5_forget 12 = .ok (.aload_n 0, 1) := by decide +kernel
theorem dX5_forget_13 : decode cX5_forget 13 = .ok (.iload_n 1, 1) := by decide +kernel
theorem dX5_forget_14 : decode cX5_forget 14 = .ok (.iload_n 2, 1) := by decide +kernel
theorem dX5_forget_15 : decode cX5_forget 15 = .ok (.iconst 0, 1) := by decide +kernel
theorem dX5_forget_16 : decode cX5_forget 16 = .ok (.invokevirtual 339, 3) := by decide +kernel
theorem dX5_forget_19 : decode cX5_forget 19 = .ok (.pop, 1) := by decide +kernel
theorem dX5_forget_20 : decode cX5_forget 20 = .ok (.aload_n 0, 1) := by decide +kernel
theorem dX5_forget_21 : decode cX5_forget 21 = .ok (.getfield 22, 3) := by decide +kernel
theorem dX5_forget_24 : decode cX5_forget 24 = .ok (.getfield 92, 3) := by decide +kernel
theorem dX5_forget_27 : decode cX5_forget 27 = .ok (.iload_n 1, 1) := by decide +kernel
theorem dX5_forget_28 : decode cX5_forget 28 = .ok (.iconst 3, 1) := by decide +kernel
theorem dX5_forget_29 : decode cX5_forget 29 = .ok (.iconst 0, 1) := by decide +kernel
theorem dX5_forget_30 : decode cX5_forget 30 = .ok (.invokestatic 95, 3) := by decide +kernel
theorem dX5_forget_33 : decode cX5_forget 33 = .ok (.aload_n 0, 1) := by decide +kernel
theorem dX5_forget_34 : decode cX5_forget 34 = .ok (.getfield 22, 3) := by decide +kernel
theorem dX5_forget_37 : decode cX5_forget 37 = .ok (.getfield 72, 3) := by decide +kernel
theorem dX5_forget_40 : decode cX5_forget 40 = .ok (.iload_n 1, 1) := by decide +kernel
theorem dX5_forget_41 : decode cX5_forget 41 = .ok (.invokevirtual 197, 3) := by decide +kernel
theorem dX5_forget_44 : decode cX5_forget 44 = .ok (.iconst 0, 1) := by decide +kernel
theorem dX5_forget_45 : decode cX5_forget 45 = .ok (.invokevirtual 342, 3) := by decide +kernel
theorem dX5_forget_48 : decode cX5_forget 48 = .ok (.pop, 1) := by decide +kernel
theorem dX5_forget_49 : decode cX5_forget 49 = .ok (.aload_n 0, 1) := by decide +kernel
theorem dX5_forget_50 : decode cX5_forget 50 = .ok (.getfield 22, 3) := by decide +kernel
theorem dX5_forget_53 : decode cX5_forget 53 = .ok (.getfield 92, 3) := by decide +kernel
theorem dX5_forget_56 : decode cX5_forget 56 = .ok (.iload_n 1, 1) := by decide +kernel
theorem dX5_forget_57 : decode cX5_forget 57 = .ok (.iconst 2, 1) := by decide +kernel
theorem dX5_forget_58 : decode cX5_forget 58 = .ok (.iconst 0, 1) := by decide +kernel
theorem dX5_forget_59 : decode cX5_forget 59 = .ok (.invokestatic 95, 3) := by decide +kernel
theorem dX5_forget_62 : decode cX5_forget 62 = .ok (.iconst 2, 1) := by decide +kernel
theorem dX5_forget_63 : decode cX5_forget 63 = .ok (.iload_n 2, 1) := by decide +kernel
theorem dX5_forget_64 : decode cX5_forget 64 = .ok (.imul, 1) := by decide +kernel
theorem dX5_forget_65 : decode cX5_forget 65 = .ok (.iconst 0, 1) := by decide +kernel
theorem dX5_forget_66 : decode cX5_forget 66 = .ok (.invokevirtual 342, 3) := by decide +kernel
theorem dX5_forget_69 : decode cX5_forget 69 = .ok (.pop, 1) := by decide +kernel
theorem dX5_forget_70 : decode cX5_forget 70 = .ok (.aload_n 0, 1) := by decide +kernel
theorem dX5_forget_71 : decode cX5_forget 71 = .ok (.getfield 22, 3) := by decide +kernel
theorem dX5_forget_74 : decode cX5_forget 74 = .ok (.getfield 92, 3) := by decide +kernel
theorem dX5_forget_77 : decode cX5_forget 77 = .ok (.iload_n 1, 1) := by decide +kernel
theorem dX5_forget_78 : decode cX5_forget 78 = .ok (.iconst 0, 1) := by decide +kernel
theorem dX5_forget_79 : decode cX5_forget 79 = .ok (.iconst 0, 1) := by decide +kernel
theorem dX5_forget_80 : decode cX5_forget 80 = .ok (.invokestatic 95, 3) := by decide +kernel
theorem dX5_forget_83 : decode cX5_forget 83 = .ok (.invokevirtual 129, 3) := by decide +kernel
theorem dX5_forget_86 : decode cX5_forget 86 = .ok (.aload_n 0, 1) := by decide +kernel
theorem dX5_forget_87 : decode cX5_forget 87 = .ok (.getfield 22, 3) := by decide +kernel
theorem dX5_forget_90 : decode cX5_forget 90 = .ok (.getfield 72, 3) := by decide +kernel
theorem dX5_forget_93 : decode cX5_forget 93 = .ok (.getfield 124, 3) := by decide +kernel
theorem dX5_forget_96 : decode cX5_forget 96 = .ok (.iload_n 1, 1) := by decide +kernel
theorem dX5_forget_97 : decode cX5_forget 97 = .ok (.iconst (-1), 1) := by decide +kernel
theorem dX5_forget_98 : decode cX5_forget 98 = .ok (.iastore, 1) := by decide +kernel
theorem dX5_forget_99 : decode cX5_forget 99 = .ok (.return_, 1) := by decide +kernel
theorem dX5_markChanged_0 : decode cX5_markChanged 0 = .ok (.iconst 0, 1) := by decide +kernel
theorem dX5_markChanged_1 : decode cX5_markChanged 1 = .ok (.istore_n 1, 1) := by decide +kernel
theorem dX5_markChanged_2 : decode cX5_markChanged 2 = .ok (.iconst 0, 1) := by decide +kernel
theorem dX5_markChanged_3 : decode cX5_markChanged 3 = .ok (.istore_n 2, 1) := by decide +kernel
theorem dX5_markChanged_4 : decode cX5_markChanged 4 = .ok (.iload_n 2, 1) := by decide +kernel
theorem dX5_markChanged_5 : decode cX5_markChanged 5 = .ok (.aload_n 0, 1) := by decide +kernel
theorem dX5_markChanged_6 : decode cX5_markChanged 6 = .ok (.getfield 13, 3) := by decide +kernel
theorem dX5_markChanged_9 : decode cX5_markChanged 9 = .ok (.if_icmp .ge 62, 3) := by decide +kernel
theorem dX5_markChanged_12 : decode cX5_markChanged 12 = .ok (.aload_n 0, 1) := by decide +kernel
theorem dX5_markChanged_13 : decode cX5_markChanged 13 = .ok (.getfield 52, 3) := by decide +kernel
theorem dX5_markChanged_16 : decode cX5_markChanged 16 = .ok (.iload_n 2, 1) := by decide +kernel
theorem dX5_markChanged_17 : decode cX5_markChanged 17 = .ok (.aload_n 0, 1) := by decide +kernel
theorem dX5_markChanged_18 : decode cX5_markChanged 18 = .ok (.getfield 22, 3) := by decide +kernel
theorem dX5_markChanged_21 : decode cX5_markChanged 21 = .ok (.getfield 92, 3) := by decide +kernel
theorem dX5_markChanged_24 : decode cX5_markChanged 24 = .ok (.getfield 354, 3) := by decide +kernel
theorem dX5_markChanged_27 : decode cX5_markChanged 27 = .ok (.iload_n 2, 1) := by decide +kernel
theorem dX5_markChanged_28 : decode cX5_markChanged 28 = .ok (.iaload, 1) := by decide +kernel
theorem dX5_markChanged_29 : decode cX5_markChanged 29 = .ok (.ifCond .eq 22, 3) := by decide +kernel
theorem dX5_markChanged_32 : decode cX5_markChanged 32 = .ok (.aload_n 0, 1) := by decide +kernel
theorem dX5_markChanged_33 : decode cX5_markChanged 33 = .ok (.getfield 22, 3) := by decide +kernel
theorem dX5_markChanged_36 : decode cX5_markChanged 36 = .ok (.iload_n 2, 1) := by decide +kernel
theorem dX5_markChanged_37 : decode cX5_markChanged 37 = .ok (.aload_n 0, 1) := by decide +kernel
theorem dX5_markChanged_38 : decode cX5_markChanged 38 = .ok (.getfield 26, 3) := by decide +kernel
theorem dX5_markChanged_41 : decode cX5_markChanged 41 = .ok (.invokevirtual 357, 3) := by decide +kernel
theorem dX5_markChanged_44 : decode cX5_markChanged 44 = .ok (.ifCond .ne 7, 3) := by decide +kernel
theorem dX5_markChanged_47 : decode cX5_markChanged 47 = .ok (.iconst 1, 1) := by decide +kernel
theorem dX5_markChanged_48 : decode cX5_markChanged 48 = .ok (.goto 4, 3) := by decide +kernel
theorem dX5_markChanged_51 : decode cX5_markChanged 51 = .ok (.iconst 0, 1) := by decide +kernel
theorem dX5_markChanged_52 : decode cX5_markChanged 52 = .ok (.bastore, 1) := by decide +kernel
theorem dX5_markChanged_53 : decode cX5_markChanged 53 = .ok (.aload_n 0, 1) := by decide +kernel
theorem dX5_markChanged_54 : decode cX5_markChanged 54 = .ok (.getfield 52, 3) := by decide +kernel
theorem dX5_markChanged_57 : decode cX5_markChanged 57 = .ok (.iload_n 2, 1) := by decide +kernel
theorem dX5_markChanged_58 : decode cX5_markChanged 58 = .ok (.baload, 1) := by decide +kernel
theorem dX5_markChanged_59 : decode cX5_markChanged 59 = .ok (.ifCond .eq 6, 3) := by decide +kernel
theorem dX5_markChanged_62 : decode cX5_markChanged 62 = .ok (.iinc 1 1, 3) := by decide +kernel
theorem dX5_markChanged_65 : decode cX5_markChanged 65 = .ok (.iinc 2 1, 3) := by decide +kernel
theorem dX5_markChanged_68 : decode cX5_markChanged 68 = .ok (.goto (-64), 3) := by decide +kernel
theorem dX5_markChanged_71 : decode cX5_markChanged 71 = .ok (.iload_n 1, 1) := by decide +kernel
theorem dX5_markChanged_72 : decode cX5_markChanged 72 = .ok (.ireturn, 1) := by decide +kernel
theorem dX5_emptyJournal_0 : decode cX5_emptyJournal 0 = .ok (.aload_n 0, 1) := by decide +kernel
theorem dX5_emptyJournal_1 : decode cX5_emptyJournal 1 = .ok (.getfield 48, 3) := by decide +kernel
theorem dX5_emptyJournal_4 : decode cX5_emptyJournal 4 = .ok (.getfield 248, 3) := by decide +kernel
theorem dX5_emptyJournal_7 : decode cX5_emptyJournal 7 = .ok (.istore_n 1, 1) := by decide +kernel
theorem dX5_emptyJournal_8 : decode cX5_emptyJournal 8 = .ok (.aload_n 0, 1) := by decide +kernel
theorem dX5_emptyJournal_9 : decode cX5_emptyJournal 9 = .ok (.getfield 41, 3) := by decide +kernel
theorem dX5_emptyJournal_12 : decode cX5_emptyJournal 12 = .ok (.aload_n 0, 1) := by decide +kernel
theorem dX5_emptyJournal_13 : decode cX5_emptyJournal 13 = .ok (.getfield 48, 3) := by decide +kernel
theorem dX5_emptyJournal_16 : decode cX5_emptyJournal 16 = .ok (.invokevirtual 254, 3) := by decide +kernel
theorem dX5_emptyJournal_19 : decode cX5_emptyJournal 19 = .ok (.pop, 1) := by decide +kernel
theorem dX5_emptyJournal_20 : decode cX5_emptyJournal 20 = .ok (.aload_n 0, 1) := by decide +kernel
theorem dX5_emptyJournal_21 : decode cX5_emptyJournal 21 = .ok (.getfield 48, 3) := by decide +kernel
theorem dX5_emptyJournal_24 : decode cX5_emptyJournal 24 = .ok (.getfield 248, 3) := by decide +kernel
theorem dX5_emptyJournal_27 : decode cX5_emptyJournal 27 = .ok (.iload_n 1, 1) := by decide +kernel
theorem dX5_emptyJournal_28 : decode cX5_emptyJournal 28 = .ok (.isub, 1) := by decide +kernel
theorem dX5_emptyJournal_29 : decode cX5_emptyJournal 29 = .ok (.ireturn, 1) := by decide +kernel
theorem dX5_nearest_0 : decode cX5_nearest 0 = .ok (.iload_n 1, 1) := by decide +kernel
theorem dX5_nearest_1 : decode cX5_nearest 1 = .ok (.iload_n 0, 1) := by decide +kernel
theorem dX5_nearest_2 : decode cX5_nearest 2 = .ok (.iload_n 2, 1) := by decide +kernel
theorem dX5_nearest_3 : decode cX5_nearest 3 = .ok (.invokestatic 361, 3) := by decide +kernel
theorem dX5_nearest_6 : decode cX5_nearest 6 = .ok (.invokestatic 334, 3) := by decide +kernel
theorem dX5_nearest_9 : decode cX5_nearest 9 = .ok (.ireturn, 1) := by decide +kernel
theorem dX5_dataBlocks_0 : decode cX5_dataBlocks 0 = .ok (.iload_n 0, 1) := by decide +kernel
theorem dX5_dataBlocks_1 : decode cX5_dataBlocks 1 = .ok (.sipush 128, 3) := by decide +kernel
theorem dX5_dataBlocks_4 : decode cX5_dataBlocks 4 = .ok (.irem, 1) := by decide +kernel
theorem dX5_dataBlocks_5 : decode cX5_dataBlocks 5 = .ok (.istore_n 1, 1) := by decide +kernel
theorem dX5_dataBlocks_6 : decode cX5_dataBlocks 6 = .ok (.iload_n 0, 1) := by decide +kernel
theorem dX5_dataBlocks_7 : decode cX5_dataBlocks 7 = .ok (.sipush 128, 3) := by decide +kernel
theorem dX5_dataBlocks_10 : decode cX5_dataBlocks 10 = .ok (.idiv, 1) := by decide +kernel
theorem dX5_dataBlocks_11 : decode cX5_dataBlocks 11 = .ok (.iload_n 1, 1) := by decide +kernel
theorem dX5_dataBlocks_12 : decode cX5_dataBlocks 12 = .ok (.ifCond .le 14, 3) := by decide +kernel
theorem dX5_dataBlocks_15 : decode cX5_dataBlocks 15 = .ok (.iload_n 0, 1) := by decide +kernel
theorem dX5_dataBlocks_16 : decode cX5_dataBlocks 16 = .ok (.invokestatic 345, 3) := by decide +kernel
theorem dX5_dataBlocks_19 : decode cX5_dataBlocks 19 = .ok (.ifCond .ne 7, 3) := by decide +kernel
theorem dX5_dataBlocks_22 : decode cX5_dataBlocks 22 = .ok (.iconst 1, 1) := by decide +kernel
theorem dX5_dataBlocks_23 : decode cX5_dataBlocks 23 = .ok (.goto 4, 3) := by decide +kernel
theorem dX5_dataBlocks_26 : decode cX5_dataBlocks 26 = .ok (.iconst 0, 1) := by decide +kernel
theorem dX5_dataBlocks_27 : decode cX5_dataBlocks 27 = .ok (.iadd, 1) := by decide +kernel
theorem dX5_dataBlocks_28 : decode cX5_dataBlocks 28 = .ok (.ireturn, 1) := by decide +kernel
theorem dX5_tailBytes_0 : decode cX5_tailBytes 0 = .ok (.iload_n 0, 1) := by decide +kernel
theorem dX5_tailBytes_1 : decode cX5_tailBytes 1 = .ok (.sipush 128, 3) := by decide +kernel
theorem dX5_tailBytes_4 : decode cX5_tailBytes 4 = .ok (.irem, 1) := by decide +kernel
theorem dX5_tailBytes_5 : decode cX5_tailBytes 5 = .ok (.istore_n 1, 1) := by decide +kernel
theorem dX5_tailBytes_6 : decode cX5_tailBytes 6 = .ok (.iload_n 1, 1) := by decide +kernel
theorem dX5_tailBytes_7 : decode cX5_tailBytes 7 = .ok (.bipush 40, 2) := by decide +kernel
theorem dX5_tailBytes_9 : decode cX5_tailBytes 9 = .ok (.if_icmp .gt 14, 3) := by decide +kernel
theorem dX5_tailBytes_12 : decode cX5_tailBytes 12 = .ok (.iload_n 0, 1) := by decide +kernel
theorem dX5_tailBytes_13 : decode cX5_tailBytes 13 = .ok (.sipush 512, 3) := by decide +kernel
theorem dX5_tailBytes_16 : decode cX5_tailBytes 16 = .ok (.if_icmp .gt 7, 3) := by decide +kernel
theorem dX5_tailBytes_19 : decode cX5_tailBytes 19 = .ok (.iload_n 1, 1) := by decide +kernel
theorem dX5_tailBytes_20 : decode cX5_tailBytes 20 = .ok (.goto 4, 3) := by decide +kernel
theorem dX5_tailBytes_23 : decode cX5_tailBytes 23 = .ok (.iconst 0, 1) := by decide +kernel
theorem dX5_tailBytes_24 : decode cX5_tailBytes 24 = .ok (.ireturn, 1) := by decide +kernel
theorem dX5_keyOf_0 : decode cX5_keyOf 0 = .ok (.iload_n 0, 1) := by decide +kernel
theorem dX5_keyOf_1 : decode cX5_keyOf 1 = .ok (.iconst 4, 1) := by decide +kernel
theorem dX5_keyOf_2 : decode cX5_keyOf 2 = .ok (.imul, 1) := by decide +kernel
theorem dX5_keyOf_3 : decode cX5_keyOf 3 = .ok (.iload_n 1, 1) := by decide +kernel
theorem dX5_keyOf_4 : decode cX5_keyOf 4 = .ok (.iadd, 1) := by decide +kernel
theorem dX5_keyOf_5 : decode cX5_keyOf 5 = .ok (.sipush 1000, 3) := by decide +kernel
theorem dX5_keyOf_8 : decode cX5_keyOf 8 = .ok (.imul, 1) := by decide +kernel
theorem dX5_keyOf_9 : decode cX5_keyOf 9 = .ok (.iload_n 2, 1) := by decide +kernel
theorem dX5_keyOf_10 : decode cX5_keyOf 10 = .ok (.iadd, 1) := by decide +kernel
theorem dX5_keyOf_11 : decode cX5_keyOf 11 = .ok (.ireturn, 1) := by decide +kernel
theorem dX5_objectOf_0 : decode cX5_objectOf 0 = .ok (.iload_n 0, 1) := by decide +kernel
theorem dX5_objectOf_1 : decode cX5_objectOf 1 = .ok (.sipush 1000, 3) := by decide +kernel
theorem dX5_objectOf_4 : decode cX5_objectOf 4 = .ok (.idiv, 1) := by decide +kernel
theorem dX5_objectOf_5 : decode cX5_objectOf 5 = .ok (.iconst 4, 1) := by decide +kernel
theorem dX5_objectOf_6 : decode cX5_objectOf 6 = .ok (.idiv, 1) := by decide +kernel
theorem dX5_objectOf_7 : decode cX5_objectOf 7 = .ok (.ireturn, 1) := by decide +kernel
theorem dX5_kindOf_0 : decode cX5_kindOf 0 = .ok (.iload_n 0, 1) := by decide +kernel
theorem dX5_kindOf_1 : decode cX5_kindOf 1 = .ok (.sipush 1000, 3) := by decide +kernel
theorem dX5_kindOf_4 : decode cX5_kindOf 4 = .ok (.idiv, 1) := by decide +kernel
theorem dX5_kindOf_5 : decode cX5_kindOf 5 = .ok (.iconst 4, 1) := by decide +kernel
theorem dX5_kindOf_6 : decode cX5_kindOf 6 = .ok (.irem, 1) := by decide +kernel
theorem dX5_kindOf_7 : decode cX5_kindOf 7 = .ok (.ireturn, 1) := by decide +kernel
theorem dX5_nameOf_0 : decode cX5_nameOf 0 = .ok (.iload_n 0, 1) := by decide +kernel
theorem dX5_nameOf_1 : decode cX5_nameOf 1 = .ok (.sipush 1000, 3) := by decide +kernel
theorem dX5_nameOf_4 : decode cX5_nameOf 4 = .ok (.irem, 1) := by decide +kernel
theorem dX5_nameOf_5 : decode cX5_nameOf 5 = .ok (.ireturn, 1) := by decide +kernel
theorem dX6_init_0 : decode cX6_init 0 = .ok (.aload_n 0, 1) := by decide +kernel
theorem dX6_init_1 : decode cX6_init 1 = .ok (.invokespecial 1, 3) := by decide +kernel
theorem dX6_init_4 : decode cX6_init 4 = .ok (.aload_n 0, 1) := by decide +kernel
theorem dX6_init_5 : decode cX6_init 5 = .ok (.sipush 25366, 3) := by decide +kernel
theorem dX6_init_8 : decode cX6_init 8 = .ok (.newarray .int, 2) := by decide +kernel
theorem dX6_init_10 : decode cX6_init 10 = .ok (.putfield 7, 3) := by decide +kernel
theorem dX6_init_13 : decode cX6_init 13 = .ok (.aload_n 0, 1) := by decide +kernel
theorem dX6_init_14 : decode cX6_init 14 = .ok (.sipush 25366, 3) := by decide +kernel
theorem dX6_init_17 : decode cX6_init 17 = .ok (.newarray .int, 2) := by decide +kernel
theorem dX6_init_19 : decode cX6_init 19 = .ok (.putfield 13, 3) := by decide +kernel
theorem dX6_init_22 : decode cX6_init 22 = .ok (.aload_n 0, 1) := by decide +kernel
theorem dX6_init_23 : decode cX6_init 23 = .ok (.sipush 25366, 3) := by decide +kernel
theorem dX6_init_26 : decode cX6_init 26 = .ok (.newarray .int, 2) := by decide +kernel
theorem dX6_init_28 : decode cX6_init 28 = .ok (.putfield 16, 3) := by decide +kernel
theorem dX6_init_31 : decode cX6_init 31 = .ok (.aload_n 0, 1) := by decide +kernel
theorem dX6_init_32 : decode cX6_init 32 = .ok (.sipush 2560, 3) := by decide +kernel
theorem dX6_init_35 : decode cX6_init 35 = .ok (.newarray .int, 2) := by decide +kernel
theorem dX6_init_37 : decode cX6_init 37 = .ok (.putfield 19, 3) := by decide +kernel
theorem dX6_init_40 : decode cX6_init 40 = .ok (.aload_n 0, 1) := by decide +kernel
theorem dX6_init_41 : decode cX6_init 41 = .ok (.bipush 96, 2) := by decide +kernel
theorem dX6_init_43 : decode cX6_init 43 = .ok (.newarray .boolean, 2) := by decide +kernel
theorem dX6_init_45 : decode cX6_init 45 = .ok (.putfield 22, 3) := by decide +kernel
theorem dX6_init_48 : decode cX6_init 48 = .ok (.aload_n 0, 1) := by decide +kernel
theorem dX6_init_49 : decode cX6_init 49 = .ok (.iconst (-1), 1) := by decide +kernel
theorem dX6_init_50 : decode cX6_init 50 = .ok (.putfield 26, 3) := by decide +kernel
theorem dX6_init_53 : decode cX6_init 53 = .ok (.aload_n 0, 1) := by decide +kernel
theorem dX6_init_54 : decode cX6_init 54 = .ok (.iload_n 1, 1) := by decide +kernel
theorem dX6_init_55 : decode cX6_init 55 = .ok (.bipush 16, 2) := by decide +kernel
theorem dX6_init_57 : decode cX6_init 57 = .ok (.if_icmp .ge 8, 3) := by decide +kernel
theorem dX6_init_60 : decode cX6_init 60 = .ok (.bipush 16, 2) := by decide +kernel
theorem dX6_init_62 : decode cX6_init 62 = .ok (.goto 15, 3) := by decide +kernel
theorem dX6_init_65 : decode cX6_init 65 = .ok (.iload_n 1, 1) := by decide +kernel
theorem dX6_init_66 : decode cX6_init 66 = .ok (.bipush 96, 2) := by decide +kernel
theorem dX6_init_68 : decode cX6_init 68 = .ok (.if_icmp .le 8, 3) := by decide +kernel
theorem dX6_init_71 : decode cX6_init 71 = .ok (.bipush 96, 2) := by decide +kernel
theorem dX6_init_73 : decode cX6_init 73 = .ok (.goto 4, 3) := by decide +kernel
theorem dX6_init_76 : decode cX6_init 76 = .ok (.iload_n 1, 1) := by decide +kernel
theorem dX6_init_77 : decode cX6_init 77 = .ok (.putfield 30, 3) := by decide +kernel
theorem dX6_init_80 : decode cX6_init 80 = .ok (.aload_n 0, 1) := by decide +kernel
theorem dX6_init_81 : decode cX6_init 81 = .ok (.iload_n 2, 1) := by decide +kernel
theorem dX6_init_82 : decode cX6_init 82 = .ok (.bipush 6, 2) := by decide +kernel
theorem dX6_init_84 : decode cX6_init 84 = .ok (.if_icmp .ge 8, 3) := by decide +kernel
theorem dX6_init_87 : decode cX6_init 87 = .ok (.bipush 6, 2) := by decide +kernel
theorem dX6_init_89 : decode cX6_init 89 = .ok (.goto 15, 3) := by decide +kernel
theorem dX6_init_92 : decode cX6_init 92 = .ok (.iload_n 2, 1) := by decide +kernel
theorem dX6_init_93 : decode cX6_init 93 = .ok (.bipush 64, 2) := by decide +kernel
theorem dX6_init_95 : decode cX6_init 95 = .ok (.if_icmp .le 8, 3) := by decide +kernel
theorem dX6_init_98 : decode cX6_init 98 = .ok (.bipush 64, 2) := by decide +kernel
theorem dX6_init_100 : decode cX6_init 100 = .ok (.goto 4, 3) := by decide +kernel
theorem dX6_init_103 : decode cX6_init 103 = .ok (.iload_n 2, 1) := by decide +kernel
theorem dX6_init_104 : decode cX6_init 104 = .ok (.putfield 33, 3) := by decide +kernel
theorem dX6_init_107 : decode cX6_init 107 = .ok (.aload_n 0, 1) := by decide +kernel
theorem dX6_init_108 : decode cX6_init 108 = .ok (.getfield 7, 3) := by decide +kernel
theorem dX6_init_111 : decode cX6_init 111 = .ok (.iconst 0, 1) := by decide +kernel
theorem dX6_init_112 : decode cX6_init 112 = .ok (.iconst 1, 1) := by decide +kernel
theorem dX6_init_113 : decode cX6_init 113 = .ok (.iastore, 1) := by decide +kernel
theorem dX6_init_114 : decode cX6_init 114 = .ok (.aload_n 0, 1) := by decide +kernel
theorem dX6_init_115 : decode cX6_init 115 = .ok (.getfield 7, 3) := by decide +kernel
theorem dX6_init_118 : decode cX6_init 118 = .ok (.iconst 1, 1) := by decide +kernel
theorem dX6_init_119 : decode cX6_init 119 = .ok (.iconst 1, 1) := by decide +kernel
theorem dX6_init_120 : decode cX6_init 120 = .ok (.iastore, 1) := by decide +kernel
theorem dX6_init_121 : decode cX6_init 121 = .ok (.aload_n 0, 1) := by decide +kernel
theorem dX6_init_122 : decode cX6_init 122 = .ok (.getfield 7, 3) := by decide +kernel
theorem dX6_init_125 : decode cX6_init 125 = .ok (.bipush 97, 2) := by decide +kernel
theorem dX6_init_127 : decode cX6_init 127 = .ok (.iconst 1, 1) := by decide +kernel
theorem dX6_init_128 : decode cX6_init 128 = .ok (.iastore, 1) := by decide +kernel
theorem dX6_init_129 : decode cX6_init 129 = .ok (.aload_n 0, 1) := by decide +kernel
theorem dX6_init_130 : decode cX6_init 130 = .ok (.getfield 7, 3) := by decide +kernel
theorem dX6_init_133 : decode cX6_init 133 = .ok (.sipush 158, 3) := by decide +kernel
theorem dX6_init_136 : decode cX6_init 136 = .ok (.iconst 1, 1) := by decide +kernel
theorem dX6_init_137 : decode cX6_init 137 = .ok (.iastore, 1) := by decide +kernel
theorem dX6_init_138 : decode cX6_init 138 = .ok (.aload_n 0, 1) := by decide +kernel
theorem dX6_init_139 : decode cX6_init 139 = .ok (.getfield 7, 3) := by decide +kernel
theorem dX6_init_142 : decode cX6_init 142 = .ok (.sipush 3757, 3) := by decide +kernel
theorem dX6_init_145 : decode cX6_init 145 = .ok (.iconst 1, 1) := by decide +kernel
theorem dX6_init_146 : decode cX6_init 146 = .ok (.iastore, 1) := by decide +kernel
theorem dX6_init_147 : decode cX6_init 147 = .ok (.aload_n 0, 1) := by decide +kernel
theorem dX6_init_148 : decode cX6_init 148 = .ok (.getfield 7, 3) := by decide +kernel
theorem dX6_init_151 : decode cX6_init 151 = .ok (.sipush 3949, 3) := by decide +kernel
theorem dX6_init_154 : decode cX6_init 154 = .ok (.iconst (-1), 1) := by decide +kernel
theorem dX6_init_155 : decode cX6_init 155 = .ok (.iastore, 1) := by decide +kernel
theorem dX6_init_156 : decode cX6_init 156 = .ok (.aload_n 0, 1) := by decide +kernel
theorem dX6_init_157 : decode cX6_init 157 = .ok (.getfield 7, 3) := by decide +kernel
theorem dX6_init_160 : decode cX6_init 160 = .ok (.sipush 3853, 3) := by decide +kernel
theorem dX6_init_163 : decode cX6_init 163 = .ok (.iconst 1, 1) := by decide +kernel
theorem dX6_init_164 : decode cX6_init 164 = .ok (.iastore, 1) := by decide +kernel
theorem dX6_init_165 : decode cX6_init 165 = .ok (.aload_n 0, 1) := by decide +kernel
theorem dX6_init_166 : decode cX6_init 166 = .ok (.getfield 7, 3) := by decide +kernel
theorem dX6_init_169 : decode cX6_init 169 = .ok (.sipush 4636, 3) := by decide +kernel
theorem dX6_init_172 : decode cX6_init 172 = .ok (.iconst 1, 1) := by decide +kernel
theorem dX6_init_173 : decode cX6_init 173 = .ok (.iastore, 1) := by decide +kernel
theorem dX6_init_174 : decode cX6_init 174 = .ok (.aload_n 0, 1) := by decide +kernel
theorem dX6_init_175 : decode cX6_init 175 = .ok (.getfield 7, 3) := by decide +kernel
theorem dX6_init_178 : decode cX6_init 178 = .ok (.sipush 9244, 3) := by decide +kernel
theorem dX6_init_181 : decode cX6_init 181 = .ok (.bipush 6, 2) := by decide +kernel
theorem dX6_init_183 : decode cX6_init 183 = .ok (.iastore, 1) := by decide +kernel
theorem dX6_init_184 : decode cX6_init 184 = .ok (.aload_n 0, 1) := by decide +kernel
theorem dX6_init_185 : decode cX6_init 185 = .ok (.getfield 7, 3) := by decide +kernel
theorem dX6_init_188 : decode cX6_init 188 = .ok (.sipush 12300, 3) := by decide +kernel
theorem dX6_init_191 : decode cX6_init 191 = .ok (.iconst 1, 1) := by decide +kernel
theorem dX6_init_192 : decode cX6_init 192 = .ok (.iastore, 1) := by decide +kernel
theorem dX6_init_193 : decode cX6_init 193 = .ok (.aload_n 0, 1) := by decide +kernel
theorem dX6_init_194 : decode cX6_init 194 = .ok (.getfield 7, 3) := by decide +kernel
theorem dX6_init_197 : decode cX6_init 197 = .ok (.sipush 13068, 3) := by decide +kernel
theorem dX6_init_200 : decode cX6_init 200 = .ok (.iconst 1, 1) := by decide +kernel
theorem dX6_init_201 : decode cX6_init 201 = .ok (.iastore, 1) := by decide +kernel
theorem dX6_init_202 : decode cX6_init 202 = .ok (.aload_n 0, 1) := by decide +kernel
theorem dX6_init_203 : decode cX6_init 203 = .ok (.getfield 7, 3) := by decide +kernel
theorem dX6_init_206 : decode cX6_init 206 = .ok (.sipush 13076, 3) := by decide +kernel
theorem dX6_init_209 : decode cX6_init 209 = .ok (.iconst 1, 1) := by decide +kernel
theorem dX6_init_210 : decode cX6_init 210 = .ok (.iastore, 1) := by decide +kernel
theorem dX6_init_211 : decode cX6_init 211 = .ok (.aload_n 0, 1) := by decide +kernel
theorem dX6_init_212 : decode cX6_init 212 = .ok (.getfield 7, 3) := by decide +kernel
theorem dX6_init_215 : decode cX6_init 215 = .ok (.sipush 13077, 3) := by decide +kernel
theorem dX6_init_218 : decode cX6_init 218 = .ok (.iconst 1, 1) := by decide +kernel
theorem dX6_init_219 : decode cX6_init 219 = .ok (.iastore, 1) := by decide +kernel
theorem dX6_init_220 : decode cX6_init 220 = .ok (.aload_n 0, 1) := by decide +kernel
theorem dX6_init_221 : decode cX6_init 221 = .ok (.getfield 7, 3) := by decide +kernel
theorem dX6_init_224 : decode cX6_init 224 = .ok (.aload_n 0, 1) := by decide +kernel
theorem dX6_init_225 : decode cX6_init 225 = .ok (.getfield 16, 3) := by decide +kernel
theorem dX6_init_228 : decode cX6_init 228 = .ok (.invokestatic 36, 3) := by decide +kernel
theorem dX6_init_231 : decode cX6_init 231 = .ok (.return_, 1) := by decide +kernel
theorem dX6_thrown_0 : decode cX6_thrown 0 = .ok (.aload_n 0, 1) := by decide +kernel
theorem dX6_thrown_1 : decode cX6_thrown 1 = .ok (.getfield 40, 3) := by decide +kernel
theorem dX6_thrown_4 : decode cX6_thrown 4 = .ok (.ireturn, 1) := by decide +kernel
theorem dX6_keep_0 : decode cX6_keep 0 = .ok (.iconst 0, 1) := by decide +kernel
theorem dX6_keep_1 : decode cX6_keep 1 = .ok (.istore_n 2, 1) := by decide +kernel
theorem dX6_keep_2 : decode cX6_keep 2 = .ok (.iload_n 2, 1) := by decide +kernel
theorem dX6_keep_3 : decode cX6_keep 3 = .ok (.sipush 25366, 3) := by decide +kernel
theorem dX6_keep_6 : decode cX6_keep 6 = .ok (.if_icmp .ge 15, 3) := by decide +kernel
theorem dX6_keep_9 : decode cX6_keep 9 = .ok (.aload_n 1, 1) := by decide +kernel
theorem dX6_keep_10 : decode cX6_keep 10 = .ok (.iload_n 2, 1) := by decide +kernel
theorem dX6_keep_11 : decode cX6_keep 11 = .ok (.aload_n 0, 1) := by decide +kernel
theorem dX6_keep_12 : decode cX6_keep 12 = .ok (.iload_n 2, 1) := by decide +kernel
theorem dX6_keep_13 : decode cX6_keep 13 = .ok (.iaload, 1) := by decide +kernel
theorem dX6_keep_14 : decode cX6_keep 14 = .ok (.iastore, 1) := by decide +kernel
theorem dX6_keep_15 : decode cX6_keep 15 = .ok (.iinc 2 1, 3) := by decide +kernel
theorem dX6_keep_18 : decode cX6_keep 18 = .ok (.goto (-16), 3) := by decide +kernel
theorem dX6_keep_21 : decode cX6_keep 21 = .ok (.return_, 1) := by decide +kernel
theorem dX6_isIn_0 : decode cX6_isIn 0 = .ok (.iload_n 0, 1) := by decide +kernel
theorem dX6_isIn_1 : decode cX6_isIn 1 = .ok (.iload_n 1, 1) := by decide +kernel
theorem dX6_isIn_2 : decode cX6_isIn 2 = .ok (.if_icmp .lt 12, 3) := by decide +kernel
theorem dX6_isIn_5 : decode cX6_isIn 5 = .ok (.iload_n 0, 1) := by decide +kernel
theorem dX6_isIn_6 : decode cX6_isIn 6 = .ok (.iload_n 2, 1) := by decide +kernel
theorem dX6_isIn_7 : decode cX6_isIn 7 = .ok (.if_icmp .gt 7, 3) := by decide +kernel
theorem dX6_isIn_10 : decode cX6_isIn 10 = .ok (.iconst 1, 1) := by decide +kernel
theorem dX6_isIn_11 : decode cX6_isIn 11 = .ok (.goto 4, 3) := by decide +kernel
theorem dX6_isIn_14 : decode cX6_isIn 14 = .ok (.iconst 0, 1) := by decide +kernel
theorem dX6_isIn_15 : decode cX6_isIn 15 = .ok (.ireturn, 1) := by decide +kernel
theorem dX6_isObject_0 : decode cX6_isObject 0 = .ok (.iload_n 1, 1) := by decide +kernel
theorem dX6_isObject_1 : decode cX6_isObject 1 = .ok (.iconst 1, 1) := by decide +kernel
theorem dX6_isObject_2 : decode cX6_isObject 2 = .ok (.bipush 60, 2) := by decide +kernel
theorem dX6_isObject_4 : decode cX6_isObject 4 = .ok (.invokestatic 43, 3) := by decide +kernel
theorem dX6_isObject_7 : decode cX6_isObject 7 = .ok (.ifCond .eq 19, 3) := by decide +kernel
theorem dX6_isObject_10 : decode cX6_isObject 10 = .ok (.aload_n 0, 1) := by decide +kernel
theorem dX6_isObject_11 : decode cX6_isObject 11 = .ok (.getfield 7, 3) := by decide +kernel
theorem dX6_isObject_14 : decode cX6_isObject 14 = .ok (.bipush 96, 2) := by decide +kernel
theorem dX6_isObject_16 : decode cX6_isObject 16 = .ok (.iload_n 1, 1) := by decide +kernel
theorem dX6_isObject_17 : decode cX6_isObject 17 = .ok (.iadd, 1) := by decide +kernel
theorem dX6_isObject_18 : decode cX6_isObject 18 = .ok (.iaload, 1) := by decide +kernel
theorem dX6_isObject_19 : decode cX6_isObject 19 = .ok (.ifCond .le 7, 3) := by decide +kernel
theorem dX6_isObject_22 : decode cX6_isObject 22 = .ok (.iconst 1, 1) := by decide +kernel
theorem dX6_isObject_23 : decode cX6_isObject 23 = .ok (.goto 4, 3) := by decide +kernel
theorem dX6_isObject_26 : decode cX6_isObject 26 = .ok (.iconst 0, 1) := by decide +kernel
theorem dX6_isObject_27 : decode cX6_isObject 27 = .ok (.ireturn, 1) := by decide +kernel
theorem dX6_isDirectory_0 : decode cX6_isDirectory 0 = .ok (.aload_n 0, 1) := by decide +kernel
theorem dX6_isDirectory_1 : decode cX6_isDirectory 1 = .ok (.iload_n 1, 1) := by decide +kernel
theorem dX6_isDirectory_2 : decode cX6_isDirectory 2 = .ok (.invokevirtual 47, 3) := by decide +kernel
theorem dX6_isDirectory_5 : decode cX6_isDirectory 5 = .ok (.ifCond .eq 20, 3) := by decide +kernel
theorem dX6_isDirectory_8 : decode cX6_isDirectory 8 = .ok (.aload_n 0, 1) := by decide +kernel
theorem dX6_isDirectory_9 : decode cX6_isDirectory 9 = .ok (.getfield 7, 3) := by decide +kernel
theorem dX6_isDirectory_12 : decode cX6_isDirectory 12 = .ok (.bipush 96, 2) := by decide +kernel
theorem dX6_isDirectory_14 : decode cX6_isDirectory 14 = .ok (.iload_n 1, 1) := by decide +kernel
theorem dX6_isDirectory_15 : decode cX6_isDirectory 15 = .ok (.iadd, 1) := by decide +kernel
theorem dX6_isDirectory_16 : decode cX6_isDirectory 16 = .ok (.iaload, 1) := by decide +kernel
theorem dX6_isDirectory_17 : decode cX6_isDirectory 17 = .ok (.iconst 1, 1) := by decide +kernel
theorem dX6_isDirectory_18 : decode cX6_isDirectory 18 = .ok (.if_icmp .ne 7, 3) := by decide +kernel
theorem dX6_isDirectory_21 : decode cX6_isDirectory 21 = .ok (.iconst 1, 1) := by decide +kernel
theorem dX6_isDirectory_22 : decode cX6_isDirectory 22 = .ok (.goto 4, 3) := by decide +kernel
theorem dX6_isDirectory_25 : decode cX6_isDirectory 25 = .ok (.iconst 0, 1) := by decide +kernel
theorem dX6_isDirectory_26 : decode cX6_isDirectory 26 = .ok (.ireturn, 1) := by decide +kernel
theorem dX6_isFile_0 : decode cX6_isFile 0 = .ok (.aload_n 0, 1) := by decide +kernel
theorem dX6_isFile_1 : decode cX6_isFile 1 = .ok (.iload_n 1, 1) := by decide +kernel
theorem dX6_isFile_2 : decode cX6_isFile 2 = .ok (.invokevirtual 47, 3) := by decide +kernel
theorem dX6_isFile_5 : decode cX6_isFile 5 = .ok (.ifCond .eq 20, 3) := by decide +kernel
theorem dX6_isFile_8 : decode cX6_isFile 8 = .ok (.aload_n 0, 1) := by decide +kernel
theorem dX6_isFile_9 : decode cX6_isFile 9 = .ok (.getfield 7, 3) := by decide +kernel
theorem dX6_isFile_12 : decode cX6_isFile 12 = .ok (.bipush 96, 2) := by decide +kernel
theorem dX6_isFile_14 : decode cX6_isFile 14 = .ok (.iload_n 1, 1) := by decide +kernel
theorem dX6_isFile_15 : decode cX6_isFile 15 = .ok (.iadd, 1) := by decide +kernel
theorem dX6_isFile_16 : decode cX6_isFile 16 = .ok (.iaload, 1) := by decide +kernel
theorem dX6_isFile_17 : decode cX6_isFile 17 = .ok (.iconst 2, 1) := by decide +kernel
theorem dX6_isFile_18 : decode cX6_isFile 18 = .ok (.if_icmp .ne 7, 3) := by decide +kernel
theorem dX6_isFile_21 : decode cX6_isFile 21 = .ok (.iconst 1, 1) := by decide +kernel
theorem dX6_isFile_22 : decode cX6_isFile 22 = .ok (.goto 4, 3) := by decide +kernel
theorem dX6_isFile_25 : decode cX6_isFile 25 = .ok (.iconst 0, 1) := by decide +kernel
theorem dX6_isFile_26 : decode cX6_isFile 26 = .ok (.ireturn, 1) := by decide +kernel
theorem dX6_take_0 : decode cX6_take 0 = .ok (.iconst 1, 1) := by decide +kernel
theorem dX6_take_1 : decode cX6_take 1 = .ok (.istore_n 1, 1) := by decide +kernel
theorem dX6_take_2 : decode cX6_take 2 = .ok (.iload_n 1, 1) := by decide +kernel
theorem dX6_take_3 : decode cX6_take 3 = .ok (.aload_n 0, 1) := by decide +kernel
theorem dX6_take_4 : decode cX6_take 4 = .ok (.getfield 30, 3) := by decide +kernel
theorem dX6_take_7 : decode cX6_take 7 = .ok (.if_icmp .ge 53, 3) := by decide +kernel
theorem dX6_take_10 : decode cX6_take 10 = .ok (.aload_n 0, 1) := by decide +kernel
theorem dX6_take_11 : decode cX6_take 11 = .ok (.getfield 7, 3) := by decide +kernel
theorem dX6_take_14 : decode cX6_take 14 = .ok (.iconst 0, 1) := by decide +kernel
theorem dX6_take_15 : decode cX6_take 15 = .ok (.iload_n 1, 1) := by decide +kernel
theorem dX6_take_16 : decode cX6_take 16 = .ok (.iadd, 1) := by decide +kernel
theorem dX6_take_17 : decode cX6_take 17 = .ok (.iaload, 1) := by decide +kernel
theorem dX6_take_18 : decode cX6_take 18 = .ok (.ifCond .ne 36, 3) := by decide +kernel
theorem dX6_take_21 : decode cX6_take 21 = .ok (.aload_n 0, 1) := by decide +kernel
theorem dX6_take_22 : decode cX6_take 22 = .ok (.getfield 7, 3) := by decide +kernel
theorem dX6_take_25 : decode cX6_take 25 = .ok (.iconst 0, 1) := by decide +kernel
theorem dX6_take_26 : decode cX6_take 26 = .ok (.iload_n 1, 1) := by decide +kernel
theorem dX6_take_27 : decode cX6_take 27 = .ok (.iadd, 1) := by decide +kernel
theorem dX6_take_28 : decode cX6_take 28 = .ok (.iconst 1, 1) := by decide +kernel
theorem dX6_take_29 : decode cX6_take 29 = .ok (.iastore, 1) := by decide +kernel
theorem dX6_take_30 : decode cX6_take 30 = .ok (.aload_n 0, 1) := by decide +kernel
theorem dX6_take_31 : decode cX6_take 31 = .ok (.getfield 7, 3) := by decide +kernel
theorem dX6_take_34 : decode cX6_take 34 = .ok (.sipush 3756, 3) := by decide +kernel
theorem dX6_take_37 : decode cX6_take 37 = .ok (.iload_n 1, 1) := by decide +kernel
theorem dX6_take_38 : decode cX6_take 38 = .ok (.iadd, 1) := by decide +kernel
theorem dX6_take_39 : decode cX6_take 39 = .ok (.iconst 0, 1) := by decide +kernel
theorem dX6_take_40 : decode cX6_take 40 = .ok (.iastore, 1) := by decide +kernel
theorem dX6_take_41 : decode cX6_take 41 = .ok (.aload_n 0, 1) := by decide +kernel
theorem dX6_take_42 : decode cX6_take 42 = .ok (.getfield 7, 3) := by decide +kernel
theorem dX6_take_45 : decode cX6_take 45 = .ok (.sipush 3852, 3) := by decide +kernel
theorem dX6_take_48 : decode cX6_take 48 = .ok (.iload_n 1, 1) := by decide +kernel
theorem dX6_take_49 : decode cX6_take 49 = .ok (.iadd, 1) := by decide +kernel
theorem dX6_take_50 : decode cX6_take 50 = .ok (.iconst 0, 1) := by decide +kernel
theorem dX6_take_51 : decode cX6_take 51 = .ok (.iastore, 1) := by decide +kernel
theorem dX6_take_52 : decode cX6_take 52 = .ok (.iload_n 1, 1) := by decide +kernel
theorem dX6_take_53 : decode cX6_take 53 = .ok (.ireturn, 1) := by decide +kernel
theorem dX6_take_54 : decode cX6_take 54 = .ok (.iinc 1 1, 3) := by decide +kernel
theorem dX6_take_57 : decode cX6_take 57 = .ok (.goto (-55), 3) := by decide +kernel
theorem dX6_take_60 : decode cX6_take 60 = .ok (.aload_n 0, 1) := by decide +kernel
theorem dX6_take_61 : decode cX6_take 61 = .ok (.iconst 1, 1) := by decide +kernel
theorem dX6_take_62 : decode cX6_take 62 = .ok (.putfield 51, 3) := by decide +kernel
theorem dX6_take_65 : decode cX6_take 65 = .ok (.iconst (-1), 1) := by decide +kernel
theorem dX6_take_66 : decode cX6_take 66 = .ok (.ireturn, 1) := by decide +kernel
theorem dX6_free_0 : decode cX6_free 0 = .ok (.aload_n 0, 1) := by decide +kernel
theorem dX6_free_1 : decode cX6_free 1 = .ok (.getfield 7, 3) := by decide +kernel
theorem dX6_free_4 : decode cX6_free 4 = .ok (.iconst 0, 1) := by decide +kernel
theorem dX6_free_5 : decode cX6_free 5 = .ok (.iload_n 1, 1) := by decide +kernel
theorem dX6_free_6 : decode cX6_free 6 = .ok (.iadd, 1) := by decide +kernel
theorem dX6_free_7 : decode cX6_free 7 = .ok (.iconst 0, 1) := by decide +kernel
theorem dX6_free_8 : decode cX6_free 8 = .ok (.iastore, 1) := by decide +kernel
theorem dX6_free_9 : decode cX6_free 9 = .ok (.aload_n 0, 1) := by decide +kernel
theorem dX6_free_10 : decode cX6_free 10 = .ok (.getfield 7, 3) := by decide +kernel
theorem dX6_free_13 : decode cX6_free 13 = .ok (.sipush 3756, 3) := by decide +kernel
theorem dX6_free_16 : decode cX6_free 16 = .ok (.iload_n 1, 1) := by decide +kernel
theorem dX6_free_17 : decode cX6_free 17 = .ok (.iadd, 1) := by decide +kernel
theorem dX6_free_18 : decode cX6_free 18 = .ok (.iconst 0, 1) := by decide +kernel
theorem dX6_free_19 : decode cX6_free 19 = .ok (.iastore, 1) := by decide +kernel
theorem dX6_free_20 : decode cX6_free 20 = .ok (.aload_n 0, 1) := by decide +kernel
theorem dX6_free_21 : decode cX6_free 21 = .ok (.getfield 7, 3) := by decide +kernel
theorem dX6_free_24 : decode cX6_free 24 = .ok (.sipush 3852, 3) := by decide +kernel
theorem dX6_free_27 : decode cX6_free 27 = .ok (.iload_n 1, 1) := by decide +kernel
theorem dX6_free_28 : decode cX6_free 28 = .ok (.iadd, 1) := by decide +kernel
theorem dX6_free_29 : decode cX6_free 29 = .ok (.iconst 0, 1) := by decide +kernel
theorem dX6_free_30 : decode cX6_free 30 = .ok (.iastore, 1) := by decide +kernel
theorem dX6_free_31 : decode cX6_free 31 = .ok (.return_, 1) := by decide +kernel
theorem dX6_height_0 : decode cX6_height 0 = .ok (.aload_n 0, 1) := by decide +kernel
theorem dX6_height_1 : decode cX6_height 1 = .ok (.getfield 7, 3) := by decide +kernel
theorem dX6_height_4 : decode cX6_height 4 = .ok (.sipush 3756, 3) := by decide +kernel
theorem dX6_height_7 : decode cX6_height 7 = .ok (.iload_n 1, 1) := by decide +kernel
theorem dX6_height_8 : decode cX6_height 8 = .ok (.iadd, 1) := by decide +kernel
theorem dX6_height_9 : decode cX6_height 9 = .ok (.iaload, 1) := by decide +kernel
theorem dX6_height_10 : decode cX6_height 10 = .ok (.iconst 1, 1) := by decide +kernel
theorem dX6_height_11 : decode cX6_height 11 = .ok (.isub, 1) := by decide +kernel
theorem dX6_height_12 : decode cX6_height 12 = .ok (.ireturn, 1) := by decide +kernel
theorem dX6_placeOf_0 : decode cX6_placeOf 0 = .ok (.sipush 12300, 3) := by decide +kernel
theorem dX6_placeOf_3 : decode cX6_placeOf 3 = .ok (.bipush 96, 2) := by decide +kernel
theorem dX6_placeOf_5 : decode cX6_placeOf 5 = .ok (.aload_n 0, 1) := by decide +kernel
theorem dX6_placeOf_6 : decode cX6_placeOf 6 = .ok (.iload_n 1, 1) := by decide +kernel
theorem dX6_placeOf_7 : decode cX6_placeOf 7 = .ok (.invokevirtual 55, 3) := by decide +kernel
theorem dX6_placeOf_10 : decode cX6_placeOf 10 = .ok (.imul, 1) := by decide +kernel
theorem dX6_placeOf_11 : decode cX6_placeOf 11 = .ok (.iadd, 1) := by decide +kernel
theorem dX6_placeOf_12 : decode cX6_placeOf 12 = .ok (.istore_n 2, 1) := by decide +kernel
theorem dX6_placeOf_13 : decode cX6_placeOf 13 = .ok (.iconst 0, 1) := by decide +kernel
theorem dX6_placeOf_14 : decode cX6_placeOf 14 = .ok (.istore_n 3, 1) := by decide +kernel
theorem dX6_placeOf_15 : decode cX6_placeOf 15 = .ok (.aload_n 0, 1) := by decide +kernel
theorem dX6_placeOf_16 : decode cX6_placeOf 16 = .ok (.getfield 7, 3) := by decide +kernel
theorem dX6_placeOf_19 : decode cX6_placeOf 19 = .ok (.iload_n 2, 1) := by decide +kernel
theorem dX6_placeOf_20 : decode cX6_placeOf 20 = .ok (.iload_n 3, 1) := by decide +kernel
theorem dX6_placeOf_21 : decode cX6_placeOf 21 = .ok (.iadd, 1) := by decide +kernel
theorem dX6_placeOf_22 : decode cX6_placeOf 22 = .ok (.iaload, 1) := by decide +kernel
theorem dX6_placeOf_23 : decode cX6_placeOf 23 = .ok (.iload_n 1, 1) := by decide +kernel
theorem dX6_placeOf_24 : decode cX6_placeOf 24 = .ok (.if_icmp .eq 9, 3) := by decide +kernel
theorem dX6_placeOf_27 : decode cX6_placeOf 27 = .ok (.iinc 3 1, 3) := by decide +kernel
theorem dX6_placeOf_30 : decode cX6_placeOf 30 = .ok (.goto (-15), 3) := by decide +kernel
theorem dX6_placeOf_33 : decode cX6_placeOf 33 = .ok (.iload_n 3, 1) := by decide +kernel
theorem dX6_placeOf_34 : decode cX6_placeOf 34 = .ok (.ireturn, 1) := by decide +kernel
theorem dX6_beside_0 : decode cX6_beside 0 = .ok (.aload_n 0, 1) := by decide +kernel
theorem dX6_beside_1 : decode cX6_beside 1 = .ok (.iload_n 1, 1) := by decide +kernel
theorem dX6_beside_2 : decode cX6_beside 2 = .ok (.invokevirtual 55, 3) := by decide +kernel
theorem dX6_beside_5 : decode cX6_beside 5 = .ok (.istore_n 3, 1) := by decide +kernel
theorem dX6_beside_6 : decode cX6_beside 6 = .ok (.aload_n 0, 1) := by decide +kernel
theorem dX6_beside_7 : decode cX6_beside 7 = .ok (.iload_n 1, 1) := by decide +kernel
theorem dX6_beside_8 : decode cX6_beside 8 = .ok (.invokevirtual 59, 3) := by decide +kernel
theorem dX6_beside_11 : decode cX6_beside 11 = .ok (.iload_n 2, 1) := by decide +kernel
theorem dX6_beside_12 : decode cX6_beside 12 = .ok (.iadd, 1) := by decide +kernel
theorem dX6_beside_13 : decode cX6_beside 13 = .ok (.istore 4, 2) := by decide +kernel
theorem dX6_beside_15 : decode cX6_beside 15 = .ok (.iload 4, 2) := by decide +kernel
theorem dX6_beside_17 : decode cX6_beside 17 = .ok (.iconst 0, 1) := by decide +kernel
theorem dX6_beside_18 : decode cX6_beside 18 = .ok (.aload_n 0, 1) := by decide +kernel
theorem dX6_beside_19 : decode cX6_beside 19 = .ok (.getfield 7, 3) := by decide +kernel
theorem dX6_beside_22 : decode cX6_beside 22 = .ok (.sipush 13068, 3) := by decide +kernel
theorem dX6_beside_25 : decode cX6_beside 25 = .ok (.iload_n 3, 1) := by decide +kernel
theorem dX6_beside_26 : decode cX6_beside 26 = .ok (.iadd, 1) := by decide +kernel
theorem dX6_beside_27 : decode cX6_beside 27 = .ok (.iaload, 1) := by decide +kernel
theorem dX6_beside_28 : decode cX6_beside 28 = .ok (.iconst 1, 1) := by decide +kernel
theorem dX6_beside_29 : decode cX6_beside 29 = .ok (.isub, 1) := by decide +kernel
theorem dX6_beside_30 : decode cX6_beside 30 = .ok (.invokestatic 43, 3) := by decide +kernel
theorem dX6_beside_33 : decode cX6_beside 33 = .ok (.ifCond .eq 22, 3) := by decide +kernel
theorem dX6_beside_36 : decode cX6_beside 36 = .ok (.aload_n 0, 1) := by decide +kernel
theorem dX6_beside_37 : decode cX6_beside 37 = .ok (.getfield 7, 3) := by decide +kernel
theorem dX6_beside_40 : decode cX6_beside 40 = .ok (.sipush 12300, 3) := by decide +kernel
theorem dX6_beside_43 : decode cX6_beside 43 = .ok (.bipush 96, 2) := by decide +kernel
theorem dX6_beside_45 : decode cX6_beside 45 = .ok (.iload_n 3, 1) := by decide +kernel
theorem dX6_beside_46 : decode cX6_beside 46 = .ok (.imul, 1) := by decide +kernel
theorem dX6_beside_47 : decode cX6_beside 47 = .ok (.iadd, 1) := by decide +kernel
theorem dX6_beside_48 : decode cX6_beside 48 = .ok (.iload 4, 2) := by decide +kernel
theorem dX6_beside_50 : decode cX6_beside 50 = .ok (.iadd, 1) := by decide +kernel
theorem dX6_beside_51 : decode cX6_beside 51 = .ok (.iaload, 1) := by decide +kernel
theorem dX6_beside_52 : decode cX6_beside 52 = .ok (.goto 4, 3) := by decide +kernel
theorem dX6_beside_55 : decode cX6_beside 55 = .ok (.iconst (-1), 1) := by decide +kernel
theorem dX6_beside_56 : decode cX6_beside 56 = .ok (.ireturn, 1) := by decide +kernel
theorem dX6_lineUp_0 : decode cX6_lineUp 0 = .ok (.aload_n 0, 1) := by decide +kernel
theorem dX6_lineUp_1 : decode cX6_lineUp 1 = .ok (.iload_n 1, 1) := by decide +kernel
theorem dX6_lineUp_2 : decode cX6_lineUp 2 = .ok (.invokevirtual 55, 3) := by decide +kernel
theorem dX6_lineUp_5 : decode cX6_lineUp 5 = .ok (.istore_n 3, 1) := by decide +kernel
theorem dX6_lineUp_6 : decode cX6_lineUp 6 = .ok (.sipush 12300, 3) := by decide +kernel
theorem dX6_lineUp_9 : decode cX6_lineUp 9 = .ok (.bipush 96, 2) := by decide +kernel
theorem dX6_lineUp_11 : decode cX6_lineUp 11 = .ok (.iload_n 3, 1) := by decide +kernel
theorem dX6_lineUp_12 : decode cX6_lineUp 12 = .ok (.imul, 1) := by decide +kernel
theorem dX6_lineUp_13 : decode cX6_lineUp 13 = .ok (.iadd, 1) := by decide +kernel
theorem dX6_lineUp_14 : decode cX6_lineUp 14 = .ok (.istore 4, 2) := by decide +kernel
theorem dX6_lineUp_16 : decode cX6_lineUp 16 = .ok (.aload_n 0, 1) := by decide +kernel
theorem dX6_lineUp_17 : decode cX6_lineUp 17 = .ok (.iload_n 2, 1) := by decide +kernel
theorem dX6_lineUp_18 : decode cX6_lineUp 18 = .ok (.invokevirtual 59, 3) := by decide +kernel
theorem dX6_lineUp_21 : decode cX6_lineUp 21 = .ok (.iconst 1, 1) := by decide +kernel
theorem dX6_lineUp_22 : decode cX6_lineUp 22 = .ok (.iadd, 1) := by decide +kernel
theorem dX6_lineUp_23 : decode cX6_lineUp 23 = .ok (.istore 5, 2) := by decide +kernel
theorem dX6_lineUp_25 : decode cX6_lineUp 25 = .ok (.aload_n 0, 1) := by decide +kernel
theorem dX6_lineUp_26 : decode cX6_lineUp 26 = .ok (.getfield 7, 3) := by decide +kernel
theorem dX6_lineUp_29 : decode cX6_lineUp 29 = .ok (.sipush 13068, 3) := by decide +kernel
theorem dX6_lineUp_32 : decode cX6_lineUp 32 = .ok (.iload_n 3, 1) := by decide +kernel
theorem dX6_lineUp_33 : decode cX6_lineUp 33 = .ok (.iadd, 1) := by decide +kernel
theorem dX6_lineUp_34 : decode cX6_lineUp 34 = .ok (.iaload, 1) := by decide +kernel
theorem dX6_lineUp_35 : decode cX6_lineUp 35 = .ok (.istore 6, 2) := by decide +kernel
theorem dX6_lineUp_37 : decode cX6_lineUp 37 = .ok (.iload 6, 2) := by decide +kernel
theorem dX6_lineUp_39 : decode cX6_lineUp 39 = .ok (.iload 5, 2) := by decide +kernel
theorem dX6_lineUp_41 : decode cX6_lineUp 41 = .ok (.if_icmp .le 31, 3) := by decide +kernel
theorem dX6_lineUp_44 : decode cX6_lineUp 44 = .ok (.aload_n 0, 1) := by decide +kernel
theorem dX6_lineUp_45 : decode cX6_lineUp 45 = .ok (.getfield 7, 3) := by decide +kernel
theorem dX6_lineUp_48 : decode cX6_lineUp 48 = .ok (.iload 4, 2) := by decide +kernel
theorem dX6_lineUp_50 : decode cX6_lineUp 50 = .ok (.iload 6, 2) := by decide +kernel
theorem dX6_lineUp_52 : decode cX6_lineUp 52 = .ok (.iadd, 1) := by decide +kernel
theorem dX6_lineUp_53 : decode cX6_lineUp 53 = .ok (.aload_n 0, 1) := by decide +kernel
theorem dX6_lineUp_54 : decode cX6_lineUp 54 = .ok (.getfield 7, 3) := by decide +kernel
theorem dX6_lineUp_57 : decode cX6_lineUp 57 = .ok (.iload 4, 2) := by decide +kernel
theorem dX6_lineUp_59 : decode cX6_lineUp 59 = .ok (.iload 6, 2) := by decide +kernel
theorem dX6_lineUp_61 : decode cX6_lineUp 61 = .ok (.iadd, 1) := by decide +kernel
theorem dX6_lineUp_62 : decode cX6_lineUp 62 = .ok (.iconst 1, 1) := by decide +kernel
theorem dX6_lineUp_63 : decode cX6_lineUp 63 = .ok (.isub, 1) := by decide +kernel
theorem dX6_lineUp_64 : decode cX6_lineUp 64 = .ok (.iaload, 1) := by decide +kernel
theorem dX6_lineUp_65 : decode cX6_lineUp 65 = .ok (.iastore, 1) := by decide +kernel
theorem dX6_lineUp_66 : decode cX6_lineUp 66 = .ok (.iinc 6 (-1), 3) := by decide +kernel
theorem dX6_lineUp_69 : decode cX6_lineUp 69 = .ok (.goto (-32), 3) := by decide +kernel
theorem dX6_lineUp_72 : decode cX6_lineUp 72 = .ok (.aload_n 0, 1) := by decide +kernel
theorem dX6_lineUp_73 : decode cX6_lineUp 73 = .ok (.getfield 7, 3) := by decide +kernel
theorem dX6_lineUp_76 : decode cX6_lineUp 76 = .ok (.iload 4, 2) := by decide +kernel
theorem dX6_lineUp_78 : decode cX6_lineUp 78 = .ok (.iload 5, 2) := by decide +kernel
theorem dX6_lineUp_80 : decode cX6_lineUp 80 = .ok (.iadd, 1) := by decide +kernel
theorem dX6_lineUp_81 : decode cX6_lineUp 81 = .ok (.iload_n 1, 1) := by decide +kernel
theorem dX6_lineUp_82 : decode cX6_lineUp 82 = .ok (.iastore, 1) := by decide +kernel
theorem dX6_lineUp_83 : decode cX6_lineUp 83 = .ok (.aload_n 0, 1) := by decide +kernel
theorem dX6_lineUp_84 : decode cX6_lineUp 84 = .ok (.getfield 7, 3) := by decide +kernel
theorem dX6_lineUp_87 : decode cX6_lineUp 87 = .ok (.sipush 13068, 3) := by decide +kernel
theorem dX6_lineUp_90 : decode cX6_lineUp 90 = .ok (.iload_n 3, 1) := by decide +kernel
theorem dX6_lineUp_91 : decode cX6_lineUp 91 = .ok (.iadd, 1) := by decide +kernel
theorem dX6_lineUp_92 : decode cX6_lineUp 92 = .ok (.dup2, 1) := by decide +kernel
theorem dX6_lineUp_93 : decode cX6_lineUp 93 = .ok (.iaload, 1) := by decide +kernel
theorem dX6_lineUp_94 : decode cX6_lineUp 94 = .ok (.iconst 1, 1) := by decide +kernel
theorem dX6_lineUp_95 : decode cX6_lineUp 95 = .ok (.iadd, 1) := by decide +kernel
theorem dX6_lineUp_96 : decode cX6_lineUp 96 = .ok (.iastore, 1) := by decide +kernel
theorem dX6_lineUp_97 : decode cX6_lineUp 97 = .ok (.return_, 1) := by decide +kernel
theorem dX6_lineOff_0 : decode cX6_lineOff 0 = .ok (.aload_n 0, 1) := by decide +kernel
theorem dX6_lineOff_1 : decode cX6_lineOff 1 = .ok (.iload_n 1, 1) := by decide +kernel
theorem dX6_lineOff_2 : decode cX6_lineOff 2 = .ok (.invokevirtual 55, 3) := by decide +kernel
theorem dX6_lineOff_5 : decode cX6_lineOff 5 = .ok (.istore_n 2, 1) := by decide +kernel
theorem dX6_lineOff_6 : decode cX6_lineOff 6 = .ok (.sipush 12300, 3) := by decide +kernel
theorem dX6_lineOff_9 : decode cX6_lineOff 9 = .ok (.bipush 96, 2) := by decide +kernel
theorem dX6_lineOff_11 : decode cX6_lineOff 11 = .ok (.iload_n 2, 1) := by decide +kernel
theorem dX6_lineOff_12 : decode cX6_lineOff 12 = .ok (.imul, 1) := by decide +kernel
theorem dX6_lineOff_13 : decode cX6_lineOff 13 = .ok (.iadd, 1) := by decide +kernel
theorem dX6_lineOff_14 : decode cX6_lineOff 14 = .ok (.istore_n 3, 1) := by decide +kernel
theorem dX6_lineOff_15 : decode cX6_lineOff 15 = .ok (.aload_n 0, 1) := by decide +kernel
theorem dX6_lineOff_16 : decode cX6_lineOff 16 = .ok (.iload_n 1, 1) := by decide +kernel
theorem dX6_lineOff_17 : decode cX6_lineOff 17 = .ok (.invokevirtual 59, 3) := by decide +kernel
theorem dX6_lineOff_20 : decode cX6_lineOff 20 = .ok (.istore 4, 2) := by decide +kernel
theorem dX6_lineOff_22 : decode cX6_lineOff 22 = .ok (.iload 4, 2) := by decide +kernel
theorem dX6_lineOff_24 : decode cX6_lineOff 24 = .ok (.iconst 1, 1) := by decide +kernel
theorem dX6_lineOff_25 : decode cX6_lineOff 25 = .ok (.iadd, 1) := by decide +kernel
theorem dX6_lineOff_26 : decode cX6_lineOff 26 = .ok (.aload_n 0, 1) := by decide +kernel
theorem dX6_lineOff_27 : decode cX6_lineOff 27 = .ok (.getfield 7, 3) := by decide +kernel
theorem dX6_lineOff_30 : decode cX6_lineOff 30 = .ok (.sipush 13068, 3) := by decide +kernel
theorem dX6_lineOff_33 : decode cX6_lineOff 33 = .ok (.iload_n 2, 1) := by decide +kernel
theorem dX6_lineOff_34 : decode cX6_lineOff 34 = .ok (.iadd, 1) := by decide +kernel
theorem dX6_lineOff_35 : decode cX6_lineOff 35 = .ok (.iaload, 1) := by decide +kernel
theorem dX6_lineOff_36 : decode cX6_lineOff 36 = .ok (.if_icmp .ge 29, 3) := by decide +kernel
theorem dX6_lineOff_39 : decode cX6_lineOff 39 = .ok (.aload_n 0, 1) := by decide +kernel
theorem dX6_lineOff_40 : decode cX6_lineOff 40 = .ok (.getfield 7, 3) := by decide +kernel
theorem dX6_lineOff_43 : decode cX6_lineOff 43 = .ok (.iload_n 3, 1) := by decide +kernel
theorem dX6_lineOff_44 : decode cX6_lineOff 44 = .ok (.iload 4, 2) := by decide +kernel
theorem dX6_lineOff_46 : decode cX6_lineOff 46 = .ok (.iadd, 1) := by decide +kernel
theorem dX6_lineOff_47 : decode cX6_lineOff 47 = .ok (.aload_n 0, 1) := by decide +kernel
theorem dX6_lineOff_48 : decode cX6_lineOff 48 = .ok (.getfield 7, 3) := by decide +kernel
theorem dX6_lineOff_51 : decode cX6_lineOff 51 = .ok (.iload_n 3, 1) := by decide +kernel
theorem dX6_lineOff_52 : decode cX6_lineOff 52 = .ok (.iload 4, 2) := by decide +kernel
theorem dX6_lineOff_54 : decode cX6_lineOff 54 = .ok (.iadd, 1) := by decide +kernel
theorem dX6_lineOff_55 : decode cX6_lineOff 55 = .ok (.iconst 1, 1) := by decide +kernel
theorem dX6_lineOff_56 : decode cX6_lineOff 56 = .ok (.iadd, 1) := by decide +kernel
theorem dX6_lineOff_57 : decode cX6_lineOff 57 = .ok (.iaload, 1) := by decide +kernel
theorem dX6_lineOff_58 : decode cX6_lineOff 58 = .ok (.iastore, 1) := by decide +kernel
theorem dX6_lineOff_59 : decode cX6_lineOff 59 = .ok (.iinc 4 1, 3) := by decide +kernel
theorem dX6_lineOff_62 : decode cX6_lineOff 62 = .ok (.goto (-40), 3) := by decide +kernel
theorem dX6_lineOff_65 : decode cX6_lineOff 65 = .ok (.aload_n 0, 1) := by decide +kernel
theorem dX6_lineOff_66 : decode cX6_lineOff 66 = .ok (.getfield 7, 3) := by decide +kernel
theorem dX6_lineOff_69 : decode cX6_lineOff 69 = .ok (.sipush 13068, 3) := by decide +kernel
theorem dX6_lineOff_72 : decode cX6_lineOff 72 = .ok (.iload_n 2, 1) := by decide +kernel
theorem dX6_lineOff_73 : decode cX6_lineOff 73 = .ok (.iadd, 1) := by decide +kernel
theorem dX6_lineOff_74 : decode cX6_lineOff 74 = .ok (.dup2, 1) := by decide +kernel
theorem dX6_lineOff_75 : decode cX6_lineOff 75 = .ok (.iaload, 1) := by decide +kernel
theorem dX6_lineOff_76 : decode cX6_lineOff 76 = .ok (.iconst 1, 1) := by decide +kernel
theorem dX6_lineOff_77 : decode cX6_lineOff 77 = .ok (.isub, 1) := by decide +kernel
theorem dX6_lineOff_78 : decode cX6_lineOff 78 = .ok (.iastore, 1) := by decide +kernel
theorem dX6_lineOff_79 : decode cX6_lineOff 79 = .ok (.return_, 1) := by decide +kernel
theorem dX6_child_0 : decode cX6_child 0 = .ok (.aload_n 0, 1) := by decide +kernel
theorem dX6_child_1 : decode cX6_child 1 = .ok (.getfield 7, 3) := by decide +kernel
theorem dX6_child_4 : decode cX6_child 4 = .ok (.sipush 3852, 3) := by decide +kernel
theorem dX6_child_7 : decode cX6_child 7 = .ok (.iload_n 1, 1) := by decide +kernel
theorem dX6_child_8 : decode cX6_child 8 = .ok (.iadd, 1) := by decide +kernel
theorem dX6_child_9 : decode cX6_child 9 = .ok (.iaload, 1) := by decide +kernel
theorem dX6_child_10 : decode cX6_child 10 = .ok (.istore 4, 2) := by decide +kernel
theorem dX6_child_12 : decode cX6_child 12 = .ok (.iload 4, 2) := by decide +kernel
theorem dX6_child_14 : decode cX6_child 14 = .ok (.iload_n 2, 1) := by decide +kernel
theorem dX6_child_15 : decode cX6_child 15 = .ok (.if_icmp .le 43, 3) := by decide +kernel
theorem dX6_child_18 : decode cX6_child 18 = .ok (.aload_n 0, 1) := by decide +kernel
theorem dX6_child_19 : decode cX6_child 19 = .ok (.getfield 7, 3) := by decide +kernel
theorem dX6_child_22 : decode cX6_child 22 = .ok (.sipush 4044, 3) := by decide +kernel
theorem dX6_child_25 : decode cX6_child 25 = .ok (.bipush 6, 2) := by decide +kernel
theorem dX6_child_27 : decode cX6_child 27 = .ok (.iload_n 1, 1) := by decide +kernel
theorem dX6_child_28 : decode cX6_child 28 = .ok (.imul, 1) := by decide +kernel
theorem dX6_child_29 : decode cX6_child 29 = .ok (.iadd, 1) := by decide +kernel
theorem dX6_child_30 : decode cX6_child 30 = .ok (.iload 4, 2) := by decide +kernel
theorem dX6_child_32 : decode cX6_child 32 = .ok (.iadd, 1) := by decide +kernel
theorem dX6_child_33 : decode cX6_child 33 = .ok (.aload_n 0, 1) := by decide +kernel
theorem dX6_child_34 : decode cX6_child 34 = .ok (.getfield 7, 3) := by decide +kernel
theorem dX6_child_37 : decode cX6_child 37 = .ok (.sipush 4044, 3) := by decide +kernel
theorem dX6_child_40 : decode cX6_child 40 = .ok (.bipush 6, 2) := by decide +kernel
theorem dX6_child_42 : decode cX6_child 42 = .ok (.iload_n 1, 1) := by decide +kernel
theorem dX6_child_43 : decode cX6_child 43 = .ok (.imul, 1) := by decide +kernel
theorem dX6_child_44 : decode cX6_child 44 = .ok (.iadd, 1) := by decide +kernel
theorem dX6_child_45 : decode cX6_child 45 = .ok (.iload 4, 2) := by decide +kernel
theorem dX6_child_47 : decode cX6_child 47 = .ok (.iadd, 1) := by decide +kernel
theorem dX6_child_48 : decode cX6_child 48 = .ok (.iconst 1, 1) := by decide +kernel
theorem dX6_child_49 : decode cX6_child 49 = .ok (.isub, 1) := by decide +kernel
theorem dX6_child_50 : decode cX6_child 50 = .ok (.iaload, 1) := by decide +kernel
theorem dX6_child_51 : decode cX6_child 51 = .ok (.iastore, 1) := by decide +kernel
theorem dX6_child_52 : decode cX6_child 52 = .ok (.iinc 4 (-1), 3) := by decide +kernel
theorem dX6_child_55 : decode cX6_child 55 = .ok (.goto (-43), 3) := by decide +kernel
theorem dX6_child_58 : decode cX6_child 58 = .ok (.aload_n 0, 1) := by decide +kernel
theorem dX6_child_59 : decode cX6_child 59 = .ok (.getfield 7, 3) := by decide +kernel
theorem dX6_child_62 : decode cX6_child 62 = .ok (.sipush 4044, 3) := by decide +kernel
theorem dX6_child_65 : decode cX6_child 65 = .ok (.bipush 6, 2) := by decide +kernel
theorem dX6_child_67 : decode cX6_child 67 = .ok (.iload_n 1, 1) := by decide +kernel
theorem dX6_child_68 : decode cX6_child 68 = .ok (.imul, 1) := by decide +kernel
theorem dX6_child_69 : decode cX6_child 69 = .ok (.iadd, 1) := by decide +kernel
theorem dX6_child_70 : decode cX6_child 70 = .ok (.iload_n 2, 1) := by decide +kernel
theorem dX6_child_71 : decode cX6_child 71 = .ok (.iadd, 1) := by decide +kernel
theorem dX6_child_72 : decode cX6_child 72 = .ok (.iload_n 3, 1) := by decide +kernel
theorem dX6_child_73 : decode cX6_child 73 = .ok (.iastore, 1) := by decide +kernel
theorem dX6_child_74 : decode cX6_child 74 = .ok (.aload_n 0, 1) := by decide +kernel
theorem dX6_child_75 : decode cX6_child 75 = .ok (.getfield 7, 3) := by decide +kernel
theorem dX6_child_78 : decode cX6_child 78 = .ok (.sipush 3852, 3) := by decide +kernel
theorem dX6_child_81 : decode cX6_child 81 = .ok (.iload_n 1, 1) := by decide +kernel
theorem dX6_child_82 : decode cX6_child 82 = .ok (.iadd, 1) := by decide +kernel
theorem dX6_child_83 : decode cX6_child 83 = .ok (.dup2, 1) := by decide +kernel
theorem dX6_child_84 : decode cX6_child 84 = .ok (.iaload, 1) := by decide +kernel
theorem dX6_child_85 : decode cX6_child 85 = .ok (.iconst 1, 1) := by decide +kernel
theorem dX6_child_86 : decode cX6_child 86 = .ok (.iadd, 1) := by decide +kernel
theorem dX6_child_87 : decode cX6_child 87 = .ok (.iastore, 1) := by decide +kernel
theorem dX6_child_88 : decode cX6_child 88 = .ok (.aload_n 0, 1) := by decide +kernel
theorem dX6_child_89 : decode cX6_child 89 = .ok (.getfield 7, 3) := by decide +kernel
theorem dX6_child_92 : decode cX6_child 92 = .ok (.sipush 3948, 3) := by decide +kernel
theorem dX6_child_95 : decode cX6_child 95 = .ok (.iload_n 3, 1) := by decide +kernel
theorem dX6_child_96 : decode cX6_child 96 = .ok (.iadd, 1) := by decide +kernel
theorem dX6_child_97 : decode cX6_child 97 = .ok (.iload_n 1, 1) := by decide +kernel
theorem dX6_child_98 : decode cX6_child 98 = .ok (.iastore, 1) := by decide +kernel
theorem dX6_child_99 : decode cX6_child 99 = .ok (.return_, 1) := by decide +kernel
theorem dX6_childPlace_0 : decode cX6_childPlace 0 = .ok (.iconst 0, 1) := by decide +kernel
theorem dX6_childPlace_1 : decode cX6_childPlace 1 = .ok (.istore_n 3, 1) := by decide +kernel
theorem dX6_childPlace_2 : decode cX6_childPlace 2 = .ok (.aload_n 0, 1) := by decide +kernel
theorem dX6_childPlace_3 : decode cX6_childPlace 3 = .ok (.getfield 7, 3) := by decide +kernel
theorem dX6_childPlace_6 : decode cX6_childPlace 6 = .ok (.sipush 4044, 3) := by decide +kernel
theorem dX6_childPlace_9 : decode cX6_childPlace 9 = .ok (.bipush 6, 2) := by decide +kernel
theorem dX6_childPlace_11 : decode cX6_childPlace 11 = .ok (.iload_n 1, 1) := by decide +kernel
theorem dX6_childPlace_12 : decode cX6_childPlace 12 = .ok (.imul, 1) := by decide +kernel
theorem dX6_childPlace_13 : decode cX6_childPlace 13 = .ok (.iadd, 1) := by decide +kernel
theorem dX6_childPlace_14 : decode cX6_childPlace 14 = .ok (.iload_n 3, 1) := by decide +kernel
theorem dX6_childPlace_15 : decode cX6_childPlace 15 = .ok (.iadd, 1) := by decide +kernel
theorem dX6_childPlace_16 : decode cX6_childPlace 16 = .ok (.iaload, 1) := by decide +kernel
theorem dX6_childPlace_17 : decode cX6_childPlace 17 = .ok (.iload_n 2, 1) := by decide +kernel
theorem dX6_childPlace_18 : decode cX6_childPlace 18 = .ok (.if_icmp .eq 9, 3) := by decide +kernel
theorem dX6_childPlace_21 : decode cX6_childPlace 21 = .ok (.iinc 3 1, 3) := by decide +kernel
theorem dX6_childPlace_24 : decode cX6_childPlace 24 = .ok (.goto (-22), 3) := by decide +kernel
theorem dX6_childPlace_27 : decode cX6_childPlace 27 = .ok (.iload_n 3, 1) := by decide +kernel
theorem dX6_childPlace_28 : decode cX6_childPlace 28 = .ok (.ireturn, 1) := by decide +kernel
theorem dX6_takeChild_0 : decode cX6_takeChild 0 = .ok (.aload_n 0, 1) := by decide +kernel
theorem dX6_takeChild_1 : decode cX6_takeChild 1 = .ok (.getfield 7, 3) := by decide +kernel
theorem dX6_takeChild_4 : decode cX6_takeChild 4 = .ok (.sipush 4044, 3) := by decide +kernel
theorem dX6_takeChild_7 : decode cX6_takeChild 7 = .ok (.bipush 6, 2) := by decide +kernel
theorem dX6_takeChild_9 : decode cX6_takeChild 9 = .ok (.iload_n 1, 1) := by decide +kernel
theorem dX6_takeChild_10 : decode cX6_takeChild 10 = .ok (.imul, 1) := by decide +kernel
theorem dX6_takeChild_11 : decode cX6_takeChild 11 = .ok (.iadd, 1) := by decide +kernel
theorem dX6_takeChild_12 : decode cX6_takeChild 12 = .ok (.iload_n 2, 1) := by decide +kernel
theorem dX6_takeChild_13 : decode cX6_takeChild 13 = .ok (.iadd, 1) := by decide +kernel
theorem dX6_takeChild_14 : decode cX6_takeChild 14 = .ok (.iaload, 1) := by decide +kernel
theorem dX6_takeChild_15 : decode cX6_takeChild 15 = .ok (.istore_n 3, 1) := by decide +kernel
theorem dX6_takeChild_16 : decode cX6_takeChild 16 = .ok (.iload_n 2, 1) := by decide +kernel
theorem dX6_takeChild_17 : decode cX6_takeChild 17 = .ok (.istore 4, 2) := by decide +kernel
theorem dX6_takeChild_19 : decode cX6_takeChild 19 = .ok (.iload 4, 2) := by decide +kernel
theorem dX6_takeChild_21 : decode cX6_takeChild 21 = .ok (.iconst 1, 1) := by decide +kernel
theorem dX6_takeChild_22 : decode cX6_takeChild 22 = .ok (.iadd, 1) := by decide +kernel
theorem dX6_takeChild_23 : decode cX6_takeChild 23 = .ok (.aload_n 0, 1) := by decide +kernel
theorem dX6_takeChild_24 : decode cX6_takeChild 24 = .ok (.getfield 7, 3) := by decide +kernel
theorem dX6_takeChild_27 : decode cX6_takeChild 27 = .ok (.sipush 3852, 3) := by decide +kernel
theorem dX6_takeChild_30 : decode cX6_takeChild 30 = .ok (.iload_n 1, 1) := by decide +kernel
theorem dX6_takeChild_31 : decode cX6_takeChild 31 = .ok (.iadd, 1) := by decide +kernel
theorem dX6_takeChild_32 : decode cX6_takeChild 32 = .ok (.iaload, 1) := by decide +kernel
theorem dX6_takeChild_33 : decode cX6_takeChild 33 = .ok (.if_icmp .ge 43, 3) := by decide +kernel
theorem dX6_takeChild_36 : decode cX6_takeChild 36 = .ok (.aload_n 0, 1) := by decide +kernel
theorem dX6_takeChild_37 : decode cX6_takeChild 37 = .ok (.getfield 7, 3) := by decide +kernel
theorem dX6_takeChild_40 : decode cX6_takeChild 40 = .ok (.sipush 4044, 3) := by decide +kernel
theorem dX6_takeChild_43 : decode cX6_takeChild 43 = .ok (.bipush 6, 2) := by decide +kernel
theorem dX6_takeChild_45 : decode cX6_takeChild 45 = .ok (.iload_n 1, 1) := by decide +kernel
theorem dX6_takeChild_46 : decode cX6_takeChild 46 = .ok (.imul, 1) := by decide +kernel
theorem dX6_takeChild_47 : decode cX6_takeChild 47 = .ok (.iadd, 1) := by decide +kernel
theorem dX6_takeChild_48 : decode cX6_takeChild 48 = .ok (.iload 4, 2) := by decide +kernel
theorem dX6_takeChild_50 : decode cX6_takeChild 50 = .ok (.iadd, 1) := by decide +kernel
theorem dX6_takeChild_51 : decode cX6_takeChild 51 = .ok (.aload_n 0, 1) := by decide +kernel
theorem dX6_takeChild_52 : decode cX6_takeChild 52 = .ok (.getfield 7, 3) := by decide +kernel
theorem dX6_takeChild_55 : decode cX6_takeChild 55 = .ok (.sipush 4044, 3) := by decide +kernel
theorem dX6_takeChild_58 : decode cX6_takeChild 58 = .ok (.bipush 6, 2) := by decide +kernel
theorem dX6_takeChild_60 : decode cX6_takeChild 60 = .ok (.iload_n 1, 1) := by decide +kernel
theorem dX6_takeChild_61 : decode cX6_takeChild 61 = .ok (.imul, 1) := by decide +kernel
theorem dX6_takeChild_62 : decode cX6_takeChild 62 = .ok (.iadd, 1) := by decide +kernel
theorem dX6_takeChild_63 : decode cX6_takeChild 63 = .ok (.iload 4, 2) := by decide +kernel
theorem dX6_takeChild_65 : decode cX6_takeChild 65 = .ok (.iadd, 1) := by decide +kernel
theorem dX6_takeChild_66 : decode cX6_takeChild 66 = .ok (.iconst 1, 1) := by decide +kernel
theorem dX6_takeChild_67 : decode cX6_takeChild 67 = .ok (.iadd, 1) := by decide +kernel
theorem dX6_takeChild_68 : decode cX6_takeChild 68 = .ok (.iaload, 1) := by decide +kernel
theorem dX6_takeChild_69 : decode cX6_takeChild 69 = .ok (.iastore, 1) := by decide +kernel
theorem dX6_takeChild_70 : decode cX6_takeChild 70 = .ok (.iinc 4 1, 3) := by decide +kernel
theorem dX6_takeChild_73 : decode cX6_takeChild 73 = .ok (.goto (-54), 3) := by decide +kernel
theorem dX6_takeChild_76 : decode cX6_takeChild 76 = .ok (.aload_n 0, 1) := by decide +kernel
theorem dX6_takeChild_77 : decode cX6_takeChild 77 = .ok (.getfield 7, 3) := by decide +kernel
theorem dX6_takeChild_80 : decode cX6_takeChild 80 = .ok (.sipush 3852, 3) := by decide +kernel
theorem dX6_takeChild_83 : decode cX6_takeChild 83 = .ok (.iload_n 1, 1) := by decide +kernel
theorem dX6_takeChild_84 : decode cX6_takeChild 84 = .ok (.iadd, 1) := by decide +kernel
theorem dX6_takeChild_85 : decode cX6_takeChild 85 = .ok (.dup2, 1) := by decide +kernel
theorem dX6_takeChild_86 : decode cX6_takeChild 86 = .ok (.iaload, 1) := by decide +kernel
theorem dX6_takeChild_87 : decode cX6_takeChild 87 = .ok (.iconst 1, 1) := by decide +kernel
theorem dX6_takeChild_88 : decode cX6_takeChild 88 = .ok (.isub, 1) := by decide +kernel
theorem dX6_takeChild_89 : decode cX6_takeChild 89 = .ok (.iastore, 1) := by decide +kernel
theorem dX6_takeChild_90 : decode cX6_takeChild 90 = .ok (.iload_n 3, 1) := by decide +kernel
theorem dX6_takeChild_91 : decode cX6_takeChild 91 = .ok (.ireturn, 1) := by decide +kernel
theorem dX6_added_0 : decode cX6_added 0 = .ok (.iload_n 1, 1) := by decide +kernel
theorem dX6_added_1 : decode cX6_added 1 = .ok (.istore_n 3, 1) := by decide +kernel
theorem dX6_added_2 : decode cX6_added 2 = .ok (.iload_n 2, 1) := by decide +kernel
theorem dX6_added_3 : decode cX6_added 3 = .ok (.istore 4, 2) := by decide +kernel
theorem dX6_added_5 : decode cX6_added 5 = .ok (.aload_n 0, 1) := by decide +kernel
theorem dX6_added_6 : decode cX6_added 6 = .ok (.getfield 51, 3) := by decide +kernel
theorem dX6_added_9 : decode cX6_added 9 = .ok (.ifCond .ne 267, 3) := by decide +kernel
theorem dX6_added_12 : decode cX6_added 12 = .ok (.aload_n 0, 1) := by decide +kernel
theorem dX6_added_13 : decode cX6_added 13 = .ok (.getfield 7, 3) := by decide +kernel
theorem dX6_added_16 : decode cX6_added 16 = .ok (.sipush 3948, 3) := by decide +kernel
theorem dX6_added_19 : decode cX6_added 19 = .ok (.iload_n 3, 1) := by decide +kernel
theorem dX6_added_20 : decode cX6_added 20 = .ok (.iadd, 1) := by decide +kernel
theorem dX6_added_21 : decode cX6_added 21 = .ok (.iaload, 1) := by decide +kernel
theorem dX6_added_22 : decode cX6_added 22 = .ok (.istore 5, 2) := by decide +kernel
theorem dX6_added_24 : decode cX6_added 24 = .ok (.iload 5, 2) := by decide +kernel
theorem dX6_added_26 : decode cX6_added 26 = .ok (.iconst (-1), 1) := by decide +kernel
theorem dX6_added_27 : decode cX6_added 27 = .ok (.if_icmp .ne 121, 3) := by decide +kernel
theorem dX6_added_30 : decode cX6_added 30 = .ok (.aload_n 0, 1) := by decide +kernel
theorem dX6_added_31 : decode cX6_added 31 = .ok (.invokevirtual 62, 3) := by decide +kernel
theorem dX6_added_34 : decode cX6_added 34 = .ok (.istore 6, 2) := by decide +kernel
theorem dX6_added_36 : decode cX6_added 36 = .ok (.aload_n 0, 1) := by decide +kernel
theorem dX6_added_37 : decode cX6_added 37 = .ok (.getfield 51, 3) := by decide +kernel
theorem dX6_added_40 : decode cX6_added 40 = .ok (.ifCond .eq 4, 3) := by decide +kernel
theorem dX6_added_43 : decode cX6_added 43 = .ok (.return_, 1) := by decide +kernel
theorem dX6_added_44 : decode cX6_added 44 = .ok (.aload_n 0, 1) := by decide +kernel
theorem dX6_added_45 : decode cX6_added 45 = .ok (.iload_n 3, 1) := by decide +kernel
theorem dX6_added_46 : decode cX6_added 46 = .ok (.invokevirtual 55, 3) := by decide +kernel
theorem dX6_added_49 : decode cX6_added 49 = .ok (.iconst 1, 1) := by decide +kernel
theorem dX6_added_50 : decode cX6_added 50 = .ok (.iadd, 1) := by decide +kernel
theorem dX6_added_51 : decode cX6_added 51 = .ok (.istore 7, 2) := by decide +kernel
theorem dX6_added_53 : decode cX6_added 53 = .ok (.aload_n 0, 1) := by decide +kernel
theorem dX6_added_54 : decode cX6_added 54 = .ok (.getfield 7, 3) := by decide +kernel
theorem dX6_added_57 : decode cX6_added 57 = .ok (.sipush 3756, 3) := by decide +kernel
theorem dX6_added_60 : decode cX6_added 60 = .ok (.iload 6, 2) := by decide +kernel
theorem dX6_added_62 : decode cX6_added 62 = .ok (.iadd, 1) := by decide +kernel
theorem dX6_added_63 : decode cX6_added 63 = .ok (.iload 7, 2) := by decide +kernel
theorem dX6_added_65 : decode cX6_added 65 = .ok (.iconst 1, 1) := by decide +kernel
theorem dX6_added_66 : decode cX6_added 66 = .ok (.iadd, 1) := by decide +kernel
theorem dX6_added_67 : decode cX6_added 67 = .ok (.iastore, 1) := by decide +kernel
theorem dX6_added_68 : decode cX6_added 68 = .ok (.aload_n 0, 1) := by decide +kernel
theorem dX6_added_69 : decode cX6_added 69 = .ok (.getfield 7, 3) := by decide +kernel
theorem dX6_added_72 : decode cX6_added 72 = .ok (.sipush 3948, 3) := by decide +kernel
theorem dX6_added_75 : decode cX6_added 75 = .ok (.iload 6, 2) := by decide +kernel
theorem dX6_added_77 : decode cX6_added 77 = .ok (.iadd, 1) := by decide +kernel
theorem dX6_added_78 : decode cX6_added 78 = .ok (.iconst (-1), 1) := by decide +kernel
theorem dX6_added_79 : decode cX6_added 79 = .ok (.iastore, 1) := by decide +kernel
theorem dX6_added_80 : decode cX6_added 80 = .ok (.aload_n 0, 1) := by decide +kernel
theorem dX6_added_81 : decode cX6_added 81 = .ok (.iload 6, 2) := by decide +kernel
theorem dX6_added_83 : decode cX6_added 83 = .ok (.iconst 0, 1) := by decide +kernel
theorem dX6_added_84 : decode cX6_added 84 = .ok (.iload_n 3, 1) := by decide +kernel
theorem dX6_added_85 : decode cX6_added 85 = .ok (.invokevirtual 66, 3) := by decide +kernel
theorem dX6_added_88 : decode cX6_added 88 = .ok (.aload_n 0, 1) := by decide +kernel
theorem dX6_added_89 : decode cX6_added 89 = .ok (.iload 6, 2) := by decide +kernel
theorem dX6_added_91 : decode cX6_added 91 = .ok (.iconst 1, 1) := by decide +kernel
theorem dX6_added_92 : decode cX6_added 92 = .ok (.iload 4, 2) := by decide +kernel
theorem dX6_added_94 : decode cX6_added 94 = .ok (.invokevirtual 66, 3) := by decide +kernel
theorem dX6_added_97 : decode cX6_added 97 = .ok (.aload_n 0, 1) := by decide +kernel
theorem dX6_added_98 : decode cX6_added 98 = .ok (.getfield 7, 3) := by decide +kernel
theorem dX6_added_101 : decode cX6_added 101 = .ok (.sipush 12300, 3) := by decide +kernel
theorem dX6_added_104 : decode cX6_added 104 = .ok (.bipush 96, 2) := by decide +kernel
theorem dX6_added_106 : decode cX6_added 106 = .ok (.iload 7, 2) := by decide +kernel
theorem dX6_added_108 : decode cX6_added 108 = .ok (.imul, 1) := by decide +kernel
theorem dX6_added_109 : decode cX6_added 109 = .ok (.iadd, 1) := by decide +kernel
theorem dX6_added_110 : decode cX6_added 110 = .ok (.iload 6, 2) := by decide +kernel
theorem dX6_added_112 : decode cX6_added 112 = .ok (.iastore, 1) := by decide +kernel
theorem dX6_added_113 : decode cX6_added 113 = .ok (.aload_n 0, 1) := by decide +kernel
theorem dX6_added_114 : decode cX6_added 114 = .ok (.getfield 7, 3) := by decide +kernel
theorem dX6_added_117 : decode cX6_added 117 = .ok (.sipush 13068, 3) := by decide +kernel
theorem dX6_added_120 : decode cX6_added 120 = .ok (.iload 7, 2) := by decide +kernel
theorem dX6_added_122 : decode cX6_added 122 = .ok (.iadd, 1) := by decide +kernel
theorem dX6_added_123 : decode cX6_added 123 = .ok (.iconst 1, 1) := by decide +kernel
theorem dX6_added_124 : decode cX6_added 124 = .ok (.iastore, 1) := by decide +kernel
theorem dX6_added_125 : decode cX6_added 125 = .ok (.aload_n 0, 1) := by decide +kernel
theorem dX6_added_126 : decode cX6_added 126 = .ok (.getfield 7, 3) := by decide +kernel
theorem dX6_added_129 : decode cX6_added 129 = .ok (.sipush 13076, 3) := by decide +kernel
theorem dX6_added_132 : decode cX6_added 132 = .ok (.iload 6, 2) := by decide +kernel
theorem dX6_added_134 : decode cX6_added 134 = .ok (.iastore, 1) := by decide +kernel
theorem dX6_added_135 : decode cX6_added 135 = .ok (.aload_n 0, 1) := by decide +kernel
theorem dX6_added_136 : decode cX6_added 136 = .ok (.getfield 7, 3) := by decide +kernel
theorem dX6_added_139 : decode cX6_added 139 = .ok (.sipush 13077, 3) := by decide +kernel
theorem dX6_added_142 : decode cX6_added 142 = .ok (.dup2, 1) := by decide +kernel
theorem dX6_added_143 : decode cX6_added 143 = .ok (.iaload, 1) := by decide +kernel
theorem dX6_added_144 : decode cX6_added 144 = .ok (.iconst 1, 1) := by decide +kernel
theorem dX6_added_145 : decode cX6_added 145 = .ok (.iadd, 1) := by decide +kernel
theorem dX6_added_146 : decode cX6_added 146 = .ok (.iastore, 1) := by decide +kernel
theorem dX6_added_147 : decode cX6_added 147 = .ok (.return_, 1) := by decide +kernel
theorem dX6_added_148 : decode cX6_added 148 = .ok (.aload_n 0, 1) := by decide +kernel
theorem dX6_added_149 : decode cX6_added 149 = .ok (.iload 5, 2) := by decide +kernel
theorem dX6_added_151 : decode cX6_added 151 = .ok (.aload_n 0, 1) := by decide +kernel
theorem dX6_added_152 : decode cX6_added 152 = .ok (.iload 5, 2) := by decide +kernel
theorem dX6_added_154 : decode cX6_added 154 = .ok (.iload_n 3, 1) := by decide +kernel
theorem dX6_added_155 : decode cX6_added 155 = .ok (.invokevirtual 70, 3) := by decide +kernel
theorem dX6_added_158 : decode cX6_added 158 = .ok (.iconst 1, 1) := by decide +kernel
theorem dX6_added_159 : decode cX6_added 159 = .ok (.iadd, 1) := by decide +kernel
theorem dX6_added_160 : decode cX6_added 160 = .ok (.iload 4, 2) := by decide +kernel
theorem dX6_added_162 : decode cX6_added 162 = .ok (.invokevirtual 66, 3) := by decide +kernel
theorem dX6_added_165 : decode cX6_added 165 = .ok (.aload_n 0, 1) := by decide +kernel
theorem dX6_added_166 : decode cX6_added 166 = .ok (.getfield 7, 3) := by decide +kernel
theorem dX6_added_169 : decode cX6_added 169 = .ok (.sipush 3852, 3) := by decide +kernel
theorem dX6_added_172 : decode cX6_added 172 = .ok (.iload 5, 2) := by decide +kernel
theorem dX6_added_174 : decode cX6_added 174 = .ok (.iadd, 1) := by decide +kernel
theorem dX6_added_175 : decode cX6_added 175 = .ok (.iaload, 1) := by decide +kernel
theorem dX6_added_176 : decode cX6_added 176 = .ok (.iconst 5, 1) := by decide +kernel
theorem dX6_added_177 : decode cX6_added 177 = .ok (.if_icmp .gt 4, 3) := by decide +kernel
theorem dX6_added_180 : decode cX6_added 180 = .ok (.return_, 1) := by decide +kernel
theorem dX6_added_181 : decode cX6_added 181 = .ok (.aload_n 0, 1) := by decide +kernel
theorem dX6_added_182 : decode cX6_added 182 = .ok (.invokevirtual 62, 3) := by decide +kernel
theorem dX6_added_185 : decode cX6_added 185 = .ok (.istore 6, 2) := by decide +kernel
theorem dX6_added_187 : decode cX6_added 187 = .ok (.aload_n 0, 1) := by decide +kernel
theorem dX6_added_188 : decode cX6_added 188 = .ok (.getfield 51, 3) := by decide +kernel
theorem dX6_added_191 : decode cX6_added 191 = .ok (.ifCond .eq 4, 3) := by decide +kernel
theorem dX6_added_194 : decode cX6_added 194 = .ok (.return_, 1) := by decide +kernel
theorem dX6_added_195 : decode cX6_added 195 = .ok (.aload_n 0, 1) := by decide +kernel
theorem dX6_added_196 : decode cX6_added 196 = .ok (.getfield 7, 3) := by decide +kernel
theorem dX6_added_199 : decode cX6_added 199 = .ok (.sipush 3756, 3) := by decide +kernel
theorem dX6_added_202 : decode cX6_added 202 = .ok (.iload 6, 2) := by decide +kernel
theorem dX6_added_204 : decode cX6_added 204 = .ok (.iadd, 1) := by decide +kernel
theorem dX6_added_205 : decode cX6_added 205 = .ok (.aload_n 0, 1) := by decide +kernel
theorem dX6_added_206 : decode cX6_added 206 = .ok (.getfield 7, 3) := by decide +kernel
theorem dX6_added_209 : decode cX6_added 209 = .ok (.sipush 3756, 3) := by decide +kernel
theorem dX6_added_212 : decode cX6_added 212 = .ok (.iload 5, 2) := by decide +kernel
theorem dX6_added_214 : decode cX6_added 214 = .ok (.iadd, 1) := by decide +kernel
theorem dX6_added_215 : decode cX6_added 215 = .ok (.iaload, 1) := by decide +kernel
theorem dX6_added_216 : decode cX6_added 216 = .ok (.iastore, 1) := by decide +kernel
theorem dX6_added_217 : decode cX6_added 217 = .ok (.iconst 0, 1) := by decide +kernel
theorem dX6_added_218 : decode cX6_added 218 = .ok (.istore 7, 2) := by decide +kernel
theorem dX6_added_220 : decode cX6_added 220 = .ok (.iload 7, 2) := by decide +kernel
theorem dX6_added_222 : decode cX6_added 222 = .ok (.iconst 3, 1) := by decide +kernel
theorem dX6_added_223 : decode cX6_added 223 = .ok (.if_icmp .ge 35, 3) := by decide +kernel
theorem dX6_added_226 : decode cX6_added 226 = .ok (.aload_n 0, 1) := by decide +kernel
theorem dX6_added_227 : decode cX6_added 227 = .ok (.iload 6, 2) := by decide +kernel
theorem dX6_added_229 : decode cX6_added 229 = .ok (.iconst 0, 1) := by decide +kernel
theorem dX6_added_230 : decode cX6_added 230 = .ok (.aload_n 0, 1) := by decide +kernel
theorem dX6_added_231 : decode cX6_added 231 = .ok (.iload 5, 2) := by decide +kernel
theorem dX6_added_233 : decode cX6_added 233 = .ok (.aload_n 0, 1) := by decide +kernel
theorem dX6_added_234 : decode cX6_added 234 = .ok (.getfield 7, 3) := by decide +kernel
theorem dX6_added_237 : decode cX6_added 237 = .ok (.sipush 3852, 3) := by decide +kernel
theorem dX6_added_240 : decode cX6_added 240 = .ok (.iload 5, 2) := by decide +kernel
theorem dX6_added_242 : decode cX6_added 242 = .ok (.iadd, 1) := by decide +kernel
theorem dX6_added_243 : decode cX6_added 243 = .ok (.iaload, 1) := by decide +kernel
theorem dX6_added_244 : decode cX6_added 244 = .ok (.iconst 1, 1) := by decide +kernel
theorem dX6_added_245 : decode cX6_added 245 = .ok (.isub, 1) := by decide +kernel
theorem dX6_added_246 : decode cX6_added 246 = .ok (.invokevirtual 74, 3) := by decide +kernel
theorem dX6_added_249 : decode cX6_added 249 = .ok (.invokevirtual 66, 3) := by decide +kernel
theorem dX6_added_252 : decode cX6_added 252 = .ok (.iinc 7 1, 3) := by decide +kernel
theorem dX6_added_255 : decode cX6_added 255 = .ok (.goto (-35), 3) := by decide +kernel
theorem dX6_added_258 : decode cX6_added 258 = .ok (.aload_n 0, 1) := by decide +kernel
theorem dX6_added_259 : decode cX6_added 259 = .ok (.iload 6, 2) := by decide +kernel
theorem dX6_added_261 : decode cX6_added 261 = .ok (.iload 5, 2) := by decide +kernel
theorem dX6_added_263 : decode cX6_added 263 = .ok (.invokevirtual 77, 3) := by decide +kernel
theorem dX6_added_266 : decode cX6_added 266 = .ok (.iload 5, 2) := by decide +kernel
theorem dX6_added_268 : decode cX6_added 268 = .ok (.istore_n 3, 1) := by decide +kernel
theorem dX6_added_269 : decode cX6_added 269 = .ok (.iload 6, 2) := by decide +kernel
theorem dX6_added_271 : decode cX6_added 271 = .ok (.istore 4, 2) := by decide +kernel
theorem dX6_added_273 : decode cX6_added 273 = .ok (.goto (-268), 3) := by decide +kernel
theorem dX6_added_276 : decode cX6_added 276 = .ok (.return_, 1) := by decide +kernel
theorem dX6_gone_0 : decode cX6_gone 0 = .ok (.iload_n 1, 1) := by decide +kernel
theorem dX6_gone_1 : decode cX6_gone 1 = .ok (.istore_n 2, 1) := by decide +kernel
theorem dX6_gone_2 : decode cX6_gone 2 = .ok (.aload_n 0, 1) := by decide +kernel
theorem dX6_gone_3 : decode cX6_gone 3 = .ok (.getfield 7, 3) := by decide +kernel
theorem dX6_gone_6 : decode cX6_gone 6 = .ok (.sipush 3948, 3) := by decide +kernel
theorem dX6_gone_9 : decode cX6_gone 9 = .ok (.iload_n 2, 1) := by decide +kernel
theorem dX6_gone_10 : decode cX6_gone 10 = .ok (.iadd, 1) := by decide +kernel
theorem dX6_gone_11 : decode cX6_gone 11 = .ok (.iaload, 1) := by decide +kernel
theorem dX6_gone_12 : decode cX6_gone 12 = .ok (.istore_n 3, 1) := by decide +kernel
theorem dX6_gone_13 : decode cX6_gone 13 = .ok (.aload_n 0, 1) := by decide +kernel
theorem dX6_gone_14 : decode cX6_gone 14 = .ok (.iload_n 2, 1) := by decide +kernel
theorem dX6_gone_15 : decode cX6_gone 15 = .ok (.invokevirtual 81, 3) := by decide +kernel
theorem dX6_gone_18 : decode cX6_gone 18 = .ok (.aload_n 0, 1) := by decide +kernel
theorem dX6_gone_19 : decode cX6_gone 19 = .ok (.iload_n 2, 1) := by decide +kernel
theorem dX6_gone_20 : decode cX6_gone 20 = .ok (.invokevirtual 85, 3) := by decide +kernel
theorem dX6_gone_23 : decode cX6_gone 23 = .ok (.aload_n 0, 1) := by decide +kernel
theorem dX6_gone_24 : decode cX6_gone 24 = .ok (.iload_n 3, 1) := by decide +kernel
theorem dX6_gone_25 : decode cX6_gone 25 = .ok (.aload_n 0, 1) := by decide +kernel
theorem dX6_gone_26 : decode cX6_gone 26 = .ok (.iload_n 3, 1) := by decide +kernel
theorem dX6_gone_27 : decode cX6_gone 27 = .ok (.iload_n 2, 1) := by decide +kernel
theorem dX6_gone_28 : decode cX6_gone 28 = .ok (.invokevirtual 70, 3) := by decide +kernel
theorem dX6_gone_31 : decode cX6_gone 31 = .ok (.invokevirtual 74, 3) := by decide +kernel
theorem dX6_gone_34 : decode cX6_gone 34 = .ok (.istore 4, 2) := by decide +kernel
theorem dX6_gone_36 : decode cX6_gone 36 = .ok (.aload_n 0, 1) := by decide +kernel
theorem dX6_gone_37 : decode cX6_gone 37 = .ok (.getfield 7, 3) := by decide +kernel
theorem dX6_gone_40 : decode cX6_gone 40 = .ok (.sipush 3852, 3) := by decide +kernel
theorem dX6_gone_43 : decode cX6_gone 43 = .ok (.iload_n 3, 1) := by decide +kernel
theorem dX6_gone_44 : decode cX6_gone 44 = .ok (.iadd, 1) := by decide +kernel
theorem dX6_gone_45 : decode cX6_gone 45 = .ok (.iaload, 1) := by decide +kernel
theorem dX6_gone_46 : decode cX6_gone 46 = .ok (.iconst 1, 1) := by decide +kernel
theorem dX6_gone_47 : decode cX6_gone 47 = .ok (.if_icmp .le 4, 3) := by decide +kernel
theorem dX6_gone_50 : decode cX6_gone 50 = .ok (.return_, 1) := by decide +kernel
theorem dX6_gone_51 : decode cX6_gone 51 = .ok (.aload_n 0, 1) := by decide +kernel
theorem dX6_gone_52 : decode cX6_gone 52 = .ok (.getfield 7, 3) := by decide +kernel
theorem dX6_gone_55 : decode cX6_gone 55 = .ok (.sipush 4044, 3) := by decide +kernel
theorem dX6_gone_58 : decode cX6_gone 58 = .ok (.bipush 6, 2) := by decide +kernel
theorem dX6_gone_60 : decode cX6_gone 60 = .ok (.iload_n 3, 1) := by decide +kernel
theorem dX6_gone_61 : decode cX6_gone 61 = .ok (.imul, 1) := by decide +kernel
theorem dX6_gone_62 : decode cX6_gone 62 = .ok (.iadd, 1) := by decide +kernel
theorem dX6_gone_63 : decode cX6_gone 63 = .ok (.iaload, 1) := by decide +kernel
theorem dX6_gone_64 : decode cX6_gone 64 = .ok (.istore 5, 2) := by decide +kernel
theorem dX6_gone_66 : decode cX6_gone 66 = .ok (.aload_n 0, 1) := by decide +kernel
theorem dX6_gone_67 : decode cX6_gone 67 = .ok (.getfield 7, 3) := by decide +kernel
theorem dX6_gone_70 : decode cX6_gone 70 = .ok (.sipush 3948, 3) := by decide +kernel
theorem dX6_gone_73 : decode cX6_gone 73 = .ok (.iload_n 3, 1) := by decide +kernel
theorem dX6_gone_74 : decode cX6_gone 74 = .ok (.iadd, 1) := by decide +kernel
theorem dX6_gone_75 : decode cX6_gone 75 = .ok (.iaload, 1) := by decide +kernel
theorem dX6_gone_76 : decode cX6_gone 76 = .ok (.iconst (-1), 1) := by decide +kernel
theorem dX6_gone_77 : decode cX6_gone 77 = .ok (.if_icmp .ne 58, 3) := by decide +kernel
theorem dX6_gone_80 : decode cX6_gone 80 = .ok (.aload_n 0, 1) := by decide +kernel
theorem dX6_gone_81 : decode cX6_gone 81 = .ok (.getfield 7, 3) := by decide +kernel
theorem dX6_gone_84 : decode cX6_gone 84 = .ok (.sipush 13068, 3) := by decide +kernel
theorem dX6_gone_87 : decode cX6_gone 87 = .ok (.aload_n 0, 1) := by decide +kernel
theorem dX6_gone_88 : decode cX6_gone 88 = .ok (.iload_n 3, 1) := by decide +kernel
theorem dX6_gone_89 : decode cX6_gone 89 = .ok (.invokevirtual 55, 3) := by decide +kernel
theorem dX6_gone_92 : decode cX6_gone 92 = .ok (.iadd, 1) := by decide +kernel
theorem dX6_gone_93 : decode cX6_gone 93 = .ok (.iconst 0, 1) := by decide +kernel
theorem dX6_gone_94 : decode cX6_gone 94 = .ok (.iastore, 1) := by decide +kernel
theorem dX6_gone_95 : decode cX6_gone 95 = .ok (.aload_n 0, 1) := by decide +kernel
theorem dX6_gone_96 : decode cX6_gone 96 = .ok (.iload_n 3, 1) := by decide +kernel
theorem dX6_gone_97 : decode cX6_gone 97 = .ok (.invokevirtual 85, 3) := by decide +kernel
theorem dX6_gone_100 : decode cX6_gone 100 = .ok (.aload_n 0, 1) := by decide +kernel
theorem dX6_gone_101 : decode cX6_gone 101 = .ok (.getfield 7, 3) := by decide +kernel
theorem dX6_gone_104 : decode cX6_gone 104 = .ok (.sipush 3948, 3) := by decide +kernel
theorem dX6_gone_107 : decode cX6_gone 107 = .ok (.iload 5, 2) := by decide +kernel
theorem dX6_gone_109 : decode cX6_gone 109 = .ok (.iadd, 1) := by decide +kernel
theorem dX6_gone_110 : decode cX6_gone 110 = .ok (.iconst (-1), 1) := by decide +kernel
theorem dX6_gone_111 : decode cX6_gone 111 = .ok (.iastore, 1) := by decide +kernel
theorem dX6_gone_112 : decode cX6_gone 112 = .ok (.aload_n 0, 1) := by decide +kernel
theorem dX6_gone_113 : decode cX6_gone 113 = .ok (.getfield 7, 3) := by decide +kernel
theorem dX6_gone_116 : decode cX6_gone 116 = .ok (.sipush 13076, 3) := by decide +kernel
theorem dX6_gone_119 : decode cX6_gone 119 = .ok (.iload 5, 2) := by decide +kernel
theorem dX6_gone_121 : decode cX6_gone 121 = .ok (.iastore, 1) := by decide +kernel
theorem dX6_gone_122 : decode cX6_gone 122 = .ok (.aload_n 0, 1) := by decide +kernel
theorem dX6_gone_123 : decode cX6_gone 123 = .ok (.getfield 7, 3) := by decide +kernel
theorem dX6_gone_126 : decode cX6_gone 126 = .ok (.sipush 13077, 3) := by decide +kernel
theorem dX6_gone_129 : decode cX6_gone 129 = .ok (.dup2, 1) := by decide +kernel
theorem dX6_gone_130 : decode cX6_gone 130 = .ok (.iaload, 1) := by decide +kernel
theorem dX6_gone_131 : decode cX6_gone 131 = .ok (.iconst 1, 1) := by decide +kernel
theorem dX6_gone_132 : decode cX6_gone 132 = .ok (.isub, 1) := by decide +kernel
theorem dX6_gone_133 : decode cX6_gone 133 = .ok (.iastore, 1) := by decide +kernel
theorem dX6_gone_134 : decode cX6_gone 134 = .ok (.return_, 1) := by decide +kernel
theorem dX6_gone_135 : decode cX6_gone 135 = .ok (.aload_n 0, 1) := by decide +kernel
theorem dX6_gone_136 : decode cX6_gone 136 = .ok (.iload_n 3, 1) := by decide +kernel
theorem dX6_gone_137 : decode cX6_gone 137 = .ok (.iconst (-1), 1) := by decide +kernel
theorem dX6_gone_138 : decode cX6_gone 138 = .ok (.invokevirtual 88, 3) := by decide +kernel
theorem dX6_gone_141 : decode cX6_gone 141 = .ok (.istore 6, 2) := by decide +kernel
theorem dX6_gone_143 : decode cX6_gone 143 = .ok (.aload_n 0, 1) := by decide +kernel
theorem dX6_gone_144 : decode cX6_gone 144 = .ok (.iload_n 3, 1) := by decide +kernel
theorem dX6_gone_145 : decode cX6_gone 145 = .ok (.iconst 1, 1) := by decide +kernel
theorem dX6_gone_146 : decode cX6_gone 146 = .ok (.invokevirtual 88, 3) := by decide +kernel
theorem dX6_gone_149 : decode cX6_gone 149 = .ok (.istore 7, 2) := by decide +kernel
theorem dX6_gone_151 : decode cX6_gone 151 = .ok (.iload 6, 2) := by decide +kernel
theorem dX6_gone_153 : decode cX6_gone 153 = .ok (.iconst (-1), 1) := by decide +kernel
theorem dX6_gone_154 : decode cX6_gone 154 = .ok (.if_icmp .eq 40, 3) := by decide +kernel
theorem dX6_gone_157 : decode cX6_gone 157 = .ok (.aload_n 0, 1) := by decide +kernel
theorem dX6_gone_158 : decode cX6_gone 158 = .ok (.getfield 7, 3) := by decide +kernel
theorem dX6_gone_161 : decode cX6_gone 161 = .ok (.sipush 3852, 3) := by decide +kernel
theorem dX6_gone_164 : decode cX6_gone 164 = .ok (.iload 6, 2) := by decide +kernel
theorem dX6_gone_166 : decode cX6_gone 166 = .ok (.iadd, 1) := by decide +kernel
theorem dX6_gone_167 : decode cX6_gone 167 = .ok (.iaload, 1) := by decide +kernel
theorem dX6_gone_168 : decode cX6_gone 168 = .ok (.iconst 5, 1) := by decide +kernel
theorem dX6_gone_169 : decode cX6_gone 169 = .ok (.if_icmp .ge 25, 3) := by decide +kernel
theorem dX6_gone_172 : decode cX6_gone 172 = .ok (.aload_n 0, 1) := by decide +kernel
theorem dX6_gone_173 : decode cX6_gone 173 = .ok (.iload 6, 2) := by decide +kernel
theorem dX6_gone_175 : decode cX6_gone 175 = .ok (.aload_n 0, 1) := by decide +kernel
theorem dX6_gone_176 : decode cX6_gone 176 = .ok (.getfield 7, 3) := by decide +kernel
theorem dX6_gone_179 : decode cX6_gone 179 = .ok (.sipush 3852, 3) := by decide +kernel
theorem dX6_gone_182 : decode cX6_gone 182 = .ok (.iload 6, 2) := by decide +kernel
theorem dX6_gone_184 : decode cX6_gone 184 = .ok (.iadd, 1) := by decide +kernel
theorem dX6_gone_185 : decode cX6_gone 185 = .ok (.iaload, 1) := by decide +kernel
theorem dX6_gone_186 : decode cX6_gone 186 = .ok (.iload 5, 2) := by decide +kernel
theorem dX6_gone_188 : decode cX6_gone 188 = .ok (.invokevirtual 66, 3) := by decide +kernel
theorem dX6_gone_191 : decode cX6_gone 191 = .ok (.goto 84, 3) := by decide +kernel
theorem dX6_gone_194 : decode cX6_gone 194 = .ok (.iload 7, 2) := by decide +kernel
theorem dX6_gone_196 : decode cX6_gone 196 = .ok (.iconst (-1), 1) := by decide +kernel
theorem dX6_gone_197 : decode cX6_gone 197 = .ok (.if_icmp .eq 30, 3) := by decide +kernel
theorem dX6_gone_200 : decode cX6_gone 200 = .ok (.aload_n 0, 1) := by decide +kernel
theorem dX6_gone_201 : decode cX6_gone 201 = .ok (.getfield 7, 3) := by decide +kernel
theorem dX6_gone_204 : decode cX6_gone 204 = .ok (.sipush 3852, 3) := by decide +kernel
theorem dX6_gone_207 : decode cX6_gone 207 = .ok (.iload 7, 2) := by decide +kernel
theorem dX6_gone_209 : decode cX6_gone 209 = .ok (.iadd, 1) := by decide +kernel
theorem dX6_gone_210 : decode cX6_gone 210 = .ok (.iaload, 1) := by decide +kernel
theorem dX6_gone_211 : decode cX6_gone 211 = .ok (.iconst 5, 1) := by decide +kernel
theorem dX6_gone_212 : decode cX6_gone 212 = .ok (.if_icmp .ge 15, 3) := by decide +kernel
theorem dX6_gone_215 : decode cX6_gone 215 = .ok (.aload_n 0, 1) := by decide +kernel
theorem dX6_gone_216 : decode cX6_gone 216 = .ok (.iload 7, 2) := by decide +kernel
theorem dX6_gone_218 : decode cX6_gone 218 = .ok (.iconst 0, 1) := by decide +kernel
theorem dX6_gone_219 : decode cX6_gone 219 = .ok (.iload 5, 2) := by decide +kernel
theorem dX6_gone_221 : decode cX6_gone 221 = .ok (.invokevirtual 66, 3) := by decide +kernel
theorem dX6_gone_224 : decode cX6_gone 224 = .ok (.goto 51, 3) := by decide +kernel
theorem dX6_gone_227 : decode cX6_gone 227 = .ok (.iload 6, 2) := by decide +kernel
theorem dX6_gone_229 : decode cX6_gone 229 = .ok (.iconst (-1), 1) := by decide +kernel
theorem dX6_gone_230 : decode cX6_gone 230 = .ok (.if_icmp .eq 31, 3) := by decide +kernel
theorem dX6_gone_233 : decode cX6_gone 233 = .ok (.aload_n 0, 1) := by decide +kernel
theorem dX6_gone_234 : decode cX6_gone 234 = .ok (.iload_n 3, 1) := by decide +kernel
theorem dX6_gone_235 : decode cX6_gone 235 = .ok (.iconst 0, 1) := by decide +kernel
theorem dX6_gone_236 : decode cX6_gone 236 = .ok (.aload_n 0, 1) := by decide +kernel
theorem dX6_gone_237 : decode cX6_gone 237 = .ok (.iload 6, 2) := by decide +kernel
theorem dX6_gone_239 : decode cX6_gone 239 = .ok (.aload_n 0, 1) := by decide +kernel
theorem dX6_gone_240 : decode cX6_gone 240 = .ok (.getfield 7, 3) := by decide +kernel
theorem dX6_gone_243 : decode cX6_gone 243 = .ok (.sipush 3852, 3) := by decide +kernel
theorem dX6_gone_246 : decode cX6_gone 246 = .ok (.iload 6, 2) := by decide +kernel
theorem dX6_gone_248 : decode cX6_gone 248 = .ok (.iadd, 1) := by decide +kernel
theorem dX6_gone_249 : decode cX6_gone 249 = .ok (.iaload, 1) := by decide +kernel
theorem dX6_gone_250 : decode cX6_gone 250 = .ok (.iconst 1, 1) := by decide +kernel
theorem dX6_gone_251 : decode cX6_gone 251 = .ok (.isub, 1) := by decide +kernel
theorem dX6_gone_252 : decode cX6_gone 252 = .ok (.invokevirtual 74, 3) := by decide +kernel
theorem dX6_gone_255 : decode cX6_gone 255 = .ok (.invokevirtual 66, 3) := by decide +kernel
theorem dX6_gone_258 : decode cX6_gone 258 = .ok (.goto 16, 3) := by decide +kernel
theorem dX6_gone_261 : decode cX6_gone 261 = .ok (.aload_n 0, 1) := by decide +kernel
theorem dX6_gone_262 : decode cX6_gone 262 = .ok (.iload_n 3, 1) := by decide +kernel
theorem dX6_gone_263 : decode cX6_gone 263 = .ok (.iconst 1, 1) := by decide +kernel
theorem dX6_gone_264 : decode cX6_gone 264 = .ok (.aload_n 0, 1) := by decide +kernel
theorem dX6_gone_265 : decode cX6_gone 265 = .ok (.iload 7, 2) := by decide +kernel
theorem dX6_gone_267 : decode cX6_gone 267 = .ok (.iconst 0, 1) := by decide +kernel
theorem dX6_gone_268 : decode cX6_gone 268 = .ok (.invokevirtual 74, 3) := by decide +kernel
theorem dX6_gone_271 : decode cX6_gone 271 = .ok (.invokevirtual 66, 3) := by decide +kernel
theorem dX6_gone_274 : decode cX6_gone 274 = .ok (.return_, 1) := by decide +kernel
theorem dX6_gone_275 : decode cX6_gone 275 = .ok (.iload_n 3, 1) := by decide +kernel
theorem dX6_gone_276 : decode cX6_gone 276 = .ok (.istore_n 2, 1) := by decide +kernel
theorem dX6_gone_277 : decode cX6_gone 277 = .ok (.goto (-275), 3) := by decide +kernel
theorem dX6_used_0 : decode cX6_used 0 = .ok (.iconst 0, 1) := by decide +kernel
theorem dX6_used_1 : decode cX6_used 1 = .ok (.istore_n 2, 1) := by decide +kernel
theorem dX6_used_2 : decode cX6_used 2 = .ok (.iconst 0, 1) := by decide +kernel
theorem dX6_used_3 : decode cX6_used 3 = .ok (.istore_n 3, 1) := by decide +kernel
theorem dX6_used_4 : decode cX6_used 4 = .ok (.iload_n 3, 1) := by decide +kernel
theorem dX6_used_5 : decode cX6_used 5 = .ok (.aload_n 0, 1) := by decide +kernel
theorem dX6_used_6 : decode cX6_used 6 = .ok (.getfield 7, 3) := by decide +kernel
theorem dX6_used_9 : decode cX6_used 9 = .ok (.sipush 3852, 3) := by decide +kernel
theorem dX6_used_12 : decode cX6_used 12 = .ok (.iload_n 1, 1) := by decide +kernel
theorem dX6_used_13 : decode cX6_used 13 = .ok (.iadd, 1) := by decide +kernel
theorem dX6_used_14 : decode cX6_used 14 = .ok (.iaload, 1) := by decide +kernel
