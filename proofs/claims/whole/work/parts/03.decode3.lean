theorem dX6_used_15 : decode cX6_used 15 = .ok (.if_icmp .ge 30, 3) := by decide +kernel
theorem dX6_used_18 : decode cX6_used 18 = .ok (.iload_n 2, 1) := by decide +kernel
theorem dX6_used_19 : decode cX6_used 19 = .ok (.bipush 8, 2) := by decide +kernel
theorem dX6_used_21 : decode cX6_used 21 = .ok (.aload_n 0, 1) := by decide +kernel
theorem dX6_used_22 : decode cX6_used 22 = .ok (.getfield 7, 3) := by decide +kernel
theorem dX6_used_25 : decode cX6_used 25 = .ok (.sipush 9228, 3) := by decide +kernel
theorem dX6_used_28 : decode cX6_used 28 = .ok (.bipush 16, 2) := by decide +kernel
theorem dX6_used_30 : decode cX6_used 30 = .ok (.iload_n 1, 1) := by decide +kernel
theorem dX6_used_31 : decode cX6_used 31 = .ok (.imul, 1) := by decide +kernel
theorem dX6_used_32 : decode cX6_used 32 = .ok (.iadd, 1) := by decide +kernel
theorem dX6_used_33 : decode cX6_used 33 = .ok (.iload_n 3, 1) := by decide +kernel
theorem dX6_used_34 : decode cX6_used 34 = .ok (.iadd, 1) := by decide +kernel
theorem dX6_used_35 : decode cX6_used 35 = .ok (.iaload, 1) := by decide +kernel
theorem dX6_used_36 : decode cX6_used 36 = .ok (.iadd, 1) := by decide +kernel
theorem dX6_used_37 : decode cX6_used 37 = .ok (.iadd, 1) := by decide +kernel
theorem dX6_used_38 : decode cX6_used 38 = .ok (.istore_n 2, 1) := by decide +kernel
theorem dX6_used_39 : decode cX6_used 39 = .ok (.iinc 3 1, 3) := by decide +kernel
theorem dX6_used_42 : decode cX6_used 42 = .ok (.goto (-38), 3) := by decide +kernel
theorem dX6_used_45 : decode cX6_used 45 = .ok (.iload_n 2, 1) := by decide +kernel
theorem dX6_used_46 : decode cX6_used 46 = .ok (.ireturn, 1) := by decide +kernel
theorem dX6_cost_0 : decode cX6_cost 0 = .ok (.bipush 8, 2) := by decide +kernel
theorem dX6_cost_2 : decode cX6_cost 2 = .ok (.aload_n 0, 1) := by decide +kernel
theorem dX6_cost_3 : decode cX6_cost 3 = .ok (.getfield 7, 3) := by decide +kernel
theorem dX6_cost_6 : decode cX6_cost 6 = .ok (.sipush 9228, 3) := by decide +kernel
theorem dX6_cost_9 : decode cX6_cost 9 = .ok (.bipush 16, 2) := by decide +kernel
theorem dX6_cost_11 : decode cX6_cost 11 = .ok (.iload_n 1, 1) := by decide +kernel
theorem dX6_cost_12 : decode cX6_cost 12 = .ok (.imul, 1) := by decide +kernel
theorem dX6_cost_13 : decode cX6_cost 13 = .ok (.iadd, 1) := by decide +kernel
theorem dX6_cost_14 : decode cX6_cost 14 = .ok (.iload_n 2, 1) := by decide +kernel
theorem dX6_cost_15 : decode cX6_cost 15 = .ok (.iadd, 1) := by decide +kernel
theorem dX6_cost_16 : decode cX6_cost 16 = .ok (.iaload, 1) := by decide +kernel
theorem dX6_cost_17 : decode cX6_cost 17 = .ok (.iadd, 1) := by decide +kernel
theorem dX6_cost_18 : decode cX6_cost 18 = .ok (.ireturn, 1) := by decide +kernel
theorem dX6_compare_0 : decode cX6_compare 0 = .ok (.bipush 16, 2) := by decide +kernel
theorem dX6_compare_2 : decode cX6_compare 2 = .ok (.iload_n 1, 1) := by decide +kernel
theorem dX6_compare_3 : decode cX6_compare 3 = .ok (.imul, 1) := by decide +kernel
theorem dX6_compare_4 : decode cX6_compare 4 = .ok (.iload_n 2, 1) := by decide +kernel
theorem dX6_compare_5 : decode cX6_compare 5 = .ok (.iadd, 1) := by decide +kernel
theorem dX6_compare_6 : decode cX6_compare 6 = .ok (.istore 6, 2) := by decide +kernel
theorem dX6_compare_8 : decode cX6_compare 8 = .ok (.aload_n 0, 1) := by decide +kernel
theorem dX6_compare_9 : decode cX6_compare 9 = .ok (.getfield 7, 3) := by decide +kernel
theorem dX6_compare_12 : decode cX6_compare 12 = .ok (.sipush 4620, 3) := by decide +kernel
theorem dX6_compare_15 : decode cX6_compare 15 = .ok (.iload 6, 2) := by decide +kernel
theorem dX6_compare_17 : decode cX6_compare 17 = .ok (.iadd, 1) := by decide +kernel
theorem dX6_compare_18 : decode cX6_compare 18 = .ok (.iaload, 1) := by decide +kernel
theorem dX6_compare_19 : decode cX6_compare 19 = .ok (.iload_n 3, 1) := by decide +kernel
theorem dX6_compare_20 : decode cX6_compare 20 = .ok (.if_icmp .eq 19, 3) := by decide +kernel
theorem dX6_compare_23 : decode cX6_compare 23 = .ok (.aload_n 0, 1) := by decide +kernel
theorem dX6_compare_24 : decode cX6_compare 24 = .ok (.getfield 7, 3) := by decide +kernel
theorem dX6_compare_27 : decode cX6_compare 27 = .ok (.sipush 4620, 3) := by decide +kernel
theorem dX6_compare_30 : decode cX6_compare 30 = .ok (.iload 6, 2) := by decide +kernel
theorem dX6_compare_32 : decode cX6_compare 32 = .ok (.iadd, 1) := by decide +kernel
theorem dX6_compare_33 : decode cX6_compare 33 = .ok (.iaload, 1) := by decide +kernel
theorem dX6_compare_34 : decode cX6_compare 34 = .ok (.iload_n 3, 1) := by decide +kernel
theorem dX6_compare_35 : decode cX6_compare 35 = .ok (.isub, 1) := by decide +kernel
theorem dX6_compare_36 : decode cX6_compare 36 = .ok (.goto 50, 3) := by decide +kernel
theorem dX6_compare_39 : decode cX6_compare 39 = .ok (.aload_n 0, 1) := by decide +kernel
theorem dX6_compare_40 : decode cX6_compare 40 = .ok (.getfield 7, 3) := by decide +kernel
theorem dX6_compare_43 : decode cX6_compare 43 = .ok (.sipush 6156, 3) := by decide +kernel
theorem dX6_compare_46 : decode cX6_compare 46 = .ok (.iload 6, 2) := by decide +kernel
theorem dX6_compare_48 : decode cX6_compare 48 = .ok (.iadd, 1) := by decide +kernel
theorem dX6_compare_49 : decode cX6_compare 49 = .ok (.iaload, 1) := by decide +kernel
theorem dX6_compare_50 : decode cX6_compare 50 = .ok (.iload 4, 2) := by decide +kernel
theorem dX6_compare_52 : decode cX6_compare 52 = .ok (.if_icmp .eq 20, 3) := by decide +kernel
theorem dX6_compare_55 : decode cX6_compare 55 = .ok (.aload_n 0, 1) := by decide +kernel
theorem dX6_compare_56 : decode cX6_compare 56 = .ok (.getfield 7, 3) := by decide +kernel
theorem dX6_compare_59 : decode cX6_compare 59 = .ok (.sipush 6156, 3) := by decide +kernel
theorem dX6_compare_62 : decode cX6_compare 62 = .ok (.iload 6, 2) := by decide +kernel
theorem dX6_compare_64 : decode cX6_compare 64 = .ok (.iadd, 1) := by decide +kernel
theorem dX6_compare_65 : decode cX6_compare 65 = .ok (.iaload, 1) := by decide +kernel
theorem dX6_compare_66 : decode cX6_compare 66 = .ok (.iload 4, 2) := by decide +kernel
theorem dX6_compare_68 : decode cX6_compare 68 = .ok (.isub, 1) := by decide +kernel
theorem dX6_compare_69 : decode cX6_compare 69 = .ok (.goto 17, 3) := by decide +kernel
theorem dX6_compare_72 : decode cX6_compare 72 = .ok (.aload_n 0, 1) := by decide +kernel
theorem dX6_compare_73 : decode cX6_compare 73 = .ok (.getfield 7, 3) := by decide +kernel
theorem dX6_compare_76 : decode cX6_compare 76 = .ok (.sipush 7692, 3) := by decide +kernel
theorem dX6_compare_79 : decode cX6_compare 79 = .ok (.iload 6, 2) := by decide +kernel
theorem dX6_compare_81 : decode cX6_compare 81 = .ok (.iadd, 1) := by decide +kernel
theorem dX6_compare_82 : decode cX6_compare 82 = .ok (.iaload, 1) := by decide +kernel
theorem dX6_compare_83 : decode cX6_compare 83 = .ok (.iload 5, 2) := by decide +kernel
theorem dX6_compare_85 : decode cX6_compare 85 = .ok (.isub, 1) := by decide +kernel
theorem dX6_compare_86 : decode cX6_compare 86 = .ok (.ireturn, 1) := by decide +kernel
theorem dX6_copy_0 : decode cX6_copy 0 = .ok (.aload_n 0, 1) := by decide +kernel
theorem dX6_copy_1 : decode cX6_copy 1 = .ok (.getfield 7, 3) := by decide +kernel
theorem dX6_copy_4 : decode cX6_copy 4 = .ok (.sipush 4620, 3) := by decide +kernel
theorem dX6_copy_7 : decode cX6_copy 7 = .ok (.iload_n 2, 1) := by decide +kernel
theorem dX6_copy_8 : decode cX6_copy 8 = .ok (.iadd, 1) := by decide +kernel
theorem dX6_copy_9 : decode cX6_copy 9 = .ok (.aload_n 0, 1) := by decide +kernel
theorem dX6_copy_10 : decode cX6_copy 10 = .ok (.getfield 7, 3) := by decide +kernel
theorem dX6_copy_13 : decode cX6_copy 13 = .ok (.sipush 4620, 3) := by decide +kernel
theorem dX6_copy_16 : decode cX6_copy 16 = .ok (.iload_n 1, 1) := by decide +kernel
theorem dX6_copy_17 : decode cX6_copy 17 = .ok (.iadd, 1) := by decide +kernel
theorem dX6_copy_18 : decode cX6_copy 18 = .ok (.iaload, 1) := by decide +kernel
theorem dX6_copy_19 : decode cX6_copy 19 = .ok (.iastore, 1) := by decide +kernel
theorem dX6_copy_20 : decode cX6_copy 20 = .ok (.aload_n 0, 1) := by decide +kernel
theorem dX6_copy_21 : decode cX6_copy 21 = .ok (.getfield 7, 3) := by decide +kernel
theorem dX6_copy_24 : decode cX6_copy 24 = .ok (.sipush 6156, 3) := by decide +kernel
theorem dX6_copy_27 : decode cX6_copy 27 = .ok (.iload_n 2, 1) := by decide +kernel
theorem dX6_copy_28 : decode cX6_copy 28 = .ok (.iadd, 1) := by decide +kernel
theorem dX6_copy_29 : decode cX6_copy 29 = .ok (.aload_n 0, 1) := by decide +kernel
theorem dX6_copy_30 : decode cX6_copy 30 = .ok (.getfield 7, 3) := by decide +kernel
theorem dX6_copy_33 : decode cX6_copy 33 = .ok (.sipush 6156, 3) := by decide +kernel
theorem dX6_copy_36 : decode cX6_copy 36 = .ok (.iload_n 1, 1) := by decide +kernel
theorem dX6_copy_37 : decode cX6_copy 37 = .ok (.iadd, 1) := by decide +kernel
theorem dX6_copy_38 : decode cX6_copy 38 = .ok (.iaload, 1) := by decide +kernel
theorem dX6_copy_39 : decode cX6_copy 39 = .ok (.iastore, 1) := by decide +kernel
theorem dX6_copy_40 : decode cX6_copy 40 = .ok (.aload_n 0, 1) := by decide +kernel
theorem dX6_copy_41 : decode cX6_copy 41 = .ok (.getfield 7, 3) := by decide +kernel
theorem dX6_copy_44 : decode cX6_copy 44 = .ok (.sipush 7692, 3) := by decide +kernel
theorem dX6_copy_47 : decode cX6_copy 47 = .ok (.iload_n 2, 1) := by decide +kernel
theorem dX6_copy_48 : decode cX6_copy 48 = .ok (.iadd, 1) := by decide +kernel
theorem dX6_copy_49 : decode cX6_copy 49 = .ok (.aload_n 0, 1) := by decide +kernel
theorem dX6_copy_50 : decode cX6_copy 50 = .ok (.getfield 7, 3) := by decide +kernel
theorem dX6_copy_53 : decode cX6_copy 53 = .ok (.sipush 7692, 3) := by decide +kernel
theorem dX6_copy_56 : decode cX6_copy 56 = .ok (.iload_n 1, 1) := by decide +kernel
theorem dX6_copy_57 : decode cX6_copy 57 = .ok (.iadd, 1) := by decide +kernel
theorem dX6_copy_58 : decode cX6_copy 58 = .ok (.iaload, 1) := by decide +kernel
theorem dX6_copy_59 : decode cX6_copy 59 = .ok (.iastore, 1) := by decide +kernel
theorem dX6_copy_60 : decode cX6_copy 60 = .ok (.aload_n 0, 1) := by decide +kernel
theorem dX6_copy_61 : decode cX6_copy 61 = .ok (.getfield 7, 3) := by decide +kernel
theorem dX6_copy_64 : decode cX6_copy 64 = .ok (.sipush 9228, 3) := by decide +kernel
theorem dX6_copy_67 : decode cX6_copy 67 = .ok (.iload_n 2, 1) := by decide +kernel
theorem dX6_copy_68 : decode cX6_copy 68 = .ok (.iadd, 1) := by decide +kernel
theorem dX6_copy_69 : decode cX6_copy 69 = .ok (.aload_n 0, 1) := by decide +kernel
theorem dX6_copy_70 : decode cX6_copy 70 = .ok (.getfield 7, 3) := by decide +kernel
theorem dX6_copy_73 : decode cX6_copy 73 = .ok (.sipush 9228, 3) := by decide +kernel
theorem dX6_copy_76 : decode cX6_copy 76 = .ok (.iload_n 1, 1) := by decide +kernel
theorem dX6_copy_77 : decode cX6_copy 77 = .ok (.iadd, 1) := by decide +kernel
theorem dX6_copy_78 : decode cX6_copy 78 = .ok (.iaload, 1) := by decide +kernel
theorem dX6_copy_79 : decode cX6_copy 79 = .ok (.iastore, 1) := by decide +kernel
theorem dX6_copy_80 : decode cX6_copy 80 = .ok (.aload_n 0, 1) := by decide +kernel
theorem dX6_copy_81 : decode cX6_copy 81 = .ok (.getfield 7, 3) := by decide +kernel
theorem dX6_copy_84 : decode cX6_copy 84 = .ok (.sipush 10764, 3) := by decide +kernel
theorem dX6_copy_87 : decode cX6_copy 87 = .ok (.iload_n 2, 1) := by decide +kernel
theorem dX6_copy_88 : decode cX6_copy 88 = .ok (.iadd, 1) := by decide +kernel
theorem dX6_copy_89 : decode cX6_copy 89 = .ok (.aload_n 0, 1) := by decide +kernel
theorem dX6_copy_90 : decode cX6_copy 90 = .ok (.getfield 7, 3) := by decide +kernel
theorem dX6_copy_93 : decode cX6_copy 93 = .ok (.sipush 10764, 3) := by decide +kernel
theorem dX6_copy_96 : decode cX6_copy 96 = .ok (.iload_n 1, 1) := by decide +kernel
theorem dX6_copy_97 : decode cX6_copy 97 = .ok (.iadd, 1) := by decide +kernel
theorem dX6_copy_98 : decode cX6_copy 98 = .ok (.iaload, 1) := by decide +kernel
theorem dX6_copy_99 : decode cX6_copy 99 = .ok (.iastore, 1) := by decide +kernel
theorem dX6_copy_100 : decode cX6_copy 100 = .ok (.return_, 1) := by decide +kernel
theorem dX6_carry_0 : decode cX6_carry 0 = .ok (.aload_n 0, 1) := by decide +kernel
theorem dX6_carry_1 : decode cX6_carry 1 = .ok (.getfield 7, 3) := by decide +kernel
theorem dX6_carry_4 : decode cX6_carry 4 = .ok (.sipush 3852, 3) := by decide +kernel
theorem dX6_carry_7 : decode cX6_carry 7 = .ok (.iload_n 3, 1) := by decide +kernel
theorem dX6_carry_8 : decode cX6_carry 8 = .ok (.iadd, 1) := by decide +kernel
theorem dX6_carry_9 : decode cX6_carry 9 = .ok (.iaload, 1) := by decide +kernel
theorem dX6_carry_10 : decode cX6_carry 10 = .ok (.istore 5, 2) := by decide +kernel
theorem dX6_carry_12 : decode cX6_carry 12 = .ok (.iload 5, 2) := by decide +kernel
theorem dX6_carry_14 : decode cX6_carry 14 = .ok (.iload 4, 2) := by decide +kernel
theorem dX6_carry_16 : decode cX6_carry 16 = .ok (.if_icmp .le 29, 3) := by decide +kernel
theorem dX6_carry_19 : decode cX6_carry 19 = .ok (.aload_n 0, 1) := by decide +kernel
theorem dX6_carry_20 : decode cX6_carry 20 = .ok (.bipush 16, 2) := by decide +kernel
theorem dX6_carry_22 : decode cX6_carry 22 = .ok (.iload_n 3, 1) := by decide +kernel
theorem dX6_carry_23 : decode cX6_carry 23 = .ok (.imul, 1) := by decide +kernel
theorem dX6_carry_24 : decode cX6_carry 24 = .ok (.iload 5, 2) := by decide +kernel
theorem dX6_carry_26 : decode cX6_carry 26 = .ok (.iadd, 1) := by decide +kernel
theorem dX6_carry_27 : decode cX6_carry 27 = .ok (.iconst 1, 1) := by decide +kernel
theorem dX6_carry_28 : decode cX6_carry 28 = .ok (.isub, 1) := by decide +kernel
theorem dX6_carry_29 : decode cX6_carry 29 = .ok (.bipush 16, 2) := by decide +kernel
theorem dX6_carry_31 : decode cX6_carry 31 = .ok (.iload_n 3, 1) := by decide +kernel
theorem dX6_carry_32 : decode cX6_carry 32 = .ok (.imul, 1) := by decide +kernel
theorem dX6_carry_33 : decode cX6_carry 33 = .ok (.iload 5, 2) := by decide +kernel
theorem dX6_carry_35 : decode cX6_carry 35 = .ok (.iadd, 1) := by decide +kernel
theorem dX6_carry_36 : decode cX6_carry 36 = .ok (.invokevirtual 91, 3) := by decide +kernel
theorem dX6_carry_39 : decode cX6_carry 39 = .ok (.iinc 5 (-1), 3) := by decide +kernel
theorem dX6_carry_42 : decode cX6_carry 42 = .ok (.goto (-30), 3) := by decide +kernel
theorem dX6_carry_45 : decode cX6_carry 45 = .ok (.aload_n 0, 1) := by decide +kernel
theorem dX6_carry_46 : decode cX6_carry 46 = .ok (.bipush 16, 2) := by decide +kernel
theorem dX6_carry_48 : decode cX6_carry 48 = .ok (.iload_n 1, 1) := by decide +kernel
theorem dX6_carry_49 : decode cX6_carry 49 = .ok (.imul, 1) := by decide +kernel
theorem dX6_carry_50 : decode cX6_carry 50 = .ok (.iload_n 2, 1) := by decide +kernel
theorem dX6_carry_51 : decode cX6_carry 51 = .ok (.iadd, 1) := by decide +kernel
theorem dX6_carry_52 : decode cX6_carry 52 = .ok (.bipush 16, 2) := by decide +kernel
theorem dX6_carry_54 : decode cX6_carry 54 = .ok (.iload_n 3, 1) := by decide +kernel
theorem dX6_carry_55 : decode cX6_carry 55 = .ok (.imul, 1) := by decide +kernel
theorem dX6_carry_56 : decode cX6_carry 56 = .ok (.iload 4, 2) := by decide +kernel
theorem dX6_carry_58 : decode cX6_carry 58 = .ok (.iadd, 1) := by decide +kernel
theorem dX6_carry_59 : decode cX6_carry 59 = .ok (.invokevirtual 91, 3) := by decide +kernel
theorem dX6_carry_62 : decode cX6_carry 62 = .ok (.aload_n 0, 1) := by decide +kernel
theorem dX6_carry_63 : decode cX6_carry 63 = .ok (.getfield 7, 3) := by decide +kernel
theorem dX6_carry_66 : decode cX6_carry 66 = .ok (.sipush 3852, 3) := by decide +kernel
theorem dX6_carry_69 : decode cX6_carry 69 = .ok (.iload_n 3, 1) := by decide +kernel
theorem dX6_carry_70 : decode cX6_carry 70 = .ok (.iadd, 1) := by decide +kernel
theorem dX6_carry_71 : decode cX6_carry 71 = .ok (.dup2, 1) := by decide +kernel
theorem dX6_carry_72 : decode cX6_carry 72 = .ok (.iaload, 1) := by decide +kernel
theorem dX6_carry_73 : decode cX6_carry 73 = .ok (.iconst 1, 1) := by decide +kernel
theorem dX6_carry_74 : decode cX6_carry 74 = .ok (.iadd, 1) := by decide +kernel
theorem dX6_carry_75 : decode cX6_carry 75 = .ok (.iastore, 1) := by decide +kernel
theorem dX6_carry_76 : decode cX6_carry 76 = .ok (.aload_n 0, 1) := by decide +kernel
theorem dX6_carry_77 : decode cX6_carry 77 = .ok (.iload_n 1, 1) := by decide +kernel
theorem dX6_carry_78 : decode cX6_carry 78 = .ok (.iload_n 2, 1) := by decide +kernel
theorem dX6_carry_79 : decode cX6_carry 79 = .ok (.invokevirtual 94, 3) := by decide +kernel
theorem dX6_carry_82 : decode cX6_carry 82 = .ok (.return_, 1) := by decide +kernel
theorem dX6_drop_0 : decode cX6_drop 0 = .ok (.iload_n 2, 1) := by decide +kernel
theorem dX6_drop_1 : decode cX6_drop 1 = .ok (.istore_n 3, 1) := by decide +kernel
theorem dX6_drop_2 : decode cX6_drop 2 = .ok (.iload_n 3, 1) := by decide +kernel
theorem dX6_drop_3 : decode cX6_drop 3 = .ok (.iconst 1, 1) := by decide +kernel
theorem dX6_drop_4 : decode cX6_drop 4 = .ok (.iadd, 1) := by decide +kernel
theorem dX6_drop_5 : decode cX6_drop 5 = .ok (.aload_n 0, 1) := by decide +kernel
theorem dX6_drop_6 : decode cX6_drop 6 = .ok (.getfield 7, 3) := by decide +kernel
theorem dX6_drop_9 : decode cX6_drop 9 = .ok (.sipush 3852, 3) := by decide +kernel
theorem dX6_drop_12 : decode cX6_drop 12 = .ok (.iload_n 1, 1) := by decide +kernel
theorem dX6_drop_13 : decode cX6_drop 13 = .ok (.iadd, 1) := by decide +kernel
theorem dX6_drop_14 : decode cX6_drop 14 = .ok (.iaload, 1) := by decide +kernel
theorem dX6_drop_15 : decode cX6_drop 15 = .ok (.if_icmp .ge 27, 3) := by decide +kernel
theorem dX6_drop_18 : decode cX6_drop 18 = .ok (.aload_n 0, 1) := by decide +kernel
theorem dX6_drop_19 : decode cX6_drop 19 = .ok (.bipush 16, 2) := by decide +kernel
theorem dX6_drop_21 : decode cX6_drop 21 = .ok (.iload_n 1, 1) := by decide +kernel
theorem dX6_drop_22 : decode cX6_drop 22 = .ok (.imul, 1) := by decide +kernel
theorem dX6_drop_23 : decode cX6_drop 23 = .ok (.iload_n 3, 1) := by decide +kernel
theorem dX6_drop_24 : decode cX6_drop 24 = .ok (.iadd, 1) := by decide +kernel
theorem dX6_drop_25 : decode cX6_drop 25 = .ok (.iconst 1, 1) := by decide +kernel
theorem dX6_drop_26 : decode cX6_drop 26 = .ok (.iadd, 1) := by decide +kernel
theorem dX6_drop_27 : decode cX6_drop 27 = .ok (.bipush 16, 2) := by decide +kernel
theorem dX6_drop_29 : decode cX6_drop 29 = .ok (.iload_n 1, 1) := by decide +kernel
theorem dX6_drop_30 : decode cX6_drop 30 = .ok (.imul, 1) := by decide +kernel
theorem dX6_drop_31 : decode cX6_drop 31 = .ok (.iload_n 3, 1) := by decide +kernel
theorem dX6_drop_32 : decode cX6_drop 32 = .ok (.iadd, 1) := by decide +kernel
theorem dX6_drop_33 : decode cX6_drop 33 = .ok (.invokevirtual 91, 3) := by decide +kernel
theorem dX6_drop_36 : decode cX6_drop 36 = .ok (.iinc 3 1, 3) := by decide +kernel
theorem dX6_drop_39 : decode cX6_drop 39 = .ok (.goto (-37), 3) := by decide +kernel
theorem dX6_drop_42 : decode cX6_drop 42 = .ok (.aload_n 0, 1) := by decide +kernel
theorem dX6_drop_43 : decode cX6_drop 43 = .ok (.getfield 7, 3) := by decide +kernel
theorem dX6_drop_46 : decode cX6_drop 46 = .ok (.sipush 3852, 3) := by decide +kernel
theorem dX6_drop_49 : decode cX6_drop 49 = .ok (.iload_n 1, 1) := by decide +kernel
theorem dX6_drop_50 : decode cX6_drop 50 = .ok (.iadd, 1) := by decide +kernel
theorem dX6_drop_51 : decode cX6_drop 51 = .ok (.dup2, 1) := by decide +kernel
theorem dX6_drop_52 : decode cX6_drop 52 = .ok (.iaload, 1) := by decide +kernel
theorem dX6_drop_53 : decode cX6_drop 53 = .ok (.iconst 1, 1) := by decide +kernel
theorem dX6_drop_54 : decode cX6_drop 54 = .ok (.isub, 1) := by decide +kernel
theorem dX6_drop_55 : decode cX6_drop 55 = .ok (.iastore, 1) := by decide +kernel
theorem dX6_drop_56 : decode cX6_drop 56 = .ok (.return_, 1) := by decide +kernel
theorem dX6_settle_0 : decode cX6_settle 0 = .ok (.aload_n 0, 1) := by decide +kernel
theorem dX6_settle_1 : decode cX6_settle 1 = .ok (.iload_n 1, 1) := by decide +kernel
theorem dX6_settle_2 : decode cX6_settle 2 = .ok (.iconst (-1), 1) := by decide +kernel
theorem dX6_settle_3 : decode cX6_settle 3 = .ok (.invokevirtual 88, 3) := by decide +kernel
theorem dX6_settle_6 : decode cX6_settle 6 = .ok (.istore_n 2, 1) := by decide +kernel
theorem dX6_settle_7 : decode cX6_settle 7 = .ok (.aload_n 0, 1) := by decide +kernel
theorem dX6_settle_8 : decode cX6_settle 8 = .ok (.iload_n 1, 1) := by decide +kernel
theorem dX6_settle_9 : decode cX6_settle 9 = .ok (.invokevirtual 97, 3) := by decide +kernel
theorem dX6_settle_12 : decode cX6_settle 12 = .ok (.bipush 120, 2) := by decide +kernel
theorem dX6_settle_14 : decode cX6_settle 14 = .ok (.if_icmp .le 45, 3) := by decide +kernel
theorem dX6_settle_17 : decode cX6_settle 17 = .ok (.iload_n 2, 1) := by decide +kernel
theorem dX6_settle_18 : decode cX6_settle 18 = .ok (.iconst (-1), 1) := by decide +kernel
theorem dX6_settle_19 : decode cX6_settle 19 = .ok (.if_icmp .eq 40, 3) := by decide +kernel
theorem dX6_settle_22 : decode cX6_settle 22 = .ok (.aload_n 0, 1) := by decide +kernel
theorem dX6_settle_23 : decode cX6_settle 23 = .ok (.iload_n 2, 1) := by decide +kernel
theorem dX6_settle_24 : decode cX6_settle 24 = .ok (.invokevirtual 97, 3) := by decide +kernel
theorem dX6_settle_27 : decode cX6_settle 27 = .ok (.aload_n 0, 1) := by decide +kernel
theorem dX6_settle_28 : decode cX6_settle 28 = .ok (.iload_n 1, 1) := by decide +kernel
theorem dX6_settle_29 : decode cX6_settle 29 = .ok (.iconst 0, 1) := by decide +kernel
theorem dX6_settle_30 : decode cX6_settle 30 = .ok (.invokevirtual 100, 3) := by decide +kernel
theorem dX6_settle_33 : decode cX6_settle 33 = .ok (.iadd, 1) := by decide +kernel
theorem dX6_settle_34 : decode cX6_settle 34 = .ok (.bipush 120, 2) := by decide +kernel
theorem dX6_settle_36 : decode cX6_settle 36 = .ok (.if_icmp .gt 23, 3) := by decide +kernel
theorem dX6_settle_39 : decode cX6_settle 39 = .ok (.aload_n 0, 1) := by decide +kernel
theorem dX6_settle_40 : decode cX6_settle 40 = .ok (.iload_n 1, 1) := by decide +kernel
theorem dX6_settle_41 : decode cX6_settle 41 = .ok (.iconst 0, 1) := by decide +kernel
theorem dX6_settle_42 : decode cX6_settle 42 = .ok (.iload_n 2, 1) := by decide +kernel
theorem dX6_settle_43 : decode cX6_settle 43 = .ok (.aload_n 0, 1) := by decide +kernel
theorem dX6_settle_44 : decode cX6_settle 44 = .ok (.getfield 7, 3) := by decide +kernel
theorem dX6_settle_47 : decode cX6_settle 47 = .ok (.sipush 3852, 3) := by decide +kernel
theorem dX6_settle_50 : decode cX6_settle 50 = .ok (.iload_n 2, 1) := by decide +kernel
theorem dX6_settle_51 : decode cX6_settle 51 = .ok (.iadd, 1) := by decide +kernel
theorem dX6_settle_52 : decode cX6_settle 52 = .ok (.iaload, 1) := by decide +kernel
theorem dX6_settle_53 : decode cX6_settle 53 = .ok (.invokevirtual 103, 3) := by decide +kernel
theorem dX6_settle_56 : decode cX6_settle 56 = .ok (.goto (-49), 3) := by decide +kernel
theorem dX6_settle_59 : decode cX6_settle 59 = .ok (.aload_n 0, 1) := by decide +kernel
theorem dX6_settle_60 : decode cX6_settle 60 = .ok (.iload_n 1, 1) := by decide +kernel
theorem dX6_settle_61 : decode cX6_settle 61 = .ok (.iconst 1, 1) := by decide +kernel
theorem dX6_settle_62 : decode cX6_settle 62 = .ok (.invokevirtual 88, 3) := by decide +kernel
theorem dX6_settle_65 : decode cX6_settle 65 = .ok (.istore_n 3, 1) := by decide +kernel
theorem dX6_settle_66 : decode cX6_settle 66 = .ok (.aload_n 0, 1) := by decide +kernel
theorem dX6_settle_67 : decode cX6_settle 67 = .ok (.iload_n 1, 1) := by decide +kernel
theorem dX6_settle_68 : decode cX6_settle 68 = .ok (.invokevirtual 97, 3) := by decide +kernel
theorem dX6_settle_71 : decode cX6_settle 71 = .ok (.bipush 120, 2) := by decide +kernel
theorem dX6_settle_73 : decode cX6_settle 73 = .ok (.if_icmp .le 58, 3) := by decide +kernel
theorem dX6_settle_76 : decode cX6_settle 76 = .ok (.iload_n 3, 1) := by decide +kernel
theorem dX6_settle_77 : decode cX6_settle 77 = .ok (.iconst (-1), 1) := by decide +kernel
theorem dX6_settle_78 : decode cX6_settle 78 = .ok (.if_icmp .eq 53, 3) := by decide +kernel
theorem dX6_settle_81 : decode cX6_settle 81 = .ok (.aload_n 0, 1) := by decide +kernel
theorem dX6_settle_82 : decode cX6_settle 82 = .ok (.iload_n 3, 1) := by decide +kernel
theorem dX6_settle_83 : decode cX6_settle 83 = .ok (.invokevirtual 97, 3) := by decide +kernel
theorem dX6_settle_86 : decode cX6_settle 86 = .ok (.aload_n 0, 1) := by decide +kernel
theorem dX6_settle_87 : decode cX6_settle 87 = .ok (.iload_n 1, 1) := by decide +kernel
theorem dX6_settle_88 : decode cX6_settle 88 = .ok (.aload_n 0, 1) := by decide +kernel
theorem dX6_settle_89 : decode cX6_settle 89 = .ok (.getfield 7, 3) := by decide +kernel
theorem dX6_settle_92 : decode cX6_settle 92 = .ok (.sipush 3852, 3) := by decide +kernel
theorem dX6_settle_95 : decode cX6_settle 95 = .ok (.iload_n 1, 1) := by decide +kernel
theorem dX6_settle_96 : decode cX6_settle 96 = .ok (.iadd, 1) := by decide +kernel
theorem dX6_settle_97 : decode cX6_settle 97 = .ok (.iaload, 1) := by decide +kernel
theorem dX6_settle_98 : decode cX6_settle 98 = .ok (.iconst 1, 1) := by decide +kernel
theorem dX6_settle_99 : decode cX6_settle 99 = .ok (.isub, 1) := by decide +kernel
theorem dX6_settle_100 : decode cX6_settle 100 = .ok (.invokevirtual 100, 3) := by decide +kernel
theorem dX6_settle_103 : decode cX6_settle 103 = .ok (.iadd, 1) := by decide +kernel
theorem dX6_settle_104 : decode cX6_settle 104 = .ok (.bipush 120, 2) := by decide +kernel
theorem dX6_settle_106 : decode cX6_settle 106 = .ok (.if_icmp .gt 25, 3) := by decide +kernel
theorem dX6_settle_109 : decode cX6_settle 109 = .ok (.aload_n 0, 1) := by decide +kernel
theorem dX6_settle_110 : decode cX6_settle 110 = .ok (.iload_n 1, 1) := by decide +kernel
theorem dX6_settle_111 : decode cX6_settle 111 = .ok (.aload_n 0, 1) := by decide +kernel
theorem dX6_settle_112 : decode cX6_settle 112 = .ok (.getfield 7, 3) := by decide +kernel
theorem dX6_settle_115 : decode cX6_settle 115 = .ok (.sipush 3852, 3) := by decide +kernel
theorem dX6_settle_118 : decode cX6_settle 118 = .ok (.iload_n 1, 1) := by decide +kernel
theorem dX6_settle_119 : decode cX6_settle 119 = .ok (.iadd, 1) := by decide +kernel
theorem dX6_settle_120 : decode cX6_settle 120 = .ok (.iaload, 1) := by decide +kernel
theorem dX6_settle_121 : decode cX6_settle 121 = .ok (.iconst 1, 1) := by decide +kernel
theorem dX6_settle_122 : decode cX6_settle 122 = .ok (.isub, 1) := by decide +kernel
theorem dX6_settle_123 : decode cX6_settle 123 = .ok (.iload_n 3, 1) := by decide +kernel
theorem dX6_settle_124 : decode cX6_settle 124 = .ok (.iconst 0, 1) := by decide +kernel
theorem dX6_settle_125 : decode cX6_settle 125 = .ok (.invokevirtual 103, 3) := by decide +kernel
theorem dX6_settle_128 : decode cX6_settle 128 = .ok (.goto (-62), 3) := by decide +kernel
theorem dX6_settle_131 : decode cX6_settle 131 = .ok (.aload_n 0, 1) := by decide +kernel
theorem dX6_settle_132 : decode cX6_settle 132 = .ok (.iload_n 1, 1) := by decide +kernel
theorem dX6_settle_133 : decode cX6_settle 133 = .ok (.invokevirtual 97, 3) := by decide +kernel
theorem dX6_settle_136 : decode cX6_settle 136 = .ok (.bipush 120, 2) := by decide +kernel
theorem dX6_settle_138 : decode cX6_settle 138 = .ok (.if_icmp .gt 4, 3) := by decide +kernel
theorem dX6_settle_141 : decode cX6_settle 141 = .ok (.return_, 1) := by decide +kernel
theorem dX6_settle_142 : decode cX6_settle 142 = .ok (.aload_n 0, 1) := by decide +kernel
theorem dX6_settle_143 : decode cX6_settle 143 = .ok (.invokevirtual 62, 3) := by decide +kernel
theorem dX6_settle_146 : decode cX6_settle 146 = .ok (.istore 4, 2) := by decide +kernel
theorem dX6_settle_148 : decode cX6_settle 148 = .ok (.aload_n 0, 1) := by decide +kernel
theorem dX6_settle_149 : decode cX6_settle 149 = .ok (.getfield 51, 3) := by decide +kernel
theorem dX6_settle_152 : decode cX6_settle 152 = .ok (.ifCond .eq 4, 3) := by decide +kernel
theorem dX6_settle_155 : decode cX6_settle 155 = .ok (.return_, 1) := by decide +kernel
theorem dX6_settle_156 : decode cX6_settle 156 = .ok (.aload_n 0, 1) := by decide +kernel
theorem dX6_settle_157 : decode cX6_settle 157 = .ok (.getfield 7, 3) := by decide +kernel
theorem dX6_settle_160 : decode cX6_settle 160 = .ok (.sipush 3756, 3) := by decide +kernel
theorem dX6_settle_163 : decode cX6_settle 163 = .ok (.iload 4, 2) := by decide +kernel
theorem dX6_settle_165 : decode cX6_settle 165 = .ok (.iadd, 1) := by decide +kernel
theorem dX6_settle_166 : decode cX6_settle 166 = .ok (.iconst 1, 1) := by decide +kernel
theorem dX6_settle_167 : decode cX6_settle 167 = .ok (.iastore, 1) := by decide +kernel
theorem dX6_settle_168 : decode cX6_settle 168 = .ok (.aload_n 0, 1) := by decide +kernel
theorem dX6_settle_169 : decode cX6_settle 169 = .ok (.getfield 7, 3) := by decide +kernel
theorem dX6_settle_172 : decode cX6_settle 172 = .ok (.sipush 3948, 3) := by decide +kernel
theorem dX6_settle_175 : decode cX6_settle 175 = .ok (.iload 4, 2) := by decide +kernel
theorem dX6_settle_177 : decode cX6_settle 177 = .ok (.iadd, 1) := by decide +kernel
theorem dX6_settle_178 : decode cX6_settle 178 = .ok (.iconst (-1), 1) := by decide +kernel
theorem dX6_settle_179 : decode cX6_settle 179 = .ok (.iastore, 1) := by decide +kernel
theorem dX6_settle_180 : decode cX6_settle 180 = .ok (.aload_n 0, 1) := by decide +kernel
theorem dX6_settle_181 : decode cX6_settle 181 = .ok (.iload_n 1, 1) := by decide +kernel
theorem dX6_settle_182 : decode cX6_settle 182 = .ok (.invokevirtual 97, 3) := by decide +kernel
theorem dX6_settle_185 : decode cX6_settle 185 = .ok (.bipush 120, 2) := by decide +kernel
theorem dX6_settle_187 : decode cX6_settle 187 = .ok (.if_icmp .le 26, 3) := by decide +kernel
theorem dX6_settle_190 : decode cX6_settle 190 = .ok (.aload_n 0, 1) := by decide +kernel
theorem dX6_settle_191 : decode cX6_settle 191 = .ok (.iload_n 1, 1) := by decide +kernel
theorem dX6_settle_192 : decode cX6_settle 192 = .ok (.aload_n 0, 1) := by decide +kernel
theorem dX6_settle_193 : decode cX6_settle 193 = .ok (.getfield 7, 3) := by decide +kernel
theorem dX6_settle_196 : decode cX6_settle 196 = .ok (.sipush 3852, 3) := by decide +kernel
theorem dX6_settle_199 : decode cX6_settle 199 = .ok (.iload_n 1, 1) := by decide +kernel
theorem dX6_settle_200 : decode cX6_settle 200 = .ok (.iadd, 1) := by decide +kernel
theorem dX6_settle_201 : decode cX6_settle 201 = .ok (.iaload, 1) := by decide +kernel
theorem dX6_settle_202 : decode cX6_settle 202 = .ok (.iconst 1, 1) := by decide +kernel
theorem dX6_settle_203 : decode cX6_settle 203 = .ok (.isub, 1) := by decide +kernel
theorem dX6_settle_204 : decode cX6_settle 204 = .ok (.iload 4, 2) := by decide +kernel
theorem dX6_settle_206 : decode cX6_settle 206 = .ok (.iconst 0, 1) := by decide +kernel
theorem dX6_settle_207 : decode cX6_settle 207 = .ok (.invokevirtual 103, 3) := by decide +kernel
theorem dX6_settle_210 : decode cX6_settle 210 = .ok (.goto (-30), 3) := by decide +kernel
theorem dX6_settle_213 : decode cX6_settle 213 = .ok (.aload_n 0, 1) := by decide +kernel
theorem dX6_settle_214 : decode cX6_settle 214 = .ok (.iload 4, 2) := by decide +kernel
theorem dX6_settle_216 : decode cX6_settle 216 = .ok (.iload_n 1, 1) := by decide +kernel
theorem dX6_settle_217 : decode cX6_settle 217 = .ok (.invokevirtual 77, 3) := by decide +kernel
theorem dX6_settle_220 : decode cX6_settle 220 = .ok (.aload_n 0, 1) := by decide +kernel
theorem dX6_settle_221 : decode cX6_settle 221 = .ok (.iload_n 1, 1) := by decide +kernel
theorem dX6_settle_222 : decode cX6_settle 222 = .ok (.iload 4, 2) := by decide +kernel
theorem dX6_settle_224 : decode cX6_settle 224 = .ok (.invokevirtual 107, 3) := by decide +kernel
theorem dX6_settle_227 : decode cX6_settle 227 = .ok (.return_, 1) := by decide +kernel
theorem dX6_lookAt_0 : decode cX6_lookAt 0 = .ok (.iload_n 1, 1) := by decide +kernel
theorem dX6_lookAt_1 : decode cX6_lookAt 1 = .ok (.istore_n 2, 1) := by decide +kernel
theorem dX6_lookAt_2 : decode cX6_lookAt 2 = .ok (.aload_n 0, 1) := by decide +kernel
theorem dX6_lookAt_3 : decode cX6_lookAt 3 = .ok (.iload_n 2, 1) := by decide +kernel
theorem dX6_lookAt_4 : decode cX6_lookAt 4 = .ok (.iconst (-1), 1) := by decide +kernel
theorem dX6_lookAt_5 : decode cX6_lookAt 5 = .ok (.invokevirtual 88, 3) := by decide +kernel
theorem dX6_lookAt_8 : decode cX6_lookAt 8 = .ok (.istore_n 3, 1) := by decide +kernel
theorem dX6_lookAt_9 : decode cX6_lookAt 9 = .ok (.aload_n 0, 1) := by decide +kernel
theorem dX6_lookAt_10 : decode cX6_lookAt 10 = .ok (.iload_n 2, 1) := by decide +kernel
theorem dX6_lookAt_11 : decode cX6_lookAt 11 = .ok (.iconst 1, 1) := by decide +kernel
theorem dX6_lookAt_12 : decode cX6_lookAt 12 = .ok (.invokevirtual 88, 3) := by decide +kernel
theorem dX6_lookAt_15 : decode cX6_lookAt 15 = .ok (.istore 4, 2) := by decide +kernel
theorem dX6_lookAt_17 : decode cX6_lookAt 17 = .ok (.aload_n 0, 1) := by decide +kernel
theorem dX6_lookAt_18 : decode cX6_lookAt 18 = .ok (.iload_n 2, 1) := by decide +kernel
theorem dX6_lookAt_19 : decode cX6_lookAt 19 = .ok (.invokevirtual 97, 3) := by decide +kernel
theorem dX6_lookAt_22 : decode cX6_lookAt 22 = .ok (.istore 5, 2) := by decide +kernel
theorem dX6_lookAt_24 : decode cX6_lookAt 24 = .ok (.aload_n 0, 1) := by decide +kernel
theorem dX6_lookAt_25 : decode cX6_lookAt 25 = .ok (.getfield 7, 3) := by decide +kernel
theorem dX6_lookAt_28 : decode cX6_lookAt 28 = .ok (.sipush 3852, 3) := by decide +kernel
theorem dX6_lookAt_31 : decode cX6_lookAt 31 = .ok (.iload_n 2, 1) := by decide +kernel
theorem dX6_lookAt_32 : decode cX6_lookAt 32 = .ok (.iadd, 1) := by decide +kernel
theorem dX6_lookAt_33 : decode cX6_lookAt 33 = .ok (.iaload, 1) := by decide +kernel
theorem dX6_lookAt_34 : decode cX6_lookAt 34 = .ok (.ifCond .ne 35, 3) := by decide +kernel
theorem dX6_lookAt_37 : decode cX6_lookAt 37 = .ok (.aload_n 0, 1) := by decide +kernel
theorem dX6_lookAt_38 : decode cX6_lookAt 38 = .ok (.getfield 7, 3) := by decide +kernel
theorem dX6_lookAt_41 : decode cX6_lookAt 41 = .ok (.sipush 13068, 3) := by decide +kernel
theorem dX6_lookAt_44 : decode cX6_lookAt 44 = .ok (.iaload, 1) := by decide +kernel
theorem dX6_lookAt_45 : decode cX6_lookAt 45 = .ok (.iconst 1, 1) := by decide +kernel
theorem dX6_lookAt_46 : decode cX6_lookAt 46 = .ok (.if_icmp .le 23, 3) := by decide +kernel
theorem dX6_lookAt_49 : decode cX6_lookAt 49 = .ok (.aload_n 0, 1) := by decide +kernel
theorem dX6_lookAt_50 : decode cX6_lookAt 50 = .ok (.iload_n 2, 1) := by decide +kernel
theorem dX6_lookAt_51 : decode cX6_lookAt 51 = .ok (.invokevirtual 110, 3) := by decide +kernel
theorem dX6_lookAt_54 : decode cX6_lookAt 54 = .ok (.iload_n 3, 1) := by decide +kernel
theorem dX6_lookAt_55 : decode cX6_lookAt 55 = .ok (.iconst (-1), 1) := by decide +kernel
theorem dX6_lookAt_56 : decode cX6_lookAt 56 = .ok (.if_icmp .eq 7, 3) := by decide +kernel
theorem dX6_lookAt_59 : decode cX6_lookAt 59 = .ok (.iload_n 3, 1) := by decide +kernel
theorem dX6_lookAt_60 : decode cX6_lookAt 60 = .ok (.goto 5, 3) := by decide +kernel
theorem dX6_lookAt_63 : decode cX6_lookAt 63 = .ok (.iload 4, 2) := by decide +kernel
theorem dX6_lookAt_65 : decode cX6_lookAt 65 = .ok (.istore_n 2, 1) := by decide +kernel
theorem dX6_lookAt_66 : decode cX6_lookAt 66 = .ok (.goto 129, 3) := by decide +kernel
theorem dX6_lookAt_69 : decode cX6_lookAt 69 = .ok (.iload_n 3, 1) := by decide +kernel
theorem dX6_lookAt_70 : decode cX6_lookAt 70 = .ok (.iconst (-1), 1) := by decide +kernel
theorem dX6_lookAt_71 : decode cX6_lookAt 71 = .ok (.if_icmp .eq 59, 3) := by decide +kernel
theorem dX6_lookAt_74 : decode cX6_lookAt 74 = .ok (.iload 5, 2) := by decide +kernel
theorem dX6_lookAt_76 : decode cX6_lookAt 76 = .ok (.aload_n 0, 1) := by decide +kernel
theorem dX6_lookAt_77 : decode cX6_lookAt 77 = .ok (.iload_n 3, 1) := by decide +kernel
theorem dX6_lookAt_78 : decode cX6_lookAt 78 = .ok (.invokevirtual 97, 3) := by decide +kernel
theorem dX6_lookAt_81 : decode cX6_lookAt 81 = .ok (.iadd, 1) := by decide +kernel
theorem dX6_lookAt_82 : decode cX6_lookAt 82 = .ok (.bipush 72, 2) := by decide +kernel
theorem dX6_lookAt_84 : decode cX6_lookAt 84 = .ok (.if_icmp .gt 46, 3) := by decide +kernel
theorem dX6_lookAt_87 : decode cX6_lookAt 87 = .ok (.aload_n 0, 1) := by decide +kernel
theorem dX6_lookAt_88 : decode cX6_lookAt 88 = .ok (.getfield 7, 3) := by decide +kernel
theorem dX6_lookAt_91 : decode cX6_lookAt 91 = .ok (.sipush 3852, 3) := by decide +kernel
theorem dX6_lookAt_94 : decode cX6_lookAt 94 = .ok (.iload_n 2, 1) := by decide +kernel
theorem dX6_lookAt_95 : decode cX6_lookAt 95 = .ok (.iadd, 1) := by decide +kernel
theorem dX6_lookAt_96 : decode cX6_lookAt 96 = .ok (.iaload, 1) := by decide +kernel
theorem dX6_lookAt_97 : decode cX6_lookAt 97 = .ok (.ifCond .le 23, 3) := by decide +kernel
theorem dX6_lookAt_100 : decode cX6_lookAt 100 = .ok (.aload_n 0, 1) := by decide +kernel
theorem dX6_lookAt_101 : decode cX6_lookAt 101 = .ok (.iload_n 2, 1) := by decide +kernel
theorem dX6_lookAt_102 : decode cX6_lookAt 102 = .ok (.iconst 0, 1) := by decide +kernel
theorem dX6_lookAt_103 : decode cX6_lookAt 103 = .ok (.iload_n 3, 1) := by decide +kernel
theorem dX6_lookAt_104 : decode cX6_lookAt 104 = .ok (.aload_n 0, 1) := by decide +kernel
theorem dX6_lookAt_105 : decode cX6_lookAt 105 = .ok (.getfield 7, 3) := by decide +kernel
theorem dX6_lookAt_108 : decode cX6_lookAt 108 = .ok (.sipush 3852, 3) := by decide +kernel
theorem dX6_lookAt_111 : decode cX6_lookAt 111 = .ok (.iload_n 3, 1) := by decide +kernel
theorem dX6_lookAt_112 : decode cX6_lookAt 112 = .ok (.iadd, 1) := by decide +kernel
theorem dX6_lookAt_113 : decode cX6_lookAt 113 = .ok (.iaload, 1) := by decide +kernel
theorem dX6_lookAt_114 : decode cX6_lookAt 114 = .ok (.invokevirtual 103, 3) := by decide +kernel
theorem dX6_lookAt_117 : decode cX6_lookAt 117 = .ok (.goto (-30), 3) := by decide +kernel
theorem dX6_lookAt_120 : decode cX6_lookAt 120 = .ok (.aload_n 0, 1) := by decide +kernel
theorem dX6_lookAt_121 : decode cX6_lookAt 121 = .ok (.iload_n 2, 1) := by decide +kernel
theorem dX6_lookAt_122 : decode cX6_lookAt 122 = .ok (.invokevirtual 110, 3) := by decide +kernel
theorem dX6_lookAt_125 : decode cX6_lookAt 125 = .ok (.iload_n 3, 1) := by decide +kernel
theorem dX6_lookAt_126 : decode cX6_lookAt 126 = .ok (.istore_n 2, 1) := by decide +kernel
theorem dX6_lookAt_127 : decode cX6_lookAt 127 = .ok (.goto 68, 3) := by decide +kernel
theorem dX6_lookAt_130 : decode cX6_lookAt 130 = .ok (.iload 4, 2) := by decide +kernel
theorem dX6_lookAt_132 : decode cX6_lookAt 132 = .ok (.iconst (-1), 1) := by decide +kernel
theorem dX6_lookAt_133 : decode cX6_lookAt 133 = .ok (.if_icmp .eq 61, 3) := by decide +kernel
theorem dX6_lookAt_136 : decode cX6_lookAt 136 = .ok (.iload 5, 2) := by decide +kernel
theorem dX6_lookAt_138 : decode cX6_lookAt 138 = .ok (.aload_n 0, 1) := by decide +kernel
theorem dX6_lookAt_139 : decode cX6_lookAt 139 = .ok (.iload 4, 2) := by decide +kernel
theorem dX6_lookAt_141 : decode cX6_lookAt 141 = .ok (.invokevirtual 97, 3) := by decide +kernel
theorem dX6_lookAt_144 : decode cX6_lookAt 144 = .ok (.iadd, 1) := by decide +kernel
theorem dX6_lookAt_145 : decode cX6_lookAt 145 = .ok (.bipush 72, 2) := by decide +kernel
theorem dX6_lookAt_147 : decode cX6_lookAt 147 = .ok (.if_icmp .gt 47, 3) := by decide +kernel
theorem dX6_lookAt_150 : decode cX6_lookAt 150 = .ok (.aload_n 0, 1) := by decide +kernel
theorem dX6_lookAt_151 : decode cX6_lookAt 151 = .ok (.getfield 7, 3) := by decide +kernel
theorem dX6_lookAt_154 : decode cX6_lookAt 154 = .ok (.sipush 3852, 3) := by decide +kernel
theorem dX6_lookAt_157 : decode cX6_lookAt 157 = .ok (.iload 4, 2) := by decide +kernel
theorem dX6_lookAt_159 : decode cX6_lookAt 159 = .ok (.iadd, 1) := by decide +kernel
theorem dX6_lookAt_160 : decode cX6_lookAt 160 = .ok (.iaload, 1) := by decide +kernel
theorem dX6_lookAt_161 : decode cX6_lookAt 161 = .ok (.ifCond .le 24, 3) := by decide +kernel
theorem dX6_lookAt_164 : decode cX6_lookAt 164 = .ok (.aload_n 0, 1) := by decide +kernel
theorem dX6_lookAt_165 : decode cX6_lookAt 165 = .ok (.iload 4, 2) := by decide +kernel
theorem dX6_lookAt_167 : decode cX6_lookAt 167 = .ok (.iconst 0, 1) := by decide +kernel
theorem dX6_lookAt_168 : decode cX6_lookAt 168 = .ok (.iload_n 2, 1) := by decide +kernel
theorem dX6_lookAt_169 : decode cX6_lookAt 169 = .ok (.aload_n 0, 1) := by decide +kernel
theorem dX6_lookAt_170 : decode cX6_lookAt 170 = .ok (.getfield 7, 3) := by decide +kernel
theorem dX6_lookAt_173 : decode cX6_lookAt 173 = .ok (.sipush 3852, 3) := by decide +kernel
theorem dX6_lookAt_176 : decode cX6_lookAt 176 = .ok (.iload_n 2, 1) := by decide +kernel
theorem dX6_lookAt_177 : decode cX6_lookAt 177 = .ok (.iadd, 1) := by decide +kernel
theorem dX6_lookAt_178 : decode cX6_lookAt 178 = .ok (.iaload, 1) := by decide +kernel
theorem dX6_lookAt_179 : decode cX6_lookAt 179 = .ok (.invokevirtual 103, 3) := by decide +kernel
theorem dX6_lookAt_182 : decode cX6_lookAt 182 = .ok (.goto (-32), 3) := by decide +kernel
theorem dX6_lookAt_185 : decode cX6_lookAt 185 = .ok (.aload_n 0, 1) := by decide +kernel
theorem dX6_lookAt_186 : decode cX6_lookAt 186 = .ok (.iload 4, 2) := by decide +kernel
theorem dX6_lookAt_188 : decode cX6_lookAt 188 = .ok (.invokevirtual 110, 3) := by decide +kernel
theorem dX6_lookAt_191 : decode cX6_lookAt 191 = .ok (.goto 4, 3) := by decide +kernel
theorem dX6_lookAt_194 : decode cX6_lookAt 194 = .ok (.return_, 1) := by decide +kernel
theorem dX6_lookAt_195 : decode cX6_lookAt 195 = .ok (.goto (-193), 3) := by decide +kernel
theorem dX6_leafOf_0 : decode cX6_leafOf 0 = .ok (.aload_n 0, 1) := by decide +kernel
theorem dX6_leafOf_1 : decode cX6_leafOf 1 = .ok (.getfield 7, 3) := by decide +kernel
theorem dX6_leafOf_4 : decode cX6_leafOf 4 = .ok (.sipush 12300, 3) := by decide +kernel
theorem dX6_leafOf_7 : decode cX6_leafOf 7 = .ok (.iaload, 1) := by decide +kernel
theorem dX6_leafOf_8 : decode cX6_leafOf 8 = .ok (.istore 4, 2) := by decide +kernel
theorem dX6_leafOf_10 : decode cX6_leafOf 10 = .ok (.iconst 0, 1) := by decide +kernel
theorem dX6_leafOf_11 : decode cX6_leafOf 11 = .ok (.istore 5, 2) := by decide +kernel
theorem dX6_leafOf_13 : decode cX6_leafOf 13 = .ok (.iload 5, 2) := by decide +kernel
theorem dX6_leafOf_15 : decode cX6_leafOf 15 = .ok (.aload_n 0, 1) := by decide +kernel
theorem dX6_leafOf_16 : decode cX6_leafOf 16 = .ok (.getfield 7, 3) := by decide +kernel
theorem dX6_leafOf_19 : decode cX6_leafOf 19 = .ok (.sipush 13068, 3) := by decide +kernel
theorem dX6_leafOf_22 : decode cX6_leafOf 22 = .ok (.iaload, 1) := by decide +kernel
theorem dX6_leafOf_23 : decode cX6_leafOf 23 = .ok (.if_icmp .ge 58, 3) := by decide +kernel
theorem dX6_leafOf_26 : decode cX6_leafOf 26 = .ok (.aload_n 0, 1) := by decide +kernel
theorem dX6_leafOf_27 : decode cX6_leafOf 27 = .ok (.getfield 7, 3) := by decide +kernel
theorem dX6_leafOf_30 : decode cX6_leafOf 30 = .ok (.sipush 12300, 3) := by decide +kernel
theorem dX6_leafOf_33 : decode cX6_leafOf 33 = .ok (.iload 5, 2) := by decide +kernel
theorem dX6_leafOf_35 : decode cX6_leafOf 35 = .ok (.iadd, 1) := by decide +kernel
theorem dX6_leafOf_36 : decode cX6_leafOf 36 = .ok (.iaload, 1) := by decide +kernel
theorem dX6_leafOf_37 : decode cX6_leafOf 37 = .ok (.istore 6, 2) := by decide +kernel
theorem dX6_leafOf_39 : decode cX6_leafOf 39 = .ok (.aload_n 0, 1) := by decide +kernel
theorem dX6_leafOf_40 : decode cX6_leafOf 40 = .ok (.getfield 7, 3) := by decide +kernel
theorem dX6_leafOf_43 : decode cX6_leafOf 43 = .ok (.sipush 3852, 3) := by decide +kernel
theorem dX6_leafOf_46 : decode cX6_leafOf 46 = .ok (.iload 6, 2) := by decide +kernel
theorem dX6_leafOf_48 : decode cX6_leafOf 48 = .ok (.iadd, 1) := by decide +kernel
theorem dX6_leafOf_49 : decode cX6_leafOf 49 = .ok (.iaload, 1) := by decide +kernel
theorem dX6_leafOf_50 : decode cX6_leafOf 50 = .ok (.ifCond .le 21, 3) := by decide +kernel
theorem dX6_leafOf_53 : decode cX6_leafOf 53 = .ok (.aload_n 0, 1) := by decide +kernel
theorem dX6_leafOf_54 : decode cX6_leafOf 54 = .ok (.iload 6, 2) := by decide +kernel
theorem dX6_leafOf_56 : decode cX6_leafOf 56 = .ok (.iconst 0, 1) := by decide +kernel
theorem dX6_leafOf_57 : decode cX6_leafOf 57 = .ok (.iload_n 1, 1) := by decide +kernel
theorem dX6_leafOf_58 : decode cX6_leafOf 58 = .ok (.iload_n 2, 1) := by decide +kernel
theorem dX6_leafOf_59 : decode cX6_leafOf 59 = .ok (.iload_n 3, 1) := by decide +kernel
theorem dX6_leafOf_60 : decode cX6_leafOf 60 = .ok (.invokevirtual 113, 3) := by decide +kernel
theorem dX6_leafOf_63 : decode cX6_leafOf 63 = .ok (.ifCond .gt 8, 3) := by decide +kernel
theorem dX6_leafOf_66 : decode cX6_leafOf 66 = .ok (.iload 6, 2) := by decide +kernel
theorem dX6_leafOf_68 : decode cX6_leafOf 68 = .ok (.goto 5, 3) := by decide +kernel
theorem dX6_leafOf_71 : decode cX6_leafOf 71 = .ok (.iload 4, 2) := by decide +kernel
theorem dX6_leafOf_73 : decode cX6_leafOf 73 = .ok (.istore 4, 2) := by decide +kernel
theorem dX6_leafOf_75 : decode cX6_leafOf 75 = .ok (.iinc 5 1, 3) := by decide +kernel
theorem dX6_leafOf_78 : decode cX6_leafOf 78 = .ok (.goto (-65), 3) := by decide +kernel
theorem dX6_leafOf_81 : decode cX6_leafOf 81 = .ok (.iload 4, 2) := by decide +kernel
theorem dX6_leafOf_83 : decode cX6_leafOf 83 = .ok (.ireturn, 1) := by decide +kernel
theorem dX6_find_0 : decode cX6_find 0 = .ok (.aload_n 0, 1) := by decide +kernel
theorem dX6_find_1 : decode cX6_find 1 = .ok (.iload_n 1, 1) := by decide +kernel
theorem dX6_find_2 : decode cX6_find 2 = .ok (.iload_n 2, 1) := by decide +kernel
theorem dX6_find_3 : decode cX6_find 3 = .ok (.iload_n 3, 1) := by decide +kernel
theorem dX6_find_4 : decode cX6_find 4 = .ok (.invokevirtual 117, 3) := by decide +kernel
theorem dX6_find_7 : decode cX6_find 7 = .ok (.istore 4, 2) := by decide +kernel
theorem dX6_find_9 : decode cX6_find 9 = .ok (.iconst 0, 1) := by decide +kernel
theorem dX6_find_10 : decode cX6_find 10 = .ok (.istore 5, 2) := by decide +kernel
theorem dX6_find_12 : decode cX6_find 12 = .ok (.iload 5, 2) := by decide +kernel
theorem dX6_find_14 : decode cX6_find 14 = .ok (.aload_n 0, 1) := by decide +kernel
theorem dX6_find_15 : decode cX6_find 15 = .ok (.getfield 7, 3) := by decide +kernel
theorem dX6_find_18 : decode cX6_find 18 = .ok (.sipush 3852, 3) := by decide +kernel
theorem dX6_find_21 : decode cX6_find 21 = .ok (.iload 4, 2) := by decide +kernel
theorem dX6_find_23 : decode cX6_find 23 = .ok (.iadd, 1) := by decide +kernel
theorem dX6_find_24 : decode cX6_find 24 = .ok (.iaload, 1) := by decide +kernel
theorem dX6_find_25 : decode cX6_find 25 = .ok (.if_icmp .ge 26, 3) := by decide +kernel
theorem dX6_find_28 : decode cX6_find 28 = .ok (.aload_n 0, 1) := by decide +kernel
theorem dX6_find_29 : decode cX6_find 29 = .ok (.iload 4, 2) := by decide +kernel
theorem dX6_find_31 : decode cX6_find 31 = .ok (.iload 5, 2) := by decide +kernel
theorem dX6_find_33 : decode cX6_find 33 = .ok (.iload_n 1, 1) := by decide +kernel
theorem dX6_find_34 : decode cX6_find 34 = .ok (.iload_n 2, 1) := by decide +kernel
theorem dX6_find_35 : decode cX6_find 35 = .ok (.iload_n 3, 1) := by decide +kernel
theorem dX6_find_36 : decode cX6_find 36 = .ok (.invokevirtual 113, 3) := by decide +kernel
theorem dX6_find_39 : decode cX6_find 39 = .ok (.ifCond .ne 6, 3) := by decide +kernel
theorem dX6_find_42 : decode cX6_find 42 = .ok (.iload 5, 2) := by decide +kernel
theorem dX6_find_44 : decode cX6_find 44 = .ok (.ireturn, 1) := by decide +kernel
theorem dX6_find_45 : decode cX6_find 45 = .ok (.iinc 5 1, 3) := by decide +kernel
theorem dX6_find_48 : decode cX6_find 48 = .ok (.goto (-36), 3) := by decide +kernel
theorem dX6_find_51 : decode cX6_find 51 = .ok (.iconst (-1), 1) := by decide +kernel
theorem dX6_find_52 : decode cX6_find 52 = .ok (.ireturn, 1) := by decide +kernel
theorem dX6_put_0 : decode cX6_put 0 = .ok (.aload_n 0, 1) := by decide +kernel
theorem dX6_put_1 : decode cX6_put 1 = .ok (.iload_n 1, 1) := by decide +kernel
theorem dX6_put_2 : decode cX6_put 2 = .ok (.iload_n 2, 1) := by decide +kernel
theorem dX6_put_3 : decode cX6_put 3 = .ok (.iload_n 3, 1) := by decide +kernel
theorem dX6_put_4 : decode cX6_put 4 = .ok (.invokevirtual 117, 3) := by decide +kernel
theorem dX6_put_7 : decode cX6_put 7 = .ok (.istore 6, 2) := by decide +kernel
theorem dX6_put_9 : decode cX6_put 9 = .ok (.aload_n 0, 1) := by decide +kernel
theorem dX6_put_10 : decode cX6_put 10 = .ok (.getfield 7, 3) := by decide +kernel
theorem dX6_put_13 : decode cX6_put 13 = .ok (.sipush 3852, 3) := by decide +kernel
theorem dX6_put_16 : decode cX6_put 16 = .ok (.iload 6, 2) := by decide +kernel
theorem dX6_put_18 : decode cX6_put 18 = .ok (.iadd, 1) := by decide +kernel
theorem dX6_put_19 : decode cX6_put 19 = .ok (.iaload, 1) := by decide +kernel
theorem dX6_put_20 : decode cX6_put 20 = .ok (.istore 7, 2) := by decide +kernel
theorem dX6_put_22 : decode cX6_put 22 = .ok (.iload 7, 2) := by decide +kernel
theorem dX6_put_24 : decode cX6_put 24 = .ok (.ifCond .le 47, 3) := by decide +kernel
theorem dX6_put_27 : decode cX6_put 27 = .ok (.aload_n 0, 1) := by decide +kernel
theorem dX6_put_28 : decode cX6_put 28 = .ok (.iload 6, 2) := by decide +kernel
theorem dX6_put_30 : decode cX6_put 30 = .ok (.iload 7, 2) := by decide +kernel
theorem dX6_put_32 : decode cX6_put 32 = .ok (.iconst 1, 1) := by decide +kernel
theorem dX6_put_33 : decode cX6_put 33 = .ok (.isub, 1) := by decide +kernel
theorem dX6_put_34 : decode cX6_put 34 = .ok (.iload_n 1, 1) := by decide +kernel
theorem dX6_put_35 : decode cX6_put 35 = .ok (.iload_n 2, 1) := by decide +kernel
theorem dX6_put_36 : decode cX6_put 36 = .ok (.iload_n 3, 1) := by decide +kernel
theorem dX6_put_37 : decode cX6_put 37 = .ok (.invokevirtual 113, 3) := by decide +kernel
theorem dX6_put_40 : decode cX6_put 40 = .ok (.ifCond .le 31, 3) := by decide +kernel
theorem dX6_put_43 : decode cX6_put 43 = .ok (.aload_n 0, 1) := by decide +kernel
theorem dX6_put_44 : decode cX6_put 44 = .ok (.bipush 16, 2) := by decide +kernel
theorem dX6_put_46 : decode cX6_put 46 = .ok (.iload 6, 2) := by decide +kernel
theorem dX6_put_48 : decode cX6_put 48 = .ok (.imul, 1) := by decide +kernel
theorem dX6_put_49 : decode cX6_put 49 = .ok (.iload 7, 2) := by decide +kernel
theorem dX6_put_51 : decode cX6_put 51 = .ok (.iadd, 1) := by decide +kernel
theorem dX6_put_52 : decode cX6_put 52 = .ok (.iconst 1, 1) := by decide +kernel
theorem dX6_put_53 : decode cX6_put 53 = .ok (.isub, 1) := by decide +kernel
theorem dX6_put_54 : decode cX6_put 54 = .ok (.bipush 16, 2) := by decide +kernel
theorem dX6_put_56 : decode cX6_put 56 = .ok (.iload 6, 2) := by decide +kernel
theorem dX6_put_58 : decode cX6_put 58 = .ok (.imul, 1) := by decide +kernel
theorem dX6_put_59 : decode cX6_put 59 = .ok (.iload 7, 2) := by decide +kernel
theorem dX6_put_61 : decode cX6_put 61 = .ok (.iadd, 1) := by decide +kernel
theorem dX6_put_62 : decode cX6_put 62 = .ok (.invokevirtual 91, 3) := by decide +kernel
theorem dX6_put_65 : decode cX6_put 65 = .ok (.iinc 7 (-1), 3) := by decide +kernel
theorem dX6_put_68 : decode cX6_put 68 = .ok (.goto (-46), 3) := by decide +kernel
theorem dX6_put_71 : decode cX6_put 71 = .ok (.bipush 16, 2) := by decide +kernel
theorem dX6_put_73 : decode cX6_put 73 = .ok (.iload 6, 2) := by decide +kernel
theorem dX6_put_75 : decode cX6_put 75 = .ok (.imul, 1) := by decide +kernel
theorem dX6_put_76 : decode cX6_put 76 = .ok (.iload 7, 2) := by decide +kernel
theorem dX6_put_78 : decode cX6_put 78 = .ok (.iadd, 1) := by decide +kernel
theorem dX6_put_79 : decode cX6_put 79 = .ok (.istore 8, 2) := by decide +kernel
theorem dX6_put_81 : decode cX6_put 81 = .ok (.aload_n 0, 1) := by decide +kernel
theorem dX6_put_82 : decode cX6_put 82 = .ok (.getfield 7, 3) := by decide +kernel
theorem dX6_put_85 : decode cX6_put 85 = .ok (.sipush 4620, 3) := by decide +kernel
theorem dX6_put_88 : decode cX6_put 88 = .ok (.iload 8, 2) := by decide +kernel
theorem dX6_put_90 : decode cX6_put 90 = .ok (.iadd, 1) := by decide +kernel
theorem dX6_put_91 : decode cX6_put 91 = .ok (.iload_n 1, 1) := by decide +kernel
theorem dX6_put_92 : decode cX6_put 92 = .ok (.iastore, 1) := by decide +kernel
theorem dX6_put_93 : decode cX6_put 93 = .ok (.aload_n 0, 1) := by decide +kernel
theorem dX6_put_94 : decode cX6_put 94 = .ok (.getfield 7, 3) := by decide +kernel
theorem dX6_put_97 : decode cX6_put 97 = .ok (.sipush 6156, 3) := by decide +kernel
theorem dX6_put_100 : decode cX6_put 100 = .ok (.iload 8, 2) := by decide +kernel
theorem dX6_put_102 : decode cX6_put 102 = .ok (.iadd, 1) := by decide +kernel
theorem dX6_put_103 : decode cX6_put 103 = .ok (.iload_n 2, 1) := by decide +kernel
theorem dX6_put_104 : decode cX6_put 104 = .ok (.iastore, 1) := by decide +kernel
theorem dX6_put_105 : decode cX6_put 105 = .ok (.aload_n 0, 1) := by decide +kernel
theorem dX6_put_106 : decode cX6_put 106 = .ok (.getfield 7, 3) := by decide +kernel
theorem dX6_put_109 : decode cX6_put 109 = .ok (.sipush 7692, 3) := by decide +kernel
theorem dX6_put_112 : decode cX6_put 112 = .ok (.iload 8, 2) := by decide +kernel
theorem dX6_put_114 : decode cX6_put 114 = .ok (.iadd, 1) := by decide +kernel
theorem dX6_put_115 : decode cX6_put 115 = .ok (.iload_n 3, 1) := by decide +kernel
theorem dX6_put_116 : decode cX6_put 116 = .ok (.iastore, 1) := by decide +kernel
theorem dX6_put_117 : decode cX6_put 117 = .ok (.aload_n 0, 1) := by decide +kernel
theorem dX6_put_118 : decode cX6_put 118 = .ok (.getfield 7, 3) := by decide +kernel
theorem dX6_put_121 : decode cX6_put 121 = .ok (.sipush 9228, 3) := by decide +kernel
theorem dX6_put_124 : decode cX6_put 124 = .ok (.iload 8, 2) := by decide +kernel
theorem dX6_put_126 : decode cX6_put 126 = .ok (.iadd, 1) := by decide +kernel
theorem dX6_put_127 : decode cX6_put 127 = .ok (.iload 4, 2) := by decide +kernel
theorem dX6_put_129 : decode cX6_put 129 = .ok (.iastore, 1) := by decide +kernel
theorem dX6_put_130 : decode cX6_put 130 = .ok (.aload_n 0, 1) := by decide +kernel
theorem dX6_put_131 : decode cX6_put 131 = .ok (.getfield 7, 3) := by decide +kernel
theorem dX6_put_134 : decode cX6_put 134 = .ok (.sipush 10764, 3) := by decide +kernel
theorem dX6_put_137 : decode cX6_put 137 = .ok (.iload 8, 2) := by decide +kernel
theorem dX6_put_139 : decode cX6_put 139 = .ok (.iadd, 1) := by decide +kernel
theorem dX6_put_140 : decode cX6_put 140 = .ok (.iload 5, 2) := by decide +kernel
theorem dX6_put_142 : decode cX6_put 142 = .ok (.iastore, 1) := by decide +kernel
theorem dX6_put_143 : decode cX6_put 143 = .ok (.aload_n 0, 1) := by decide +kernel
theorem dX6_put_144 : decode cX6_put 144 = .ok (.getfield 7, 3) := by decide +kernel
theorem dX6_put_147 : decode cX6_put 147 = .ok (.sipush 3852, 3) := by decide +kernel
theorem dX6_put_150 : decode cX6_put 150 = .ok (.iload 6, 2) := by decide +kernel
theorem dX6_put_152 : decode cX6_put 152 = .ok (.iadd, 1) := by decide +kernel
theorem dX6_put_153 : decode cX6_put 153 = .ok (.dup2, 1) := by decide +kernel
theorem dX6_put_154 : decode cX6_put 154 = .ok (.iaload, 1) := by decide +kernel
theorem dX6_put_155 : decode cX6_put 155 = .ok (.iconst 1, 1) := by decide +kernel
theorem dX6_put_156 : decode cX6_put 156 = .ok (.iadd, 1) := by decide +kernel
theorem dX6_put_157 : decode cX6_put 157 = .ok (.iastore, 1) := by decide +kernel
theorem dX6_put_158 : decode cX6_put 158 = .ok (.aload_n 0, 1) := by decide +kernel
theorem dX6_put_159 : decode cX6_put 159 = .ok (.iload 6, 2) := by decide +kernel
theorem dX6_put_161 : decode cX6_put 161 = .ok (.invokevirtual 121, 3) := by decide +kernel
theorem dX6_put_164 : decode cX6_put 164 = .ok (.return_, 1) := by decide +kernel
theorem dX6_remove_0 : decode cX6_remove 0 = .ok (.aload_n 0, 1) := by decide +kernel
theorem dX6_remove_1 : decode cX6_remove 1 = .ok (.iload_n 1, 1) := by decide +kernel
theorem dX6_remove_2 : decode cX6_remove 2 = .ok (.iload_n 2, 1) := by decide +kernel
theorem dX6_remove_3 : decode cX6_remove 3 = .ok (.iload_n 3, 1) := by decide +kernel
theorem dX6_remove_4 : decode cX6_remove 4 = .ok (.invokevirtual 117, 3) := by decide +kernel
theorem dX6_remove_7 : decode cX6_remove 7 = .ok (.istore 4, 2) := by decide +kernel
theorem dX6_remove_9 : decode cX6_remove 9 = .ok (.aload_n 0, 1) := by decide +kernel
theorem dX6_remove_10 : decode cX6_remove 10 = .ok (.iload 4, 2) := by decide +kernel
theorem dX6_remove_12 : decode cX6_remove 12 = .ok (.aload_n 0, 1) := by decide +kernel
theorem dX6_remove_13 : decode cX6_remove 13 = .ok (.iload_n 1, 1) := by decide +kernel
theorem dX6_remove_14 : decode cX6_remove 14 = .ok (.iload_n 2, 1) := by decide +kernel
theorem dX6_remove_15 : decode cX6_remove 15 = .ok (.iload_n 3, 1) := by decide +kernel
theorem dX6_remove_16 : decode cX6_remove 16 = .ok (.invokevirtual 124, 3) := by decide +kernel
theorem dX6_remove_19 : decode cX6_remove 19 = .ok (.invokevirtual 94, 3) := by decide +kernel
theorem dX6_remove_22 : decode cX6_remove 22 = .ok (.aload_n 0, 1) := by decide +kernel
theorem dX6_remove_23 : decode cX6_remove 23 = .ok (.iload 4, 2) := by decide +kernel
theorem dX6_remove_25 : decode cX6_remove 25 = .ok (.invokevirtual 127, 3) := by decide +kernel
theorem dX6_remove_28 : decode cX6_remove 28 = .ok (.return_, 1) := by decide +kernel
theorem dX6_resize_0 : decode cX6_resize 0 = .ok (.aload_n 0, 1) := by decide +kernel
theorem dX6_resize_1 : decode cX6_resize 1 = .ok (.getfield 51, 3) := by decide +kernel
theorem dX6_resize_4 : decode cX6_resize 4 = .ok (.ifCond .ne 9, 3) := by decide +kernel
theorem dX6_resize_7 : decode cX6_resize 7 = .ok (.iload_n 3, 1) := by decide +kernel
theorem dX6_resize_8 : decode cX6_resize 8 = .ok (.iload 4, 2) := by decide +kernel
theorem dX6_resize_10 : decode cX6_resize 10 = .ok (.if_icmp .ne 4, 3) := by decide +kernel
theorem dX6_resize_13 : decode cX6_resize 13 = .ok (.return_, 1) := by decide +kernel
theorem dX6_resize_14 : decode cX6_resize 14 = .ok (.iload_n 3, 1) := by decide +kernel
theorem dX6_resize_15 : decode cX6_resize 15 = .ok (.ifCond .ne 16, 3) := by decide +kernel
theorem dX6_resize_18 : decode cX6_resize 18 = .ok (.aload_n 0, 1) := by decide +kernel
theorem dX6_resize_19 : decode cX6_resize 19 = .ok (.iload_n 1, 1) := by decide +kernel
theorem dX6_resize_20 : decode cX6_resize 20 = .ok (.iload_n 2, 1) := by decide +kernel
theorem dX6_resize_21 : decode cX6_resize 21 = .ok (.iconst 0, 1) := by decide +kernel
theorem dX6_resize_22 : decode cX6_resize 22 = .ok (.iload 4, 2) := by decide +kernel
theorem dX6_resize_24 : decode cX6_resize 24 = .ok (.iconst 0, 1) := by decide +kernel
theorem dX6_resize_25 : decode cX6_resize 25 = .ok (.invokevirtual 130, 3) := by decide +kernel
theorem dX6_resize_28 : decode cX6_resize 28 = .ok (.goto 72, 3) := by decide +kernel
theorem dX6_resize_31 : decode cX6_resize 31 = .ok (.iload 4, 2) := by decide +kernel
theorem dX6_resize_33 : decode cX6_resize 33 = .ok (.ifCond .ne 13, 3) := by decide +kernel
theorem dX6_resize_36 : decode cX6_resize 36 = .ok (.aload_n 0, 1) := by decide +kernel
theorem dX6_resize_37 : decode cX6_resize 37 = .ok (.iload_n 1, 1) := by decide +kernel
theorem dX6_resize_38 : decode cX6_resize 38 = .ok (.iload_n 2, 1) := by decide +kernel
theorem dX6_resize_39 : decode cX6_resize 39 = .ok (.iconst 0, 1) := by decide +kernel
theorem dX6_resize_40 : decode cX6_resize 40 = .ok (.invokevirtual 134, 3) := by decide +kernel
theorem dX6_resize_43 : decode cX6_resize 43 = .ok (.goto 57, 3) := by decide +kernel
theorem dX6_resize_46 : decode cX6_resize 46 = .ok (.aload_n 0, 1) := by decide +kernel
theorem dX6_resize_47 : decode cX6_resize 47 = .ok (.iload_n 1, 1) := by decide +kernel
theorem dX6_resize_48 : decode cX6_resize 48 = .ok (.iload_n 2, 1) := by decide +kernel
theorem dX6_resize_49 : decode cX6_resize 49 = .ok (.iconst 0, 1) := by decide +kernel
theorem dX6_resize_50 : decode cX6_resize 50 = .ok (.invokevirtual 117, 3) := by decide +kernel
theorem dX6_resize_53 : decode cX6_resize 53 = .ok (.istore 5, 2) := by decide +kernel
theorem dX6_resize_55 : decode cX6_resize 55 = .ok (.aload_n 0, 1) := by decide +kernel
theorem dX6_resize_56 : decode cX6_resize 56 = .ok (.getfield 7, 3) := by decide +kernel
theorem dX6_resize_59 : decode cX6_resize 59 = .ok (.sipush 9228, 3) := by decide +kernel
theorem dX6_resize_62 : decode cX6_resize 62 = .ok (.bipush 16, 2) := by decide +kernel
theorem dX6_resize_64 : decode cX6_resize 64 = .ok (.iload 5, 2) := by decide +kernel
theorem dX6_resize_66 : decode cX6_resize 66 = .ok (.imul, 1) := by decide +kernel
theorem dX6_resize_67 : decode cX6_resize 67 = .ok (.iadd, 1) := by decide +kernel
theorem dX6_resize_68 : decode cX6_resize 68 = .ok (.aload_n 0, 1) := by decide +kernel
theorem dX6_resize_69 : decode cX6_resize 69 = .ok (.iload_n 1, 1) := by decide +kernel
theorem dX6_resize_70 : decode cX6_resize 70 = .ok (.iload_n 2, 1) := by decide +kernel
theorem dX6_resize_71 : decode cX6_resize 71 = .ok (.iconst 0, 1) := by decide +kernel
theorem dX6_resize_72 : decode cX6_resize 72 = .ok (.invokevirtual 124, 3) := by decide +kernel
theorem dX6_resize_75 : decode cX6_resize 75 = .ok (.iadd, 1) := by decide +kernel
theorem dX6_resize_76 : decode cX6_resize 76 = .ok (.iload 4, 2) := by decide +kernel
theorem dX6_resize_78 : decode cX6_resize 78 = .ok (.iastore, 1) := by decide +kernel
theorem dX6_resize_79 : decode cX6_resize 79 = .ok (.iload 4, 2) := by decide +kernel
theorem dX6_resize_81 : decode cX6_resize 81 = .ok (.iload_n 3, 1) := by decide +kernel
theorem dX6_resize_82 : decode cX6_resize 82 = .ok (.if_icmp .le 12, 3) := by decide +kernel
theorem dX6_resize_85 : decode cX6_resize 85 = .ok (.aload_n 0, 1) := by decide +kernel
theorem dX6_resize_86 : decode cX6_resize 86 = .ok (.iload 5, 2) := by decide +kernel
theorem dX6_resize_88 : decode cX6_resize 88 = .ok (.invokevirtual 121, 3) := by decide +kernel
theorem dX6_resize_91 : decode cX6_resize 91 = .ok (.goto 9, 3) := by decide +kernel
theorem dX6_resize_94 : decode cX6_resize 94 = .ok (.aload_n 0, 1) := by decide +kernel
theorem dX6_resize_95 : decode cX6_resize 95 = .ok (.iload 5, 2) := by decide +kernel
theorem dX6_resize_97 : decode cX6_resize 97 = .ok (.invokevirtual 127, 3) := by decide +kernel
theorem dX6_resize_100 : decode cX6_resize 100 = .ok (.return_, 1) := by decide +kernel
theorem dX6_tailOf_0 : decode cX6_tailOf 0 = .ok (.iload_n 0, 1) := by decide +kernel
theorem dX6_tailOf_1 : decode cX6_tailOf 1 = .ok (.sipush 128, 3) := by decide +kernel
theorem dX6_tailOf_4 : decode cX6_tailOf 4 = .ok (.irem, 1) := by decide +kernel
theorem dX6_tailOf_5 : decode cX6_tailOf 5 = .ok (.istore_n 1, 1) := by decide +kernel
theorem dX6_tailOf_6 : decode cX6_tailOf 6 = .ok (.iload_n 1, 1) := by decide +kernel
theorem dX6_tailOf_7 : decode cX6_tailOf 7 = .ok (.bipush 40, 2) := by decide +kernel
theorem dX6_tailOf_9 : decode cX6_tailOf 9 = .ok (.if_icmp .gt 14, 3) := by decide +kernel
theorem dX6_tailOf_12 : decode cX6_tailOf 12 = .ok (.iload_n 0, 1) := by decide +kernel
theorem dX6_tailOf_13 : decode cX6_tailOf 13 = .ok (.sipush 512, 3) := by decide +kernel
theorem dX6_tailOf_16 : decode cX6_tailOf 16 = .ok (.if_icmp .gt 7, 3) := by decide +kernel
theorem dX6_tailOf_19 : decode cX6_tailOf 19 = .ok (.iload_n 1, 1) := by decide +kernel
theorem dX6_tailOf_20 : decode cX6_tailOf 20 = .ok (.goto 4, 3) := by decide +kernel
theorem dX6_tailOf_23 : decode cX6_tailOf 23 = .ok (.iconst 0, 1) := by decide +kernel
theorem dX6_tailOf_24 : decode cX6_tailOf 24 = .ok (.ireturn, 1) := by decide +kernel
theorem dX6_datasOf_0 : decode cX6_datasOf 0 = .ok (.iload_n 0, 1) := by decide +kernel
theorem dX6_datasOf_1 : decode cX6_datasOf 1 = .ok (.sipush 128, 3) := by decide +kernel
theorem dX6_datasOf_4 : decode cX6_datasOf 4 = .ok (.idiv, 1) := by decide +kernel
theorem dX6_datasOf_5 : decode cX6_datasOf 5 = .ok (.iload_n 0, 1) := by decide +kernel
theorem dX6_datasOf_6 : decode cX6_datasOf 6 = .ok (.sipush 128, 3) := by decide +kernel
theorem dX6_datasOf_9 : decode cX6_datasOf 9 = .ok (.irem, 1) := by decide +kernel
theorem dX6_datasOf_10 : decode cX6_datasOf 10 = .ok (.ifCond .le 14, 3) := by decide +kernel
theorem dX6_datasOf_13 : decode cX6_datasOf 13 = .ok (.iload_n 0, 1) := by decide +kernel
theorem dX6_datasOf_14 : decode cX6_datasOf 14 = .ok (.invokestatic 137, 3) := by decide +kernel
theorem dX6_datasOf_17 : decode cX6_datasOf 17 = .ok (.ifCond .ne 7, 3) := by decide +kernel
theorem dX6_datasOf_20 : decode cX6_datasOf 20 = .ok (.iconst 1, 1) := by decide +kernel
theorem dX6_datasOf_21 : decode cX6_datasOf 21 = .ok (.goto 4, 3) := by decide +kernel
theorem dX6_datasOf_24 : decode cX6_datasOf 24 = .ok (.iconst 0, 1) := by decide +kernel
theorem dX6_datasOf_25 : decode cX6_datasOf 25 = .ok (.iadd, 1) := by decide +kernel
theorem dX6_datasOf_26 : decode cX6_datasOf 26 = .ok (.ireturn, 1) := by decide +kernel
theorem dX6_byteOf_0 : decode cX6_byteOf 0 = .ok (.iload_n 2, 1) := by decide +kernel
theorem dX6_byteOf_1 : decode cX6_byteOf 1 = .ok (.sipush 128, 3) := by decide +kernel
theorem dX6_byteOf_4 : decode cX6_byteOf 4 = .ok (.idiv, 1) := by decide +kernel
theorem dX6_byteOf_5 : decode cX6_byteOf 5 = .ok (.aload_n 0, 1) := by decide +kernel
theorem dX6_byteOf_6 : decode cX6_byteOf 6 = .ok (.getfield 7, 3) := by decide +kernel
theorem dX6_byteOf_9 : decode cX6_byteOf 9 = .ok (.sipush 279, 3) := by decide +kernel
theorem dX6_byteOf_12 : decode cX6_byteOf 12 = .ok (.iload_n 1, 1) := by decide +kernel
theorem dX6_byteOf_13 : decode cX6_byteOf 13 = .ok (.iadd, 1) := by decide +kernel
theorem dX6_byteOf_14 : decode cX6_byteOf 14 = .ok (.iaload, 1) := by decide +kernel
theorem dX6_byteOf_15 : decode cX6_byteOf 15 = .ok (.if_icmp .ge 44, 3) := by decide +kernel
theorem dX6_byteOf_18 : decode cX6_byteOf 18 = .ok (.aload_n 0, 1) := by decide +kernel
theorem dX6_byteOf_19 : decode cX6_byteOf 19 = .ok (.getfield 7, 3) := by decide +kernel
theorem dX6_byteOf_22 : decode cX6_byteOf 22 = .ok (.sipush 13078, 3) := by decide +kernel
theorem dX6_byteOf_25 : decode cX6_byteOf 25 = .ok (.sipush 128, 3) := by decide +kernel
theorem dX6_byteOf_28 : decode cX6_byteOf 28 = .ok (.aload_n 0, 1) := by decide +kernel
theorem dX6_byteOf_29 : decode cX6_byteOf 29 = .ok (.getfield 7, 3) := by decide +kernel
theorem dX6_byteOf_32 : decode cX6_byteOf 32 = .ok (.sipush 340, 3) := by decide +kernel
theorem dX6_byteOf_35 : decode cX6_byteOf 35 = .ok (.bipush 16, 2) := by decide +kernel
theorem dX6_byteOf_37 : decode cX6_byteOf 37 = .ok (.iload_n 1, 1) := by decide +kernel
theorem dX6_byteOf_38 : decode cX6_byteOf 38 = .ok (.imul, 1) := by decide +kernel
theorem dX6_byteOf_39 : decode cX6_byteOf 39 = .ok (.iadd, 1) := by decide +kernel
theorem dX6_byteOf_40 : decode cX6_byteOf 40 = .ok (.iload_n 2, 1) := by decide +kernel
theorem dX6_byteOf_41 : decode cX6_byteOf 41 = .ok (.sipush 128, 3) := by decide +kernel
theorem dX6_byteOf_44 : decode cX6_byteOf 44 = .ok (.idiv, 1) := by decide +kernel
theorem dX6_byteOf_45 : decode cX6_byteOf 45 = .ok (.iadd, 1) := by decide +kernel
theorem dX6_byteOf_46 : decode cX6_byteOf 46 = .ok (.iaload, 1) := by decide +kernel
theorem dX6_byteOf_47 : decode cX6_byteOf 47 = .ok (.imul, 1) := by decide +kernel
theorem dX6_byteOf_48 : decode cX6_byteOf 48 = .ok (.iadd, 1) := by decide +kernel
theorem dX6_byteOf_49 : decode cX6_byteOf 49 = .ok (.iload_n 2, 1) := by decide +kernel
theorem dX6_byteOf_50 : decode cX6_byteOf 50 = .ok (.sipush 128, 3) := by decide +kernel
theorem dX6_byteOf_53 : decode cX6_byteOf 53 = .ok (.irem, 1) := by decide +kernel
theorem dX6_byteOf_54 : decode cX6_byteOf 54 = .ok (.iadd, 1) := by decide +kernel
theorem dX6_byteOf_55 : decode cX6_byteOf 55 = .ok (.iaload, 1) := by decide +kernel
theorem dX6_byteOf_56 : decode cX6_byteOf 56 = .ok (.goto 22, 3) := by decide +kernel
theorem dX6_byteOf_59 : decode cX6_byteOf 59 = .ok (.aload_n 0, 1) := by decide +kernel
theorem dX6_byteOf_60 : decode cX6_byteOf 60 = .ok (.getfield 7, 3) := by decide +kernel
theorem dX6_byteOf_63 : decode cX6_byteOf 63 = .ok (.sipush 1316, 3) := by decide +kernel
theorem dX6_byteOf_66 : decode cX6_byteOf 66 = .ok (.bipush 40, 2) := by decide +kernel
theorem dX6_byteOf_68 : decode cX6_byteOf 68 = .ok (.iload_n 1, 1) := by decide +kernel
theorem dX6_byteOf_69 : decode cX6_byteOf 69 = .ok (.imul, 1) := by decide +kernel
theorem dX6_byteOf_70 : decode cX6_byteOf 70 = .ok (.iadd, 1) := by decide +kernel
theorem dX6_byteOf_71 : decode cX6_byteOf 71 = .ok (.iload_n 2, 1) := by decide +kernel
theorem dX6_byteOf_72 : decode cX6_byteOf 72 = .ok (.sipush 128, 3) := by decide +kernel
theorem dX6_byteOf_75 : decode cX6_byteOf 75 = .ok (.irem, 1) := by decide +kernel
theorem dX6_byteOf_76 : decode cX6_byteOf 76 = .ok (.iadd, 1) := by decide +kernel
theorem dX6_byteOf_77 : decode cX6_byteOf 77 = .ok (.iaload, 1) := by decide +kernel
theorem dX6_byteOf_78 : decode cX6_byteOf 78 = .ok (.ireturn, 1) := by decide +kernel
theorem dX6_gather_0 : decode cX6_gather 0 = .ok (.iconst 0, 1) := by decide +kernel
theorem dX6_gather_1 : decode cX6_gather 1 = .ok (.istore_n 2, 1) := by decide +kernel
theorem dX6_gather_2 : decode cX6_gather 2 = .ok (.iload_n 2, 1) := by decide +kernel
theorem dX6_gather_3 : decode cX6_gather 3 = .ok (.sipush 2560, 3) := by decide +kernel
theorem dX6_gather_6 : decode cX6_gather 6 = .ok (.if_icmp .ge 39, 3) := by decide +kernel
theorem dX6_gather_9 : decode cX6_gather 9 = .ok (.aload_n 0, 1) := by decide +kernel
theorem dX6_gather_10 : decode cX6_gather 10 = .ok (.getfield 19, 3) := by decide +kernel
theorem dX6_gather_13 : decode cX6_gather 13 = .ok (.iload_n 2, 1) := by decide +kernel
theorem dX6_gather_14 : decode cX6_gather 14 = .ok (.iload_n 2, 1) := by decide +kernel
theorem dX6_gather_15 : decode cX6_gather 15 = .ok (.aload_n 0, 1) := by decide +kernel
theorem dX6_gather_16 : decode cX6_gather 16 = .ok (.getfield 7, 3) := by decide +kernel
theorem dX6_gather_19 : decode cX6_gather 19 = .ok (.sipush 218, 3) := by decide +kernel
theorem dX6_gather_22 : decode cX6_gather 22 = .ok (.iload_n 1, 1) := by decide +kernel
theorem dX6_gather_23 : decode cX6_gather 23 = .ok (.iadd, 1) := by decide +kernel
theorem dX6_gather_24 : decode cX6_gather 24 = .ok (.iaload, 1) := by decide +kernel
theorem dX6_gather_25 : decode cX6_gather 25 = .ok (.if_icmp .ge 12, 3) := by decide +kernel
theorem dX6_gather_28 : decode cX6_gather 28 = .ok (.aload_n 0, 1) := by decide +kernel
theorem dX6_gather_29 : decode cX6_gather 29 = .ok (.iload_n 1, 1) := by decide +kernel
theorem dX6_gather_30 : decode cX6_gather 30 = .ok (.iload_n 2, 1) := by decide +kernel
theorem dX6_gather_31 : decode cX6_gather 31 = .ok (.invokevirtual 140, 3) := by decide +kernel
theorem dX6_gather_34 : decode cX6_gather 34 = .ok (.goto 4, 3) := by decide +kernel
theorem dX6_gather_37 : decode cX6_gather 37 = .ok (.iconst 0, 1) := by decide +kernel
theorem dX6_gather_38 : decode cX6_gather 38 = .ok (.iastore, 1) := by decide +kernel
theorem dX6_gather_39 : decode cX6_gather 39 = .ok (.iinc 2 1, 3) := by decide +kernel
theorem dX6_gather_42 : decode cX6_gather 42 = .ok (.goto (-40), 3) := by decide +kernel
theorem dX6_gather_45 : decode cX6_gather 45 = .ok (.return_, 1) := by decide +kernel
theorem dX6_lay_0 : decode cX6_lay 0 = .ok (.aload_n 0, 1) := by decide +kernel
theorem dX6_lay_1 : decode cX6_lay 1 = .ok (.getfield 7, 3) := by decide +kernel
theorem dX6_lay_4 : decode cX6_lay 4 = .ok (.sipush 279, 3) := by decide +kernel
theorem dX6_lay_7 : decode cX6_lay 7 = .ok (.iload_n 1, 1) := by decide +kernel
theorem dX6_lay_8 : decode cX6_lay 8 = .ok (.iadd, 1) := by decide +kernel
theorem dX6_lay_9 : decode cX6_lay 9 = .ok (.iaload, 1) := by decide +kernel
theorem dX6_lay_10 : decode cX6_lay 10 = .ok (.istore_n 3, 1) := by decide +kernel
theorem dX6_lay_11 : decode cX6_lay 11 = .ok (.aload_n 0, 1) := by decide +kernel
theorem dX6_lay_12 : decode cX6_lay 12 = .ok (.getfield 7, 3) := by decide +kernel
theorem dX6_lay_15 : decode cX6_lay 15 = .ok (.sipush 218, 3) := by decide +kernel
theorem dX6_lay_18 : decode cX6_lay 18 = .ok (.iload_n 1, 1) := by decide +kernel
theorem dX6_lay_19 : decode cX6_lay 19 = .ok (.iadd, 1) := by decide +kernel
theorem dX6_lay_20 : decode cX6_lay 20 = .ok (.iaload, 1) := by decide +kernel
theorem dX6_lay_21 : decode cX6_lay 21 = .ok (.invokestatic 137, 3) := by decide +kernel
theorem dX6_lay_24 : decode cX6_lay 24 = .ok (.istore 4, 2) := by decide +kernel
theorem dX6_lay_26 : decode cX6_lay 26 = .ok (.iload_n 2, 1) := by decide +kernel
theorem dX6_lay_27 : decode cX6_lay 27 = .ok (.invokestatic 143, 3) := by decide +kernel
theorem dX6_lay_30 : decode cX6_lay 30 = .ok (.istore 5, 2) := by decide +kernel
theorem dX6_lay_32 : decode cX6_lay 32 = .ok (.aload_n 0, 1) := by decide +kernel
theorem dX6_lay_33 : decode cX6_lay 33 = .ok (.getfield 7, 3) := by decide +kernel
theorem dX6_lay_36 : decode cX6_lay 36 = .ok (.sipush 279, 3) := by decide +kernel
theorem dX6_lay_39 : decode cX6_lay 39 = .ok (.iload_n 1, 1) := by decide +kernel
theorem dX6_lay_40 : decode cX6_lay 40 = .ok (.iadd, 1) := by decide +kernel
theorem dX6_lay_41 : decode cX6_lay 41 = .ok (.iaload, 1) := by decide +kernel
theorem dX6_lay_42 : decode cX6_lay 42 = .ok (.iload 5, 2) := by decide +kernel
theorem dX6_lay_44 : decode cX6_lay 44 = .ok (.if_icmp .ge 70, 3) := by decide +kernel
theorem dX6_lay_47 : decode cX6_lay 47 = .ok (.aload_n 0, 1) := by decide +kernel
theorem dX6_lay_48 : decode cX6_lay 48 = .ok (.getfield 51, 3) := by decide +kernel
theorem dX6_lay_51 : decode cX6_lay 51 = .ok (.ifCond .ne 63, 3) := by decide +kernel
theorem dX6_lay_54 : decode cX6_lay 54 = .ok (.aload_n 0, 1) := by decide +kernel
theorem dX6_lay_55 : decode cX6_lay 55 = .ok (.invokevirtual 62, 3) := by decide +kernel
theorem dX6_lay_58 : decode cX6_lay 58 = .ok (.istore 6, 2) := by decide +kernel
theorem dX6_lay_60 : decode cX6_lay 60 = .ok (.aload_n 0, 1) := by decide +kernel
theorem dX6_lay_61 : decode cX6_lay 61 = .ok (.getfield 7, 3) := by decide +kernel
theorem dX6_lay_64 : decode cX6_lay 64 = .ok (.sipush 340, 3) := by decide +kernel
theorem dX6_lay_67 : decode cX6_lay 67 = .ok (.bipush 16, 2) := by decide +kernel
theorem dX6_lay_69 : decode cX6_lay 69 = .ok (.iload_n 1, 1) := by decide +kernel
theorem dX6_lay_70 : decode cX6_lay 70 = .ok (.imul, 1) := by decide +kernel
theorem dX6_lay_71 : decode cX6_lay 71 = .ok (.iadd, 1) := by decide +kernel
theorem dX6_lay_72 : decode cX6_lay 72 = .ok (.aload_n 0, 1) := by decide +kernel
theorem dX6_lay_73 : decode cX6_lay 73 = .ok (.getfield 7, 3) := by decide +kernel
theorem dX6_lay_76 : decode cX6_lay 76 = .ok (.sipush 279, 3) := by decide +kernel
theorem dX6_lay_79 : decode cX6_lay 79 = .ok (.iload_n 1, 1) := by decide +kernel
theorem dX6_lay_80 : decode cX6_lay 80 = .ok (.iadd, 1) := by decide +kernel
theorem dX6_lay_81 : decode cX6_lay 81 = .ok (.iaload, 1) := by decide +kernel
theorem dX6_lay_82 : decode cX6_lay 82 = .ok (.iadd, 1) := by decide +kernel
theorem dX6_lay_83 : decode cX6_lay 83 = .ok (.iload 6, 2) := by decide +kernel
theorem dX6_lay_85 : decode cX6_lay 85 = .ok (.iastore, 1) := by decide +kernel
theorem dX6_lay_86 : decode cX6_lay 86 = .ok (.aload_n 0, 1) := by decide +kernel
theorem dX6_lay_87 : decode cX6_lay 87 = .ok (.getfield 7, 3) := by decide +kernel
theorem dX6_lay_90 : decode cX6_lay 90 = .ok (.sipush 279, 3) := by decide +kernel
theorem dX6_lay_93 : decode cX6_lay 93 = .ok (.iload_n 1, 1) := by decide +kernel
theorem dX6_lay_94 : decode cX6_lay 94 = .ok (.iadd, 1) := by decide +kernel
theorem dX6_lay_95 : decode cX6_lay 95 = .ok (.dup2, 1) := by decide +kernel
theorem dX6_lay_96 : decode cX6_lay 96 = .ok (.iaload, 1) := by decide +kernel
theorem dX6_lay_97 : decode cX6_lay 97 = .ok (.aload_n 0, 1) := by decide +kernel
theorem dX6_lay_98 : decode cX6_lay 98 = .ok (.getfield 51, 3) := by decide +kernel
theorem dX6_lay_101 : decode cX6_lay 101 = .ok (.ifCond .eq 7, 3) := by decide +kernel
theorem dX6_lay_104 : decode cX6_lay 104 = .ok (.iconst 0, 1) := by decide +kernel
theorem dX6_lay_105 : decode cX6_lay 105 = .ok (.goto 4, 3) := by decide +kernel
theorem dX6_lay_108 : decode cX6_lay 108 = .ok (.iconst 1, 1) := by decide +kernel
theorem dX6_lay_109 : decode cX6_lay 109 = .ok (.iadd, 1) := by decide +kernel
theorem dX6_lay_110 : decode cX6_lay 110 = .ok (.iastore, 1) := by decide +kernel
theorem dX6_lay_111 : decode cX6_lay 111 = .ok (.goto (-79), 3) := by decide +kernel
theorem dX6_lay_114 : decode cX6_lay 114 = .ok (.aload_n 0, 1) := by decide +kernel
theorem dX6_lay_115 : decode cX6_lay 115 = .ok (.getfield 51, 3) := by decide +kernel
theorem dX6_lay_118 : decode cX6_lay 118 = .ok (.ifCond .eq 4, 3) := by decide +kernel
theorem dX6_lay_121 : decode cX6_lay 121 = .ok (.return_, 1) := by decide +kernel
theorem dX6_lay_122 : decode cX6_lay 122 = .ok (.aload_n 0, 1) := by decide +kernel
theorem dX6_lay_123 : decode cX6_lay 123 = .ok (.getfield 7, 3) := by decide +kernel
theorem dX6_lay_126 : decode cX6_lay 126 = .ok (.sipush 279, 3) := by decide +kernel
theorem dX6_lay_129 : decode cX6_lay 129 = .ok (.iload_n 1, 1) := by decide +kernel
theorem dX6_lay_130 : decode cX6_lay 130 = .ok (.iadd, 1) := by decide +kernel
theorem dX6_lay_131 : decode cX6_lay 131 = .ok (.iaload, 1) := by decide +kernel
theorem dX6_lay_132 : decode cX6_lay 132 = .ok (.iload 5, 2) := by decide +kernel
theorem dX6_lay_134 : decode cX6_lay 134 = .ok (.if_icmp .le 48, 3) := by decide +kernel
theorem dX6_lay_137 : decode cX6_lay 137 = .ok (.aload_n 0, 1) := by decide +kernel
theorem dX6_lay_138 : decode cX6_lay 138 = .ok (.getfield 7, 3) := by decide +kernel
theorem dX6_lay_141 : decode cX6_lay 141 = .ok (.sipush 279, 3) := by decide +kernel
theorem dX6_lay_144 : decode cX6_lay 144 = .ok (.iload_n 1, 1) := by decide +kernel
theorem dX6_lay_145 : decode cX6_lay 145 = .ok (.iadd, 1) := by decide +kernel
theorem dX6_lay_146 : decode cX6_lay 146 = .ok (.dup2, 1) := by decide +kernel
theorem dX6_lay_147 : decode cX6_lay 147 = .ok (.iaload, 1) := by decide +kernel
theorem dX6_lay_148 : decode cX6_lay 148 = .ok (.iconst 1, 1) := by decide +kernel
theorem dX6_lay_149 : decode cX6_lay 149 = .ok (.isub, 1) := by decide +kernel
theorem dX6_lay_150 : decode cX6_lay 150 = .ok (.iastore, 1) := by decide +kernel
theorem dX6_lay_151 : decode cX6_lay 151 = .ok (.aload_n 0, 1) := by decide +kernel
theorem dX6_lay_152 : decode cX6_lay 152 = .ok (.aload_n 0, 1) := by decide +kernel
theorem dX6_lay_153 : decode cX6_lay 153 = .ok (.getfield 7, 3) := by decide +kernel
theorem dX6_lay_156 : decode cX6_lay 156 = .ok (.sipush 340, 3) := by decide +kernel
theorem dX6_lay_159 : decode cX6_lay 159 = .ok (.bipush 16, 2) := by decide +kernel
theorem dX6_lay_161 : decode cX6_lay 161 = .ok (.iload_n 1, 1) := by decide +kernel
theorem dX6_lay_162 : decode cX6_lay 162 = .ok (.imul, 1) := by decide +kernel
theorem dX6_lay_163 : decode cX6_lay 163 = .ok (.iadd, 1) := by decide +kernel
theorem dX6_lay_164 : decode cX6_lay 164 = .ok (.aload_n 0, 1) := by decide +kernel
theorem dX6_lay_165 : decode cX6_lay 165 = .ok (.getfield 7, 3) := by decide +kernel
theorem dX6_lay_168 : decode cX6_lay 168 = .ok (.sipush 279, 3) := by decide +kernel
theorem dX6_lay_171 : decode cX6_lay 171 = .ok (.iload_n 1, 1) := by decide +kernel
theorem dX6_lay_172 : decode cX6_lay 172 = .ok (.iadd, 1) := by decide +kernel
theorem dX6_lay_173 : decode cX6_lay 173 = .ok (.iaload, 1) := by decide +kernel
theorem dX6_lay_174 : decode cX6_lay 174 = .ok (.iadd, 1) := by decide +kernel
theorem dX6_lay_175 : decode cX6_lay 175 = .ok (.iaload, 1) := by decide +kernel
theorem dX6_lay_176 : decode cX6_lay 176 = .ok (.invokevirtual 85, 3) := by decide +kernel
theorem dX6_lay_179 : decode cX6_lay 179 = .ok (.goto (-57), 3) := by decide +kernel
theorem dX6_lay_182 : decode cX6_lay 182 = .ok (.iconst 0, 1) := by decide +kernel
theorem dX6_lay_183 : decode cX6_lay 183 = .ok (.istore 6, 2) := by decide +kernel
theorem dX6_lay_185 : decode cX6_lay 185 = .ok (.iload 6, 2) := by decide +kernel
theorem dX6_lay_187 : decode cX6_lay 187 = .ok (.sipush 128, 3) := by decide +kernel
theorem dX6_lay_190 : decode cX6_lay 190 = .ok (.iload 5, 2) := by decide +kernel
theorem dX6_lay_192 : decode cX6_lay 192 = .ok (.imul, 1) := by decide +kernel
theorem dX6_lay_193 : decode cX6_lay 193 = .ok (.if_icmp .ge 66, 3) := by decide +kernel
theorem dX6_lay_196 : decode cX6_lay 196 = .ok (.aload_n 0, 1) := by decide +kernel
theorem dX6_lay_197 : decode cX6_lay 197 = .ok (.getfield 7, 3) := by decide +kernel
theorem dX6_lay_200 : decode cX6_lay 200 = .ok (.sipush 13078, 3) := by decide +kernel
theorem dX6_lay_203 : decode cX6_lay 203 = .ok (.sipush 128, 3) := by decide +kernel
theorem dX6_lay_206 : decode cX6_lay 206 = .ok (.aload_n 0, 1) := by decide +kernel
theorem dX6_lay_207 : decode cX6_lay 207 = .ok (.getfield 7, 3) := by decide +kernel
theorem dX6_lay_210 : decode cX6_lay 210 = .ok (.sipush 340, 3) := by decide +kernel
theorem dX6_lay_213 : decode cX6_lay 213 = .ok (.bipush 16, 2) := by decide +kernel
theorem dX6_lay_215 : decode cX6_lay 215 = .ok (.iload_n 1, 1) := by decide +kernel
theorem dX6_lay_216 : decode cX6_lay 216 = .ok (.imul, 1) := by decide +kernel
theorem dX6_lay_217 : decode cX6_lay 217 = .ok (.iadd, 1) := by decide +kernel
theorem dX6_lay_218 : decode cX6_lay 218 = .ok (.iload 6, 2) := by decide +kernel
theorem dX6_lay_220 : decode cX6_lay 220 = .ok (.sipush 128, 3) := by decide +kernel
theorem dX6_lay_223 : decode cX6_lay 223 = .ok (.idiv, 1) := by decide +kernel
theorem dX6_lay_224 : decode cX6_lay 224 = .ok (.iadd, 1) := by decide +kernel
theorem dX6_lay_225 : decode cX6_lay 225 = .ok (.iaload, 1) := by decide +kernel
theorem dX6_lay_226 : decode cX6_lay 226 = .ok (.imul, 1) := by decide +kernel
theorem dX6_lay_227 : decode cX6_lay 227 = .ok (.iadd, 1) := by decide +kernel
theorem dX6_lay_228 : decode cX6_lay 228 = .ok (.iload 6, 2) := by decide +kernel
theorem dX6_lay_230 : decode cX6_lay 230 = .ok (.sipush 128, 3) := by decide +kernel
theorem dX6_lay_233 : decode cX6_lay 233 = .ok (.irem, 1) := by decide +kernel
theorem dX6_lay_234 : decode cX6_lay 234 = .ok (.iadd, 1) := by decide +kernel
theorem dX6_lay_235 : decode cX6_lay 235 = .ok (.iload 6, 2) := by decide +kernel
theorem dX6_lay_237 : decode cX6_lay 237 = .ok (.iload_n 2, 1) := by decide +kernel
theorem dX6_lay_238 : decode cX6_lay 238 = .ok (.if_icmp .ge 13, 3) := by decide +kernel
theorem dX6_lay_241 : decode cX6_lay 241 = .ok (.aload_n 0, 1) := by decide +kernel
theorem dX6_lay_242 : decode cX6_lay 242 = .ok (.getfield 19, 3) := by decide +kernel
theorem dX6_lay_245 : decode cX6_lay 245 = .ok (.iload 6, 2) := by decide +kernel
theorem dX6_lay_247 : decode cX6_lay 247 = .ok (.iaload, 1) := by decide +kernel
theorem dX6_lay_248 : decode cX6_lay 248 = .ok (.goto 4, 3) := by decide +kernel
theorem dX6_lay_251 : decode cX6_lay 251 = .ok (.iconst 0, 1) := by decide +kernel
theorem dX6_lay_252 : decode cX6_lay 252 = .ok (.iastore, 1) := by decide +kernel
theorem dX6_lay_253 : decode cX6_lay 253 = .ok (.iinc 6 1, 3) := by decide +kernel
theorem dX6_lay_256 : decode cX6_lay 256 = .ok (.goto (-71), 3) := by decide +kernel
theorem dX6_lay_259 : decode cX6_lay 259 = .ok (.iconst 0, 1) := by decide +kernel
theorem dX6_lay_260 : decode cX6_lay 260 = .ok (.istore 6, 2) := by decide +kernel
theorem dX6_lay_262 : decode cX6_lay 262 = .ok (.iload 6, 2) := by decide +kernel
theorem dX6_lay_264 : decode cX6_lay 264 = .ok (.bipush 40, 2) := by decide +kernel
theorem dX6_lay_266 : decode cX6_lay 266 = .ok (.if_icmp .ge 52, 3) := by decide +kernel
theorem dX6_lay_269 : decode cX6_lay 269 = .ok (.aload_n 0, 1) := by decide +kernel
theorem dX6_lay_270 : decode cX6_lay 270 = .ok (.getfield 7, 3) := by decide +kernel
theorem dX6_lay_273 : decode cX6_lay 273 = .ok (.sipush 1316, 3) := by decide +kernel
theorem dX6_lay_276 : decode cX6_lay 276 = .ok (.bipush 40, 2) := by decide +kernel
theorem dX6_lay_278 : decode cX6_lay 278 = .ok (.iload_n 1, 1) := by decide +kernel
theorem dX6_lay_279 : decode cX6_lay 279 = .ok (.imul, 1) := by decide +kernel
theorem dX6_lay_280 : decode cX6_lay 280 = .ok (.iadd, 1) := by decide +kernel
theorem dX6_lay_281 : decode cX6_lay 281 = .ok (.iload 6, 2) := by decide +kernel
theorem dX6_lay_283 : decode cX6_lay 283 = .ok (.iadd, 1) := by decide +kernel
theorem dX6_lay_284 : decode cX6_lay 284 = .ok (.iload 6, 2) := by decide +kernel
theorem dX6_lay_286 : decode cX6_lay 286 = .ok (.iload_n 2, 1) := by decide +kernel
theorem dX6_lay_287 : decode cX6_lay 287 = .ok (.invokestatic 137, 3) := by decide +kernel
theorem dX6_lay_290 : decode cX6_lay 290 = .ok (.if_icmp .ge 20, 3) := by decide +kernel
theorem dX6_lay_293 : decode cX6_lay 293 = .ok (.aload_n 0, 1) := by decide +kernel
theorem dX6_lay_294 : decode cX6_lay 294 = .ok (.getfield 19, 3) := by decide +kernel
theorem dX6_lay_297 : decode cX6_lay 297 = .ok (.sipush 128, 3) := by decide +kernel
theorem dX6_lay_300 : decode cX6_lay 300 = .ok (.iload 5, 2) := by decide +kernel
theorem dX6_lay_302 : decode cX6_lay 302 = .ok (.imul, 1) := by decide +kernel
theorem dX6_lay_303 : decode cX6_lay 303 = .ok (.iload 6, 2) := by decide +kernel
theorem dX6_lay_305 : decode cX6_lay 305 = .ok (.iadd, 1) := by decide +kernel
theorem dX6_lay_306 : decode cX6_lay 306 = .ok (.iaload, 1) := by decide +kernel
theorem dX6_lay_307 : decode cX6_lay 307 = .ok (.goto 4, 3) := by decide +kernel
theorem dX6_lay_310 : decode cX6_lay 310 = .ok (.iconst 0, 1) := by decide +kernel
theorem dX6_lay_311 : decode cX6_lay 311 = .ok (.iastore, 1) := by decide +kernel
theorem dX6_lay_312 : decode cX6_lay 312 = .ok (.iinc 6 1, 3) := by decide +kernel
theorem dX6_lay_315 : decode cX6_lay 315 = .ok (.goto (-53), 3) := by decide +kernel
theorem dX6_lay_318 : decode cX6_lay 318 = .ok (.aload_n 0, 1) := by decide +kernel
theorem dX6_lay_319 : decode cX6_lay 319 = .ok (.getfield 7, 3) := by decide +kernel
theorem dX6_lay_322 : decode cX6_lay 322 = .ok (.sipush 218, 3) := by decide +kernel
theorem dX6_lay_325 : decode cX6_lay 325 = .ok (.iload_n 1, 1) := by decide +kernel
theorem dX6_lay_326 : decode cX6_lay 326 = .ok (.iadd, 1) := by decide +kernel
theorem dX6_lay_327 : decode cX6_lay 327 = .ok (.iload_n 2, 1) := by decide +kernel
theorem dX6_lay_328 : decode cX6_lay 328 = .ok (.iastore, 1) := by decide +kernel
theorem dX6_lay_329 : decode cX6_lay 329 = .ok (.aload_n 0, 1) := by decide +kernel
theorem dX6_lay_330 : decode cX6_lay 330 = .ok (.iload_n 1, 1) := by decide +kernel
theorem dX6_lay_331 : decode cX6_lay 331 = .ok (.iconst 2, 1) := by decide +kernel
theorem dX6_lay_332 : decode cX6_lay 332 = .ok (.iconst 2, 1) := by decide +kernel
theorem dX6_lay_333 : decode cX6_lay 333 = .ok (.iload_n 3, 1) := by decide +kernel
theorem dX6_lay_334 : decode cX6_lay 334 = .ok (.imul, 1) := by decide +kernel
theorem dX6_lay_335 : decode cX6_lay 335 = .ok (.iconst 2, 1) := by decide +kernel
theorem dX6_lay_336 : decode cX6_lay 336 = .ok (.iload 5, 2) := by decide +kernel
theorem dX6_lay_338 : decode cX6_lay 338 = .ok (.imul, 1) := by decide +kernel
theorem dX6_lay_339 : decode cX6_lay 339 = .ok (.invokevirtual 146, 3) := by decide +kernel
theorem dX6_lay_342 : decode cX6_lay 342 = .ok (.aload_n 0, 1) := by decide +kernel
theorem dX6_lay_343 : decode cX6_lay 343 = .ok (.iload_n 1, 1) := by decide +kernel
theorem dX6_lay_344 : decode cX6_lay 344 = .ok (.iconst 3, 1) := by decide +kernel
theorem dX6_lay_345 : decode cX6_lay 345 = .ok (.iload 4, 2) := by decide +kernel
theorem dX6_lay_347 : decode cX6_lay 347 = .ok (.iload_n 2, 1) := by decide +kernel
theorem dX6_lay_348 : decode cX6_lay 348 = .ok (.invokestatic 137, 3) := by decide +kernel
theorem dX6_lay_351 : decode cX6_lay 351 = .ok (.invokevirtual 146, 3) := by decide +kernel
theorem dX6_lay_354 : decode cX6_lay 354 = .ok (.return_, 1) := by decide +kernel
theorem dX6_begin_0 : decode cX6_begin 0 = .ok (.aload_n 0, 1) := by decide +kernel
theorem dX6_begin_1 : decode cX6_begin 1 = .ok (.iconst 0, 1) := by decide +kernel
theorem dX6_begin_2 : decode cX6_begin 2 = .ok (.putfield 51, 3) := by decide +kernel
theorem dX6_begin_5 : decode cX6_begin 5 = .ok (.aload_n 0, 1) := by decide +kernel
theorem dX6_begin_6 : decode cX6_begin 6 = .ok (.getfield 7, 3) := by decide +kernel
theorem dX6_begin_9 : decode cX6_begin 9 = .ok (.aload_n 0, 1) := by decide +kernel
theorem dX6_begin_10 : decode cX6_begin 10 = .ok (.getfield 13, 3) := by decide +kernel
theorem dX6_begin_13 : decode cX6_begin 13 = .ok (.invokestatic 36, 3) := by decide +kernel
theorem dX6_begin_16 : decode cX6_begin 16 = .ok (.return_, 1) := by decide +kernel
theorem dX6_ended_0 : decode cX6_ended 0 = .ok (.aload_n 0, 1) := by decide +kernel
theorem dX6_ended_1 : decode cX6_ended 1 = .ok (.getfield 51, 3) := by decide +kernel
theorem dX6_ended_4 : decode cX6_ended 4 = .ok (.ifCond .eq 19, 3) := by decide +kernel
theorem dX6_ended_7 : decode cX6_ended 7 = .ok (.aload_n 0, 1) := by decide +kernel
theorem dX6_ended_8 : decode cX6_ended 8 = .ok (.getfield 13, 3) := by decide +kernel
theorem dX6_ended_11 : decode cX6_ended 11 = .ok (.aload_n 0, 1) := by decide +kernel
theorem dX6_ended_12 : decode cX6_ended 12 = .ok (.getfield 7, 3) := by decide +kernel
theorem dX6_ended_15 : decode cX6_ended 15 = .ok (.invokestatic 36, 3) := by decide +kernel
theorem dX6_ended_18 : decode cX6_ended 18 = .ok (.aload_n 0, 1) := by decide +kernel
theorem dX6_ended_19 : decode cX6_ended 19 = .ok (.iload_n 1, 1) := by decide +kernel
theorem dX6_ended_20 : decode cX6_ended 20 = .ok (.putfield 40, 3) := by decide +kernel
theorem dX6_ended_23 : decode cX6_ended 23 = .ok (.aload_n 0, 1) := by decide +kernel
theorem dX6_ended_24 : decode cX6_ended 24 = .ok (.getfield 51, 3) := by decide +kernel
theorem dX6_ended_27 : decode cX6_ended 27 = .ok (.ifCond .ne 7, 3) := by decide +kernel
theorem dX6_ended_30 : decode cX6_ended 30 = .ok (.iconst 1, 1) := by decide +kernel
theorem dX6_ended_31 : decode cX6_ended 31 = .ok (.goto 4, 3) := by decide +kernel
theorem dX6_ended_34 : decode cX6_ended 34 = .ok (.iconst 0, 1) := by decide +kernel
theorem dX6_ended_35 : decode cX6_ended 35 = .ok (.ireturn, 1) := by decide +kernel
theorem dX6_objects_0 : decode cX6_objects 0 = .ok (.iconst 0, 1) := by decide +kernel
theorem dX6_objects_1 : decode cX6_objects 1 = .ok (.istore_n 1, 1) := by decide +kernel
theorem dX6_objects_2 : decode cX6_objects 2 = .ok (.iconst 1, 1) := by decide +kernel
theorem dX6_objects_3 : decode cX6_objects 3 = .ok (.istore_n 2, 1) := by decide +kernel
theorem dX6_objects_4 : decode cX6_objects 4 = .ok (.iload_n 2, 1) := by decide +kernel
theorem dX6_objects_5 : decode cX6_objects 5 = .ok (.bipush 61, 2) := by decide +kernel
theorem dX6_objects_7 : decode cX6_objects 7 = .ok (.if_icmp .ge 29, 3) := by decide +kernel
theorem dX6_objects_10 : decode cX6_objects 10 = .ok (.iload_n 1, 1) := by decide +kernel
theorem dX6_objects_11 : decode cX6_objects 11 = .ok (.aload_n 0, 1) := by decide +kernel
theorem dX6_objects_12 : decode cX6_objects 12 = .ok (.getfield 7, 3) := by decide +kernel
theorem dX6_objects_15 : decode cX6_objects 15 = .ok (.bipush 96, 2) := by decide +kernel
theorem dX6_objects_17 : decode cX6_objects 17 = .ok (.iload_n 2, 1) := by decide +kernel
theorem dX6_objects_18 : decode cX6_objects 18 = .ok (.iadd, 1) := by decide +kernel
theorem dX6_objects_19 : decode cX6_objects 19 = .ok (.iaload, 1) := by decide +kernel
theorem dX6_objects_20 : decode cX6_objects 20 = .ok (.ifCond .le 7, 3) := by decide +kernel
theorem dX6_objects_23 : decode cX6_objects 23 = .ok (.iconst 1, 1) := by decide +kernel
theorem dX6_objects_24 : decode cX6_objects 24 = .ok (.goto 4, 3) := by decide +kernel
theorem dX6_objects_27 : decode cX6_objects 27 = .ok (.iconst 0, 1) := by decide +kernel
theorem dX6_objects_28 : decode cX6_objects 28 = .ok (.iadd, 1) := by decide +kernel
theorem dX6_objects_29 : decode cX6_objects 29 = .ok (.istore_n 1, 1) := by decide +kernel
theorem dX6_objects_30 : decode cX6_objects 30 = .ok (.iinc 2 1, 3) := by decide +kernel
theorem dX6_objects_33 : decode cX6_objects 33 = .ok (.goto (-29), 3) := by decide +kernel
theorem dX6_objects_36 : decode cX6_objects 36 = .ok (.iload_n 1, 1) := by decide +kernel
theorem dX6_objects_37 : decode cX6_objects 37 = .ok (.ireturn, 1) := by decide +kernel
theorem dX6_entry_0 : decode cX6_entry 0 = .ok (.aload_n 0, 1) := by decide +kernel
theorem dX6_entry_1 : decode cX6_entry 1 = .ok (.iload_n 1, 1) := by decide +kernel
theorem dX6_entry_2 : decode cX6_entry 2 = .ok (.iconst 1, 1) := by decide +kernel
theorem dX6_entry_3 : decode cX6_entry 3 = .ok (.iload_n 2, 1) := by decide +kernel
theorem dX6_entry_4 : decode cX6_entry 4 = .ok (.invokevirtual 124, 3) := by decide +kernel
theorem dX6_entry_7 : decode cX6_entry 7 = .ok (.istore_n 3, 1) := by decide +kernel
theorem dX6_entry_8 : decode cX6_entry 8 = .ok (.iload_n 3, 1) := by decide +kernel
theorem dX6_entry_9 : decode cX6_entry 9 = .ok (.ifCond .ge 7, 3) := by decide +kernel
theorem dX6_entry_12 : decode cX6_entry 12 = .ok (.iconst (-1), 1) := by decide +kernel
theorem dX6_entry_13 : decode cX6_entry 13 = .ok (.goto 24, 3) := by decide +kernel
theorem dX6_entry_16 : decode cX6_entry 16 = .ok (.aload_n 0, 1) := by decide +kernel
theorem dX6_entry_17 : decode cX6_entry 17 = .ok (.getfield 7, 3) := by decide +kernel
theorem dX6_entry_20 : decode cX6_entry 20 = .ok (.sipush 10764, 3) := by decide +kernel
theorem dX6_entry_23 : decode cX6_entry 23 = .ok (.bipush 16, 2) := by decide +kernel
theorem dX6_entry_25 : decode cX6_entry 25 = .ok (.aload_n 0, 1) := by decide +kernel
theorem dX6_entry_26 : decode cX6_entry 26 = .ok (.iload_n 1, 1) := by decide +kernel
theorem dX6_entry_27 : decode cX6_entry 27 = .ok (.iconst 1, 1) := by decide +kernel
theorem dX6_entry_28 : decode cX6_entry 28 = .ok (.iload_n 2, 1) := by decide +kernel
theorem dX6_entry_29 : decode cX6_entry 29 = .ok (.invokevirtual 117, 3) := by decide +kernel
theorem dX6_entry_32 : decode cX6_entry 32 = .ok (.imul, 1) := by decide +kernel
theorem dX6_entry_33 : decode cX6_entry 33 = .ok (.iadd, 1) := by decide +kernel
theorem dX6_entry_34 : decode cX6_entry 34 = .ok (.iload_n 3, 1) := by decide +kernel
theorem dX6_entry_35 : decode cX6_entry 35 = .ok (.iadd, 1) := by decide +kernel
theorem dX6_entry_36 : decode cX6_entry 36 = .ok (.iaload, 1) := by decide +kernel
theorem dX6_entry_37 : decode cX6_entry 37 = .ok (.ireturn, 1) := by decide +kernel
theorem dX6_isName_0 : decode cX6_isName 0 = .ok (.iload_n 1, 1) := by decide +kernel
theorem dX6_isName_1 : decode cX6_isName 1 = .ok (.iconst 0, 1) := by decide +kernel
theorem dX6_isName_2 : decode cX6_isName 2 = .ok (.sipush 999, 3) := by decide +kernel
theorem dX6_isName_5 : decode cX6_isName 5 = .ok (.invokestatic 43, 3) := by decide +kernel
theorem dX6_isName_8 : decode cX6_isName 8 = .ok (.ireturn, 1) := by decide +kernel
theorem dX6_make_0 : decode cX6_make 0 = .ok (.aload_n 0, 1) := by decide +kernel
theorem dX6_make_1 : decode cX6_make 1 = .ok (.aload_n 0, 1) := by decide +kernel
theorem dX6_make_2 : decode cX6_make 2 = .ok (.getfield 149, 3) := by decide +kernel
theorem dX6_make_5 : decode cX6_make 5 = .ok (.ifCond .eq 7, 3) := by decide +kernel
theorem dX6_make_8 : decode cX6_make 8 = .ok (.iconst 1, 1) := by decide +kernel
theorem dX6_make_9 : decode cX6_make 9 = .ok (.goto 50, 3) := by decide +kernel
theorem dX6_make_12 : decode cX6_make 12 = .ok (.aload_n 0, 1) := by decide +kernel
theorem dX6_make_13 : decode cX6_make 13 = .ok (.iload_n 1, 1) := by decide +kernel
theorem dX6_make_14 : decode cX6_make 14 = .ok (.invokevirtual 152, 3) := by decide +kernel
theorem dX6_make_17 : decode cX6_make 17 = .ok (.ifCond .ne 7, 3) := by decide +kernel
theorem dX6_make_20 : decode cX6_make 20 = .ok (.iconst 2, 1) := by decide +kernel
theorem dX6_make_21 : decode cX6_make 21 = .ok (.goto 38, 3) := by decide +kernel
theorem dX6_make_24 : decode cX6_make 24 = .ok (.aload_n 0, 1) := by decide +kernel
theorem dX6_make_25 : decode cX6_make 25 = .ok (.iload_n 2, 1) := by decide +kernel
theorem dX6_make_26 : decode cX6_make 26 = .ok (.invokevirtual 155, 3) := by decide +kernel
theorem dX6_make_29 : decode cX6_make 29 = .ok (.ifCond .ne 7, 3) := by decide +kernel
theorem dX6_make_32 : decode cX6_make 32 = .ok (.iconst 3, 1) := by decide +kernel
theorem dX6_make_33 : decode cX6_make 33 = .ok (.goto 26, 3) := by decide +kernel
theorem dX6_make_36 : decode cX6_make 36 = .ok (.aload_n 0, 1) := by decide +kernel
theorem dX6_make_37 : decode cX6_make 37 = .ok (.iload_n 1, 1) := by decide +kernel
theorem dX6_make_38 : decode cX6_make 38 = .ok (.iload_n 2, 1) := by decide +kernel
theorem dX6_make_39 : decode cX6_make 39 = .ok (.invokevirtual 158, 3) := by decide +kernel
theorem dX6_make_42 : decode cX6_make 42 = .ok (.ifCond .ge 12, 3) := by decide +kernel
theorem dX6_make_45 : decode cX6_make 45 = .ok (.aload_n 0, 1) := by decide +kernel
theorem dX6_make_46 : decode cX6_make 46 = .ok (.invokevirtual 161, 3) := by decide +kernel
theorem dX6_make_49 : decode cX6_make 49 = .ok (.bipush 60, 2) := by decide +kernel
theorem dX6_make_51 : decode cX6_make 51 = .ok (.if_icmp .ne 7, 3) := by decide +kernel
theorem dX6_make_54 : decode cX6_make 54 = .ok (.iconst 4, 1) := by decide +kernel
theorem dX6_make_55 : decode cX6_make 55 = .ok (.goto 4, 3) := by decide +kernel
theorem dX6_make_58 : decode cX6_make 58 = .ok (.iconst 0, 1) := by decide +kernel
theorem dX6_make_59 : decode cX6_make 59 = .ok (.putfield 40, 3) := by decide +kernel
theorem dX6_make_62 : decode cX6_make 62 = .ok (.aload_n 0, 1) := by decide +kernel
theorem dX6_make_63 : decode cX6_make 63 = .ok (.getfield 40, 3) := by decide +kernel
theorem dX6_make_66 : decode cX6_make 66 = .ok (.ifCond .le 5, 3) := by decide +kernel
theorem dX6_make_69 : decode cX6_make 69 = .ok (.iconst 0, 1) := by decide +kernel
theorem dX6_make_70 : decode cX6_make 70 = .ok (.ireturn, 1) := by decide +kernel
theorem dX6_make_71 : decode cX6_make 71 = .ok (.aload_n 0, 1) := by decide +kernel
theorem dX6_make_72 : decode cX6_make 72 = .ok (.invokevirtual 164, 3) := by decide +kernel
theorem dX6_make_75 : decode cX6_make 75 = .ok (.iconst 1, 1) := by decide +kernel
theorem dX6_make_76 : decode cX6_make 76 = .ok (.istore 4, 2) := by decide +kernel
theorem dX6_make_78 : decode cX6_make 78 = .ok (.aload_n 0, 1) := by decide +kernel
theorem dX6_make_79 : decode cX6_make 79 = .ok (.getfield 7, 3) := by decide +kernel
theorem dX6_make_82 : decode cX6_make 82 = .ok (.bipush 96, 2) := by decide +kernel
theorem dX6_make_84 : decode cX6_make 84 = .ok (.iload 4, 2) := by decide +kernel
theorem dX6_make_86 : decode cX6_make 86 = .ok (.iadd, 1) := by decide +kernel
theorem dX6_make_87 : decode cX6_make 87 = .ok (.iaload, 1) := by decide +kernel
theorem dX6_make_88 : decode cX6_make 88 = .ok (.ifCond .le 9, 3) := by decide +kernel
theorem dX6_make_91 : decode cX6_make 91 = .ok (.iinc 4 1, 3) := by decide +kernel
theorem dX6_make_94 : decode cX6_make 94 = .ok (.goto (-16), 3) := by decide +kernel
theorem dX6_make_97 : decode cX6_make 97 = .ok (.aload_n 0, 1) := by decide +kernel
theorem dX6_make_98 : decode cX6_make 98 = .ok (.getfield 7, 3) := by decide +kernel
theorem dX6_make_101 : decode cX6_make 101 = .ok (.bipush 96, 2) := by decide +kernel
theorem dX6_make_103 : decode cX6_make 103 = .ok (.iload 4, 2) := by decide +kernel
theorem dX6_make_105 : decode cX6_make 105 = .ok (.iadd, 1) := by decide +kernel
theorem dX6_make_106 : decode cX6_make 106 = .ok (.iload_n 3, 1) := by decide +kernel
theorem dX6_make_107 : decode cX6_make 107 = .ok (.ifCond .eq 7, 3) := by decide +kernel
theorem dX6_make_110 : decode cX6_make 110 = .ok (.iconst 1, 1) := by decide +kernel
theorem dX6_make_111 : decode cX6_make 111 = .ok (.goto 4, 3) := by decide +kernel
theorem dX6_make_114 : decode cX6_make 114 = .ok (.iconst 2, 1) := by decide +kernel
theorem dX6_make_115 : decode cX6_make 115 = .ok (.iastore, 1) := by decide +kernel
theorem dX6_make_116 : decode cX6_make 116 = .ok (.aload_n 0, 1) := by decide +kernel
theorem dX6_make_117 : decode cX6_make 117 = .ok (.getfield 7, 3) := by decide +kernel
theorem dX6_make_120 : decode cX6_make 120 = .ok (.sipush 157, 3) := by decide +kernel
theorem dX6_make_123 : decode cX6_make 123 = .ok (.iload 4, 2) := by decide +kernel
theorem dX6_make_125 : decode cX6_make 125 = .ok (.iadd, 1) := by decide +kernel
theorem dX6_make_126 : decode cX6_make 126 = .ok (.iconst 1, 1) := by decide +kernel
theorem dX6_make_127 : decode cX6_make 127 = .ok (.iastore, 1) := by decide +kernel
theorem dX6_make_128 : decode cX6_make 128 = .ok (.aload_n 0, 1) := by decide +kernel
theorem dX6_make_129 : decode cX6_make 129 = .ok (.getfield 7, 3) := by decide +kernel
theorem dX6_make_132 : decode cX6_make 132 = .ok (.sipush 218, 3) := by decide +kernel
theorem dX6_make_135 : decode cX6_make 135 = .ok (.iload 4, 2) := by decide +kernel
theorem dX6_make_137 : decode cX6_make 137 = .ok (.iadd, 1) := by decide +kernel
theorem dX6_make_138 : decode cX6_make 138 = .ok (.iconst 0, 1) := by decide +kernel
theorem dX6_make_139 : decode cX6_make 139 = .ok (.iastore, 1) := by decide +kernel
theorem dX6_make_140 : decode cX6_make 140 = .ok (.aload_n 0, 1) := by decide +kernel
theorem dX6_make_141 : decode cX6_make 141 = .ok (.getfield 7, 3) := by decide +kernel
theorem dX6_make_144 : decode cX6_make 144 = .ok (.sipush 279, 3) := by decide +kernel
theorem dX6_make_147 : decode cX6_make 147 = .ok (.iload 4, 2) := by decide +kernel
theorem dX6_make_149 : decode cX6_make 149 = .ok (.iadd, 1) := by decide +kernel
theorem dX6_make_150 : decode cX6_make 150 = .ok (.iconst 0, 1) := by decide +kernel
theorem dX6_make_151 : decode cX6_make 151 = .ok (.iastore, 1) := by decide +kernel
theorem dX6_make_152 : decode cX6_make 152 = .ok (.aload_n 0, 1) := by decide +kernel
theorem dX6_make_153 : decode cX6_make 153 = .ok (.iload 4, 2) := by decide +kernel
theorem dX6_make_155 : decode cX6_make 155 = .ok (.iconst 0, 1) := by decide +kernel
theorem dX6_make_156 : decode cX6_make 156 = .ok (.iconst 0, 1) := by decide +kernel
theorem dX6_make_157 : decode cX6_make 157 = .ok (.bipush 6, 2) := by decide +kernel
theorem dX6_make_159 : decode cX6_make 159 = .ok (.iconst 0, 1) := by decide +kernel
theorem dX6_make_160 : decode cX6_make 160 = .ok (.invokevirtual 130, 3) := by decide +kernel
theorem dX6_make_163 : decode cX6_make 163 = .ok (.aload_n 0, 1) := by decide +kernel
theorem dX6_make_164 : decode cX6_make 164 = .ok (.getfield 51, 3) := by decide +kernel
theorem dX6_make_167 : decode cX6_make 167 = .ok (.ifCond .ne 13, 3) := by decide +kernel
theorem dX6_make_170 : decode cX6_make 170 = .ok (.aload_n 0, 1) := by decide +kernel
theorem dX6_make_171 : decode cX6_make 171 = .ok (.iload_n 1, 1) := by decide +kernel
theorem dX6_make_172 : decode cX6_make 172 = .ok (.iconst 1, 1) := by decide +kernel
theorem dX6_make_173 : decode cX6_make 173 = .ok (.iload_n 2, 1) := by decide +kernel
theorem dX6_make_174 : decode cX6_make 174 = .ok (.iconst 3, 1) := by decide +kernel
theorem dX6_make_175 : decode cX6_make 175 = .ok (.iload 4, 2) := by decide +kernel
theorem dX6_make_177 : decode cX6_make 177 = .ok (.invokevirtual 130, 3) := by decide +kernel
theorem dX6_make_180 : decode cX6_make 180 = .ok (.aload_n 0, 1) := by decide +kernel
theorem dX6_make_181 : decode cX6_make 181 = .ok (.getfield 7, 3) := by decide +kernel
theorem dX6_make_184 : decode cX6_make 184 = .ok (.sipush 218, 3) := by decide +kernel
theorem dX6_make_187 : decode cX6_make 187 = .ok (.iload_n 1, 1) := by decide +kernel
theorem dX6_make_188 : decode cX6_make 188 = .ok (.iadd, 1) := by decide +kernel
theorem dX6_make_189 : decode cX6_make 189 = .ok (.dup2, 1) := by decide +kernel
theorem dX6_make_190 : decode cX6_make 190 = .ok (.iaload, 1) := by decide +kernel
theorem dX6_make_191 : decode cX6_make 191 = .ok (.iconst 1, 1) := by decide +kernel
theorem dX6_make_192 : decode cX6_make 192 = .ok (.iadd, 1) := by decide +kernel
theorem dX6_make_193 : decode cX6_make 193 = .ok (.iastore, 1) := by decide +kernel
theorem dX6_make_194 : decode cX6_make 194 = .ok (.aload_n 0, 1) := by decide +kernel
theorem dX6_make_195 : decode cX6_make 195 = .ok (.iconst 4, 1) := by decide +kernel
theorem dX6_make_196 : decode cX6_make 196 = .ok (.invokevirtual 167, 3) := by decide +kernel
theorem dX6_make_199 : decode cX6_make 199 = .ok (.ifCond .eq 8, 3) := by decide +kernel
theorem dX6_make_202 : decode cX6_make 202 = .ok (.iload 4, 2) := by decide +kernel
theorem dX6_make_204 : decode cX6_make 204 = .ok (.goto 4, 3) := by decide +kernel
theorem dX6_make_207 : decode cX6_make 207 = .ok (.iconst 0, 1) := by decide +kernel
theorem dX6_make_208 : decode cX6_make 208 = .ok (.ireturn, 1) := by decide +kernel
theorem dX6_link_0 : decode cX6_link 0 = .ok (.aload_n 0, 1) := by decide +kernel
theorem dX6_link_1 : decode cX6_link 1 = .ok (.aload_n 0, 1) := by decide +kernel
theorem dX6_link_2 : decode cX6_link 2 = .ok (.getfield 149, 3) := by decide +kernel
theorem dX6_link_5 : decode cX6_link 5 = .ok (.ifCond .eq 7, 3) := by decide +kernel
theorem dX6_link_8 : decode cX6_link 8 = .ok (.iconst 1, 1) := by decide +kernel
theorem dX6_link_9 : decode cX6_link 9 = .ok (.goto 49, 3) := by decide +kernel
theorem dX6_link_12 : decode cX6_link 12 = .ok (.aload_n 0, 1) := by decide +kernel
theorem dX6_link_13 : decode cX6_link 13 = .ok (.iload_n 1, 1) := by decide +kernel
theorem dX6_link_14 : decode cX6_link 14 = .ok (.invokevirtual 152, 3) := by decide +kernel
theorem dX6_link_17 : decode cX6_link 17 = .ok (.ifCond .eq 11, 3) := by decide +kernel
theorem dX6_link_20 : decode cX6_link 20 = .ok (.aload_n 0, 1) := by decide +kernel
theorem dX6_link_21 : decode cX6_link 21 = .ok (.iload_n 3, 1) := by decide +kernel
theorem dX6_link_22 : decode cX6_link 22 = .ok (.invokevirtual 170, 3) := by decide +kernel
theorem dX6_link_25 : decode cX6_link 25 = .ok (.ifCond .ne 7, 3) := by decide +kernel
theorem dX6_link_28 : decode cX6_link 28 = .ok (.iconst 2, 1) := by decide +kernel
theorem dX6_link_29 : decode cX6_link 29 = .ok (.goto 29, 3) := by decide +kernel
theorem dX6_link_32 : decode cX6_link 32 = .ok (.aload_n 0, 1) := by decide +kernel
theorem dX6_link_33 : decode cX6_link 33 = .ok (.iload_n 2, 1) := by decide +kernel
theorem dX6_link_34 : decode cX6_link 34 = .ok (.invokevirtual 155, 3) := by decide +kernel
theorem dX6_link_37 : decode cX6_link 37 = .ok (.ifCond .ne 7, 3) := by decide +kernel
theorem dX6_link_40 : decode cX6_link 40 = .ok (.iconst 3, 1) := by decide +kernel
theorem dX6_link_41 : decode cX6_link 41 = .ok (.goto 17, 3) := by decide +kernel
theorem dX6_link_44 : decode cX6_link 44 = .ok (.aload_n 0, 1) := by decide +kernel
theorem dX6_link_45 : decode cX6_link 45 = .ok (.iload_n 1, 1) := by decide +kernel
theorem dX6_link_46 : decode cX6_link 46 = .ok (.iload_n 2, 1) := by decide +kernel
theorem dX6_link_47 : decode cX6_link 47 = .ok (.invokevirtual 158, 3) := by decide +kernel
theorem dX6_link_50 : decode cX6_link 50 = .ok (.ifCond .lt 7, 3) := by decide +kernel
theorem dX6_link_53 : decode cX6_link 53 = .ok (.iconst 4, 1) := by decide +kernel
theorem dX6_link_54 : decode cX6_link 54 = .ok (.goto 4, 3) := by decide +kernel
theorem dX6_link_57 : decode cX6_link 57 = .ok (.iconst 0, 1) := by decide +kernel
theorem dX6_link_58 : decode cX6_link 58 = .ok (.putfield 40, 3) := by decide +kernel
theorem dX6_link_61 : decode cX6_link 61 = .ok (.aload_n 0, 1) := by decide +kernel
theorem dX6_link_62 : decode cX6_link 62 = .ok (.getfield 40, 3) := by decide +kernel
theorem dX6_link_65 : decode cX6_link 65 = .ok (.ifCond .le 5, 3) := by decide +kernel
theorem dX6_link_68 : decode cX6_link 68 = .ok (.iconst 0, 1) := by decide +kernel
theorem dX6_link_69 : decode cX6_link 69 = .ok (.ireturn, 1) := by decide +kernel
theorem dX6_link_70 : decode cX6_link 70 = .ok (.aload_n 0, 1) := by decide +kernel
theorem dX6_link_71 : decode cX6_link 71 = .ok (.invokevirtual 164, 3) := by decide +kernel
theorem dX6_link_74 : decode cX6_link 74 = .ok (.aload_n 0, 1) := by decide +kernel
theorem dX6_link_75 : decode cX6_link 75 = .ok (.iload_n 1, 1) := by decide +kernel
theorem dX6_link_76 : decode cX6_link 76 = .ok (.iconst 1, 1) := by decide +kernel
theorem dX6_link_77 : decode cX6_link 77 = .ok (.iload_n 2, 1) := by decide +kernel
theorem dX6_link_78 : decode cX6_link 78 = .ok (.iconst 3, 1) := by decide +kernel
theorem dX6_link_79 : decode cX6_link 79 = .ok (.iload_n 3, 1) := by decide +kernel
theorem dX6_link_80 : decode cX6_link 80 = .ok (.invokevirtual 130, 3) := by decide +kernel
theorem dX6_link_83 : decode cX6_link 83 = .ok (.aload_n 0, 1) := by decide +kernel
theorem dX6_link_84 : decode cX6_link 84 = .ok (.getfield 7, 3) := by decide +kernel
theorem dX6_link_87 : decode cX6_link 87 = .ok (.sipush 218, 3) := by decide +kernel
theorem dX6_link_90 : decode cX6_link 90 = .ok (.iload_n 1, 1) := by decide +kernel
theorem dX6_link_91 : decode cX6_link 91 = .ok (.iadd, 1) := by decide +kernel
theorem dX6_link_92 : decode cX6_link 92 = .ok (.dup2, 1) := by decide +kernel
theorem dX6_link_93 : decode cX6_link 93 = .ok (.iaload, 1) := by decide +kernel
theorem dX6_link_94 : decode cX6_link 94 = .ok (.iconst 1, 1) := by decide +kernel
theorem dX6_link_95 : decode cX6_link 95 = .ok (.iadd, 1) := by decide +kernel
theorem dX6_link_96 : decode cX6_link 96 = .ok (.iastore, 1) := by decide +kernel
theorem dX6_link_97 : decode cX6_link 97 = .ok (.aload_n 0, 1) := by decide +kernel
theorem dX6_link_98 : decode cX6_link 98 = .ok (.getfield 7, 3) := by decide +kernel
theorem dX6_link_101 : decode cX6_link 101 = .ok (.sipush 157, 3) := by decide +kernel
theorem dX6_link_104 : decode cX6_link 104 = .ok (.iload_n 3, 1) := by decide +kernel
theorem dX6_link_105 : decode cX6_link 105 = .ok (.iadd, 1) := by decide +kernel
theorem dX6_link_106 : decode cX6_link 106 = .ok (.dup2, 1) := by decide +kernel
theorem dX6_link_107 : decode cX6_link 107 = .ok (.iaload, 1) := by decide +kernel
theorem dX6_link_108 : decode cX6_link 108 = .ok (.iconst 1, 1) := by decide +kernel
theorem dX6_link_109 : decode cX6_link 109 = .ok (.iadd, 1) := by decide +kernel
theorem dX6_link_110 : decode cX6_link 110 = .ok (.iastore, 1) := by decide +kernel
theorem dX6_link_111 : decode cX6_link 111 = .ok (.aload_n 0, 1) := by decide +kernel
theorem dX6_link_112 : decode cX6_link 112 = .ok (.iconst 4, 1) := by decide +kernel
theorem dX6_link_113 : decode cX6_link 113 = .ok (.invokevirtual 167, 3) := by decide +kernel
theorem dX6_link_116 : decode cX6_link 116 = .ok (.ifCond .eq 16, 3) := by decide +kernel
theorem dX6_link_119 : decode cX6_link 119 = .ok (.aload_n 0, 1) := by decide +kernel
theorem dX6_link_120 : decode cX6_link 120 = .ok (.getfield 7, 3) := by decide +kernel
theorem dX6_link_123 : decode cX6_link 123 = .ok (.sipush 157, 3) := by decide +kernel
theorem dX6_link_126 : decode cX6_link 126 = .ok (.iload_n 3, 1) := by decide +kernel
theorem dX6_link_127 : decode cX6_link 127 = .ok (.iadd, 1) := by decide +kernel
theorem dX6_link_128 : decode cX6_link 128 = .ok (.iaload, 1) := by decide +kernel
theorem dX6_link_129 : decode cX6_link 129 = .ok (.goto 4, 3) := by decide +kernel
theorem dX6_link_132 : decode cX6_link 132 = .ok (.iconst 0, 1) := by decide +kernel
theorem dX6_link_133 : decode cX6_link 133 = .ok (.ireturn, 1) := by decide +kernel
theorem dX6_unlink_0 : decode cX6_unlink 0 = .ok (.aload_n 0, 1) := by decide +kernel
theorem dX6_unlink_1 : decode cX6_unlink 1 = .ok (.getfield 149, 3) := by decide +kernel
theorem dX6_unlink_4 : decode cX6_unlink 4 = .ok (.ifCond .ne 11, 3) := by decide +kernel
theorem dX6_unlink_7 : decode cX6_unlink 7 = .ok (.aload_n 0, 1) := by decide +kernel
theorem dX6_unlink_8 : decode cX6_unlink 8 = .ok (.iload_n 1, 1) := by decide +kernel
theorem dX6_unlink_9 : decode cX6_unlink 9 = .ok (.invokevirtual 152, 3) := by decide +kernel
theorem dX6_unlink_12 : decode cX6_unlink 12 = .ok (.ifCond .ne 7, 3) := by decide +kernel
theorem dX6_unlink_15 : decode cX6_unlink 15 = .ok (.iconst (-1), 1) := by decide +kernel
theorem dX6_unlink_16 : decode cX6_unlink 16 = .ok (.goto 9, 3) := by decide +kernel
theorem dX6_unlink_19 : decode cX6_unlink 19 = .ok (.aload_n 0, 1) := by decide +kernel
theorem dX6_unlink_20 : decode cX6_unlink 20 = .ok (.iload_n 1, 1) := by decide +kernel
theorem dX6_unlink_21 : decode cX6_unlink 21 = .ok (.iload_n 2, 1) := by decide +kernel
theorem dX6_unlink_22 : decode cX6_unlink 22 = .ok (.invokevirtual 158, 3) := by decide +kernel
theorem dX6_unlink_25 : decode cX6_unlink 25 = .ok (.istore_n 3, 1) := by decide +kernel
theorem dX6_unlink_26 : decode cX6_unlink 26 = .ok (.aload_n 0, 1) := by decide +kernel
theorem dX6_unlink_27 : decode cX6_unlink 27 = .ok (.aload_n 0, 1) := by decide +kernel
theorem dX6_unlink_28 : decode cX6_unlink 28 = .ok (.getfield 149, 3) := by decide +kernel
theorem dX6_unlink_31 : decode cX6_unlink 31 = .ok (.ifCond .eq 7, 3) := by decide +kernel
theorem dX6_unlink_34 : decode cX6_unlink 34 = .ok (.iconst 1, 1) := by decide +kernel
theorem dX6_unlink_35 : decode cX6_unlink 35 = .ok (.goto 42, 3) := by decide +kernel
theorem dX6_unlink_38 : decode cX6_unlink 38 = .ok (.iload_n 3, 1) := by decide +kernel
theorem dX6_unlink_39 : decode cX6_unlink 39 = .ok (.ifCond .ge 7, 3) := by decide +kernel
theorem dX6_unlink_42 : decode cX6_unlink 42 = .ok (.iconst 2, 1) := by decide +kernel
theorem dX6_unlink_43 : decode cX6_unlink 43 = .ok (.goto 34, 3) := by decide +kernel
theorem dX6_unlink_46 : decode cX6_unlink 46 = .ok (.aload_n 0, 1) := by decide +kernel
theorem dX6_unlink_47 : decode cX6_unlink 47 = .ok (.getfield 7, 3) := by decide +kernel
theorem dX6_unlink_50 : decode cX6_unlink 50 = .ok (.bipush 96, 2) := by decide +kernel
theorem dX6_unlink_52 : decode cX6_unlink 52 = .ok (.iload_n 3, 1) := by decide +kernel
theorem dX6_unlink_53 : decode cX6_unlink 53 = .ok (.iadd, 1) := by decide +kernel
theorem dX6_unlink_54 : decode cX6_unlink 54 = .ok (.iaload, 1) := by decide +kernel
theorem dX6_unlink_55 : decode cX6_unlink 55 = .ok (.iconst 1, 1) := by decide +kernel
theorem dX6_unlink_56 : decode cX6_unlink 56 = .ok (.if_icmp .ne 20, 3) := by decide +kernel
theorem dX6_unlink_59 : decode cX6_unlink 59 = .ok (.aload_n 0, 1) := by decide +kernel
theorem dX6_unlink_60 : decode cX6_unlink 60 = .ok (.getfield 7, 3) := by decide +kernel
theorem dX6_unlink_63 : decode cX6_unlink 63 = .ok (.sipush 218, 3) := by decide +kernel
theorem dX6_unlink_66 : decode cX6_unlink 66 = .ok (.iload_n 3, 1) := by decide +kernel
theorem dX6_unlink_67 : decode cX6_unlink 67 = .ok (.iadd, 1) := by decide +kernel
theorem dX6_unlink_68 : decode cX6_unlink 68 = .ok (.iaload, 1) := by decide +kernel
theorem dX6_unlink_69 : decode cX6_unlink 69 = .ok (.ifCond .le 7, 3) := by decide +kernel
theorem dX6_unlink_72 : decode cX6_unlink 72 = .ok (.iconst 3, 1) := by decide +kernel
theorem dX6_unlink_73 : decode cX6_unlink 73 = .ok (.goto 4, 3) := by decide +kernel
theorem dX6_unlink_76 : decode cX6_unlink 76 = .ok (.iconst 0, 1) := by decide +kernel
theorem dX6_unlink_77 : decode cX6_unlink 77 = .ok (.putfield 40, 3) := by decide +kernel
theorem dX6_unlink_80 : decode cX6_unlink 80 = .ok (.aload_n 0, 1) := by decide +kernel
theorem dX6_unlink_81 : decode cX6_unlink 81 = .ok (.getfield 40, 3) := by decide +kernel
theorem dX6_unlink_84 : decode cX6_unlink 84 = .ok (.ifCond .le 5, 3) := by decide +kernel
theorem dX6_unlink_87 : decode cX6_unlink 87 = .ok (.iconst 0, 1) := by decide +kernel
theorem dX6_unlink_88 : decode cX6_unlink 88 = .ok (.ireturn, 1) := by decide +kernel
theorem dX6_unlink_89 : decode cX6_unlink 89 = .ok (.aload_n 0, 1) := by decide +kernel
theorem dX6_unlink_90 : decode cX6_unlink 90 = .ok (.invokevirtual 164, 3) := by decide +kernel
theorem dX6_unlink_93 : decode cX6_unlink 93 = .ok (.aload_n 0, 1) := by decide +kernel
theorem dX6_unlink_94 : decode cX6_unlink 94 = .ok (.iload_n 1, 1) := by decide +kernel
theorem dX6_unlink_95 : decode cX6_unlink 95 = .ok (.iconst 1, 1) := by decide +kernel
theorem dX6_unlink_96 : decode cX6_unlink 96 = .ok (.iload_n 2, 1) := by decide +kernel
theorem dX6_unlink_97 : decode cX6_unlink 97 = .ok (.invokevirtual 134, 3) := by decide +kernel
theorem dX6_unlink_100 : decode cX6_unlink 100 = .ok (.aload_n 0, 1) := by decide +kernel
theorem dX6_unlink_101 : decode cX6_unlink 101 = .ok (.getfield 7, 3) := by decide +kernel
theorem dX6_unlink_104 : decode cX6_unlink 104 = .ok (.sipush 218, 3) := by decide +kernel
theorem dX6_unlink_107 : decode cX6_unlink 107 = .ok (.iload_n 1, 1) := by decide +kernel
theorem dX6_unlink_108 : decode cX6_unlink 108 = .ok (.iadd, 1) := by decide +kernel
theorem dX6_unlink_109 : decode cX6_unlink 109 = .ok (.dup2, 1) := by decide +kernel
theorem dX6_unlink_110 : decode cX6_unlink 110 = .ok (.iaload, 1) := by decide +kernel
theorem dX6_unlink_111 : decode cX6_unlink 111 = .ok (.iconst 1, 1) := by decide +kernel
theorem dX6_unlink_112 : decode cX6_unlink 112 = .ok (.isub, 1) := by decide +kernel
theorem dX6_unlink_113 : decode cX6_unlink 113 = .ok (.iastore, 1) := by decide +kernel
theorem dX6_unlink_114 : decode cX6_unlink 114 = .ok (.aload_n 0, 1) := by decide +kernel
theorem dX6_unlink_115 : decode cX6_unlink 115 = .ok (.getfield 7, 3) := by decide +kernel
theorem dX6_unlink_118 : decode cX6_unlink 118 = .ok (.sipush 157, 3) := by decide +kernel
theorem dX6_unlink_121 : decode cX6_unlink 121 = .ok (.iload_n 3, 1) := by decide +kernel
theorem dX6_unlink_122 : decode cX6_unlink 122 = .ok (.iadd, 1) := by decide +kernel
theorem dX6_unlink_123 : decode cX6_unlink 123 = .ok (.dup2, 1) := by decide +kernel
theorem dX6_unlink_124 : decode cX6_unlink 124 = .ok (.iaload, 1) := by decide +kernel
theorem dX6_unlink_125 : decode cX6_unlink 125 = .ok (.iconst 1, 1) := by decide +kernel
theorem dX6_unlink_126 : decode cX6_unlink 126 = .ok (.isub, 1) := by decide +kernel
theorem dX6_unlink_127 : decode cX6_unlink 127 = .ok (.iastore, 1) := by decide +kernel
theorem dX6_unlink_128 : decode cX6_unlink 128 = .ok (.aload_n 0, 1) := by decide +kernel
theorem dX6_unlink_129 : decode cX6_unlink 129 = .ok (.getfield 7, 3) := by decide +kernel
theorem dX6_unlink_132 : decode cX6_unlink 132 = .ok (.sipush 157, 3) := by decide +kernel
theorem dX6_unlink_135 : decode cX6_unlink 135 = .ok (.iload_n 3, 1) := by decide +kernel
theorem dX6_unlink_136 : decode cX6_unlink 136 = .ok (.iadd, 1) := by decide +kernel
theorem dX6_unlink_137 : decode cX6_unlink 137 = .ok (.iaload, 1) := by decide +kernel
theorem dX6_unlink_138 : decode cX6_unlink 138 = .ok (.ifCond .le 14, 3) := by decide +kernel
theorem dX6_unlink_141 : decode cX6_unlink 141 = .ok (.aload_n 0, 1) := by decide +kernel
theorem dX6_unlink_142 : decode cX6_unlink 142 = .ok (.getfield 7, 3) := by decide +kernel
theorem dX6_unlink_145 : decode cX6_unlink 145 = .ok (.sipush 157, 3) := by decide +kernel
theorem dX6_unlink_148 : decode cX6_unlink 148 = .ok (.iload_n 3, 1) := by decide +kernel
theorem dX6_unlink_149 : decode cX6_unlink 149 = .ok (.iadd, 1) := by decide +kernel
theorem dX6_unlink_150 : decode cX6_unlink 150 = .ok (.iaload, 1) := by decide +kernel
theorem dX6_unlink_151 : decode cX6_unlink 151 = .ok (.ireturn, 1) := by decide +kernel
theorem dX6_unlink_152 : decode cX6_unlink 152 = .ok (.aload_n 0, 1) := by decide +kernel
theorem dX6_unlink_153 : decode cX6_unlink 153 = .ok (.getfield 7, 3) := by decide +kernel
theorem dX6_unlink_156 : decode cX6_unlink 156 = .ok (.bipush 96, 2) := by decide +kernel
theorem dX6_unlink_158 : decode cX6_unlink 158 = .ok (.iload_n 3, 1) := by decide +kernel
theorem dX6_unlink_159 : decode cX6_unlink 159 = .ok (.iadd, 1) := by decide +kernel
theorem dX6_unlink_160 : decode cX6_unlink 160 = .ok (.iaload, 1) := by decide +kernel
theorem dX6_unlink_161 : decode cX6_unlink 161 = .ok (.iconst 2, 1) := by decide +kernel
theorem dX6_unlink_162 : decode cX6_unlink 162 = .ok (.if_icmp .ne 19, 3) := by decide +kernel
theorem dX6_unlink_165 : decode cX6_unlink 165 = .ok (.aload_n 0, 1) := by decide +kernel
theorem dX6_unlink_166 : decode cX6_unlink 166 = .ok (.getfield 7, 3) := by decide +kernel
theorem dX6_unlink_169 : decode cX6_unlink 169 = .ok (.sipush 218, 3) := by decide +kernel
theorem dX6_unlink_172 : decode cX6_unlink 172 = .ok (.iload_n 3, 1) := by decide +kernel
theorem dX6_unlink_173 : decode cX6_unlink 173 = .ok (.iadd, 1) := by decide +kernel
theorem dX6_unlink_174 : decode cX6_unlink 174 = .ok (.iaload, 1) := by decide +kernel
theorem dX6_unlink_175 : decode cX6_unlink 175 = .ok (.invokestatic 137, 3) := by decide +kernel
theorem dX6_unlink_178 : decode cX6_unlink 178 = .ok (.goto 4, 3) := by decide +kernel
theorem dX6_unlink_181 : decode cX6_unlink 181 = .ok (.iconst 0, 1) := by decide +kernel
theorem dX6_unlink_182 : decode cX6_unlink 182 = .ok (.istore 4, 2) := by decide +kernel
theorem dX6_unlink_184 : decode cX6_unlink 184 = .ok (.aload_n 0, 1) := by decide +kernel
theorem dX6_unlink_185 : decode cX6_unlink 185 = .ok (.getfield 7, 3) := by decide +kernel
theorem dX6_unlink_188 : decode cX6_unlink 188 = .ok (.sipush 279, 3) := by decide +kernel
theorem dX6_unlink_191 : decode cX6_unlink 191 = .ok (.iload_n 3, 1) := by decide +kernel
theorem dX6_unlink_192 : decode cX6_unlink 192 = .ok (.iadd, 1) := by decide +kernel
theorem dX6_unlink_193 : decode cX6_unlink 193 = .ok (.iaload, 1) := by decide +kernel
theorem dX6_unlink_194 : decode cX6_unlink 194 = .ok (.istore 5, 2) := by decide +kernel
theorem dX6_unlink_196 : decode cX6_unlink 196 = .ok (.iload 5, 2) := by decide +kernel
theorem dX6_unlink_198 : decode cX6_unlink 198 = .ok (.iconst 1, 1) := by decide +kernel
theorem dX6_unlink_199 : decode cX6_unlink 199 = .ok (.isub, 1) := by decide +kernel
theorem dX6_unlink_200 : decode cX6_unlink 200 = .ok (.istore 6, 2) := by decide +kernel
theorem dX6_unlink_202 : decode cX6_unlink 202 = .ok (.iload 6, 2) := by decide +kernel
theorem dX6_unlink_204 : decode cX6_unlink 204 = .ok (.ifCond .lt 29, 3) := by decide +kernel
theorem dX6_unlink_207 : decode cX6_unlink 207 = .ok (.aload_n 0, 1) := by decide +kernel
theorem dX6_unlink_208 : decode cX6_unlink 208 = .ok (.aload_n 0, 1) := by decide +kernel
theorem dX6_unlink_209 : decode cX6_unlink 209 = .ok (.getfield 7, 3) := by decide +kernel
theorem dX6_unlink_212 : decode cX6_unlink 212 = .ok (.sipush 340, 3) := by decide +kernel
theorem dX6_unlink_215 : decode cX6_unlink 215 = .ok (.bipush 16, 2) := by decide +kernel
theorem dX6_unlink_217 : decode cX6_unlink 217 = .ok (.iload_n 3, 1) := by decide +kernel
theorem dX6_unlink_218 : decode cX6_unlink 218 = .ok (.imul, 1) := by decide +kernel
theorem dX6_unlink_219 : decode cX6_unlink 219 = .ok (.iadd, 1) := by decide +kernel
theorem dX6_unlink_220 : decode cX6_unlink 220 = .ok (.iload 6, 2) := by decide +kernel
theorem dX6_unlink_222 : decode cX6_unlink 222 = .ok (.iadd, 1) := by decide +kernel
theorem dX6_unlink_223 : decode cX6_unlink 223 = .ok (.iaload, 1) := by decide +kernel
theorem dX6_unlink_224 : decode cX6_unlink 224 = .ok (.invokevirtual 85, 3) := by decide +kernel
theorem dX6_unlink_227 : decode cX6_unlink 227 = .ok (.iinc 6 (-1), 3) := by decide +kernel
theorem dX6_unlink_230 : decode cX6_unlink 230 = .ok (.goto (-28), 3) := by decide +kernel
theorem dX6_unlink_233 : decode cX6_unlink 233 = .ok (.aload_n 0, 1) := by decide +kernel
theorem dX6_unlink_234 : decode cX6_unlink 234 = .ok (.iload_n 3, 1) := by decide +kernel
theorem dX6_unlink_235 : decode cX6_unlink 235 = .ok (.iconst 3, 1) := by decide +kernel
theorem dX6_unlink_236 : decode cX6_unlink 236 = .ok (.iload 4, 2) := by decide +kernel
theorem dX6_unlink_238 : decode cX6_unlink 238 = .ok (.iconst 0, 1) := by decide +kernel
theorem dX6_unlink_239 : decode cX6_unlink 239 = .ok (.invokevirtual 146, 3) := by decide +kernel
theorem dX6_unlink_242 : decode cX6_unlink 242 = .ok (.aload_n 0, 1) := by decide +kernel
theorem dX6_unlink_243 : decode cX6_unlink 243 = .ok (.iload_n 3, 1) := by decide +kernel
theorem dX6_unlink_244 : decode cX6_unlink 244 = .ok (.iconst 2, 1) := by decide +kernel
theorem dX6_unlink_245 : decode cX6_unlink 245 = .ok (.iconst 2, 1) := by decide +kernel
theorem dX6_unlink_246 : decode cX6_unlink 246 = .ok (.iload 5, 2) := by decide +kernel
theorem dX6_unlink_248 : decode cX6_unlink 248 = .ok (.imul, 1) := by decide +kernel
theorem dX6_unlink_249 : decode cX6_unlink 249 = .ok (.iconst 0, 1) := by decide +kernel
theorem dX6_unlink_250 : decode cX6_unlink 250 = .ok (.invokevirtual 146, 3) := by decide +kernel
theorem dX6_unlink_253 : decode cX6_unlink 253 = .ok (.aload_n 0, 1) := by decide +kernel
theorem dX6_unlink_254 : decode cX6_unlink 254 = .ok (.iload_n 3, 1) := by decide +kernel
theorem dX6_unlink_255 : decode cX6_unlink 255 = .ok (.iconst 0, 1) := by decide +kernel
theorem dX6_unlink_256 : decode cX6_unlink 256 = .ok (.iconst 0, 1) := by decide +kernel
theorem dX6_unlink_257 : decode cX6_unlink 257 = .ok (.invokevirtual 134, 3) := by decide +kernel
theorem dX6_unlink_260 : decode cX6_unlink 260 = .ok (.aload_n 0, 1) := by decide +kernel
theorem dX6_unlink_261 : decode cX6_unlink 261 = .ok (.getfield 7, 3) := by decide +kernel
theorem dX6_unlink_264 : decode cX6_unlink 264 = .ok (.bipush 96, 2) := by decide +kernel
theorem dX6_unlink_266 : decode cX6_unlink 266 = .ok (.iload_n 3, 1) := by decide +kernel
theorem dX6_unlink_267 : decode cX6_unlink 267 = .ok (.iadd, 1) := by decide +kernel
theorem dX6_unlink_268 : decode cX6_unlink 268 = .ok (.iconst 0, 1) := by decide +kernel
theorem dX6_unlink_269 : decode cX6_unlink 269 = .ok (.iastore, 1) := by decide +kernel
theorem dX6_unlink_270 : decode cX6_unlink 270 = .ok (.aload_n 0, 1) := by decide +kernel
theorem dX6_unlink_271 : decode cX6_unlink 271 = .ok (.getfield 7, 3) := by decide +kernel
theorem dX6_unlink_274 : decode cX6_unlink 274 = .ok (.sipush 279, 3) := by decide +kernel
theorem dX6_unlink_277 : decode cX6_unlink 277 = .ok (.iload_n 3, 1) := by decide +kernel
theorem dX6_unlink_278 : decode cX6_unlink 278 = .ok (.iadd, 1) := by decide +kernel
theorem dX6_unlink_279 : decode cX6_unlink 279 = .ok (.iconst 0, 1) := by decide +kernel
theorem dX6_unlink_280 : decode cX6_unlink 280 = .ok (.iastore, 1) := by decide +kernel
theorem dX6_unlink_281 : decode cX6_unlink 281 = .ok (.aload_n 0, 1) := by decide +kernel
theorem dX6_unlink_282 : decode cX6_unlink 282 = .ok (.getfield 7, 3) := by decide +kernel
theorem dX6_unlink_285 : decode cX6_unlink 285 = .ok (.sipush 218, 3) := by decide +kernel
theorem dX6_unlink_288 : decode cX6_unlink 288 = .ok (.iload_n 3, 1) := by decide +kernel
theorem dX6_unlink_289 : decode cX6_unlink 289 = .ok (.iadd, 1) := by decide +kernel
theorem dX6_unlink_290 : decode cX6_unlink 290 = .ok (.iconst 0, 1) := by decide +kernel
theorem dX6_unlink_291 : decode cX6_unlink 291 = .ok (.iastore, 1) := by decide +kernel
theorem dX6_unlink_292 : decode cX6_unlink 292 = .ok (.iconst 0, 1) := by decide +kernel
theorem dX6_unlink_293 : decode cX6_unlink 293 = .ok (.ireturn, 1) := by decide +kernel
theorem dX6_above_0 : decode cX6_above 0 = .ok (.iconst 0, 1) := by decide +kernel
theorem dX6_above_1 : decode cX6_above 1 = .ok (.istore_n 2, 1) := by decide +kernel
theorem dX6_above_2 : decode cX6_above 2 = .ok (.iload_n 2, 1) := by decide +kernel
theorem dX6_above_3 : decode cX6_above 3 = .ok (.aload_n 0, 1) := by decide +kernel
theorem dX6_above_4 : decode cX6_above 4 = .ok (.getfield 7, 3) := by decide +kernel
theorem dX6_above_7 : decode cX6_above 7 = .ok (.sipush 13068, 3) := by decide +kernel
theorem dX6_above_10 : decode cX6_above 10 = .ok (.iaload, 1) := by decide +kernel
theorem dX6_above_11 : decode cX6_above 11 = .ok (.if_icmp .ge 101, 3) := by decide +kernel
theorem dX6_above_14 : decode cX6_above 14 = .ok (.aload_n 0, 1) := by decide +kernel
theorem dX6_above_15 : decode cX6_above 15 = .ok (.getfield 7, 3) := by decide +kernel
theorem dX6_above_18 : decode cX6_above 18 = .ok (.sipush 12300, 3) := by decide +kernel
theorem dX6_above_21 : decode cX6_above 21 = .ok (.iload_n 2, 1) := by decide +kernel
theorem dX6_above_22 : decode cX6_above 22 = .ok (.iadd, 1) := by decide +kernel
theorem dX6_above_23 : decode cX6_above 23 = .ok (.iaload, 1) := by decide +kernel
theorem dX6_above_24 : decode cX6_above 24 = .ok (.istore_n 3, 1) := by decide +kernel
theorem dX6_above_25 : decode cX6_above 25 = .ok (.iconst 0, 1) := by decide +kernel
theorem dX6_above_26 : decode cX6_above 26 = .ok (.istore 4, 2) := by decide +kernel
theorem dX6_above_28 : decode cX6_above 28 = .ok (.iload 4, 2) := by decide +kernel
theorem dX6_above_30 : decode cX6_above 30 = .ok (.aload_n 0, 1) := by decide +kernel
theorem dX6_above_31 : decode cX6_above 31 = .ok (.getfield 7, 3) := by decide +kernel
theorem dX6_above_34 : decode cX6_above 34 = .ok (.sipush 3852, 3) := by decide +kernel
theorem dX6_above_37 : decode cX6_above 37 = .ok (.iload_n 3, 1) := by decide +kernel
theorem dX6_above_38 : decode cX6_above 38 = .ok (.iadd, 1) := by decide +kernel
theorem dX6_above_39 : decode cX6_above 39 = .ok (.iaload, 1) := by decide +kernel
theorem dX6_above_40 : decode cX6_above 40 = .ok (.if_icmp .ge 66, 3) := by decide +kernel
theorem dX6_above_43 : decode cX6_above 43 = .ok (.aload_n 0, 1) := by decide +kernel
theorem dX6_above_44 : decode cX6_above 44 = .ok (.getfield 7, 3) := by decide +kernel
theorem dX6_above_47 : decode cX6_above 47 = .ok (.sipush 6156, 3) := by decide +kernel
theorem dX6_above_50 : decode cX6_above 50 = .ok (.bipush 16, 2) := by decide +kernel
theorem dX6_above_52 : decode cX6_above 52 = .ok (.iload_n 3, 1) := by decide +kernel
theorem dX6_above_53 : decode cX6_above 53 = .ok (.imul, 1) := by decide +kernel
theorem dX6_above_54 : decode cX6_above 54 = .ok (.iadd, 1) := by decide +kernel
theorem dX6_above_55 : decode cX6_above 55 = .ok (.iload 4, 2) := by decide +kernel
theorem dX6_above_57 : decode cX6_above 57 = .ok (.iadd, 1) := by decide +kernel
theorem dX6_above_58 : decode cX6_above 58 = .ok (.iaload, 1) := by decide +kernel
theorem dX6_above_59 : decode cX6_above 59 = .ok (.iconst 1, 1) := by decide +kernel
theorem dX6_above_60 : decode cX6_above 60 = .ok (.if_icmp .ne 40, 3) := by decide +kernel
theorem dX6_above_63 : decode cX6_above 63 = .ok (.aload_n 0, 1) := by decide +kernel
theorem dX6_above_64 : decode cX6_above 64 = .ok (.getfield 7, 3) := by decide +kernel
theorem dX6_above_67 : decode cX6_above 67 = .ok (.sipush 10764, 3) := by decide +kernel
theorem dX6_above_70 : decode cX6_above 70 = .ok (.bipush 16, 2) := by decide +kernel
theorem dX6_above_72 : decode cX6_above 72 = .ok (.iload_n 3, 1) := by decide +kernel
theorem dX6_above_73 : decode cX6_above 73 = .ok (.imul, 1) := by decide +kernel
theorem dX6_above_74 : decode cX6_above 74 = .ok (.iadd, 1) := by decide +kernel
theorem dX6_above_75 : decode cX6_above 75 = .ok (.iload 4, 2) := by decide +kernel
theorem dX6_above_77 : decode cX6_above 77 = .ok (.iadd, 1) := by decide +kernel
theorem dX6_above_78 : decode cX6_above 78 = .ok (.iaload, 1) := by decide +kernel
theorem dX6_above_79 : decode cX6_above 79 = .ok (.iload_n 1, 1) := by decide +kernel
theorem dX6_above_80 : decode cX6_above 80 = .ok (.if_icmp .ne 20, 3) := by decide +kernel
theorem dX6_above_83 : decode cX6_above 83 = .ok (.aload_n 0, 1) := by decide +kernel
theorem dX6_above_84 : decode cX6_above 84 = .ok (.getfield 7, 3) := by decide +kernel
theorem dX6_above_87 : decode cX6_above 87 = .ok (.sipush 4620, 3) := by decide +kernel
theorem dX6_above_90 : decode cX6_above 90 = .ok (.bipush 16, 2) := by decide +kernel
theorem dX6_above_92 : decode cX6_above 92 = .ok (.iload_n 3, 1) := by decide +kernel
theorem dX6_above_93 : decode cX6_above 93 = .ok (.imul, 1) := by decide +kernel
theorem dX6_above_94 : decode cX6_above 94 = .ok (.iadd, 1) := by decide +kernel
theorem dX6_above_95 : decode cX6_above 95 = .ok (.iload 4, 2) := by decide +kernel
theorem dX6_above_97 : decode cX6_above 97 = .ok (.iadd, 1) := by decide +kernel
theorem dX6_above_98 : decode cX6_above 98 = .ok (.iaload, 1) := by decide +kernel
theorem dX6_above_99 : decode cX6_above 99 = .ok (.ireturn, 1) := by decide +kernel
theorem dX6_above_100 : decode cX6_above 100 = .ok (.iinc 4 1, 3) := by decide +kernel
theorem dX6_above_103 : decode cX6_above 103 = .ok (.goto (-75), 3) := by decide +kernel
theorem dX6_above_106 : decode cX6_above 106 = .ok (.iinc 2 1, 3) := by decide +kernel
theorem dX6_above_109 : decode cX6_above 109 = .ok (.goto (-107), 3) := by decide +kernel
theorem dX6_above_112 : decode cX6_above 112 = .ok (.iconst (-1), 1) := by decide +kernel
theorem dX6_above_113 : decode cX6_above 113 = .ok (.ireturn, 1) := by decide +kernel
theorem dX6_isWithin_0 : decode cX6_isWithin 0 = .ok (.iload_n 1, 1) := by decide +kernel
theorem dX6_isWithin_1 : decode cX6_isWithin 1 = .ok (.istore_n 3, 1) := by decide +kernel
theorem dX6_isWithin_2 : decode cX6_isWithin 2 = .ok (.iload_n 3, 1) := by decide +kernel
theorem dX6_isWithin_3 : decode cX6_isWithin 3 = .ok (.iconst (-1), 1) := by decide +kernel
theorem dX6_isWithin_4 : decode cX6_isWithin 4 = .ok (.if_icmp .eq 17, 3) := by decide +kernel
theorem dX6_isWithin_7 : decode cX6_isWithin 7 = .ok (.iload_n 3, 1) := by decide +kernel
theorem dX6_isWithin_8 : decode cX6_isWithin 8 = .ok (.iload_n 2, 1) := by decide +kernel
theorem dX6_isWithin_9 : decode cX6_isWithin 9 = .ok (.if_icmp .eq 12, 3) := by decide +kernel
theorem dX6_isWithin_12 : decode cX6_isWithin 12 = .ok (.aload_n 0, 1) := by decide +kernel
theorem dX6_isWithin_13 : decode cX6_isWithin 13 = .ok (.iload_n 3, 1) := by decide +kernel
theorem dX6_isWithin_14 : decode cX6_isWithin 14 = .ok (.invokevirtual 173, 3) := by decide +kernel
theorem dX6_isWithin_17 : decode cX6_isWithin 17 = .ok (.istore_n 3, 1) := by decide +kernel
theorem dX6_isWithin_18 : decode cX6_isWithin 18 = .ok (.goto (-16), 3) := by decide +kernel
theorem dX6_isWithin_21 : decode cX6_isWithin 21 = .ok (.iload_n 3, 1) := by decide +kernel
theorem dX6_isWithin_22 : decode cX6_isWithin 22 = .ok (.iload_n 2, 1) := by decide +kernel
theorem dX6_isWithin_23 : decode cX6_isWithin 23 = .ok (.if_icmp .ne 7, 3) := by decide +kernel
theorem dX6_isWithin_26 : decode cX6_isWithin 26 = .ok (.iconst 1, 1) := by decide +kernel
theorem dX6_isWithin_27 : decode cX6_isWithin 27 = .ok (.goto 4, 3) := by decide +kernel
theorem dX6_isWithin_30 : decode cX6_isWithin 30 = .ok (.iconst 0, 1) := by decide +kernel
theorem dX6_isWithin_31 : decode cX6_isWithin 31 = .ok (.ireturn, 1) := by decide +kernel
theorem dX6_move_0 : decode cX6_move 0 = .ok (.aload_n 0, 1) := by decide +kernel
theorem dX6_move_1 : decode cX6_move 1 = .ok (.getfield 149, 3) := by decide +kernel
theorem dX6_move_4 : decode cX6_move 4 = .ok (.ifCond .ne 11, 3) := by decide +kernel
theorem dX6_move_7 : decode cX6_move 7 = .ok (.aload_n 0, 1) := by decide +kernel
theorem dX6_move_8 : decode cX6_move 8 = .ok (.iload_n 1, 1) := by decide +kernel
theorem dX6_move_9 : decode cX6_move 9 = .ok (.invokevirtual 152, 3) := by decide +kernel
theorem dX6_move_12 : decode cX6_move 12 = .ok (.ifCond .ne 7, 3) := by decide +kernel
theorem dX6_move_15 : decode cX6_move 15 = .ok (.iconst (-1), 1) := by decide +kernel
theorem dX6_move_16 : decode cX6_move 16 = .ok (.goto 9, 3) := by decide +kernel
theorem dX6_move_19 : decode cX6_move 19 = .ok (.aload_n 0, 1) := by decide +kernel
theorem dX6_move_20 : decode cX6_move 20 = .ok (.iload_n 1, 1) := by decide +kernel
theorem dX6_move_21 : decode cX6_move 21 = .ok (.iload_n 2, 1) := by decide +kernel
theorem dX6_move_22 : decode cX6_move 22 = .ok (.invokevirtual 158, 3) := by decide +kernel
theorem dX6_move_25 : decode cX6_move 25 = .ok (.istore 5, 2) := by decide +kernel
theorem dX6_move_27 : decode cX6_move 27 = .ok (.aload_n 0, 1) := by decide +kernel
theorem dX6_move_28 : decode cX6_move 28 = .ok (.aload_n 0, 1) := by decide +kernel
theorem dX6_move_29 : decode cX6_move 29 = .ok (.getfield 149, 3) := by decide +kernel
theorem dX6_move_32 : decode cX6_move 32 = .ok (.ifCond .eq 7, 3) := by decide +kernel
theorem dX6_move_35 : decode cX6_move 35 = .ok (.iconst 1, 1) := by decide +kernel
theorem dX6_move_36 : decode cX6_move 36 = .ok (.goto 72, 3) := by decide +kernel
theorem dX6_move_39 : decode cX6_move 39 = .ok (.iload 5, 2) := by decide +kernel
theorem dX6_move_41 : decode cX6_move 41 = .ok (.ifCond .lt 11, 3) := by decide +kernel
theorem dX6_move_44 : decode cX6_move 44 = .ok (.aload_n 0, 1) := by decide +kernel
theorem dX6_move_45 : decode cX6_move 45 = .ok (.iload_n 3, 1) := by decide +kernel
theorem dX6_move_46 : decode cX6_move 46 = .ok (.invokevirtual 152, 3) := by decide +kernel
theorem dX6_move_49 : decode cX6_move 49 = .ok (.ifCond .ne 7, 3) := by decide +kernel
theorem dX6_move_52 : decode cX6_move 52 = .ok (.iconst 2, 1) := by decide +kernel
theorem dX6_move_53 : decode cX6_move 53 = .ok (.goto 55, 3) := by decide +kernel
theorem dX6_move_56 : decode cX6_move 56 = .ok (.aload_n 0, 1) := by decide +kernel
theorem dX6_move_57 : decode cX6_move 57 = .ok (.iload 4, 2) := by decide +kernel
theorem dX6_move_59 : decode cX6_move 59 = .ok (.invokevirtual 155, 3) := by decide +kernel
theorem dX6_move_62 : decode cX6_move 62 = .ok (.ifCond .ne 7, 3) := by decide +kernel
theorem dX6_move_65 : decode cX6_move 65 = .ok (.iconst 3, 1) := by decide +kernel
theorem dX6_move_66 : decode cX6_move 66 = .ok (.goto 42, 3) := by decide +kernel
theorem dX6_move_69 : decode cX6_move 69 = .ok (.aload_n 0, 1) := by decide +kernel
theorem dX6_move_70 : decode cX6_move 70 = .ok (.iload_n 3, 1) := by decide +kernel
theorem dX6_move_71 : decode cX6_move 71 = .ok (.iload 4, 2) := by decide +kernel
theorem dX6_move_73 : decode cX6_move 73 = .ok (.invokevirtual 158, 3) := by decide +kernel
theorem dX6_move_76 : decode cX6_move 76 = .ok (.ifCond .ge 27, 3) := by decide +kernel
theorem dX6_move_79 : decode cX6_move 79 = .ok (.aload_n 0, 1) := by decide +kernel
theorem dX6_move_80 : decode cX6_move 80 = .ok (.getfield 7, 3) := by decide +kernel
theorem dX6_move_83 : decode cX6_move 83 = .ok (.bipush 96, 2) := by decide +kernel
theorem dX6_move_85 : decode cX6_move 85 = .ok (.iload 5, 2) := by decide +kernel
theorem dX6_move_87 : decode cX6_move 87 = .ok (.iadd, 1) := by decide +kernel
theorem dX6_move_88 : decode cX6_move 88 = .ok (.iaload, 1) := by decide +kernel
theorem dX6_move_89 : decode cX6_move 89 = .ok (.iconst 1, 1) := by decide +kernel
theorem dX6_move_90 : decode cX6_move 90 = .ok (.if_icmp .ne 17, 3) := by decide +kernel
theorem dX6_move_93 : decode cX6_move 93 = .ok (.aload_n 0, 1) := by decide +kernel
theorem dX6_move_94 : decode cX6_move 94 = .ok (.iload_n 3, 1) := by decide +kernel
theorem dX6_move_95 : decode cX6_move 95 = .ok (.iload 5, 2) := by decide +kernel
theorem dX6_move_97 : decode cX6_move 97 = .ok (.invokevirtual 176, 3) := by decide +kernel
theorem dX6_move_100 : decode cX6_move 100 = .ok (.ifCond .eq 7, 3) := by decide +kernel
theorem dX6_move_103 : decode cX6_move 103 = .ok (.iconst 4, 1) := by decide +kernel
theorem dX6_move_104 : decode cX6_move 104 = .ok (.goto 4, 3) := by decide +kernel
theorem dX6_move_107 : decode cX6_move 107 = .ok (.iconst 0, 1) := by decide +kernel
theorem dX6_move_108 : decode cX6_move 108 = .ok (.putfield 40, 3) := by decide +kernel
theorem dX6_move_111 : decode cX6_move 111 = .ok (.aload_n 0, 1) := by decide +kernel
theorem dX6_move_112 : decode cX6_move 112 = .ok (.getfield 40, 3) := by decide +kernel
theorem dX6_move_115 : decode cX6_move 115 = .ok (.ifCond .le 5, 3) := by decide +kernel
theorem dX6_move_118 : decode cX6_move 118 = .ok (.iconst 0, 1) := by decide +kernel
theorem dX6_move_119 : decode cX6_move 119 = .ok (.ireturn, 1) := by decide +kernel
theorem dX6_move_120 : decode cX6_move 120 = .ok (.aload_n 0, 1) := by decide +kernel
theorem dX6_move_121 : decode cX6_move 121 = .ok (.invokevirtual 164, 3) := by decide +kernel
theorem dX6_move_124 : decode cX6_move 124 = .ok (.aload_n 0, 1) := by decide +kernel
theorem dX6_move_125 : decode cX6_move 125 = .ok (.iload_n 1, 1) := by decide +kernel
theorem dX6_move_126 : decode cX6_move 126 = .ok (.iconst 1, 1) := by decide +kernel
theorem dX6_move_127 : decode cX6_move 127 = .ok (.iload_n 2, 1) := by decide +kernel
theorem dX6_move_128 : decode cX6_move 128 = .ok (.invokevirtual 134, 3) := by decide +kernel
theorem dX6_move_131 : decode cX6_move 131 = .ok (.aload_n 0, 1) := by decide +kernel
theorem dX6_move_132 : decode cX6_move 132 = .ok (.getfield 7, 3) := by decide +kernel
theorem dX6_move_135 : decode cX6_move 135 = .ok (.sipush 218, 3) := by decide +kernel
theorem dX6_move_138 : decode cX6_move 138 = .ok (.iload_n 1, 1) := by decide +kernel
theorem dX6_move_139 : decode cX6_move 139 = .ok (.iadd, 1) := by decide +kernel
theorem dX6_move_140 : decode cX6_move 140 = .ok (.dup2, 1) := by decide +kernel
theorem dX6_move_141 : decode cX6_move 141 = .ok (.iaload, 1) := by decide +kernel
theorem dX6_move_142 : decode cX6_move 142 = .ok (.iconst 1, 1) := by decide +kernel
theorem dX6_move_143 : decode cX6_move 143 = .ok (.isub, 1) := by decide +kernel
theorem dX6_move_144 : decode cX6_move 144 = .ok (.iastore, 1) := by decide +kernel
theorem dX6_move_145 : decode cX6_move 145 = .ok (.aload_n 0, 1) := by decide +kernel
theorem dX6_move_146 : decode cX6_move 146 = .ok (.iload_n 3, 1) := by decide +kernel
theorem dX6_move_147 : decode cX6_move 147 = .ok (.iconst 1, 1) := by decide +kernel
theorem dX6_move_148 : decode cX6_move 148 = .ok (.iload 4, 2) := by decide +kernel
theorem dX6_move_150 : decode cX6_move 150 = .ok (.iconst 3, 1) := by decide +kernel
theorem dX6_move_151 : decode cX6_move 151 = .ok (.iload 5, 2) := by decide +kernel
theorem dX6_move_153 : decode cX6_move 153 = .ok (.invokevirtual 130, 3) := by decide +kernel
theorem dX6_move_156 : decode cX6_move 156 = .ok (.aload_n 0, 1) := by decide +kernel
theorem dX6_move_157 : decode cX6_move 157 = .ok (.getfield 7, 3) := by decide +kernel
theorem dX6_move_160 : decode cX6_move 160 = .ok (.sipush 218, 3) := by decide +kernel
theorem dX6_move_163 : decode cX6_move 163 = .ok (.iload_n 3, 1) := by decide +kernel
theorem dX6_move_164 : decode cX6_move 164 = .ok (.iadd, 1) := by decide +kernel
theorem dX6_move_165 : decode cX6_move 165 = .ok (.dup2, 1) := by decide +kernel
theorem dX6_move_166 : decode cX6_move 166 = .ok (.iaload, 1) := by decide +kernel
theorem dX6_move_167 : decode cX6_move 167 = .ok (.iconst 1, 1) := by decide +kernel
theorem dX6_move_168 : decode cX6_move 168 = .ok (.iadd, 1) := by decide +kernel
theorem dX6_move_169 : decode cX6_move 169 = .ok (.iastore, 1) := by decide +kernel
theorem dX6_move_170 : decode cX6_move 170 = .ok (.aload_n 0, 1) := by decide +kernel
theorem dX6_move_171 : decode cX6_move 171 = .ok (.iconst 4, 1) := by decide +kernel
theorem dX6_move_172 : decode cX6_move 172 = .ok (.invokevirtual 167, 3) := by decide +kernel
theorem dX6_move_175 : decode cX6_move 175 = .ok (.ifCond .eq 8, 3) := by decide +kernel
theorem dX6_move_178 : decode cX6_move 178 = .ok (.iload 5, 2) := by decide +kernel
theorem dX6_move_180 : decode cX6_move 180 = .ok (.goto 4, 3) := by decide +kernel
theorem dX6_move_183 : decode cX6_move 183 = .ok (.iconst 0, 1) := by decide +kernel
theorem dX6_move_184 : decode cX6_move 184 = .ok (.ireturn, 1) := by decide +kernel
theorem dX6_refused_0 : decode cX6_refused 0 = .ok (.aload_n 0, 1) := by decide +kernel
theorem dX6_refused_1 : decode cX6_refused 1 = .ok (.getfield 149, 3) := by decide +kernel
theorem dX6_refused_4 : decode cX6_refused 4 = .ok (.ifCond .eq 7, 3) := by decide +kernel
theorem dX6_refused_7 : decode cX6_refused 7 = .ok (.iconst 1, 1) := by decide +kernel
theorem dX6_refused_8 : decode cX6_refused 8 = .ok (.goto 57, 3) := by decide +kernel
theorem dX6_refused_11 : decode cX6_refused 11 = .ok (.aload_n 0, 1) := by decide +kernel
theorem dX6_refused_12 : decode cX6_refused 12 = .ok (.iload_n 1, 1) := by decide +kernel
theorem dX6_refused_13 : decode cX6_refused 13 = .ok (.invokevirtual 170, 3) := by decide +kernel
theorem dX6_refused_16 : decode cX6_refused 16 = .ok (.ifCond .eq 21, 3) := by decide +kernel
theorem dX6_refused_19 : decode cX6_refused 19 = .ok (.iload_n 2, 1) := by decide +kernel
theorem dX6_refused_20 : decode cX6_refused 20 = .ok (.iconst 0, 1) := by decide +kernel
theorem dX6_refused_21 : decode cX6_refused 21 = .ok (.aload_n 0, 1) := by decide +kernel
theorem dX6_refused_22 : decode cX6_refused 22 = .ok (.getfield 7, 3) := by decide +kernel
theorem dX6_refused_25 : decode cX6_refused 25 = .ok (.sipush 218, 3) := by decide +kernel
theorem dX6_refused_28 : decode cX6_refused 28 = .ok (.iload_n 1, 1) := by decide +kernel
theorem dX6_refused_29 : decode cX6_refused 29 = .ok (.iadd, 1) := by decide +kernel
theorem dX6_refused_30 : decode cX6_refused 30 = .ok (.iaload, 1) := by decide +kernel
theorem dX6_refused_31 : decode cX6_refused 31 = .ok (.invokestatic 43, 3) := by decide +kernel
theorem dX6_refused_34 : decode cX6_refused 34 = .ok (.ifCond .ne 7, 3) := by decide +kernel
theorem dX6_refused_37 : decode cX6_refused 37 = .ok (.iconst 2, 1) := by decide +kernel
theorem dX6_refused_38 : decode cX6_refused 38 = .ok (.goto 27, 3) := by decide +kernel
theorem dX6_refused_41 : decode cX6_refused 41 = .ok (.iload_n 3, 1) := by decide +kernel
theorem dX6_refused_42 : decode cX6_refused 42 = .ok (.iconst 1, 1) := by decide +kernel
theorem dX6_refused_43 : decode cX6_refused 43 = .ok (.iload 4, 2) := by decide +kernel
theorem dX6_refused_45 : decode cX6_refused 45 = .ok (.invokestatic 43, 3) := by decide +kernel
theorem dX6_refused_48 : decode cX6_refused 48 = .ok (.ifCond .eq 12, 3) := by decide +kernel
theorem dX6_refused_51 : decode cX6_refused 51 = .ok (.iload_n 2, 1) := by decide +kernel
theorem dX6_refused_52 : decode cX6_refused 52 = .ok (.iload_n 3, 1) := by decide +kernel
theorem dX6_refused_53 : decode cX6_refused 53 = .ok (.iadd, 1) := by decide +kernel
theorem dX6_refused_54 : decode cX6_refused 54 = .ok (.sipush 2048, 3) := by decide +kernel
theorem dX6_refused_57 : decode cX6_refused 57 = .ok (.if_icmp .le 7, 3) := by decide +kernel
theorem dX6_refused_60 : decode cX6_refused 60 = .ok (.iconst 3, 1) := by decide +kernel
theorem dX6_refused_61 : decode cX6_refused 61 = .ok (.goto 4, 3) := by decide +kernel
theorem dX6_refused_64 : decode cX6_refused 64 = .ok (.iconst 0, 1) := by decide +kernel
theorem dX6_refused_65 : decode cX6_refused 65 = .ok (.ireturn, 1) := by decide +kernel
theorem dX6_change_0 : decode cX6_change 0 = .ok (.aload_n 0, 1) := by decide +kernel
theorem dX6_change_1 : decode cX6_change 1 = .ok (.iload_n 1, 1) := by decide +kernel
theorem dX6_change_2 : decode cX6_change 2 = .ok (.iload_n 2, 1) := by decide +kernel
theorem dX6_change_3 : decode cX6_change 3 = .ok (.aload_n 0, 1) := by decide +kernel
theorem dX6_change_4 : decode cX6_change 4 = .ok (.getfield 7, 3) := by decide +kernel
theorem dX6_change_7 : decode cX6_change 7 = .ok (.sipush 218, 3) := by decide +kernel
theorem dX6_change_10 : decode cX6_change 10 = .ok (.iload_n 1, 1) := by decide +kernel
theorem dX6_change_11 : decode cX6_change 11 = .ok (.iadd, 1) := by decide +kernel
theorem dX6_change_12 : decode cX6_change 12 = .ok (.iaload, 1) := by decide +kernel
theorem dX6_change_13 : decode cX6_change 13 = .ok (.if_icmp .le 7, 3) := by decide +kernel
theorem dX6_change_16 : decode cX6_change 16 = .ok (.iload_n 2, 1) := by decide +kernel
theorem dX6_change_17 : decode cX6_change 17 = .ok (.goto 13, 3) := by decide +kernel
theorem dX6_change_20 : decode cX6_change 20 = .ok (.aload_n 0, 1) := by decide +kernel
theorem dX6_change_21 : decode cX6_change 21 = .ok (.getfield 7, 3) := by decide +kernel
theorem dX6_change_24 : decode cX6_change 24 = .ok (.sipush 218, 3) := by decide +kernel
theorem dX6_change_27 : decode cX6_change 27 = .ok (.iload_n 1, 1) := by decide +kernel
theorem dX6_change_28 : decode cX6_change 28 = .ok (.iadd, 1) := by decide +kernel
theorem dX6_change_29 : decode cX6_change 29 = .ok (.iaload, 1) := by decide +kernel
theorem dX6_change_30 : decode cX6_change 30 = .ok (.invokevirtual 180, 3) := by decide +kernel
theorem dX6_change_33 : decode cX6_change 33 = .ok (.aload_n 0, 1) := by decide +kernel
theorem dX6_change_34 : decode cX6_change 34 = .ok (.iconst 4, 1) := by decide +kernel
theorem dX6_change_35 : decode cX6_change 35 = .ok (.invokevirtual 167, 3) := by decide +kernel
theorem dX6_change_38 : decode cX6_change 38 = .ok (.ifCond .eq 16, 3) := by decide +kernel
theorem dX6_change_41 : decode cX6_change 41 = .ok (.aload_n 0, 1) := by decide +kernel
theorem dX6_change_42 : decode cX6_change 42 = .ok (.getfield 7, 3) := by decide +kernel
theorem dX6_change_45 : decode cX6_change 45 = .ok (.sipush 218, 3) := by decide +kernel
theorem dX6_change_48 : decode cX6_change 48 = .ok (.iload_n 1, 1) := by decide +kernel
theorem dX6_change_49 : decode cX6_change 49 = .ok (.iadd, 1) := by decide +kernel
theorem dX6_change_50 : decode cX6_change 50 = .ok (.iaload, 1) := by decide +kernel
theorem dX6_change_51 : decode cX6_change 51 = .ok (.goto 4, 3) := by decide +kernel
theorem dX6_change_54 : decode cX6_change 54 = .ok (.iconst 0, 1) := by decide +kernel
theorem dX6_change_55 : decode cX6_change 55 = .ok (.ireturn, 1) := by decide +kernel
theorem dX6_write_0 : decode cX6_write 0 = .ok (.aload_n 0, 1) := by decide +kernel
theorem dX6_write_1 : decode cX6_write 1 = .ok (.aload_n 0, 1) := by decide +kernel
theorem dX6_write_2 : decode cX6_write 2 = .ok (.iload_n 1, 1) := by decide +kernel
theorem dX6_write_3 : decode cX6_write 3 = .ok (.iload_n 2, 1) := by decide +kernel
theorem dX6_write_4 : decode cX6_write 4 = .ok (.iload 5, 2) := by decide +kernel
theorem dX6_write_6 : decode cX6_write 6 = .ok (.bipush 8, 2) := by decide +kernel
theorem dX6_write_8 : decode cX6_write 8 = .ok (.invokevirtual 183, 3) := by decide +kernel
theorem dX6_write_11 : decode cX6_write 11 = .ok (.putfield 40, 3) := by decide +kernel
theorem dX6_write_14 : decode cX6_write 14 = .ok (.aload_n 0, 1) := by decide +kernel
theorem dX6_write_15 : decode cX6_write 15 = .ok (.getfield 40, 3) := by decide +kernel
theorem dX6_write_18 : decode cX6_write 18 = .ok (.ifCond .le 5, 3) := by decide +kernel
theorem dX6_write_21 : decode cX6_write 21 = .ok (.iconst 0, 1) := by decide +kernel
theorem dX6_write_22 : decode cX6_write 22 = .ok (.ireturn, 1) := by decide +kernel
theorem dX6_write_23 : decode cX6_write 23 = .ok (.aload_n 0, 1) := by decide +kernel
theorem dX6_write_24 : decode cX6_write 24 = .ok (.invokevirtual 164, 3) := by decide +kernel
theorem dX6_write_27 : decode cX6_write 27 = .ok (.aload_n 0, 1) := by decide +kernel
theorem dX6_write_28 : decode cX6_write 28 = .ok (.iload_n 1, 1) := by decide +kernel
theorem dX6_write_29 : decode cX6_write 29 = .ok (.invokevirtual 187, 3) := by decide +kernel
theorem dX6_write_32 : decode cX6_write 32 = .ok (.iconst 0, 1) := by decide +kernel
theorem dX6_write_33 : decode cX6_write 33 = .ok (.istore 6, 2) := by decide +kernel
theorem dX6_write_35 : decode cX6_write 35 = .ok (.iload 6, 2) := by decide +kernel
theorem dX6_write_37 : decode cX6_write 37 = .ok (.iload 5, 2) := by decide +kernel
theorem dX6_write_39 : decode cX6_write 39 = .ok (.if_icmp .ge 30, 3) := by decide +kernel
theorem dX6_write_42 : decode cX6_write 42 = .ok (.aload_n 0, 1) := by decide +kernel
theorem dX6_write_43 : decode cX6_write 43 = .ok (.getfield 19, 3) := by decide +kernel
theorem dX6_write_46 : decode cX6_write 46 = .ok (.iload_n 2, 1) := by decide +kernel
theorem dX6_write_47 : decode cX6_write 47 = .ok (.iload 6, 2) := by decide +kernel
theorem dX6_write_49 : decode cX6_write 49 = .ok (.iadd, 1) := by decide +kernel
theorem dX6_write_50 : decode cX6_write 50 = .ok (.lload_n 3, 1) := by decide +kernel
theorem dX6_write_51 : decode cX6_write 51 = .ok (.bipush 8, 2) := by decide +kernel
theorem dX6_write_53 : decode cX6_write 53 = .ok (.iload 6, 2) := by decide +kernel
theorem dX6_write_55 : decode cX6_write 55 = .ok (.imul, 1) := by decide +kernel
theorem dX6_write_56 : decode cX6_write 56 = .ok (.lshr, 1) := by decide +kernel
theorem dX6_write_57 : decode cX6_write 57 = .ok (.ldc2_w 190, 3) := by decide +kernel
theorem dX6_write_60 : decode cX6_write 60 = .ok (.land, 1) := by decide +kernel
theorem dX6_write_61 : decode cX6_write 61 = .ok (.l2i, 1) := by decide +kernel
theorem dX6_write_62 : decode cX6_write 62 = .ok (.iastore, 1) := by decide +kernel
theorem dX6_write_63 : decode cX6_write 63 = .ok (.iinc 6 1, 3) := by decide +kernel
theorem dX6_write_66 : decode cX6_write 66 = .ok (.goto (-31), 3) := by decide +kernel
theorem dX6_write_69 : decode cX6_write 69 = .ok (.aload_n 0, 1) := by decide +kernel
theorem dX6_write_70 : decode cX6_write 70 = .ok (.iload_n 1, 1) := by decide +kernel
theorem dX6_write_71 : decode cX6_write 71 = .ok (.iload_n 2, 1) := by decide +kernel
theorem dX6_write_72 : decode cX6_write 72 = .ok (.iload 5, 2) := by decide +kernel
theorem dX6_write_74 : decode cX6_write 74 = .ok (.iadd, 1) := by decide +kernel
theorem dX6_write_75 : decode cX6_write 75 = .ok (.invokevirtual 192, 3) := by decide +kernel
theorem dX6_write_78 : decode cX6_write 78 = .ok (.ireturn, 1) := by decide +kernel
theorem dX6_fill_0 : decode cX6_fill 0 = .ok (.aload_n 0, 1) := by decide +kernel
theorem dX6_fill_1 : decode cX6_fill 1 = .ok (.aload_n 0, 1) := by decide +kernel
theorem dX6_fill_2 : decode cX6_fill 2 = .ok (.iload_n 1, 1) := by decide +kernel
theorem dX6_fill_3 : decode cX6_fill 3 = .ok (.iload_n 2, 1) := by decide +kernel
theorem dX6_fill_4 : decode cX6_fill 4 = .ok (.iload 4, 2) := by decide +kernel
theorem dX6_fill_6 : decode cX6_fill 6 = .ok (.sipush 512, 3) := by decide +kernel
theorem dX6_fill_9 : decode cX6_fill 9 = .ok (.invokevirtual 183, 3) := by decide +kernel
theorem dX6_fill_12 : decode cX6_fill 12 = .ok (.putfield 40, 3) := by decide +kernel
theorem dX6_fill_15 : decode cX6_fill 15 = .ok (.aload_n 0, 1) := by decide +kernel
theorem dX6_fill_16 : decode cX6_fill 16 = .ok (.getfield 40, 3) := by decide +kernel
theorem dX6_fill_19 : decode cX6_fill 19 = .ok (.ifCond .le 5, 3) := by decide +kernel
theorem dX6_fill_22 : decode cX6_fill 22 = .ok (.iconst 0, 1) := by decide +kernel
theorem dX6_fill_23 : decode cX6_fill 23 = .ok (.ireturn, 1) := by decide +kernel
theorem dX6_fill_24 : decode cX6_fill 24 = .ok (.aload_n 0, 1) := by decide +kernel
theorem dX6_fill_25 : decode cX6_fill 25 = .ok (.invokevirtual 164, 3) := by decide +kernel
theorem dX6_fill_28 : decode cX6_fill 28 = .ok (.aload_n 0, 1) := by decide +kernel
theorem dX6_fill_29 : decode cX6_fill 29 = .ok (.iload_n 1, 1) := by decide +kernel
theorem dX6_fill_30 : decode cX6_fill 30 = .ok (.invokevirtual 187, 3) := by decide +kernel
theorem dX6_fill_33 : decode cX6_fill 33 = .ok (.iconst 0, 1) := by decide +kernel
theorem dX6_fill_34 : decode cX6_fill 34 = .ok (.istore 5, 2) := by decide +kernel
theorem dX6_fill_36 : decode cX6_fill 36 = .ok (.iload 5, 2) := by decide +kernel
theorem dX6_fill_38 : decode cX6_fill 38 = .ok (.iload 4, 2) := by decide +kernel
theorem dX6_fill_40 : decode cX6_fill 40 = .ok (.if_icmp .ge 29, 3) := by decide +kernel
theorem dX6_fill_43 : decode cX6_fill 43 = .ok (.aload_n 0, 1) := by decide +kernel
theorem dX6_fill_44 : decode cX6_fill 44 = .ok (.getfield 19, 3) := by decide +kernel
theorem dX6_fill_47 : decode cX6_fill 47 = .ok (.iload_n 2, 1) := by decide +kernel
theorem dX6_fill_48 : decode cX6_fill 48 = .ok (.iload 5, 2) := by decide +kernel
theorem dX6_fill_50 : decode cX6_fill 50 = .ok (.iadd, 1) := by decide +kernel
theorem dX6_fill_51 : decode cX6_fill 51 = .ok (.iload_n 3, 1) := by decide +kernel
theorem dX6_fill_52 : decode cX6_fill 52 = .ok (.bipush 7, 2) := by decide +kernel
theorem dX6_fill_54 : decode cX6_fill 54 = .ok (.iload 5, 2) := by decide +kernel
theorem dX6_fill_56 : decode cX6_fill 56 = .ok (.imul, 1) := by decide +kernel
theorem dX6_fill_57 : decode cX6_fill 57 = .ok (.iadd, 1) := by decide +kernel
theorem dX6_fill_58 : decode cX6_fill 58 = .ok (.sipush 255, 3) := by decide +kernel
theorem dX6_fill_61 : decode cX6_fill 61 = .ok (.iand, 1) := by decide +kernel
theorem dX6_fill_62 : decode cX6_fill 62 = .ok (.iastore, 1) := by decide +kernel
theorem dX6_fill_63 : decode cX6_fill 63 = .ok (.iinc 5 1, 3) := by decide +kernel
theorem dX6_fill_66 : decode cX6_fill 66 = .ok (.goto (-30), 3) := by decide +kernel
theorem dX6_fill_69 : decode cX6_fill 69 = .ok (.aload_n 0, 1) := by decide +kernel
theorem dX6_fill_70 : decode cX6_fill 70 = .ok (.iload_n 1, 1) := by decide +kernel
theorem dX6_fill_71 : decode cX6_fill 71 = .ok (.iload_n 2, 1) := by decide +kernel
theorem dX6_fill_72 : decode cX6_fill 72 = .ok (.iload 4, 2) := by decide +kernel
theorem dX6_fill_74 : decode cX6_fill 74 = .ok (.iadd, 1) := by decide +kernel
theorem dX6_fill_75 : decode cX6_fill 75 = .ok (.invokevirtual 192, 3) := by decide +kernel
theorem dX6_fill_78 : decode cX6_fill 78 = .ok (.ireturn, 1) := by decide +kernel
theorem dX6_cut_0 : decode cX6_cut 0 = .ok (.aload_n 0, 1) := by decide +kernel
theorem dX6_cut_1 : decode cX6_cut 1 = .ok (.aload_n 0, 1) := by decide +kernel
theorem dX6_cut_2 : decode cX6_cut 2 = .ok (.getfield 149, 3) := by decide +kernel
theorem dX6_cut_5 : decode cX6_cut 5 = .ok (.ifCond .eq 7, 3) := by decide +kernel
theorem dX6_cut_8 : decode cX6_cut 8 = .ok (.iconst 1, 1) := by decide +kernel
theorem dX6_cut_9 : decode cX6_cut 9 = .ok (.goto 38, 3) := by decide +kernel
theorem dX6_cut_12 : decode cX6_cut 12 = .ok (.aload_n 0, 1) := by decide +kernel
theorem dX6_cut_13 : decode cX6_cut 13 = .ok (.iload_n 1, 1) := by decide +kernel
theorem dX6_cut_14 : decode cX6_cut 14 = .ok (.invokevirtual 170, 3) := by decide +kernel
theorem dX6_cut_17 : decode cX6_cut 17 = .ok (.ifCond .ne 7, 3) := by decide +kernel
theorem dX6_cut_20 : decode cX6_cut 20 = .ok (.iconst 2, 1) := by decide +kernel
theorem dX6_cut_21 : decode cX6_cut 21 = .ok (.goto 26, 3) := by decide +kernel
theorem dX6_cut_24 : decode cX6_cut 24 = .ok (.iload_n 2, 1) := by decide +kernel
theorem dX6_cut_25 : decode cX6_cut 25 = .ok (.iconst 0, 1) := by decide +kernel
theorem dX6_cut_26 : decode cX6_cut 26 = .ok (.aload_n 0, 1) := by decide +kernel
theorem dX6_cut_27 : decode cX6_cut 27 = .ok (.getfield 7, 3) := by decide +kernel
theorem dX6_cut_30 : decode cX6_cut 30 = .ok (.sipush 218, 3) := by decide +kernel
theorem dX6_cut_33 : decode cX6_cut 33 = .ok (.iload_n 1, 1) := by decide +kernel
theorem dX6_cut_34 : decode cX6_cut 34 = .ok (.iadd, 1) := by decide +kernel
theorem dX6_cut_35 : decode cX6_cut 35 = .ok (.iaload, 1) := by decide +kernel
theorem dX6_cut_36 : decode cX6_cut 36 = .ok (.invokestatic 43, 3) := by decide +kernel
theorem dX6_cut_39 : decode cX6_cut 39 = .ok (.ifCond .ne 7, 3) := by decide +kernel
theorem dX6_cut_42 : decode cX6_cut 42 = .ok (.iconst 3, 1) := by decide +kernel
theorem dX6_cut_43 : decode cX6_cut 43 = .ok (.goto 4, 3) := by decide +kernel
theorem dX6_cut_46 : decode cX6_cut 46 = .ok (.iconst 0, 1) := by decide +kernel
theorem dX6_cut_47 : decode cX6_cut 47 = .ok (.putfield 40, 3) := by decide +kernel
theorem dX6_cut_50 : decode cX6_cut 50 = .ok (.aload_n 0, 1) := by decide +kernel
theorem dX6_cut_51 : decode cX6_cut 51 = .ok (.getfield 40, 3) := by decide +kernel
theorem dX6_cut_54 : decode cX6_cut 54 = .ok (.ifCond .le 5, 3) := by decide +kernel
theorem dX6_cut_57 : decode cX6_cut 57 = .ok (.iconst 0, 1) := by decide +kernel
theorem dX6_cut_58 : decode cX6_cut 58 = .ok (.ireturn, 1) := by decide +kernel
theorem dX6_cut_59 : decode cX6_cut 59 = .ok (.aload_n 0, 1) := by decide +kernel
theorem dX6_cut_60 : decode cX6_cut 60 = .ok (.invokevirtual 164, 3) := by decide +kernel
theorem dX6_cut_63 : decode cX6_cut 63 = .ok (.aload_n 0, 1) := by decide +kernel
theorem dX6_cut_64 : decode cX6_cut 64 = .ok (.iload_n 1, 1) := by decide +kernel
theorem dX6_cut_65 : decode cX6_cut 65 = .ok (.invokevirtual 187, 3) := by decide +kernel
theorem dX6_cut_68 : decode cX6_cut 68 = .ok (.aload_n 0, 1) := by decide +kernel
theorem dX6_cut_69 : decode cX6_cut 69 = .ok (.iload_n 1, 1) := by decide +kernel
theorem dX6_cut_70 : decode cX6_cut 70 = .ok (.iload_n 2, 1) := by decide +kernel
theorem dX6_cut_71 : decode cX6_cut 71 = .ok (.invokevirtual 180, 3) := by decide +kernel
theorem dX6_cut_74 : decode cX6_cut 74 = .ok (.aload_n 0, 1) := by decide +kernel
theorem dX6_cut_75 : decode cX6_cut 75 = .ok (.iconst 4, 1) := by decide +kernel
theorem dX6_cut_76 : decode cX6_cut 76 = .ok (.invokevirtual 167, 3) := by decide +kernel
theorem dX6_cut_79 : decode cX6_cut 79 = .ok (.ifCond .eq 16, 3) := by decide +kernel
theorem dX6_cut_82 : decode cX6_cut 82 = .ok (.aload_n 0, 1) := by decide +kernel
theorem dX6_cut_83 : decode cX6_cut 83 = .ok (.getfield 7, 3) := by decide +kernel
theorem dX6_cut_86 : decode cX6_cut 86 = .ok (.sipush 279, 3) := by decide +kernel
theorem dX6_cut_89 : decode cX6_cut 89 = .ok (.iload_n 1, 1) := by decide +kernel
theorem dX6_cut_90 : decode cX6_cut 90 = .ok (.iadd, 1) := by decide +kernel
theorem dX6_cut_91 : decode cX6_cut 91 = .ok (.iaload, 1) := by decide +kernel
theorem dX6_cut_92 : decode cX6_cut 92 = .ok (.goto 4, 3) := by decide +kernel
theorem dX6_cut_95 : decode cX6_cut 95 = .ok (.iconst 0, 1) := by decide +kernel
theorem dX6_cut_96 : decode cX6_cut 96 = .ok (.ireturn, 1) := by decide +kernel
theorem dX6_read_0 : decode cX6_read 0 = .ok (.aload_n 0, 1) := by decide +kernel
theorem dX6_read_1 : decode cX6_read 1 = .ok (.aload_n 0, 1) := by decide +kernel
theorem dX6_read_2 : decode cX6_read 2 = .ok (.getfield 149, 3) := by decide +kernel
theorem dX6_read_5 : decode cX6_read 5 = .ok (.ifCond .eq 7, 3) := by decide +kernel
theorem dX6_read_8 : decode cX6_read 8 = .ok (.iconst 1, 1) := by decide +kernel
theorem dX6_read_9 : decode cX6_read 9 = .ok (.goto 36, 3) := by decide +kernel
theorem dX6_read_12 : decode cX6_read 12 = .ok (.aload_n 0, 1) := by decide +kernel
theorem dX6_read_13 : decode cX6_read 13 = .ok (.iload_n 1, 1) := by decide +kernel
theorem dX6_read_14 : decode cX6_read 14 = .ok (.invokevirtual 170, 3) := by decide +kernel
theorem dX6_read_17 : decode cX6_read 17 = .ok (.ifCond .eq 23, 3) := by decide +kernel
theorem dX6_read_20 : decode cX6_read 20 = .ok (.iload_n 2, 1) := by decide +kernel
theorem dX6_read_21 : decode cX6_read 21 = .ok (.iconst 0, 1) := by decide +kernel
theorem dX6_read_22 : decode cX6_read 22 = .ok (.aload_n 0, 1) := by decide +kernel
theorem dX6_read_23 : decode cX6_read 23 = .ok (.getfield 7, 3) := by decide +kernel
theorem dX6_read_26 : decode cX6_read 26 = .ok (.sipush 218, 3) := by decide +kernel
theorem dX6_read_29 : decode cX6_read 29 = .ok (.iload_n 1, 1) := by decide +kernel
theorem dX6_read_30 : decode cX6_read 30 = .ok (.iadd, 1) := by decide +kernel
theorem dX6_read_31 : decode cX6_read 31 = .ok (.iaload, 1) := by decide +kernel
theorem dX6_read_32 : decode cX6_read 32 = .ok (.iconst 1, 1) := by decide +kernel
theorem dX6_read_33 : decode cX6_read 33 = .ok (.isub, 1) := by decide +kernel
theorem dX6_read_34 : decode cX6_read 34 = .ok (.invokestatic 43, 3) := by decide +kernel
theorem dX6_read_37 : decode cX6_read 37 = .ok (.ifCond .ne 7, 3) := by decide +kernel
theorem dX6_read_40 : decode cX6_read 40 = .ok (.iconst 2, 1) := by decide +kernel
theorem dX6_read_41 : decode cX6_read 41 = .ok (.goto 4, 3) := by decide +kernel
theorem dX6_read_44 : decode cX6_read 44 = .ok (.iconst 0, 1) := by decide +kernel
theorem dX6_read_45 : decode cX6_read 45 = .ok (.putfield 40, 3) := by decide +kernel
theorem dX6_read_48 : decode cX6_read 48 = .ok (.aload_n 0, 1) := by decide +kernel
theorem dX6_read_49 : decode cX6_read 49 = .ok (.getfield 40, 3) := by decide +kernel
theorem dX6_read_52 : decode cX6_read 52 = .ok (.ifCond .le 7, 3) := by decide +kernel
theorem dX6_read_55 : decode cX6_read 55 = .ok (.iconst 0, 1) := by decide +kernel
theorem dX6_read_56 : decode cX6_read 56 = .ok (.goto 9, 3) := by decide +kernel
theorem dX6_read_59 : decode cX6_read 59 = .ok (.aload_n 0, 1) := by decide +kernel
theorem dX6_read_60 : decode cX6_read 60 = .ok (.iload_n 1, 1) := by decide +kernel
theorem dX6_read_61 : decode cX6_read 61 = .ok (.iload_n 2, 1) := by decide +kernel
theorem dX6_read_62 : decode cX6_read 62 = .ok (.invokevirtual 140, 3) := by decide +kernel
theorem dX6_read_65 : decode cX6_read 65 = .ok (.ireturn, 1) := by decide +kernel
theorem dX6_look_0 : decode cX6_look 0 = .ok (.aload_n 0, 1) := by decide +kernel
theorem dX6_look_1 : decode cX6_look 1 = .ok (.aload_n 0, 1) := by decide +kernel
theorem dX6_look_2 : decode cX6_look 2 = .ok (.getfield 149, 3) := by decide +kernel
theorem dX6_look_5 : decode cX6_look 5 = .ok (.ifCond .eq 7, 3) := by decide +kernel
theorem dX6_look_8 : decode cX6_look 8 = .ok (.iconst 1, 1) := by decide +kernel
theorem dX6_look_9 : decode cX6_look 9 = .ok (.goto 16, 3) := by decide +kernel
theorem dX6_look_12 : decode cX6_look 12 = .ok (.aload_n 0, 1) := by decide +kernel
theorem dX6_look_13 : decode cX6_look 13 = .ok (.iload_n 1, 1) := by decide +kernel
theorem dX6_look_14 : decode cX6_look 14 = .ok (.invokevirtual 152, 3) := by decide +kernel
theorem dX6_look_17 : decode cX6_look 17 = .ok (.ifCond .ne 7, 3) := by decide +kernel
theorem dX6_look_20 : decode cX6_look 20 = .ok (.iconst 2, 1) := by decide +kernel
theorem dX6_look_21 : decode cX6_look 21 = .ok (.goto 4, 3) := by decide +kernel
theorem dX6_look_24 : decode cX6_look 24 = .ok (.iconst 0, 1) := by decide +kernel
theorem dX6_look_25 : decode cX6_look 25 = .ok (.putfield 40, 3) := by decide +kernel
theorem dX6_look_28 : decode cX6_look 28 = .ok (.aload_n 0, 1) := by decide +kernel
theorem dX6_look_29 : decode cX6_look 29 = .ok (.getfield 40, 3) := by decide +kernel
theorem dX6_look_32 : decode cX6_look 32 = .ok (.ifCond .le 7, 3) := by decide +kernel
theorem dX6_look_35 : decode cX6_look 35 = .ok (.iconst 0, 1) := by decide +kernel
theorem dX6_look_36 : decode cX6_look 36 = .ok (.goto 21, 3) := by decide +kernel
theorem dX6_look_39 : decode cX6_look 39 = .ok (.aload_n 0, 1) := by decide +kernel
theorem dX6_look_40 : decode cX6_look 40 = .ok (.iload_n 2, 1) := by decide +kernel
theorem dX6_look_41 : decode cX6_look 41 = .ok (.invokevirtual 155, 3) := by decide +kernel
theorem dX6_look_44 : decode cX6_look 44 = .ok (.ifCond .eq 12, 3) := by decide +kernel
theorem dX6_look_47 : decode cX6_look 47 = .ok (.aload_n 0, 1) := by decide +kernel
theorem dX6_look_48 : decode cX6_look 48 = .ok (.iload_n 1, 1) := by decide +kernel
theorem dX6_look_49 : decode cX6_look 49 = .ok (.iload_n 2, 1) := by decide +kernel
theorem dX6_look_50 : decode cX6_look 50 = .ok (.invokevirtual 158, 3) := by decide +kernel
theorem dX6_look_53 : decode cX6_look 53 = .ok (.goto 4, 3) := by decide +kernel
theorem dX6_look_56 : decode cX6_look 56 = .ok (.iconst (-1), 1) := by decide +kernel
theorem dX6_look_57 : decode cX6_look 57 = .ok (.ireturn, 1) := by decide +kernel
theorem dX6_name_0 : decode cX6_name 0 = .ok (.aload_n 0, 1) := by decide +kernel
theorem dX6_name_1 : decode cX6_name 1 = .ok (.aload_n 0, 1) := by decide +kernel
theorem dX6_name_2 : decode cX6_name 2 = .ok (.getfield 149, 3) := by decide +kernel
theorem dX6_name_5 : decode cX6_name 5 = .ok (.ifCond .eq 7, 3) := by decide +kernel
theorem dX6_name_8 : decode cX6_name 8 = .ok (.iconst 1, 1) := by decide +kernel
theorem dX6_name_9 : decode cX6_name 9 = .ok (.goto 36, 3) := by decide +kernel
theorem dX6_name_12 : decode cX6_name 12 = .ok (.aload_n 0, 1) := by decide +kernel
theorem dX6_name_13 : decode cX6_name 13 = .ok (.iload_n 1, 1) := by decide +kernel
theorem dX6_name_14 : decode cX6_name 14 = .ok (.invokevirtual 152, 3) := by decide +kernel
theorem dX6_name_17 : decode cX6_name 17 = .ok (.ifCond .eq 23, 3) := by decide +kernel
theorem dX6_name_20 : decode cX6_name 20 = .ok (.iload_n 2, 1) := by decide +kernel
theorem dX6_name_21 : decode cX6_name 21 = .ok (.iconst 0, 1) := by decide +kernel
theorem dX6_name_22 : decode cX6_name 22 = .ok (.aload_n 0, 1) := by decide +kernel
theorem dX6_name_23 : decode cX6_name 23 = .ok (.getfield 7, 3) := by decide +kernel
theorem dX6_name_26 : decode cX6_name 26 = .ok (.sipush 218, 3) := by decide +kernel
theorem dX6_name_29 : decode cX6_name 29 = .ok (.iload_n 1, 1) := by decide +kernel
theorem dX6_name_30 : decode cX6_name 30 = .ok (.iadd, 1) := by decide +kernel
theorem dX6_name_31 : decode cX6_name 31 = .ok (.iaload, 1) := by decide +kernel
theorem dX6_name_32 : decode cX6_name 32 = .ok (.iconst 1, 1) := by decide +kernel
theorem dX6_name_33 : decode cX6_name 33 = .ok (.isub, 1) := by decide +kernel
theorem dX6_name_34 : decode cX6_name 34 = .ok (.invokestatic 43, 3) := by decide +kernel
theorem dX6_name_37 : decode cX6_name 37 = .ok (.ifCond .ne 7, 3) := by decide +kernel
theorem dX6_name_40 : decode cX6_name 40 = .ok (.iconst 2, 1) := by decide +kernel
theorem dX6_name_41 : decode cX6_name 41 = .ok (.goto 4, 3) := by decide +kernel
theorem dX6_name_44 : decode cX6_name 44 = .ok (.iconst 0, 1) := by decide +kernel
theorem dX6_name_45 : decode cX6_name 45 = .ok (.putfield 40, 3) := by decide +kernel
theorem dX6_name_48 : decode cX6_name 48 = .ok (.iload_n 2, 1) := by decide +kernel
theorem dX6_name_49 : decode cX6_name 49 = .ok (.istore_n 3, 1) := by decide +kernel
theorem dX6_name_50 : decode cX6_name 50 = .ok (.iconst 0, 1) := by decide +kernel
theorem dX6_name_51 : decode cX6_name 51 = .ok (.istore 4, 2) := by decide +kernel
theorem dX6_name_53 : decode cX6_name 53 = .ok (.aload_n 0, 1) := by decide +kernel
theorem dX6_name_54 : decode cX6_name 54 = .ok (.getfield 40, 3) := by decide +kernel
theorem dX6_name_57 : decode cX6_name 57 = .ok (.ifCond .ne 127, 3) := by decide +kernel
theorem dX6_name_60 : decode cX6_name 60 = .ok (.iload 4, 2) := by decide +kernel
theorem dX6_name_62 : decode cX6_name 62 = .ok (.aload_n 0, 1) := by decide +kernel
theorem dX6_name_63 : decode cX6_name 63 = .ok (.getfield 7, 3) := by decide +kernel
theorem dX6_name_66 : decode cX6_name 66 = .ok (.sipush 13068, 3) := by decide +kernel
theorem dX6_name_69 : decode cX6_name 69 = .ok (.iaload, 1) := by decide +kernel
theorem dX6_name_70 : decode cX6_name 70 = .ok (.if_icmp .ge 114, 3) := by decide +kernel
theorem dX6_name_73 : decode cX6_name 73 = .ok (.aload_n 0, 1) := by decide +kernel
theorem dX6_name_74 : decode cX6_name 74 = .ok (.getfield 7, 3) := by decide +kernel
theorem dX6_name_77 : decode cX6_name 77 = .ok (.sipush 12300, 3) := by decide +kernel
theorem dX6_name_80 : decode cX6_name 80 = .ok (.iload 4, 2) := by decide +kernel
theorem dX6_name_82 : decode cX6_name 82 = .ok (.iadd, 1) := by decide +kernel
theorem dX6_name_83 : decode cX6_name 83 = .ok (.iaload, 1) := by decide +kernel
theorem dX6_name_84 : decode cX6_name 84 = .ok (.istore 5, 2) := by decide +kernel
theorem dX6_name_86 : decode cX6_name 86 = .ok (.iconst 0, 1) := by decide +kernel
theorem dX6_name_87 : decode cX6_name 87 = .ok (.istore 6, 2) := by decide +kernel
theorem dX6_name_89 : decode cX6_name 89 = .ok (.iload 6, 2) := by decide +kernel
theorem dX6_name_91 : decode cX6_name 91 = .ok (.aload_n 0, 1) := by decide +kernel
theorem dX6_name_92 : decode cX6_name 92 = .ok (.getfield 7, 3) := by decide +kernel
theorem dX6_name_95 : decode cX6_name 95 = .ok (.sipush 3852, 3) := by decide +kernel
theorem dX6_name_98 : decode cX6_name 98 = .ok (.iload 5, 2) := by decide +kernel
theorem dX6_name_100 : decode cX6_name 100 = .ok (.iadd, 1) := by decide +kernel
theorem dX6_name_101 : decode cX6_name 101 = .ok (.iaload, 1) := by decide +kernel
theorem dX6_name_102 : decode cX6_name 102 = .ok (.if_icmp .ge 76, 3) := by decide +kernel
theorem dX6_name_105 : decode cX6_name 105 = .ok (.aload_n 0, 1) := by decide +kernel
theorem dX6_name_106 : decode cX6_name 106 = .ok (.getfield 7, 3) := by decide +kernel
theorem dX6_name_109 : decode cX6_name 109 = .ok (.sipush 4620, 3) := by decide +kernel
theorem dX6_name_112 : decode cX6_name 112 = .ok (.bipush 16, 2) := by decide +kernel
theorem dX6_name_114 : decode cX6_name 114 = .ok (.iload 5, 2) := by decide +kernel
theorem dX6_name_116 : decode cX6_name 116 = .ok (.imul, 1) := by decide +kernel
theorem dX6_name_117 : decode cX6_name 117 = .ok (.iadd, 1) := by decide +kernel
theorem dX6_name_118 : decode cX6_name 118 = .ok (.iload 6, 2) := by decide +kernel
theorem dX6_name_120 : decode cX6_name 120 = .ok (.iadd, 1) := by decide +kernel
theorem dX6_name_121 : decode cX6_name 121 = .ok (.iaload, 1) := by decide +kernel
theorem dX6_name_122 : decode cX6_name 122 = .ok (.iload_n 1, 1) := by decide +kernel
theorem dX6_name_123 : decode cX6_name 123 = .ok (.if_icmp .ne 49, 3) := by decide +kernel
theorem dX6_name_126 : decode cX6_name 126 = .ok (.aload_n 0, 1) := by decide +kernel
theorem dX6_name_127 : decode cX6_name 127 = .ok (.getfield 7, 3) := by decide +kernel
theorem dX6_name_130 : decode cX6_name 130 = .ok (.sipush 6156, 3) := by decide +kernel
theorem dX6_name_133 : decode cX6_name 133 = .ok (.bipush 16, 2) := by decide +kernel
theorem dX6_name_135 : decode cX6_name 135 = .ok (.iload 5, 2) := by decide +kernel
theorem dX6_name_137 : decode cX6_name 137 = .ok (.imul, 1) := by decide +kernel
theorem dX6_name_138 : decode cX6_name 138 = .ok (.iadd, 1) := by decide +kernel
theorem dX6_name_139 : decode cX6_name 139 = .ok (.iload 6, 2) := by decide +kernel
theorem dX6_name_141 : decode cX6_name 141 = .ok (.iadd, 1) := by decide +kernel
theorem dX6_name_142 : decode cX6_name 142 = .ok (.iaload, 1) := by decide +kernel
theorem dX6_name_143 : decode cX6_name 143 = .ok (.iconst 1, 1) := by decide +kernel
theorem dX6_name_144 : decode cX6_name 144 = .ok (.if_icmp .ne 28, 3) := by decide +kernel
theorem dX6_name_147 : decode cX6_name 147 = .ok (.iload_n 3, 1) := by decide +kernel
theorem dX6_name_148 : decode cX6_name 148 = .ok (.ifCond .ne 21, 3) := by decide +kernel
theorem dX6_name_151 : decode cX6_name 151 = .ok (.aload_n 0, 1) := by decide +kernel
theorem dX6_name_152 : decode cX6_name 152 = .ok (.getfield 7, 3) := by decide +kernel
theorem dX6_name_155 : decode cX6_name 155 = .ok (.sipush 7692, 3) := by decide +kernel
theorem dX6_name_158 : decode cX6_name 158 = .ok (.bipush 16, 2) := by decide +kernel
theorem dX6_name_160 : decode cX6_name 160 = .ok (.iload 5, 2) := by decide +kernel
theorem dX6_name_162 : decode cX6_name 162 = .ok (.imul, 1) := by decide +kernel
theorem dX6_name_163 : decode cX6_name 163 = .ok (.iadd, 1) := by decide +kernel
theorem dX6_name_164 : decode cX6_name 164 = .ok (.iload 6, 2) := by decide +kernel
theorem dX6_name_166 : decode cX6_name 166 = .ok (.iadd, 1) := by decide +kernel
theorem dX6_name_167 : decode cX6_name 167 = .ok (.iaload, 1) := by decide +kernel
theorem dX6_name_168 : decode cX6_name 168 = .ok (.ireturn, 1) := by decide +kernel
theorem dX6_name_169 : decode cX6_name 169 = .ok (.iinc 3 (-1), 3) := by decide +kernel
theorem dX6_name_172 : decode cX6_name 172 = .ok (.iinc 6 1, 3) := by decide +kernel
theorem dX6_name_175 : decode cX6_name 175 = .ok (.goto (-86), 3) := by decide +kernel
theorem dX6_name_178 : decode cX6_name 178 = .ok (.iinc 4 1, 3) := by decide +kernel
theorem dX6_name_181 : decode cX6_name 181 = .ok (.goto (-128), 3) := by decide +kernel
theorem dX6_name_184 : decode cX6_name 184 = .ok (.iconst 0, 1) := by decide +kernel
theorem dX6_name_185 : decode cX6_name 185 = .ok (.ireturn, 1) := by decide +kernel
theorem dX6_about_0 : decode cX6_about 0 = .ok (.aload_n 0, 1) := by decide +kernel
theorem dX6_about_1 : decode cX6_about 1 = .ok (.aload_n 0, 1) := by decide +kernel
theorem dX6_about_2 : decode cX6_about 2 = .ok (.getfield 149, 3) := by decide +kernel
theorem dX6_about_5 : decode cX6_about 5 = .ok (.ifCond .eq 7, 3) := by decide +kernel
theorem dX6_about_8 : decode cX6_about 8 = .ok (.iconst 1, 1) := by decide +kernel
theorem dX6_about_9 : decode cX6_about 9 = .ok (.goto 45, 3) := by decide +kernel
theorem dX6_about_12 : decode cX6_about 12 = .ok (.aload_n 0, 1) := by decide +kernel
theorem dX6_about_13 : decode cX6_about 13 = .ok (.iload_n 1, 1) := by decide +kernel
theorem dX6_about_14 : decode cX6_about 14 = .ok (.invokevirtual 47, 3) := by decide +kernel
theorem dX6_about_17 : decode cX6_about 17 = .ok (.ifCond .eq 24, 3) := by decide +kernel
theorem dX6_about_20 : decode cX6_about 20 = .ok (.iload_n 2, 1) := by decide +kernel
theorem dX6_about_21 : decode cX6_about 21 = .ok (.iconst 5, 1) := by decide +kernel
theorem dX6_about_22 : decode cX6_about 22 = .ok (.if_icmp .lt 23, 3) := by decide +kernel
theorem dX6_about_25 : decode cX6_about 25 = .ok (.iload_n 2, 1) := by decide +kernel
theorem dX6_about_26 : decode cX6_about 26 = .ok (.iconst 5, 1) := by decide +kernel
theorem dX6_about_27 : decode cX6_about 27 = .ok (.isub, 1) := by decide +kernel
theorem dX6_about_28 : decode cX6_about 28 = .ok (.aload_n 0, 1) := by decide +kernel
theorem dX6_about_29 : decode cX6_about 29 = .ok (.getfield 7, 3) := by decide +kernel
theorem dX6_about_32 : decode cX6_about 32 = .ok (.sipush 279, 3) := by decide +kernel
theorem dX6_about_35 : decode cX6_about 35 = .ok (.iload_n 1, 1) := by decide +kernel
theorem dX6_about_36 : decode cX6_about 36 = .ok (.iadd, 1) := by decide +kernel
theorem dX6_about_37 : decode cX6_about 37 = .ok (.iaload, 1) := by decide +kernel
theorem dX6_about_38 : decode cX6_about 38 = .ok (.if_icmp .lt 7, 3) := by decide +kernel
theorem dX6_about_41 : decode cX6_about 41 = .ok (.iconst 2, 1) := by decide +kernel
theorem dX6_about_42 : decode cX6_about 42 = .ok (.goto 12, 3) := by decide +kernel
theorem dX6_about_45 : decode cX6_about 45 = .ok (.iload_n 2, 1) := by decide +kernel
theorem dX6_about_46 : decode cX6_about 46 = .ok (.ifCond .ge 7, 3) := by decide +kernel
theorem dX6_about_49 : decode cX6_about 49 = .ok (.iconst 3, 1) := by decide +kernel
theorem dX6_about_50 : decode cX6_about 50 = .ok (.goto 4, 3) := by decide +kernel
theorem dX6_about_53 : decode cX6_about 53 = .ok (.iconst 0, 1) := by decide +kernel
theorem dX6_about_54 : decode cX6_about 54 = .ok (.putfield 40, 3) := by decide +kernel
theorem dX6_about_57 : decode cX6_about 57 = .ok (.aload_n 0, 1) := by decide +kernel
theorem dX6_about_58 : decode cX6_about 58 = .ok (.getfield 40, 3) := by decide +kernel
theorem dX6_about_61 : decode cX6_about 61 = .ok (.ifCond .le 5, 3) := by decide +kernel
theorem dX6_about_64 : decode cX6_about 64 = .ok (.iconst 0, 1) := by decide +kernel
theorem dX6_about_65 : decode cX6_about 65 = .ok (.ireturn, 1) := by decide +kernel
theorem dX6_about_66 : decode cX6_about 66 = .ok (.iload_n 2, 1) := by decide +kernel
theorem dX6_about_67 : decode cX6_about 67 = .ok (.tableswitch 109 0 4 #[33, 45, 56, 67, 78], 33) := by decide +kernel
theorem dX6_about_100 : decode cX6_about 100 = .ok (.aload_n 0, 1) := by decide +kernel
theorem dX6_about_101 : decode cX6_about 101 = .ok (.getfield 7, 3) := by decide +kernel
theorem dX6_about_104 : decode cX6_about 104 = .ok (.bipush 96, 2) := by decide +kernel
theorem dX6_about_106 : decode cX6_about 106 = .ok (.iload_n 1, 1) := by decide +kernel
theorem dX6_about_107 : decode cX6_about 107 = .ok (.iadd, 1) := by decide +kernel
theorem dX6_about_108 : decode cX6_about 108 = .ok (.iaload, 1) := by decide +kernel
theorem dX6_about_109 : decode cX6_about 109 = .ok (.iconst 1, 1) := by decide +kernel
theorem dX6_about_110 : decode cX6_about 110 = .ok (.isub, 1) := by decide +kernel
theorem dX6_about_111 : decode cX6_about 111 = .ok (.ireturn, 1) := by decide +kernel
theorem dX6_about_112 : decode cX6_about 112 = .ok (.aload_n 0, 1) := by decide +kernel
theorem dX6_about_113 : decode cX6_about 113 = .ok (.getfield 7, 3) := by decide +kernel
theorem dX6_about_116 : decode cX6_about 116 = .ok (.sipush 157, 3) := by decide +kernel
theorem dX6_about_119 : decode cX6_about 119 = .ok (.iload_n 1, 1) := by decide +kernel
theorem dX6_about_120 : decode cX6_about 120 = .ok (.iadd, 1) := by decide +kernel
theorem dX6_about_121 : decode cX6_about 121 = .ok (.iaload, 1) := by decide +kernel
theorem dX6_about_122 : decode cX6_about 122 = .ok (.ireturn, 1) := by decide +kernel
theorem dX6_about_123 : decode cX6_about 123 = .ok (.aload_n 0, 1) := by decide +kernel
theorem dX6_about_124 : decode cX6_about 124 = .ok (.getfield 7, 3) := by decide +kernel
theorem dX6_about_127 : decode cX6_about 127 = .ok (.sipush 218, 3) := by decide +kernel
theorem dX6_about_130 : decode cX6_about 130 = .ok (.iload_n 1, 1) := by decide +kernel
theorem dX6_about_131 : decode cX6_about 131 = .ok (.iadd, 1) := by decide +kernel
theorem dX6_about_132 : decode cX6_about 132 = .ok (.iaload, 1) := by decide +kernel
theorem dX6_about_133 : decode cX6_about 133 = .ok (.ireturn, 1) := by decide +kernel
theorem dX6_about_134 : decode cX6_about 134 = .ok (.aload_n 0, 1) := by decide +kernel
theorem dX6_about_135 : decode cX6_about 135 = .ok (.getfield 7, 3) := by decide +kernel
theorem dX6_about_138 : decode cX6_about 138 = .ok (.sipush 279, 3) := by decide +kernel
theorem dX6_about_141 : decode cX6_about 141 = .ok (.iload_n 1, 1) := by decide +kernel
theorem dX6_about_142 : decode cX6_about 142 = .ok (.iadd, 1) := by decide +kernel
theorem dX6_about_143 : decode cX6_about 143 = .ok (.iaload, 1) := by decide +kernel
theorem dX6_about_144 : decode cX6_about 144 = .ok (.ireturn, 1) := by decide +kernel
theorem dX6_about_145 : decode cX6_about 145 = .ok (.aload_n 0, 1) := by decide +kernel
theorem dX6_about_146 : decode cX6_about 146 = .ok (.getfield 7, 3) := by decide +kernel
theorem dX6_about_149 : decode cX6_about 149 = .ok (.bipush 96, 2) := by decide +kernel
theorem dX6_about_151 : decode cX6_about 151 = .ok (.iload_n 1, 1) := by decide +kernel
theorem dX6_about_152 : decode cX6_about 152 = .ok (.iadd, 1) := by decide +kernel
theorem dX6_about_153 : decode cX6_about 153 = .ok (.iaload, 1) := by decide +kernel
theorem dX6_about_154 : decode cX6_about 154 = .ok (.iconst 2, 1) := by decide +kernel
theorem dX6_about_155 : decode cX6_about 155 = .ok (.if_icmp .ne 19, 3) := by decide +kernel
theorem dX6_about_158 : decode cX6_about 158 = .ok (.aload_n 0, 1) := by decide +kernel
theorem dX6_about_159 : decode cX6_about 159 = .ok (.getfield 7, 3) := by decide +kernel
theorem dX6_about_162 : decode cX6_about 162 = .ok (.sipush 218, 3) := by decide +kernel
theorem dX6_about_165 : decode cX6_about 165 = .ok (.iload_n 1, 1) := by decide +kernel
theorem dX6_about_166 : decode cX6_about 166 = .ok (.iadd, 1) := by decide +kernel
theorem dX6_about_167 : decode cX6_about 167 = .ok (.iaload, 1) := by decide +kernel
theorem dX6_about_168 : decode cX6_about 168 = .ok (.invokestatic 137, 3) := by decide +kernel
theorem dX6_about_171 : decode cX6_about 171 = .ok (.goto 4, 3) := by decide +kernel
theorem dX6_about_174 : decode cX6_about 174 = .ok (.iconst 0, 1) := by decide +kernel
theorem dX6_about_175 : decode cX6_about 175 = .ok (.ireturn, 1) := by decide +kernel
theorem dX6_about_176 : decode cX6_about 176 = .ok (.aload_n 0, 1) := by decide +kernel
theorem dX6_about_177 : decode cX6_about 177 = .ok (.getfield 7, 3) := by decide +kernel
theorem dX6_about_180 : decode cX6_about 180 = .ok (.sipush 340, 3) := by decide +kernel
theorem dX6_about_183 : decode cX6_about 183 = .ok (.bipush 16, 2) := by decide +kernel
theorem dX6_about_185 : decode cX6_about 185 = .ok (.iload_n 1, 1) := by decide +kernel
theorem dX6_about_186 : decode cX6_about 186 = .ok (.imul, 1) := by decide +kernel
theorem dX6_about_187 : decode cX6_about 187 = .ok (.iadd, 1) := by decide +kernel
theorem dX6_about_188 : decode cX6_about 188 = .ok (.iload_n 2, 1) := by decide +kernel
theorem dX6_about_189 : decode cX6_about 189 = .ok (.iadd, 1) := by decide +kernel
theorem dX6_about_190 : decode cX6_about 190 = .ok (.iconst 5, 1) := by decide +kernel
theorem dX6_about_191 : decode cX6_about 191 = .ok (.isub, 1) := by decide +kernel
theorem dX6_about_192 : decode cX6_about 192 = .ok (.iaload, 1) := by decide +kernel
theorem dX6_about_193 : decode cX6_about 193 = .ok (.ireturn, 1) := by decide +kernel
theorem dX6_node_0 : decode cX6_node 0 = .ok (.aload_n 0, 1) := by decide +kernel
theorem dX6_node_1 : decode cX6_node 1 = .ok (.aload_n 0, 1) := by decide +kernel
theorem dX6_node_2 : decode cX6_node 2 = .ok (.getfield 149, 3) := by decide +kernel
theorem dX6_node_5 : decode cX6_node 5 = .ok (.ifCond .eq 7, 3) := by decide +kernel
theorem dX6_node_8 : decode cX6_node 8 = .ok (.iconst 1, 1) := by decide +kernel
theorem dX6_node_9 : decode cX6_node 9 = .ok (.goto 59, 3) := by decide +kernel
theorem dX6_node_12 : decode cX6_node 12 = .ok (.iload_n 1, 1) := by decide +kernel
theorem dX6_node_13 : decode cX6_node 13 = .ok (.iconst 0, 1) := by decide +kernel
theorem dX6_node_14 : decode cX6_node 14 = .ok (.aload_n 0, 1) := by decide +kernel
theorem dX6_node_15 : decode cX6_node 15 = .ok (.getfield 7, 3) := by decide +kernel
theorem dX6_node_18 : decode cX6_node 18 = .ok (.sipush 13077, 3) := by decide +kernel
theorem dX6_node_21 : decode cX6_node 21 = .ok (.iaload, 1) := by decide +kernel
theorem dX6_node_22 : decode cX6_node 22 = .ok (.iconst 1, 1) := by decide +kernel
theorem dX6_node_23 : decode cX6_node 23 = .ok (.isub, 1) := by decide +kernel
theorem dX6_node_24 : decode cX6_node 24 = .ok (.invokestatic 43, 3) := by decide +kernel
theorem dX6_node_27 : decode cX6_node 27 = .ok (.ifCond .eq 23, 3) := by decide +kernel
theorem dX6_node_30 : decode cX6_node 30 = .ok (.iload_n 2, 1) := by decide +kernel
theorem dX6_node_31 : decode cX6_node 31 = .ok (.iconst 0, 1) := by decide +kernel
theorem dX6_node_32 : decode cX6_node 32 = .ok (.aload_n 0, 1) := by decide +kernel
theorem dX6_node_33 : decode cX6_node 33 = .ok (.getfield 7, 3) := by decide +kernel
theorem dX6_node_36 : decode cX6_node 36 = .ok (.sipush 13068, 3) := by decide +kernel
theorem dX6_node_39 : decode cX6_node 39 = .ok (.iload_n 1, 1) := by decide +kernel
theorem dX6_node_40 : decode cX6_node 40 = .ok (.iadd, 1) := by decide +kernel
theorem dX6_node_41 : decode cX6_node 41 = .ok (.iaload, 1) := by decide +kernel
theorem dX6_node_42 : decode cX6_node 42 = .ok (.iconst 1, 1) := by decide +kernel
theorem dX6_node_43 : decode cX6_node 43 = .ok (.isub, 1) := by decide +kernel
theorem dX6_node_44 : decode cX6_node 44 = .ok (.invokestatic 43, 3) := by decide +kernel
theorem dX6_node_47 : decode cX6_node 47 = .ok (.ifCond .ne 7, 3) := by decide +kernel
theorem dX6_node_50 : decode cX6_node 50 = .ok (.iconst 2, 1) := by decide +kernel
theorem dX6_node_51 : decode cX6_node 51 = .ok (.goto 17, 3) := by decide +kernel
theorem dX6_node_54 : decode cX6_node 54 = .ok (.iload_n 3, 1) := by decide +kernel
theorem dX6_node_55 : decode cX6_node 55 = .ok (.iconst 0, 1) := by decide +kernel
theorem dX6_node_56 : decode cX6_node 56 = .ok (.iconst 3, 1) := by decide +kernel
theorem dX6_node_57 : decode cX6_node 57 = .ok (.invokestatic 43, 3) := by decide +kernel
theorem dX6_node_60 : decode cX6_node 60 = .ok (.ifCond .ne 7, 3) := by decide +kernel
theorem dX6_node_63 : decode cX6_node 63 = .ok (.iconst 3, 1) := by decide +kernel
theorem dX6_node_64 : decode cX6_node 64 = .ok (.goto 4, 3) := by decide +kernel
theorem dX6_node_67 : decode cX6_node 67 = .ok (.iconst 0, 1) := by decide +kernel
theorem dX6_node_68 : decode cX6_node 68 = .ok (.putfield 40, 3) := by decide +kernel
theorem dX6_node_71 : decode cX6_node 71 = .ok (.aload_n 0, 1) := by decide +kernel
theorem dX6_node_72 : decode cX6_node 72 = .ok (.getfield 40, 3) := by decide +kernel
theorem dX6_node_75 : decode cX6_node 75 = .ok (.ifCond .le 5, 3) := by decide +kernel
theorem dX6_node_78 : decode cX6_node 78 = .ok (.iconst 0, 1) := by decide +kernel
theorem dX6_node_79 : decode cX6_node 79 = .ok (.ireturn, 1) := by decide +kernel
theorem dX6_node_80 : decode cX6_node 80 = .ok (.aload_n 0, 1) := by decide +kernel
theorem dX6_node_81 : decode cX6_node 81 = .ok (.getfield 7, 3) := by decide +kernel
theorem dX6_node_84 : decode cX6_node 84 = .ok (.sipush 12300, 3) := by decide +kernel
theorem dX6_node_87 : decode cX6_node 87 = .ok (.bipush 96, 2) := by decide +kernel
theorem dX6_node_89 : decode cX6_node 89 = .ok (.iload_n 1, 1) := by decide +kernel
theorem dX6_node_90 : decode cX6_node 90 = .ok (.imul, 1) := by decide +kernel
theorem dX6_node_91 : decode cX6_node 91 = .ok (.iadd, 1) := by decide +kernel
theorem dX6_node_92 : decode cX6_node 92 = .ok (.iload_n 2, 1) := by decide +kernel
theorem dX6_node_93 : decode cX6_node 93 = .ok (.iadd, 1) := by decide +kernel
theorem dX6_node_94 : decode cX6_node 94 = .ok (.iaload, 1) := by decide +kernel
theorem dX6_node_95 : decode cX6_node 95 = .ok (.istore 4, 2) := by decide +kernel
theorem dX6_node_97 : decode cX6_node 97 = .ok (.iload_n 3, 1) := by decide +kernel
theorem dX6_node_98 : decode cX6_node 98 = .ok (.ifCond .ne 8, 3) := by decide +kernel
theorem dX6_node_101 : decode cX6_node 101 = .ok (.iload 4, 2) := by decide +kernel
theorem dX6_node_103 : decode cX6_node 103 = .ok (.goto 55, 3) := by decide +kernel
theorem dX6_node_106 : decode cX6_node 106 = .ok (.iload_n 3, 1) := by decide +kernel
theorem dX6_node_107 : decode cX6_node 107 = .ok (.iconst 1, 1) := by decide +kernel
theorem dX6_node_108 : decode cX6_node 108 = .ok (.if_icmp .ne 17, 3) := by decide +kernel
theorem dX6_node_111 : decode cX6_node 111 = .ok (.aload_n 0, 1) := by decide +kernel
theorem dX6_node_112 : decode cX6_node 112 = .ok (.getfield 7, 3) := by decide +kernel
theorem dX6_node_115 : decode cX6_node 115 = .ok (.sipush 3852, 3) := by decide +kernel
theorem dX6_node_118 : decode cX6_node 118 = .ok (.iload 4, 2) := by decide +kernel
theorem dX6_node_120 : decode cX6_node 120 = .ok (.iadd, 1) := by decide +kernel
theorem dX6_node_121 : decode cX6_node 121 = .ok (.iaload, 1) := by decide +kernel
theorem dX6_node_122 : decode cX6_node 122 = .ok (.goto 36, 3) := by decide +kernel
theorem dX6_node_125 : decode cX6_node 125 = .ok (.iload_n 3, 1) := by decide +kernel
theorem dX6_node_126 : decode cX6_node 126 = .ok (.iconst 2, 1) := by decide +kernel
theorem dX6_node_127 : decode cX6_node 127 = .ok (.if_icmp .ne 20, 3) := by decide +kernel
theorem dX6_node_130 : decode cX6_node 130 = .ok (.iload_n 1, 1) := by decide +kernel
theorem dX6_node_131 : decode cX6_node 131 = .ok (.ifCond .ne 12, 3) := by decide +kernel
theorem dX6_node_134 : decode cX6_node 134 = .ok (.aload_n 0, 1) := by decide +kernel
theorem dX6_node_135 : decode cX6_node 135 = .ok (.iload 4, 2) := by decide +kernel
theorem dX6_node_137 : decode cX6_node 137 = .ok (.invokevirtual 97, 3) := by decide +kernel
theorem dX6_node_140 : decode cX6_node 140 = .ok (.goto 18, 3) := by decide +kernel
theorem dX6_node_143 : decode cX6_node 143 = .ok (.iconst 0, 1) := by decide +kernel
theorem dX6_node_144 : decode cX6_node 144 = .ok (.goto 14, 3) := by decide +kernel
theorem dX6_node_147 : decode cX6_node 147 = .ok (.aload_n 0, 1) := by decide +kernel
theorem dX6_node_148 : decode cX6_node 148 = .ok (.getfield 7, 3) := by decide +kernel
theorem dX6_node_151 : decode cX6_node 151 = .ok (.sipush 3948, 3) := by decide +kernel
theorem dX6_node_154 : decode cX6_node 154 = .ok (.iload 4, 2) := by decide +kernel
theorem dX6_node_156 : decode cX6_node 156 = .ok (.iadd, 1) := by decide +kernel
theorem dX6_node_157 : decode cX6_node 157 = .ok (.iaload, 1) := by decide +kernel
theorem dX6_node_158 : decode cX6_node 158 = .ok (.ireturn, 1) := by decide +kernel
theorem dX6_items_0 : decode cX6_items 0 = .ok (.iconst 0, 1) := by decide +kernel
theorem dX6_items_1 : decode cX6_items 1 = .ok (.istore_n 1, 1) := by decide +kernel
theorem dX6_items_2 : decode cX6_items 2 = .ok (.iconst 0, 1) := by decide +kernel
theorem dX6_items_3 : decode cX6_items 3 = .ok (.istore_n 2, 1) := by decide +kernel
theorem dX6_items_4 : decode cX6_items 4 = .ok (.iload_n 2, 1) := by decide +kernel
theorem dX6_items_5 : decode cX6_items 5 = .ok (.aload_n 0, 1) := by decide +kernel
theorem dX6_items_6 : decode cX6_items 6 = .ok (.getfield 7, 3) := by decide +kernel
theorem dX6_items_9 : decode cX6_items 9 = .ok (.sipush 13068, 3) := by decide +kernel
theorem dX6_items_12 : decode cX6_items 12 = .ok (.iaload, 1) := by decide +kernel
theorem dX6_items_13 : decode cX6_items 13 = .ok (.if_icmp .ge 31, 3) := by decide +kernel
theorem dX6_items_16 : decode cX6_items 16 = .ok (.iload_n 1, 1) := by decide +kernel
theorem dX6_items_17 : decode cX6_items 17 = .ok (.aload_n 0, 1) := by decide +kernel
theorem dX6_items_18 : decode cX6_items 18 = .ok (.getfield 7, 3) := by decide +kernel
theorem dX6_items_21 : decode cX6_items 21 = .ok (.sipush 3852, 3) := by decide +kernel
theorem dX6_items_24 : decode cX6_items 24 = .ok (.aload_n 0, 1) := by decide +kernel
theorem dX6_items_25 : decode cX6_items 25 = .ok (.getfield 7, 3) := by decide +kernel
theorem dX6_items_28 : decode cX6_items 28 = .ok (.sipush 12300, 3) := by decide +kernel
theorem dX6_items_31 : decode cX6_items 31 = .ok (.iload_n 2, 1) := by decide +kernel
theorem dX6_items_32 : decode cX6_items 32 = .ok (.iadd, 1) := by decide +kernel
theorem dX6_items_33 : decode cX6_items 33 = .ok (.iaload, 1) := by decide +kernel
theorem dX6_items_34 : decode cX6_items 34 = .ok (.iadd, 1) := by decide +kernel
theorem dX6_items_35 : decode cX6_items 35 = .ok (.iaload, 1) := by decide +kernel
theorem dX6_items_36 : decode cX6_items 36 = .ok (.iadd, 1) := by decide +kernel
theorem dX6_items_37 : decode cX6_items 37 = .ok (.istore_n 1, 1) := by decide +kernel
theorem dX6_items_38 : decode cX6_items 38 = .ok (.iinc 2 1, 3) := by decide +kernel
theorem dX6_items_41 : decode cX6_items 41 = .ok (.goto (-37), 3) := by decide +kernel
theorem dX6_items_44 : decode cX6_items 44 = .ok (.iload_n 1, 1) := by decide +kernel
theorem dX6_items_45 : decode cX6_items 45 = .ok (.ireturn, 1) := by decide +kernel
theorem dX6_item_0 : decode cX6_item 0 = .ok (.aload_n 0, 1) := by decide +kernel
theorem dX6_item_1 : decode cX6_item 1 = .ok (.aload_n 0, 1) := by decide +kernel
theorem dX6_item_2 : decode cX6_item 2 = .ok (.getfield 149, 3) := by decide +kernel
theorem dX6_item_5 : decode cX6_item 5 = .ok (.ifCond .eq 7, 3) := by decide +kernel
theorem dX6_item_8 : decode cX6_item 8 = .ok (.iconst 1, 1) := by decide +kernel
theorem dX6_item_9 : decode cX6_item 9 = .ok (.goto 35, 3) := by decide +kernel
theorem dX6_item_12 : decode cX6_item 12 = .ok (.iload_n 1, 1) := by decide +kernel
theorem dX6_item_13 : decode cX6_item 13 = .ok (.iconst 0, 1) := by decide +kernel
theorem dX6_item_14 : decode cX6_item 14 = .ok (.aload_n 0, 1) := by decide +kernel
theorem dX6_item_15 : decode cX6_item 15 = .ok (.invokevirtual 195, 3) := by decide +kernel
theorem dX6_item_18 : decode cX6_item 18 = .ok (.iconst 1, 1) := by decide +kernel
theorem dX6_item_19 : decode cX6_item 19 = .ok (.isub, 1) := by decide +kernel
theorem dX6_item_20 : decode cX6_item 20 = .ok (.invokestatic 43, 3) := by decide +kernel
theorem dX6_item_23 : decode cX6_item 23 = .ok (.ifCond .ne 7, 3) := by decide +kernel
theorem dX6_item_26 : decode cX6_item 26 = .ok (.iconst 2, 1) := by decide +kernel
theorem dX6_item_27 : decode cX6_item 27 = .ok (.goto 17, 3) := by decide +kernel
theorem dX6_item_30 : decode cX6_item 30 = .ok (.iload_n 2, 1) := by decide +kernel
theorem dX6_item_31 : decode cX6_item 31 = .ok (.iconst 0, 1) := by decide +kernel
theorem dX6_item_32 : decode cX6_item 32 = .ok (.iconst 4, 1) := by decide +kernel
theorem dX6_item_33 : decode cX6_item 33 = .ok (.invokestatic 43, 3) := by decide +kernel
theorem dX6_item_36 : decode cX6_item 36 = .ok (.ifCond .ne 7, 3) := by decide +kernel
theorem dX6_item_39 : decode cX6_item 39 = .ok (.iconst 3, 1) := by decide +kernel
theorem dX6_item_40 : decode cX6_item 40 = .ok (.goto 4, 3) := by decide +kernel
theorem dX6_item_43 : decode cX6_item 43 = .ok (.iconst 0, 1) := by decide +kernel
theorem dX6_item_44 : decode cX6_item 44 = .ok (.putfield 40, 3) := by decide +kernel
theorem dX6_item_47 : decode cX6_item 47 = .ok (.aload_n 0, 1) := by decide +kernel
theorem dX6_item_48 : decode cX6_item 48 = .ok (.getfield 40, 3) := by decide +kernel
theorem dX6_item_51 : decode cX6_item 51 = .ok (.ifCond .le 5, 3) := by decide +kernel
theorem dX6_item_54 : decode cX6_item 54 = .ok (.iconst 0, 1) := by decide +kernel
theorem dX6_item_55 : decode cX6_item 55 = .ok (.ireturn, 1) := by decide +kernel
theorem dX6_item_56 : decode cX6_item 56 = .ok (.iconst 0, 1) := by decide +kernel
theorem dX6_item_57 : decode cX6_item 57 = .ok (.istore_n 3, 1) := by decide +kernel
theorem dX6_item_58 : decode cX6_item 58 = .ok (.iload_n 1, 1) := by decide +kernel
theorem dX6_item_59 : decode cX6_item 59 = .ok (.istore 4, 2) := by decide +kernel
theorem dX6_item_61 : decode cX6_item 61 = .ok (.iload 4, 2) := by decide +kernel
theorem dX6_item_63 : decode cX6_item 63 = .ok (.aload_n 0, 1) := by decide +kernel
theorem dX6_item_64 : decode cX6_item 64 = .ok (.getfield 7, 3) := by decide +kernel
theorem dX6_item_67 : decode cX6_item 67 = .ok (.sipush 3852, 3) := by decide +kernel
theorem dX6_item_70 : decode cX6_item 70 = .ok (.aload_n 0, 1) := by decide +kernel
theorem dX6_item_71 : decode cX6_item 71 = .ok (.getfield 7, 3) := by decide +kernel
theorem dX6_item_74 : decode cX6_item 74 = .ok (.sipush 12300, 3) := by decide +kernel
theorem dX6_item_77 : decode cX6_item 77 = .ok (.iload_n 3, 1) := by decide +kernel
theorem dX6_item_78 : decode cX6_item 78 = .ok (.iadd, 1) := by decide +kernel
theorem dX6_item_79 : decode cX6_item 79 = .ok (.iaload, 1) := by decide +kernel
theorem dX6_item_80 : decode cX6_item 80 = .ok (.iadd, 1) := by decide +kernel
theorem dX6_item_81 : decode cX6_item 81 = .ok (.iaload, 1) := by decide +kernel
theorem dX6_item_82 : decode cX6_item 82 = .ok (.if_icmp .lt 33, 3) := by decide +kernel
theorem dX6_item_85 : decode cX6_item 85 = .ok (.iload 4, 2) := by decide +kernel
theorem dX6_item_87 : decode cX6_item 87 = .ok (.aload_n 0, 1) := by decide +kernel
theorem dX6_item_88 : decode cX6_item 88 = .ok (.getfield 7, 3) := by decide +kernel
theorem dX6_item_91 : decode cX6_item 91 = .ok (.sipush 3852, 3) := by decide +kernel
theorem dX6_item_94 : decode cX6_item 94 = .ok (.aload_n 0, 1) := by decide +kernel
theorem dX6_item_95 : decode cX6_item 95 = .ok (.getfield 7, 3) := by decide +kernel
theorem dX6_item_98 : decode cX6_item 98 = .ok (.sipush 12300, 3) := by decide +kernel
theorem dX6_item_101 : decode cX6_item 101 = .ok (.iload_n 3, 1) := by decide +kernel
theorem dX6_item_102 : decode cX6_item 102 = .ok (.iadd, 1) := by decide +kernel
theorem dX6_item_103 : decode cX6_item 103 = .ok (.iaload, 1) := by decide +kernel
theorem dX6_item_104 : decode cX6_item 104 = .ok (.iadd, 1) := by decide +kernel
theorem dX6_item_105 : decode cX6_item 105 = .ok (.iaload, 1) := by decide +kernel
theorem dX6_item_106 : decode cX6_item 106 = .ok (.isub, 1) := by decide +kernel
theorem dX6_item_107 : decode cX6_item 107 = .ok (.istore 4, 2) := by decide +kernel
theorem dX6_item_109 : decode cX6_item 109 = .ok (.iinc 3 1, 3) := by decide +kernel
theorem dX6_item_112 : decode cX6_item 112 = .ok (.goto (-51), 3) := by decide +kernel
theorem dX6_item_115 : decode cX6_item 115 = .ok (.aload_n 0, 1) := by decide +kernel
theorem dX6_item_116 : decode cX6_item 116 = .ok (.getfield 7, 3) := by decide +kernel
theorem dX6_item_119 : decode cX6_item 119 = .ok (.sipush 12300, 3) := by decide +kernel
theorem dX6_item_122 : decode cX6_item 122 = .ok (.iload_n 3, 1) := by decide +kernel
theorem dX6_item_123 : decode cX6_item 123 = .ok (.iadd, 1) := by decide +kernel
theorem dX6_item_124 : decode cX6_item 124 = .ok (.iaload, 1) := by decide +kernel
theorem dX6_item_125 : decode cX6_item 125 = .ok (.istore 5, 2) := by decide +kernel
theorem dX6_item_127 : decode cX6_item 127 = .ok (.bipush 16, 2) := by decide +kernel
theorem dX6_item_129 : decode cX6_item 129 = .ok (.iload 5, 2) := by decide +kernel
theorem dX6_item_131 : decode cX6_item 131 = .ok (.imul, 1) := by decide +kernel
theorem dX6_item_132 : decode cX6_item 132 = .ok (.iload 4, 2) := by decide +kernel
theorem dX6_item_134 : decode cX6_item 134 = .ok (.iadd, 1) := by decide +kernel
theorem dX6_item_135 : decode cX6_item 135 = .ok (.istore 6, 2) := by decide +kernel
theorem dX6_item_137 : decode cX6_item 137 = .ok (.iload_n 2, 1) := by decide +kernel
theorem dX6_item_138 : decode cX6_item 138 = .ok (.ifCond .ne 17, 3) := by decide +kernel
theorem dX6_item_141 : decode cX6_item 141 = .ok (.aload_n 0, 1) := by decide +kernel
theorem dX6_item_142 : decode cX6_item 142 = .ok (.getfield 7, 3) := by decide +kernel
theorem dX6_item_145 : decode cX6_item 145 = .ok (.sipush 4620, 3) := by decide +kernel
theorem dX6_item_148 : decode cX6_item 148 = .ok (.iload 6, 2) := by decide +kernel
theorem dX6_item_150 : decode cX6_item 150 = .ok (.iadd, 1) := by decide +kernel
theorem dX6_item_151 : decode cX6_item 151 = .ok (.iaload, 1) := by decide +kernel
theorem dX6_item_152 : decode cX6_item 152 = .ok (.goto 62, 3) := by decide +kernel
theorem dX6_item_155 : decode cX6_item 155 = .ok (.iload_n 2, 1) := by decide +kernel
theorem dX6_item_156 : decode cX6_item 156 = .ok (.iconst 1, 1) := by decide +kernel
theorem dX6_item_157 : decode cX6_item 157 = .ok (.if_icmp .ne 17, 3) := by decide +kernel
theorem dX6_item_160 : decode cX6_item 160 = .ok (.aload_n 0, 1) := by decide +kernel
theorem dX6_item_161 : decode cX6_item 161 = .ok (.getfield 7, 3) := by decide +kernel
theorem dX6_item_164 : decode cX6_item 164 = .ok (.sipush 6156, 3) := by decide +kernel
theorem dX6_item_167 : decode cX6_item 167 = .ok (.iload 6, 2) := by decide +kernel
theorem dX6_item_169 : decode cX6_item 169 = .ok (.iadd, 1) := by decide +kernel
theorem dX6_item_170 : decode cX6_item 170 = .ok (.iaload, 1) := by decide +kernel
theorem dX6_item_171 : decode cX6_item 171 = .ok (.goto 43, 3) := by decide +kernel
theorem dX6_item_174 : decode cX6_item 174 = .ok (.iload_n 2, 1) := by decide +kernel
theorem dX6_item_175 : decode cX6_item 175 = .ok (.iconst 2, 1) := by decide +kernel
theorem dX6_item_176 : decode cX6_item 176 = .ok (.if_icmp .ne 17, 3) := by decide +kernel
theorem dX6_item_179 : decode cX6_item 179 = .ok (.aload_n 0, 1) := by decide +kernel
theorem dX6_item_180 : decode cX6_item 180 = .ok (.getfield 7, 3) := by decide +kernel
theorem dX6_item_183 : decode cX6_item 183 = .ok (.sipush 7692, 3) := by decide +kernel
theorem dX6_item_186 : decode cX6_item 186 = .ok (.iload 6, 2) := by decide +kernel
theorem dX6_item_188 : decode cX6_item 188 = .ok (.iadd, 1) := by decide +kernel
theorem dX6_item_189 : decode cX6_item 189 = .ok (.iaload, 1) := by decide +kernel
theorem dX6_item_190 : decode cX6_item 190 = .ok (.goto 24, 3) := by decide +kernel
theorem dX6_item_193 : decode cX6_item 193 = .ok (.iload_n 2, 1) := by decide +kernel
theorem dX6_item_194 : decode cX6_item 194 = .ok (.iconst 3, 1) := by decide +kernel
theorem dX6_item_195 : decode cX6_item 195 = .ok (.if_icmp .ne 17, 3) := by decide +kernel
theorem dX6_item_198 : decode cX6_item 198 = .ok (.aload_n 0, 1) := by decide +kernel
theorem dX6_item_199 : decode cX6_item 199 = .ok (.getfield 7, 3) := by decide +kernel
theorem dX6_item_202 : decode cX6_item 202 = .ok (.sipush 9228, 3) := by decide +kernel
theorem dX6_item_205 : decode cX6_item 205 = .ok (.iload 6, 2) := by decide +kernel
theorem dX6_item_207 : decode cX6_item 207 = .ok (.iadd, 1) := by decide +kernel
theorem dX6_item_208 : decode cX6_item 208 = .ok (.iaload, 1) := by decide +kernel
theorem dX6_item_209 : decode cX6_item 209 = .ok (.goto 5, 3) := by decide +kernel
theorem dX6_item_212 : decode cX6_item 212 = .ok (.iload 5, 2) := by decide +kernel
theorem dX6_item_214 : decode cX6_item 214 = .ok (.ireturn, 1) := by decide +kernel
theorem dX6_isAlike_0 : decode cX6_isAlike 0 = .ok (.iconst 1, 1) := by decide +kernel
theorem dX6_isAlike_1 : decode cX6_isAlike 1 = .ok (.istore_n 3, 1) := by decide +kernel
theorem dX6_isAlike_2 : decode cX6_isAlike 2 = .ok (.iload_n 1, 1) := by decide +kernel
theorem dX6_isAlike_3 : decode cX6_isAlike 3 = .ok (.istore 4, 2) := by decide +kernel
theorem dX6_isAlike_5 : decode cX6_isAlike 5 = .ok (.iload 4, 2) := by decide +kernel
theorem dX6_isAlike_7 : decode cX6_isAlike 7 = .ok (.iload_n 1, 1) := by decide +kernel
theorem dX6_isAlike_8 : decode cX6_isAlike 8 = .ok (.iload_n 2, 1) := by decide +kernel
theorem dX6_isAlike_9 : decode cX6_isAlike 9 = .ok (.iadd, 1) := by decide +kernel
theorem dX6_isAlike_10 : decode cX6_isAlike 10 = .ok (.if_icmp .ge 36, 3) := by decide +kernel
theorem dX6_isAlike_13 : decode cX6_isAlike 13 = .ok (.iload_n 3, 1) := by decide +kernel
theorem dX6_isAlike_14 : decode cX6_isAlike 14 = .ok (.ifCond .eq 24, 3) := by decide +kernel
theorem dX6_isAlike_17 : decode cX6_isAlike 17 = .ok (.aload_n 0, 1) := by decide +kernel
theorem dX6_isAlike_18 : decode cX6_isAlike 18 = .ok (.getfield 7, 3) := by decide +kernel
theorem dX6_isAlike_21 : decode cX6_isAlike 21 = .ok (.iload 4, 2) := by decide +kernel
theorem dX6_isAlike_23 : decode cX6_isAlike 23 = .ok (.iaload, 1) := by decide +kernel
theorem dX6_isAlike_24 : decode cX6_isAlike 24 = .ok (.aload_n 0, 1) := by decide +kernel
theorem dX6_isAlike_25 : decode cX6_isAlike 25 = .ok (.getfield 16, 3) := by decide +kernel
theorem dX6_isAlike_28 : decode cX6_isAlike 28 = .ok (.iload 4, 2) := by decide +kernel
theorem dX6_isAlike_30 : decode cX6_isAlike 30 = .ok (.iaload, 1) := by decide +kernel
theorem dX6_isAlike_31 : decode cX6_isAlike 31 = .ok (.if_icmp .ne 7, 3) := by decide +kernel
theorem dX6_isAlike_34 : decode cX6_isAlike 34 = .ok (.iconst 1, 1) := by decide +kernel
theorem dX6_isAlike_35 : decode cX6_isAlike 35 = .ok (.goto 4, 3) := by decide +kernel
theorem dX6_isAlike_38 : decode cX6_isAlike 38 = .ok (.iconst 0, 1) := by decide +kernel
theorem dX6_isAlike_39 : decode cX6_isAlike 39 = .ok (.istore_n 3, 1) := by decide +kernel
theorem dX6_isAlike_40 : decode cX6_isAlike 40 = .ok (.iinc 4 1, 3) := by decide +kernel
theorem dX6_isAlike_43 : decode cX6_isAlike 43 = .ok (.goto (-38), 3) := by decide +kernel
